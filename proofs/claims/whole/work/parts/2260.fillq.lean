/-! FILL, BLOCK and GIVES, both sides. -/
def mv_lst (what : Int) : Int := if what = 0 then 1 else 0
def mv_mst (what : Int) : Int := if what = 0 then 20 else if what = 1 then 15 else if what = 2 then 10 else if what = 3 then 9 else 1
/-- what may be told -/
def mv_alw (what v : Int) : Prop := (0 ≤ what ∧ what < 5) ∧ mv_lst what ≤ v ∧ v ≤ mv_mst what
def mv_alk (w k : Int) : Prop := (1 ≤ w ∧ w ≤ 20) ∧ 0 ≤ k ∧ k ≤ 15
theorem mv_bf_sp {P : Nat → Prop} {V : Nat → Int} : ∀ n, (mv_bf P V n).1 = -1 ∨ ∃ x, x < n ∧ (mv_bf P V n).1 = (x : Int) ∧ P x
  | 0 => Or.inl rfl
  | n + 1 => by
    by_cases c : P n ∧ ((mv_bf P V n).1 = -1 ∨ (mv_bf P V n).2 < V n)
    · rw [mv_bf_t c]
      exact Or.inr ⟨n, by omega, rfl, c.1⟩
    · rw [mv_bf_f c]
      rcases mv_bf_sp (P := P) (V := V) n with h | ⟨x, h1, h2, h3⟩
      · exact Or.inl h
      · exact Or.inr ⟨x, by omega, h2, h3⟩
theorem mv_bi_sp {a : mv_a} {n : Nat} {r : mv_a} {w k b g : Int} (h : mv_bi a n r w k b g ≠ -1) : ∃ x : Nat, (x : Int) < a 0 0 ∧ mv_bi a n r w k b g = x ∧ mv_pl a n r w k b g x := by
  unfold mv_bi at h ⊢
  rcases mv_bf_sp (P := fun x => mv_pl a n r w k b g x) (V := fun x => mv_vs a n r w k b g x) (a 0 0).toNat with h1 | ⟨x, h1, h2, h3⟩
  · exact absurd h1 h
  · exact ⟨x, by omega, h2, h3⟩
theorem mv_rok_lo {L : Int} {n : Nat} {r : mv_a} (h : mv_rok L n r) : ∀ i, i < n → (i : Int) ≤ r 0 i
  | 0, hi => (h.2 0 hi).1.1
  | i + 1, hi => by
    have h1 := mv_rok_lo h i (by omega)
    have h2 := h.2 i (by omega)
    have h3 := h2.2.2.2 (i + 1) (by omega) hi
    omega
theorem mv_rok_hi {L : Int} {n : Nat} {r : mv_a} (h : mv_rok L n r) : ∀ q i, i + q + 1 = n → r 0 i + q + 1 ≤ L
  | 0, i, hi => by
    have := (h.2 i (by omega)).1
    omega
  | q + 1, i, hi => by
    have h1 := mv_rok_hi h q (i + 1) (by omega)
    have h2 := h.2 i (by omega)
    have h3 := h2.2.2.2 (i + 1) (by omega) (by omega)
    omega
/-- who sits down leaves a good row, and one inch fewer -/
theorem mv_pl_ins {a : mv_a} {n : Nat} {r : mv_a} {w k b g x : Int} (hi : mv_iB a) (hr : mv_rok (a 0 0) n r) (ha : mv_aok w k b g) (hp : mv_pl a n r w k b g x) (p : Int) : (n : Int) < a 0 0 ∧ mv_rok (a 0 0) (n + 1) (mv_ins n r (mv_e5 x (x + w + b) k g p)) := by
  have b1 := hi.1
  obtain ⟨a1, a2, a3, a4⟩ := ha
  obtain ⟨⟨p1, p2, -⟩, p4, p5⟩ := hp
  have sp := mv_lo_sp (f := r 0) (x := x) n 0
  have hgp : mv_lo (r 0) x n 0 = mv_gp r n x := rfl
  rw [hgp] at sp
  generalize mv_gp r n x = gp at p4 p5 sp hgp
  obtain ⟨-, s2, s3, s4⟩ := sp
  have low : ∀ i, i < gp → r 1 i ≤ x := fun i h => by
    have q := hr.2 (gp - 1) (by omega)
    have ab := mv_ap_b (k1 := k) (g1 := g) (k2 := r 2 (gp - 1)) (g2 := r 3 (gp - 1)) a2 q.2.1
    unfold mv_lw at p4
    rw [if_pos (by omega)] at p4
    by_cases e : i = gp - 1
    · subst e; omega
    · have := (hr.2 i (by omega)).2.2.2 (gp - 1) (by omega) (by omega)
      omega
  have high : ∀ i, gp ≤ i → i < n → x + w + b ≤ r 0 i := fun i h1 h2 => by
    have q := hr.2 gp (by omega)
    have ab := mv_ap_b (k1 := k) (g1 := g) (k2 := r 2 gp) (g2 := r 3 gp) a2 q.2.1
    unfold mv_hg at p5
    rw [if_pos (by omega)] at p5
    by_cases e : i = gp
    · subst e; omega
    · have := q.2.2.2 i (by omega) h2
      omega
  have hx : (gp : Int) ≤ x := by
    by_cases e : gp = 0
    · omega
    · have := low (gp - 1) (by omega)
      have := mv_rok_lo hr (gp - 1) (by omega)
      have := (hr.2 (gp - 1) (by omega)).1
      omega
  have hL : x + w + b + ((n - gp : Nat) : Int) ≤ a 0 0 := by
    by_cases e : gp < n
    · have := high gp (Nat.le_refl _) e
      have := mv_rok_hi hr (n - gp - 1) gp (by omega)
      omega
    · unfold mv_hg at p5
      rw [if_neg e] at p5
      omega
  have hlt : (n : Int) < a 0 0 := by omega
  refine ⟨hlt, mv_rok_ins hr (by omega) ⟨⟨p1, ?_, ?_⟩, a2, a4⟩ (fun i h => ?_)⟩
  · show x < x + w + b
    omega
  · show x + w + b ≤ a 0 0
    omega
  · show r 1 i ≤ x ∨ x + w + b ≤ r 0 i
    rcases Nat.lt_or_ge i gp with h1 | h1
    · exact Or.inl (low i h1)
    · exact Or.inr (high i h1 h)
/-- one after another by the law -/
noncomputable def mv_fb (a : mv_a) (w k : Int) : Nat → Nat → mv_a → Int
  | 0, _, _ => 0
  | d + 1, n, r => if mv_bi a n r w k 0 0 = -1 then 0 else 1 + mv_fb a w k d (n + 1) (mv_ins n r (mv_e5 (mv_bi a n r w k 0 0) (mv_bi a n r w k 0 0 + w + 0) k 0 (-1)))
noncomputable def mv_fil (a : mv_a) (w k what : Int) : Int := @ite _ (mv_alk w k ∧ 0 ≤ what ∧ what ≤ 3) (Classical.propDecidable _) (if what = 3 then mv_fb a w k 60 (mv_all a).1 (mv_all a).2 else mv_tal what w.toNat k.toNat a (mv_all a).1 (mv_all a).2 ((mv_all a).1 + 1) 0) (-1)
section FQ
variable {G : mv_G} {a : mv_a}
theorem fx_allowed (G : mv_G) (what v : Int) : ff_X11_allowed [.inl what, .inl v] G = some (mv_b (mv_alw what v), G) := by
  refine mv_Kp.eq (mv_Kp.of (mv_JP.of (rg_X11_allowed_0 what v G) (mv_J.i (fun h1 => mv_J.r0 (Or.inl rfl) ⟨(mv_b0 (fun h => by have := h.1; omega)).symm, rfl⟩) (fun h1 => mv_J.i (fun h2 => mv_J.ck (by omega) ?_) (fun h2 => mv_J.r0 (Or.inl rfl) ⟨(mv_b0 (fun h => by have := h.1; omega)).symm, rfl⟩)))))
  have e0 : mv_rc 1000 0 what.toNat = mv_lst what ∧ mv_rc 1001 0 what.toNat = mv_mst what := by
    have h : what = 0 ∨ what = 1 ∨ what = 2 ∨ what = 3 ∨ what = 4 := by omega
    rcases h with rfl | rfl | rfl | rfl | rfl <;> exact ⟨rfl, rfl⟩
  rw [e0.1, e0.2]
  exact mv_J.i (fun h3 => mv_J.r0 (Or.inl rfl) ⟨(mv_b0 (fun h => by have := h.2; omega)).symm, rfl⟩) (fun h3 => mv_J.ck (by omega) (mv_J.i (fun h4 => mv_J.r0 (Or.inl rfl) ⟨(mv_b0 (fun h => by have := h.2; omega)).symm, rfl⟩) (fun h4 => mv_J.r0 (Or.inr rfl) ⟨(mv_b1 ⟨⟨by omega, h2⟩, by omega, by omega⟩).symm, rfl⟩)))
theorem mv_alw_0 (w : Int) : mv_alw 0 w ↔ 1 ≤ w ∧ w ≤ 20 := ⟨fun h => h.2, fun h => ⟨by omega, h⟩⟩
theorem mv_alw_1 (k : Int) : mv_alw 1 k ↔ 0 ≤ k ∧ k ≤ 15 := ⟨fun h => h.2, fun h => ⟨by omega, h⟩⟩
theorem gx_areAlike (G : mv_G) (w k : Int) : ff_X12_areAlike [.inr (100, 0), .inl w, .inl k] G = some (mv_b (mv_alk w k), G) :=
  mv_Kp.eq (mv_Kp.of (mv_JP.of (rg_X12_areAlike_0 w k G) (mv_J.ce (gx_isIn _ _ _ _) (mv_J.bt (fun h1 => mv_J.r0 (Or.inl rfl) ⟨(mv_b0 (fun h => h1 h.1)).symm, rfl⟩) (fun h1 => mv_J.ce (gx_isIn _ _ _ _) (mv_J.bt (fun h2 => mv_J.r0 (Or.inl rfl) ⟨(mv_b0 (fun h => h2 h.2)).symm, rfl⟩) (fun h2 => mv_J.r0 (Or.inr rfl) ⟨(mv_b1 ⟨h1, h2⟩).symm, rfl⟩)))))))
theorem fx_ofAlike (G : mv_G) (w k : Nat) (hw : 1 ≤ w) : mv_Kp (ff_X4_ofAlike [.inr (81, 0), .inl w, .inl k] G) (fun _ G' => G' 81 0 6 = w ∧ G' 81 0 7 = k ∧ mv_ch [] [(81, 6), (81, 7)] G G') := by
  refine mv_Kp.of (mv_JP.of (rg_X4_ofAlike_0 w k G) (mv_J.ce (mv_max_eq _ _ _) (mv_J.ce (mv_max_eq _ _ _) (mv_J.ret ⟨?_, ?_, (mv_ch.rf.up rfl).up rfl⟩))))
  · rw [mv_up_j (by decide), mv_ups_eq, if_neg (by omega)]
  · rw [mv_ups_eq, if_neg (by omega)]
set_option maxHeartbeats 1000000 in
theorem fx_fillByLaw {n : Nat} {r : mv_a} (hB : mv_cB G a) (hi : mv_iB a) (hL : mv_cL G 8 a 17) (hLi : mv_iL mv_qs a 17) (h : mv_cR G n r) (hr : mv_rok (a 0 0) n r) (w k : Int) (hwk : mv_alk w k) : mv_Kp (ff_X10_fillByLaw [.inr (72, 0), .inl w, .inl k] G) (fun v G' => v = mv_fb a w k 60 n r ∧ mv_ch [13, 67, 68, 69, 70, 71, 73] [(66, 0), (66, 6), (66, 7), (66, 8), (66, 9)] G G') := by
  have b1 := hi.1
  have ha : mv_aok w k 0 0 := ⟨hwk.1, hwk.2, by omega, by omega⟩
  obtain ⟨P, hP⟩ : ∃ P : Int → mv_G → Prop, P = (fun v G' => v = mv_fb a w k 60 n r ∧ mv_ch [13, 67, 68, 69, 70, 71, 73] [(66, 0), (66, 6), (66, 7), (66, 8), (66, 9)] G G') := ⟨_, rfl⟩
  rw [← hP]
  have key : ∀ (d : Nat) (c : Nat) (m : Nat) (s : mv_a) (G1 : mv_G), d + c = 60 → mv_ch [13, 67, 68, 69, 70, 71, 73] [(66, 0), (66, 6), (66, 7), (66, 8), (66, 9)] G G1 → mv_cR G1 m s → mv_cA G1 w k 0 0 → mv_rok (a 0 0) m s → (c : Int) + mv_fb a w k d m s = mv_fb a w k 60 n r → mv_JP mm_X10_fillByLaw P 14 [some (.inr (72, 0)), none, none, some (.inl (c : Int)), some (.inl (c : Int)), none] G1 := by
    intro d
    induction d with
    | zero =>
      intro c m s G1 hd hc hR hA hr1 he
      refine mv_JP.of (rg_X10_fillByLaw_14 _ _ G1) (mv_J.f (by omega) (mv_J.ret ?_))
      rw [hP]
      exact ⟨by rw [← he]; show _ = (c : Int) + 0; omega, hc⟩
    | succ d ih =>
      intro c m s G1 hd hc hR hA hr1 he
      have hB1 := hB.ch hc (by decide)
      have hL1 := hL.ch hc (by decide)
      have ef : mv_fb a w k (d + 1) m s = if mv_bi a m s w k 0 0 = -1 then 0 else 1 + mv_fb a w k d (m + 1) (mv_ins m s (mv_e5 (mv_bi a m s w k 0 0) (mv_bi a m s w k 0 0 + w + 0) k 0 (-1))) := rfl
      rw [ef] at he
      refine mv_JP.of (rg_X10_fillByLaw_14 _ _ G1) (mv_J.t (by omega) (mv_J.cn (fx_best hB1 hi hR hA hr1 ha hL1 hLi) (fun v G2 h2 => ?_)))
      obtain ⟨h2, hc2⟩ := h2
      subst h2
      have hc12 := hc.tr (hc2.mono (S2 := [13, 67, 68, 69, 70, 71, 73]) (T2 := [(66, 0), (66, 6), (66, 7), (66, 8), (66, 9)]) rfl rfl)
      refine mv_J.i (fun h3 => mv_J.ret ?_) (fun h3 => ?_)
      · rw [hP]
        rw [if_pos h3] at he
        exact ⟨by omega, hc12⟩
      · rw [if_neg h3] at he
        obtain ⟨x, x1, x2, x3⟩ := mv_bi_sp h3
        rw [x2] at he ⊢
        obtain ⟨i1, i2⟩ := mv_pl_ins hi hr1 ha x3 (-1)
        have hR2 := hR.ch hc2 (by decide) rfl
        have hA2 := hA.ch hc2 rfl
        have hs := fx_seatAsker (x : Int) (by omega) hR2 (by rw [hA2.1, hA2.2.2.1]; have := hwk.1; omega)
        rw [hA2.1, hA2.2.1, hA2.2.2.1, hA2.2.2.2] at hs
        refine mv_J.cn hs (fun v G3 h4 => mv_J.cut ?_)
        rw [mv_ws (by omega)]
        have := ih (c + 1) (m + 1) _ G3 (by omega) (hc12.tr (h4.2.mono rfl rfl)) h4.1 (hA2.ch h4.2 rfl) i2 (by omega)
        exact this
  have hA0 : ff_X9_askForAlike [.inr (66, 0), .inl w, .inl k] G = some (0, mv_up (mv_up (mv_up (mv_up G 66 0 6 w) 66 0 7 k) 66 0 8 0) 66 0 9 0) := mv_Kp.eq (mv_Kp.of (mv_JP.of (rg_X9_askForAlike_0 w k G) (mv_J.ret ⟨rfl, rfl⟩)))
  refine mv_Kp.of (mv_JP.of (rg_X10_fillByLaw_0 w k G) (mv_J.ce hA0 (mv_J.cut ?_)))
  have c0 : mv_ch [] [(66, 6), (66, 7), (66, 8), (66, 9)] G (mv_up (mv_up (mv_up (mv_up G 66 0 6 w) 66 0 7 k) 66 0 8 0) 66 0 9 0) := (((mv_ch.rf.up rfl).up rfl).up rfl).up rfl
  have := key 60 0 n r _ (by omega) (c0.mono rfl rfl) (h.ch c0 (by decide) rfl) ⟨by rw [mv_up_j (by decide), mv_up_j (by decide), mv_up_j (by decide), mv_ups_eq], by rw [mv_up_j (by decide), mv_up_j (by decide), mv_ups_eq], by rw [mv_up_j (by decide), mv_ups_eq], mv_ups_eq⟩ hr (by omega)
  exact this
set_option maxHeartbeats 1000000 in
theorem gx_fillByLaw {n : Nat} {r : mv_a} (hB : mv_mB G a) (hi : mv_iB a) (hL : mv_mL G 0 a 17) (hLi : mv_iL mv_qs a 17) (h : mv_mR G n r) (hr : mv_rok (a 0 0) n r) (w k : Int) (hwk : mv_alk w k) : mv_Kp (ff_X12_fillByLaw [.inr (100, 0), .inl w, .inl k] G) (fun v G' => v = mv_fb a w k 60 n r ∧ mv_ch [121, 122, 123, 124, 125, 126, 127] [(100, 46), (100, 47), (100, 48), (100, 49), (100, 50)] G G') := by
  have b1 := hi.1
  have ha : mv_aok w k 0 0 := ⟨hwk.1, hwk.2, by omega, by omega⟩
  obtain ⟨P, hP⟩ : ∃ P : Int → mv_G → Prop, P = (fun v G' => v = mv_fb a w k 60 n r ∧ mv_ch [121, 122, 123, 124, 125, 126, 127] [(100, 46), (100, 47), (100, 48), (100, 49), (100, 50)] G G') := ⟨_, rfl⟩
  rw [← hP]
  have key : ∀ (d : Nat) (c : Nat) (m : Nat) (s : mv_a) (G1 : mv_G), d + c = 60 → a 0 0 ≤ (m : Int) + d → mv_ch [121, 122, 123, 124, 125, 126, 127] [(100, 46), (100, 47), (100, 48), (100, 49), (100, 50)] G G1 → mv_mR G1 m s → mv_mA G1 w k 0 0 → mv_rok (a 0 0) m s → (c : Int) + mv_fb a w k d m s = mv_fb a w k 60 n r → mv_JP mm_X12_fillByLaw P 28 [some (.inr (100, 0)), some (.inl w), some (.inl k), some (.inl (c : Int)), some (.inl (mv_bi a m s w k 0 0))] G1 := by
    intro d
    induction d with
    | zero =>
      intro c m s G1 hd hm hc hR hA hr1 he
      have hz : mv_bi a m s w k 0 0 = -1 := Classical.byContradiction fun h3 => by
        obtain ⟨x, x1, x2, x3⟩ := mv_bi_sp h3
        obtain ⟨i1, i2⟩ := mv_pl_ins hi hr1 ha x3 (-1)
        omega
      refine mv_JP.of (rg_X12_fillByLaw_28 _ _ _ _ G1) (mv_J.t hz (mv_J.ret ?_))
      rw [hP]
      exact ⟨by rw [← he]; show _ = (c : Int) + 0; omega, hc⟩
    | succ d ih =>
      intro c m s G1 hd hm hc hR hA hr1 he
      have ef : mv_fb a w k (d + 1) m s = if mv_bi a m s w k 0 0 = -1 then 0 else 1 + mv_fb a w k d (m + 1) (mv_ins m s (mv_e5 (mv_bi a m s w k 0 0) (mv_bi a m s w k 0 0 + w + 0) k 0 (-1))) := rfl
      rw [ef] at he
      refine mv_JP.of (rg_X12_fillByLaw_28 _ _ _ _ G1) (mv_J.i (fun h3 => mv_J.ret ?_) (fun h3 => ?_))
      · rw [hP]
        rw [if_pos h3] at he
        exact ⟨by omega, hc⟩
      · rw [if_neg h3] at he
        obtain ⟨x, x1, x2, x3⟩ := mv_bi_sp h3
        rw [x2] at he ⊢
        have hw1 := hwk.1
        obtain ⟨i1, i2⟩ := mv_pl_ins hi hr1 ha x3 (-1)
        rw [mv_ws (x := (x : Int) + w) (by omega), mv_ws (x := (c : Int) + 1) (by omega)]
        refine mv_J.cn (gx_seats (-1) (x : Int) ((x : Int) + w) k 0 (by omega) hR) (fun v G2 h4 => ?_)
        obtain ⟨hR2, hc2⟩ := h4
        rw [Int.add_zero] at i2 he
        have hc12 := hc.tr (hc2.mono (S2 := [121, 122, 123, 124, 125, 126, 127]) (T2 := [(100, 46), (100, 47), (100, 48), (100, 49), (100, 50)]) rfl rfl)
        have hA2 := hA.ch hc2 rfl
        have hB2 := hB.ch hc12 (by decide) rfl rfl
        have hL2 := hL.ch hc12 (by decide)
        refine mv_J.cn (gx_bestInch hB2 hi hR2 hA2 i2 ha hL2 hLi) (fun v G3 h5 => mv_J.cut ?_)
        obtain ⟨h5, hc3⟩ := h5
        subst h5
        have := ih (c + 1) (m + 1) _ G3 (by omega) (by omega) (hc12.tr (hc3.mono rfl rfl)) (hR2.ch hc3 (by decide) rfl) (hA2.ch hc3 rfl) i2 (by omega)
        exact this
  have c0 : mv_ch [] [(100, 47), (100, 48), (100, 49), (100, 50)] G (mv_up (mv_up (mv_up (mv_up G 100 0 47 w) 100 0 48 k) 100 0 49 0) 100 0 50 0) := (((mv_ch.rf.up rfl).up rfl).up rfl).up rfl
  have hA0 : mv_mA (mv_up (mv_up (mv_up (mv_up G 100 0 47 w) 100 0 48 k) 100 0 49 0) 100 0 50 0) w k 0 0 := ⟨by rw [mv_up_j (by decide), mv_up_j (by decide), mv_up_j (by decide), mv_ups_eq], by rw [mv_up_j (by decide), mv_up_j (by decide), mv_ups_eq], by rw [mv_up_j (by decide), mv_ups_eq], mv_ups_eq⟩
  refine mv_Kp.of (mv_JP.of (rg_X12_fillByLaw_0 w k G) ?_)
  generalize mv_up (mv_up (mv_up (mv_up G 100 0 47 w) 100 0 48 k) 100 0 49 0) 100 0 50 0 = G0 at c0 hA0
  have hR0 := h.ch c0 (by decide) rfl
  refine mv_J.cn (gx_bestInch (hB.ch c0 (by decide) rfl rfl) hi hR0 hA0 hr ha (hL.ch c0 (by decide)) hLi) (fun v G1 h5 => mv_J.cut ?_)
  obtain ⟨h5, hc3⟩ := h5
  subst h5
  have := key 60 0 n r G1 (by omega) (by omega) ((c0.mono rfl rfl).tr (hc3.mono rfl rfl)) (hR0.ch hc3 (by decide) rfl) (hA0.ch hc3 rfl) hr (by omega)
  exact this
set_option maxHeartbeats 1000000 in
theorem fx_fill (hB : mv_cB G a) (hi : mv_iB a) (hL : mv_cL G 8 a 17) (hLi : mv_iL mv_qs a 17) (w k what : Int) : mv_Kp (ff_X11_fill [.inr (0, 0), .inl w, .inl k, .inl what] G) (fun v G' => v = mv_fil a w k what ∧ mv_ch [13, 67, 68, 69, 70, 71, 73, 83, 84, 85] [(66, 0), (66, 6), (66, 7), (66, 8), (66, 9), (81, 6), (81, 7)] G G') := by
  have b1 := hi.1
  have dead : ∀ G1, ¬ (mv_alk w k ∧ 0 ≤ what ∧ what ≤ 3) → mv_ch [13, 67, 68, 69, 70, 71, 73, 83, 84, 85] [(66, 0), (66, 6), (66, 7), (66, 8), (66, 9), (81, 6), (81, 7)] G G1 → mv_J mm_X11_fill (fun v G' => v = mv_fil a w k what ∧ mv_ch [13, 67, 68, 69, 70, 71, 73, 83, 84, 85] [(66, 0), (66, 6), (66, 7), (66, 8), (66, 9), (81, 6), (81, 7)] G G') (some (.inl (-1, G1))) := fun G1 h1 h2 => mv_J.ret ⟨(if_neg h1).symm, h2⟩
  refine mv_Kp.of (mv_JP.of (rg_X11_fill_0 w k what G) (mv_J.ce (fx_allowed _ _ _) (mv_J.bt (fun h1 => dead _ (fun h => h1 ((mv_alw_0 w).mpr h.1.1)) mv_ch.rf) (fun h1 => mv_J.ce (fx_allowed _ _ _) (mv_J.bt (fun h2 => dead _ (fun h => h2 ((mv_alw_1 k).mpr h.1.2)) mv_ch.rf) (fun h2 => mv_J.i (fun h3 => dead _ (fun h => by omega) mv_ch.rf) (fun h3 => mv_J.i (fun h4 => dead _ (fun h => by omega) mv_ch.rf) (fun h4 => mv_J.cn (fx_gather hB hi 1023) (fun v G1 h5 => ?_)))))))))
  have hwk : mv_alk w k := ⟨(mv_alw_0 w).mp h1, (mv_alw_1 k).mp h2⟩
  have er : mv_fil a w k what = if what = 3 then mv_fb a w k 60 (mv_all a).1 (mv_all a).2 else mv_tal what w.toNat k.toNat a (mv_all a).1 (mv_all a).2 ((mv_all a).1 + 1) 0 := if_pos ⟨hwk, by omega, by omega⟩
  have hB1 := hB.ch h5.2 (by decide)
  have hL1 := hL.ch h5.2 (by decide)
  have hR1 : mv_cR G1 (mv_all a).1 (mv_all a).2 := h5.1
  have c1 := h5.2.mono (S2 := [13, 67, 68, 69, 70, 71, 73, 83, 84, 85]) (T2 := [(66, 0), (66, 6), (66, 7), (66, 8), (66, 9), (81, 6), (81, 7)]) rfl rfl
  refine mv_J.i (fun h6 => ?_) (fun h6 => ?_)
  · rw [if_pos h6] at er
    exact mv_J.cn (fx_fillByLaw hB1 hi hL1 hLi hR1 (mv_all_ok hi) w k hwk) (fun v G2 h7 => mv_J.ret ⟨by rw [er, h7.1], c1.tr (h7.2.mono rfl rfl)⟩)
  · rw [if_neg h6] at er
    obtain ⟨⟨w1, w2⟩, k1, k2⟩ := id hwk
    obtain ⟨x, rfl⟩ : ∃ x : Nat, w = x := ⟨w.toNat, by omega⟩
    obtain ⟨y, rfl⟩ : ∃ y : Nat, k = y := ⟨k.toNat, by omega⟩
    rw [Int.toNat_natCast, Int.toNat_natCast] at er
    refine mv_J.cn (fx_ofAlike G1 x y (by omega)) (fun v G2 h7 => ?_)
    obtain ⟨e6, e7, c2⟩ := h7
    exact mv_J.cn (fx_total (hB1.ch c2 (by decide)) hi (hR1.ch c2 (by decide) rfl) (mv_all_ok hi) e6 e7 (by omega) (by omega) what) (fun v G3 h8 => mv_J.ret ⟨by rw [er, h8.1], (c1.tr (c2.mono rfl rfl)).tr (h8.2.mono rfl rfl)⟩)
set_option maxHeartbeats 1000000 in
theorem gx_fill (hB : mv_mB G a) (hi : mv_iB a) (hL : mv_mL G 0 a 17) (hLi : mv_iL mv_qs a 17) (w k what : Int) : mv_Kp (ff_X12_fill [.inr (100, 0), .inl w, .inl k, .inl what] G) (fun v G' => v = mv_fil a w k what ∧ mv_ch [121, 122, 123, 124, 125, 126, 127, 132, 133, 134] [(100, 0), (100, 46), (100, 47), (100, 48), (100, 49), (100, 50), (100, 61), (100, 62), (100, 63)] G G') := by
  have b1 := hi.1
  have c0 : mv_ch [121, 122, 123, 124, 125, 126, 127, 132, 133, 134] [(100, 0), (100, 46), (100, 47), (100, 48), (100, 49), (100, 50), (100, 61), (100, 62), (100, 63)] G (mv_up G 100 0 0 0) := mv_ch.rf.up rfl
  refine mv_Kp.of (mv_JP.of (rg_X12_fill_0 w k what G) ?_)
  generalize mv_up G 100 0 0 0 = G0 at c0
  have dead : ∀ G1, ¬ (mv_alk w k ∧ 0 ≤ what ∧ what ≤ 3) → mv_ch [121, 122, 123, 124, 125, 126, 127, 132, 133, 134] [(100, 0), (100, 46), (100, 47), (100, 48), (100, 49), (100, 50), (100, 61), (100, 62), (100, 63)] G G1 → mv_J mm_X12_fill (fun v G' => v = mv_fil a w k what ∧ mv_ch [121, 122, 123, 124, 125, 126, 127, 132, 133, 134] [(100, 0), (100, 46), (100, 47), (100, 48), (100, 49), (100, 50), (100, 61), (100, 62), (100, 63)] G G') (some (.inl (-1, G1))) := fun G1 h1 h2 => mv_J.ret ⟨(if_neg h1).symm, h2⟩
  have hB0 := hB.ch c0 (by decide) rfl rfl
  refine mv_J.ce (gx_areAlike _ _ _) (mv_J.bt (fun h1 => dead _ (fun h => h1 h.1) c0) (fun hwk => mv_J.ce (gx_isIn _ _ _ _) (mv_J.bt (fun h2 => dead _ (fun h => h2 h.2) c0) (fun h2 => mv_J.ce (gx_everyone hB0) (mv_J.cn (gx_lists hB0 hi _) (fun v G1 h5 => ?_))))))
  rw [mv_all_ev hi] at h5
  have er : mv_fil a w k what = if what = 3 then mv_fb a w k 60 (mv_all a).1 (mv_all a).2 else mv_tal what w.toNat k.toNat a (mv_all a).1 (mv_all a).2 ((mv_all a).1 + 1) 0 := if_pos ⟨hwk, h2⟩
  have c1 : mv_ch [121, 122, 123, 124, 125, 126, 127, 132, 133, 134] [(100, 0), (100, 46), (100, 47), (100, 48), (100, 49), (100, 50), (100, 61), (100, 62), (100, 63)] G G1 := c0.tr (h5.2.mono rfl rfl)
  have hB1 := hB.ch c1 (by decide) rfl rfl
  have hL1 := hL.ch c1 (by decide)
  have hR1 := h5.1
  refine mv_J.i (fun h6 => ?_) (fun h6 => ?_)
  · rw [if_pos h6] at er
    exact mv_J.cn (gx_fillByLaw hB1 hi hL1 hLi hR1 (mv_all_ok hi) w k hwk) (fun v G2 h7 => mv_J.ret ⟨by rw [er, h7.1], c1.tr (h7.2.mono rfl rfl)⟩)
  · rw [if_neg h6] at er
    obtain ⟨⟨w1, w2⟩, k1, k2⟩ := id hwk
    obtain ⟨x, rfl⟩ : ∃ x : Nat, w = x := ⟨w.toNat, by omega⟩
    obtain ⟨y, rfl⟩ : ∃ y : Nat, k = y := ⟨k.toNat, by omega⟩
    rw [Int.toNat_natCast, Int.toNat_natCast] at er
    refine mv_J.cn (gx_findsStretches hB1 hi (by omega) (by omega)) (fun v G2 h7 => ?_)
    obtain ⟨hS, c2⟩ := h7
    have hB2 := hB1.ch c2 (by decide) rfl rfl
    refine mv_J.cn (gx_fills hB2 hi (hR1.ch c2 (by decide) rfl) (mv_all_ok hi) (by omega) (by omega) hS) (fun v G3 h8 => ?_)
    obtain ⟨⟨e0, e1, e2⟩, c3⟩ := h8
    have c4 : mv_ch [121, 122, 123, 124, 125, 126, 127, 132, 133, 134] [(100, 0), (100, 46), (100, 47), (100, 48), (100, 49), (100, 50), (100, 61), (100, 62), (100, 63)] G G3 := (c1.tr (c2.mono rfl rfl)).tr (c3.mono rfl rfl)
    rw [e0, e1, e2]
    refine mv_J.i (fun h9 => mv_J.ret ⟨?_, c4⟩) (fun h9 => mv_J.i (fun h10 => mv_J.ret ⟨?_, c4⟩) (fun h10 => mv_J.ret ⟨?_, c4⟩))
    · rw [er, h9]
    · rw [er, h10]
    · rw [er, show what = 2 by omega]
end FQ
