/-! Good rows, askers, TELLS. -/
theorem mv_rok_ins {L : Int} {n : Nat} {r : mv_a} {e : Nat → Int} (h : mv_rok L n r) (hn : n + 1 ≤ 60) (he : (0 ≤ e 0 ∧ e 0 < e 1 ∧ e 1 ≤ L) ∧ (0 ≤ e 2 ∧ e 2 ≤ 15) ∧ (0 ≤ e 3 ∧ e 3 ≤ 9)) (hd : ∀ i, i < n → r 1 i ≤ e 0 ∨ e 1 ≤ r 0 i) : mv_rok L (n + 1) (mv_ins n r e) := by
  have hle := mv_pos_le (f := r 0) (x := e 0) n
  have hlt := mv_pos_lt (f := r 0) (x := e 0) n
  have hge := mv_pos_ge (f := r 0) (x := e 0) n
  generalize hm : mv_pos (r 0) (e 0) n = m at hle hlt hge
  have lo : ∀ i, i < m → r 1 i ≤ e 0 := fun i hi => by
    rcases hge with h0 | h0
    · omega
    · rcases hd i (by omega) with h1 | h1
      · exact h1
      · have q := h.2 i (by omega)
        by_cases e1 : i = m - 1
        · subst e1; omega
        · have := q.2.2.2 (m - 1) (by omega) (by omega)
          omega
  have up : ∀ i, m ≤ i → i < n → e 1 ≤ r 0 i := fun i h1 h2 => by
    have := hlt i h1 h2
    rcases hd i h2 with h3 | h3
    · have := (h.2 i h2).1; omega
    · exact h3
  have ex : ∀ t i, mv_ins n r e t i = if i < m then r t i else if i = m then e t else r t (i - 1) := fun t i => by unfold mv_ins; rw [hm]
  refine ⟨hn, fun i hi => ?_⟩
  rw [ex, ex, ex, ex]
  by_cases h1 : i < m
  · rw [if_pos h1, if_pos h1, if_pos h1, if_pos h1]
    obtain ⟨q1, q2, q3, q4⟩ := h.2 i (by omega)
    refine ⟨q1, q2, q3, fun j hj hj2 => ?_⟩
    rw [ex]
    by_cases h2 : j < m
    · rw [if_pos h2]; exact q4 j hj (by omega)
    · rw [if_neg h2]
      by_cases h3 : j = m
      · rw [if_pos h3]; exact lo i h1
      · rw [if_neg h3]; exact q4 (j - 1) (by omega) (by omega)
  · by_cases h2 : i = m
    · rw [if_neg h1, if_neg h1, if_neg h1, if_neg h1, if_pos h2, if_pos h2, if_pos h2, if_pos h2]
      refine ⟨he.1, he.2.1, he.2.2, fun j hj hj2 => ?_⟩
      rw [ex, if_neg (by omega), if_neg (by omega)]
      exact up (j - 1) (by omega) (by omega)
    · rw [if_neg h1, if_neg h1, if_neg h1, if_neg h1, if_neg h2, if_neg h2, if_neg h2, if_neg h2]
      obtain ⟨q1, q2, q3, q4⟩ := h.2 (i - 1) (by omega)
      refine ⟨q1, q2, q3, fun j hj hj2 => ?_⟩
      rw [ex, if_neg (by omega), if_neg (by omega)]
      exact q4 (j - 1) (by omega) (by omega)
theorem mv_ins_mem {n : Nat} {r : mv_a} {e : Nat → Int} {Q : (Nat → Int) → Prop} (h : ∀ i, i < n → Q (fun t => r t i)) (he : Q e) : ∀ i, i < n + 1 → Q (fun t => mv_ins n r e t i) := by
  intro i hi
  have hle := mv_pos_le (f := r 0) (x := e 0) n
  unfold mv_ins
  generalize mv_pos (r 0) (e 0) n = m at hle
  by_cases h1 : i < m
  · simp only [if_pos h1]; exact h i (by omega)
  · by_cases h2 : i = m
    · simp only [if_neg h1, if_pos h2]; exact he
    · simp only [if_neg h1, if_neg h2]; exact h (i - 1) (by omega)
/-- the entries are persons that sit -/
theorem mv_gat_mem {a : mv_a} {s : Int} : ∀ p i, i < (mv_gat a s p).1 → ∃ q : Nat, q < p ∧ a 3 q ≠ -1 ∧ mv_and (mv_shr s q) 1 = 1 ∧ (fun t => (mv_gat a s p).2 t i) = mv_en a q
  | 0, i, h => by cases h
  | p + 1, i, h => by
    unfold mv_gat at h ⊢
    by_cases c : mv_and (mv_shr s p) 1 = 1 ∧ a 3 p ≠ -1
    · rw [if_pos c] at h ⊢
      exact mv_ins_mem (Q := fun f => ∃ q : Nat, q < p + 1 ∧ a 3 q ≠ -1 ∧ mv_and (mv_shr s q) 1 = 1 ∧ f = mv_en a q) (fun i hi => by
        obtain ⟨q, h1, h2, h3, h4⟩ := mv_gat_mem p i hi
        exact ⟨q, by omega, h2, h3, h4⟩) ⟨p, by omega, c.2, c.1, rfl⟩ i h
    · rw [if_neg c] at h ⊢
      obtain ⟨q, h1, h2, h3, h4⟩ := mv_gat_mem p i h
      exact ⟨q, by omega, h2, h3, h4⟩
theorem mv_gat_ok {a : mv_a} {s : Int} (hi : mv_iB a) : ∀ p : Nat, (p : Int) ≤ a 0 1 → mv_rok (a 0 0) (mv_gat a s p).1 (mv_gat a s p).2
  | 0, _ => ⟨Nat.zero_le _, fun i h => by cases h⟩
  | p + 1, hp => by
    have ih := mv_gat_ok (s := s) hi p (by omega)
    have b1 := hi.1
    unfold mv_gat
    split
    · next c =>
      have t := hi.2.2.2.2.1 p (by omega)
      have s1 := hi.2.2.2.1 p (by omega)
      have s2 := hi.2.2.2.2.2.1 p (by omega) c.2
      have hle := mv_gat_le (a := a) (s := s) p
      have ek : mv_tk a p = a 4 p + a 6 p := rfl
      refine mv_rok_ins ih (by omega) ⟨?_, t.2.1, t.2.2.2.1⟩ (fun i hi2 => ?_)
      · show 0 ≤ a 3 p ∧ a 3 p < a 3 p + mv_tk a p ∧ a 3 p + mv_tk a p ≤ a 0 0
        omega
      · obtain ⟨q, h1, h2, h3, h4⟩ := mv_gat_mem p i hi2
        have e0 : (mv_gat a s p).2 0 i = a 3 q := congrFun h4 0
        have e1 : (mv_gat a s p).2 1 i = a 3 q + mv_tk a q := congrFun h4 1
        have ekq : mv_tk a q = a 4 q + a 6 q := rfl
        rw [e0, e1]
        have := hi.2.2.2.2.2.2 q p (by omega) (by omega) (by omega) h2 c.2
        show a 3 q + mv_tk a q ≤ a 3 p ∨ a 3 p + mv_tk a p ≤ a 3 q
        omega
    · exact ih
theorem mv_bits : ∀ n : Nat, n ≤ 10 → ∀ p : Nat, p < n → mv_and (mv_shr (mv_w (mv_shl 1 n - 1)) p) 1 = 1 ∧ mv_and (mv_shr 1023 p) 1 = 1 := by decide +kernel
theorem mv_gat_cg {a : mv_a} {s s2 : Int} : ∀ p : Nat, (∀ q : Nat, q < p → (mv_and (mv_shr s q) 1 = 1 ↔ mv_and (mv_shr s2 q) 1 = 1)) → mv_gat a s p = mv_gat a s2 p
  | 0, _ => rfl
  | p + 1, h => by
    have ih := mv_gat_cg (a := a) p (fun q hq => h q (by omega))
    unfold mv_gat
    by_cases c : mv_and (mv_shr s2 p) 1 = 1 ∧ a 3 p ≠ -1
    · rw [if_pos c, if_pos ⟨(h p (by omega)).mpr c.1, c.2⟩, ih]
    · rw [if_neg c, if_neg (fun c2 => c ⟨(h p (by omega)).mp c2.1, c2.2⟩), ih]
/-- all who sit -/
def mv_all (a : mv_a) : Nat × mv_a := mv_gat a 1023 (a 0 1).toNat
theorem mv_all_ev {a : mv_a} (hi : mv_iB a) : mv_gat a (mv_w (mv_shl 1 (a 0 1) - 1)) (a 0 1).toNat = mv_all a := by
  have b1 := hi.1
  refine mv_gat_cg _ (fun q hq => ?_)
  have h := mv_bits (a 0 1).toNat (by omega) q hq
  rw [show (((a 0 1).toNat : Nat) : Int) = a 0 1 by omega] at h
  exact ⟨fun _ => h.2, fun _ => h.1⟩
theorem mv_all_ok {a : mv_a} (hi : mv_iB a) : mv_rok (a 0 0) (mv_all a).1 (mv_all a).2 := mv_gat_ok hi _ (by have := hi.1; omega)
theorem mv_ask_ok {a : mv_a} (hi : mv_iB a) (p : Nat) (hp : (p : Int) < a 0 1) : mv_aok (a 4 p) (a 5 p) (a 6 p) (a 7 p) := by
  have t := hi.2.2.2.2.1 p hp
  exact ⟨t.1, t.2.1, t.2.2.1, t.2.2.2.1⟩
section AK
variable {G : mv_G} {a : mv_a}
theorem fx_askFor (h : mv_cB G a) (hi : mv_iB a) (p : Nat) (hp : (p : Int) < a 0 1) : mv_Kp (ff_X9_askFor [.inr (66, 0), .inr (1, 0), .inl p] G) (fun _ G' => mv_cA G' (a 4 p) (a 5 p) (a 6 p) (a 7 p) ∧ mv_ch [] [(66, 6), (66, 7), (66, 8), (66, 9)] G G') := by
  have b1 := hi.1
  refine mv_Kp.of (mv_JP.of (rg_X9_askFor_0 p G) (mv_J.ce (fx_isPerson h hi p) (mv_J.bt (fun h1 => absurd (⟨by omega, hp⟩ : 0 ≤ (p : Int) ∧ (p : Int) < a 0 1) h1) (fun h1 => ?_))))
  rw [Int.toNat_natCast]
  refine mv_J.ck (by omega) (mv_J.ck (by omega) (mv_J.ck (by omega) (mv_J.ck (by omega) (mv_J.ck (by omega) (mv_J.ck (by omega) (mv_J.ck (by omega) (mv_J.ck (by omega) (mv_J.ret ⟨⟨?_, ?_, ?_, ?_⟩, (((mv_ch.rf.up rfl).up rfl).up rfl).up rfl⟩))))))))
  · rw [mv_up_j (by decide), mv_up_j (by decide), mv_up_j (by decide), mv_ups_eq, h.2.2.2.2.1]
  · rw [mv_up_j (by decide), mv_up_j (by decide), mv_ups_eq, mv_up_k (by decide), h.2.2.2.2.2.1]
  · rw [mv_up_j (by decide), mv_ups_eq, mv_up_k (by decide), mv_up_k (by decide), h.2.2.2.2.2.2.1]
  · rw [mv_ups_eq, mv_up_k (by decide), mv_up_k (by decide), mv_up_k (by decide), h.2.2.2.2.2.2.2.1]
theorem gx_asksFor (h : mv_mB G a) (p : Nat) (hp : p < 10) : mv_Kp (ff_X12_asksFor [.inr (100, 0), .inl p] G) (fun _ G' => mv_mA G' (a 4 p) (a 5 p) (a 6 p) (a 7 p) ∧ mv_ch [] [(100, 47), (100, 48), (100, 49), (100, 50)] G G') := by
  refine mv_Kp.of (mv_JP.of (rg_X12_asksFor_0 p G) ?_)
  rw [Int.toNat_natCast]
  refine mv_J.ck (by omega) (mv_J.ck (by omega) (mv_J.ck (by omega) (mv_J.ck (by omega) (mv_J.ret ⟨⟨?_, ?_, ?_, ?_⟩, (((mv_ch.rf.up rfl).up rfl).up rfl).up rfl⟩))))
  · rw [mv_up_j (by decide), mv_up_j (by decide), mv_up_j (by decide), mv_ups_eq, h.2.2.2.2.1 p hp]
  · rw [mv_up_j (by decide), mv_up_j (by decide), mv_ups_eq, mv_up_k (by decide), h.2.2.2.2.2.1 p hp]
  · rw [mv_up_j (by decide), mv_ups_eq, mv_up_k (by decide), mv_up_k (by decide), h.2.2.2.2.2.2.1 p hp]
  · rw [mv_ups_eq, mv_up_k (by decide), mv_up_k (by decide), mv_up_k (by decide), h.2.2.2.2.2.2.2.1 p hp]
theorem gx_everyone (h : mv_mB G a) : ff_X12_everyone [.inr (100, 0)] G = some (mv_w (mv_shl 1 (a 0 1) - 1), G) := by
  refine mv_Kp.eq (mv_Kp.of (mv_JP.of (rg_X12_everyone_0 G) (mv_J.ret ⟨?_, rfl⟩)))
  rw [h.1.2.1]
/-- TELLS -/
noncomputable def mv_tls (a : mv_a) (p x : Int) : Int := @ite _ ((0 ≤ p ∧ p < a 0 1 ∧ a 3 p.toNat = -1) ∧ mv_pl a (mv_all a).1 (mv_all a).2 (a 4 p.toNat) (a 5 p.toNat) (a 6 p.toNat) (a 7 p.toNat) x) (Classical.propDecidable _) (mv_vs a (mv_all a).1 (mv_all a).2 (a 4 p.toNat) (a 5 p.toNat) (a 6 p.toNat) (a 7 p.toNat) x) (-1000000)
theorem mv_pl_b {n : Nat} {r : mv_a} {w k b g x : Int} (h : mv_pl a n r w k b g x) : 0 ≤ x ∧ x + w ≤ a 0 0 := ⟨h.1.1, h.1.2.1⟩
theorem fx_tells (hB : mv_cB G a) (hi : mv_iB a) (hL : mv_cL G 8 a 17) (hLi : mv_iL mv_qs a 17) (p x : Int) : mv_Kp (ff_X11_tells [.inr (0, 0), .inl p, .inl x] G) (fun s G' => s = mv_tls a p x ∧ mv_ch [67, 68, 69, 70, 71, 73, 13] [(66, 0), (66, 6), (66, 7), (66, 8), (66, 9)] G G') := by
  refine mv_Kp.of (mv_JP.of (rg_X11_tells_0 p x G) (mv_J.ce (fx_isAside hB hi p) (mv_J.bt (fun h1 => mv_J.ret ⟨(if_neg (fun h2 => h1 h2.1)).symm, mv_ch.rf⟩) (fun h1 => ?_))))
  obtain ⟨q, hq⟩ : ∃ q : Nat, p = q := ⟨p.toNat, by omega⟩
  subst hq
  have ha := mv_ask_ok hi q (by omega)
  have no : ∀ h : ¬ mv_pl a (mv_all a).1 (mv_all a).2 (a 4 q) (a 5 q) (a 6 q) (a 7 q) x, (-1000000 : Int) = mv_tls a q x := fun h => (if_neg (fun h2 => h (by have := h2.2; rw [Int.toNat_natCast] at this; exact this))).symm
  rw [hB.1.1]
  refine mv_J.i (fun h2 => mv_J.ret ⟨no (fun h3 => by have := mv_pl_b h3; omega), mv_ch.rf⟩) (fun h2 => mv_J.i (fun h3 => ?_) (fun h3 => mv_J.ret ⟨no (fun h4 => by have := mv_pl_b h4; have := ha.1; omega), mv_ch.rf⟩))
  refine mv_J.cn (fx_gather hB hi 1023) (fun s G1 h4 => ?_)
  have hB1 := hB.ch h4.2 (by decide)
  refine mv_J.cn (fx_askFor hB1 hi q (by omega)) (fun s G2 h5 => ?_)
  have hB2 := hB1.ch h5.2 (by decide)
  have hR2 : mv_cR G2 (mv_all a).1 (mv_all a).2 := mv_cR.ch h4.1 h5.2 (by decide) rfl
  have c2 : mv_ch [67, 68, 69, 70, 71, 73, 13] [(66, 0), (66, 6), (66, 7), (66, 8), (66, 9)] G G2 := (h4.2.mono rfl rfl).tr (h5.2.mono rfl rfl)
  refine mv_J.ce (fx_isPlace hB2 hi hR2 h5.1 (mv_all_ok hi) ha x) (mv_J.bt (fun h6 => mv_J.ret ⟨no h6, c2⟩) (fun h6 => ?_))
  obtain ⟨y, hy⟩ : ∃ y : Nat, x = y := ⟨x.toNat, by omega⟩
  subst hy
  refine mv_J.cn (fx_valueAt hB2 hi hR2 h5.1 (mv_all_ok hi) ha (hL.ch c2 (by decide)) hLi y h6.1.2.1) (fun s G3 h7 => mv_J.ret ⟨?_, c2.tr (h7.2.mono rfl rfl)⟩)
  rw [h7.1]
  unfold mv_tls
  rw [Int.toNat_natCast]
  exact (if_pos ⟨by rw [Int.toNat_natCast] at h1; exact h1, h6⟩).symm
theorem gx_tells (hB : mv_mB G a) (hi : mv_iB a) (hL : mv_mL G 0 a 17) (hLi : mv_iL mv_qs a 17) (p x : Int) : mv_Kp (ff_X12_tells [.inr (100, 0), .inl p, .inl x] G) (fun s G' => s = mv_tls a p x ∧ mv_ch [121, 122, 123, 124, 125, 126, 127] [(100, 0), (100, 46), (100, 47), (100, 48), (100, 49), (100, 50)] G G') := by
  have c0 : mv_ch [121, 122, 123, 124, 125, 126, 127] [(100, 0), (100, 46), (100, 47), (100, 48), (100, 49), (100, 50)] G (mv_up G 100 0 0 0) := mv_ch.rf.up rfl
  refine mv_Kp.of (mv_JP.of (rg_X12_tells_0 p x G) ?_)
  generalize mv_up G 100 0 0 0 = G0 at c0
  have hB0 := hB.ch c0 (by decide) rfl rfl
  have b1 := hi.1
  refine mv_J.ce (gx_isPerson hB0 p) (mv_J.bt (fun h1 => mv_J.ret ⟨(if_neg (fun h2 => h1 ⟨h2.1.1, h2.1.2.1⟩)).symm, c0⟩) (fun h1 => ?_))
  obtain ⟨q, hq⟩ : ∃ q : Nat, p = q := ⟨p.toNat, by omega⟩
  subst hq
  have ha := mv_ask_ok hi q (by omega)
  refine mv_J.ce (gx_sits hB0 hi q (by omega)) (mv_J.bt (fun h2 => ?_) (fun h2 => mv_J.ret ⟨(if_neg (fun h3 => h2 (by have := h3.1.2.2; rw [Int.toNat_natCast] at this; exact this))).symm, c0⟩))
  have h2 : a 3 q = -1 := Classical.byContradiction h2
  refine mv_J.ce (gx_everyone hB0) (mv_J.cn (gx_lists hB0 hi _) (fun s G1 h4 => ?_))
  rw [mv_all_ev hi] at h4
  have hB1 := hB0.ch h4.2 (by decide) rfl rfl
  refine mv_J.cn (gx_asksFor hB1 q (by omega)) (fun s G2 h5 => ?_)
  have hB2 := hB1.ch h5.2 (by decide) rfl rfl
  have hR2 : mv_mR G2 (mv_all a).1 (mv_all a).2 := mv_mR.ch h4.1 h5.2 (by decide) rfl
  have c2 := c0.tr ((h4.2.mono (S2 := [121, 122, 123, 124, 125, 126, 127]) (T2 := [(100, 0), (100, 46), (100, 47), (100, 48), (100, 49), (100, 50)]) rfl rfl).tr (h5.2.mono rfl rfl))
  refine mv_J.ce (gx_canSit hB2 hi hR2 h5.1 (mv_all_ok hi) ha x) (mv_J.bt (fun h6 => mv_J.ret ⟨(if_neg (fun h3 => h6 (by have := h3.2; rw [Int.toNat_natCast] at this; exact this))).symm, c2⟩) (fun h6 => ?_))
  have hx := mv_pl_b h6
  obtain ⟨y, hy⟩ : ∃ y : Nat, x = y := ⟨x.toNat, by omega⟩
  subst hy
  refine mv_J.cn (gx_tellsOf hB2 hi hR2 h5.1 (mv_all_ok hi) ha (hL.ch c2 (by decide)) hLi y h6.1.2.1) (fun s G3 h7 => mv_J.ret ⟨?_, c2.tr (h7.2.mono rfl rfl)⟩)
  rw [h7.1]
  unfold mv_tls
  rw [Int.toNat_natCast]
  exact (if_pos ⟨⟨by omega, by omega, h2⟩, h6⟩).symm
end AK
