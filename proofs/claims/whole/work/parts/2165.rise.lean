/-! RISE, both sides. -/
def mv_sb (p : Nat) : Int := mv_and 1023 (mv_xor (mv_shl 1 p) (-1))
def mv_sb2 (m : Int) (p : Nat) : Int := mv_and (mv_w (mv_shl 1 m - 1)) (mv_xor (mv_shl 1 p) (-1))
theorem mv_sb_bits : ∀ n : Nat, n ≤ 10 → ∀ p : Nat, p < n → ∀ q : Nat, q < n → (mv_and (mv_shr (mv_sb2 n p) q) 1 = 1 ↔ mv_and (mv_shr (mv_sb p) q) 1 = 1) := by decide +kernel
/-- all but one -/
def mv_but (a : mv_a) (p : Nat) : Nat × mv_a := mv_gat a (mv_sb p) (a 0 1).toNat
theorem mv_but_ev {a : mv_a} (hi : mv_iB a) (p : Nat) (hp : (p : Int) < a 0 1) : mv_gat a (mv_sb2 (a 0 1) p) (a 0 1).toNat = mv_but a p := by
  have b1 := hi.1
  refine mv_gat_cg _ (fun q hq => ?_)
  have h := mv_sb_bits (a 0 1).toNat (by omega) p (by omega) q hq
  rw [show (((a 0 1).toNat : Nat) : Int) = a 0 1 by omega] at h
  exact h
/-- who rises best, among the first so many, and what it costs then -/
noncomputable def mv_rs (a : mv_a) (p0 : Nat) : Nat → Int × Int
  | 0 => (-1, -1)
  | p + 1 => if a 3 p = -1 then mv_rs a p0 p else match mv_fd a (mv_but a p).1 (mv_but a p).2 p0 with
    | none => mv_rs a p0 p
    | some u => if (mv_rs a p0 p).1 = -1 ∨ u.1 / 100 < (mv_rs a p0 p).2 then ((p : Int), u.1 / 100) else mv_rs a p0 p
noncomputable def mv_ris (a : mv_a) (p what : Int) : Int := @ite _ ((0 ≤ p ∧ p < a 0 1 ∧ a 3 p.toNat = -1) ∧ 0 ≤ what ∧ what ≤ 1) (Classical.propDecidable _) (if what = 0 then (mv_rs a p.toNat (a 0 1).toNat).1 else (mv_rs a p.toNat (a 0 1).toNat).2) (-1)
def mv_r6 (x : Int × Int) : Int := if x.1 = -1 then 1000000 else x.2
theorem mv_rs_n {a : mv_a} {p0 : Nat} : ∀ p, (mv_rs a p0 p).1 = -1 → (mv_rs a p0 p).2 = -1
  | 0, _ => rfl
  | p + 1, h => by
    unfold mv_rs at h ⊢
    by_cases h1 : a 3 p = -1
    · rw [if_pos h1] at h ⊢
      exact mv_rs_n p h
    · rw [if_neg h1] at h ⊢
      split at h
      · exact mv_rs_n p h
      · split at h
        · have h : (p : Int) = -1 := h
          omega
        · next h2 => rw [if_neg h2]; exact mv_rs_n p h
section RI
variable {G : mv_G} {a : mv_a}
theorem mv_but_le {p0 p : Nat} (hi : mv_iB a) (hp : (p0 : Int) < a 0 1) (h0 : a 3 p0 = -1) : (mv_but a p).1 ≤ 9 := by
  have b1 := hi.1
  have hle := mv_gat_le2 (s := mv_sb p) h0 (a 0 1).toNat
  rw [if_pos (by omega)] at hle
  unfold mv_but
  omega
set_option maxHeartbeats 1000000 in
theorem fx_rise (hB : mv_cB G a) (hi : mv_iB a) (hL : mv_cL G 14 a 22) (hLi : mv_iL mv_qm a 22) (p what : Int) : mv_Kp (ff_X11_rise [.inr (0, 0), .inl p, .inl what] G) (fun v G' => v = mv_ris a p what ∧ mv_ch [19, 67, 68, 69, 70, 71, 75, 76, 77, 78, 79, 80] [(66, 0), (74, 8)] G G') := by
  have b1 := hi.1
  obtain ⟨P, hP⟩ : ∃ P : Int → mv_G → Prop, P = (fun v G' => v = mv_ris a p what ∧ mv_ch [19, 67, 68, 69, 70, 71, 75, 76, 77, 78, 79, 80] [(66, 0), (74, 8)] G G') := ⟨_, rfl⟩
  rw [← hP]
  have dead : ∀ G1, ¬ ((0 ≤ p ∧ p < a 0 1 ∧ a 3 p.toNat = -1) ∧ 0 ≤ what ∧ what ≤ 1) → mv_ch [19, 67, 68, 69, 70, 71, 75, 76, 77, 78, 79, 80] [(66, 0), (74, 8)] G G1 → mv_J mm_X11_rise P (some (.inl (-1, G1))) := fun G1 h1 h2 => by
    refine mv_J.ret ?_
    rw [hP]
    exact ⟨(if_neg h1).symm, h2⟩
  refine mv_Kp.of (mv_JP.of (rg_X11_rise_0 p what G) (mv_J.i (fun h1 => dead _ (fun h => by omega) mv_ch.rf) (fun h1 => mv_J.i (fun h2 => dead _ (fun h => by omega) mv_ch.rf) (fun h2 => mv_J.ce (fx_isAside hB hi p) (mv_J.bt (fun h3 => dead _ (fun h => h3 h.1) mv_ch.rf) (fun h3 => ?_))))))
  obtain ⟨q, hq⟩ : ∃ q : Nat, p = q := ⟨p.toNat, by omega⟩
  subst hq
  have er : mv_ris a q what = if what = 0 then (mv_rs a q (a 0 1).toNat).1 else (mv_rs a q (a 0 1).toNat).2 := by
    unfold mv_ris
    rw [if_pos ⟨h3, by omega, by omega⟩, Int.toNat_natCast]
  rw [Int.toNat_natCast] at h3
  refine mv_J.cn (fx_reckonCosts hB hi hL hLi) (fun v G1 h6 => mv_J.cut ?_)
  have hc1 : mv_ch [19, 67, 68, 69, 70, 71, 75, 76, 77, 78, 79, 80] [(66, 0), (74, 8)] G G1 := h6.2.mono rfl rfl
  have key : ∀ (k i : Nat) (G2 : mv_G), i + k = (a 0 1).toNat → mv_ch [19, 67, 68, 69, 70, 71, 75, 76, 77, 78, 79, 80] [(66, 0), (74, 8)] G G2 → mv_kC G2 a → mv_JP mm_X11_rise P 37 [some (.inr (0, 0)), some (.inl (q : Int)), some (.inl what), some (.inl (mv_rs a q i).1), some (.inl (mv_rs a q i).2), some (.inl (i : Int))] G2 := by
    intro k
    induction k with
    | zero =>
      intro i G2 hk hc hK
      have hB2 := hB.ch hc (by decide)
      refine mv_JP.of (rg_X11_rise_37 _ _ _ _ _ G2) ?_
      rw [hB2.1.2.1]
      have ei : (a 0 1).toNat = i := by omega
      rw [ei] at er
      refine mv_J.f (by omega) (mv_J.i (fun h7 => mv_J.ret ?_) (fun h7 => mv_J.ret ?_))
      · rw [hP]; exact ⟨by rw [er, if_pos h7], hc⟩
      · rw [hP]; exact ⟨by rw [er, if_neg h7], hc⟩
    | succ k ih =>
      intro i G2 hk hc hK
      have hB2 := hB.ch hc (by decide)
      have e01 := hB2.1.2.1
      refine mv_JP.of (rg_X11_rise_37 _ _ _ _ _ G2) ?_
      rw [e01, mv_ws (x := (i : Int) + 1) (by omega)]
      have nx := fun G3 hc hK => ih (i + 1) G3 (by omega) hc hK
      have est : mv_rs a q (i + 1) = if a 3 i = -1 then mv_rs a q i else match mv_fd a (mv_but a i).1 (mv_but a i).2 q with
        | none => mv_rs a q i
        | some u => if (mv_rs a q i).1 = -1 ∨ u.1 / 100 < (mv_rs a q i).2 then ((i : Int), u.1 / 100) else mv_rs a q i := rfl
      rw [est] at nx
      clear est
      refine mv_J.t (by omega) (mv_J.ce (fx_isSeated hB2 hi i) (mv_J.bt (fun h7 => ?_) (fun h7 => ?_)))
      · have hs : a 3 i = -1 := Classical.byContradiction fun h8 => h7 ⟨by omega, by omega, by rw [Int.toNat_natCast]; exact h8⟩
        rw [if_pos hs] at nx
        exact mv_J.cut (nx _ hc hK)
      · have hs := h7.2.2
        rw [Int.toNat_natCast] at hs
        rw [if_neg hs] at nx
        refine mv_J.cn (fx_find hB2 hi hK h3.2.1 h3.2.2 _) (fun v G3 h8 => ?_)
        have h8 : v = mv_b (mv_fd a (mv_but a i).1 (mv_but a i).2 q ≠ none) ∧ mv_cF G3 a (mv_but a i).1 (mv_but a i).2 q (mv_fd a (mv_but a i).1 (mv_but a i).2 q) ∧ mv_ch [67, 68, 69, 70, 71, 75, 78, 79, 80] [(66, 0), (74, 8)] G2 G3 := h8
        obtain ⟨h9, h10, h11⟩ := h8
        subst h9
        have hc3 : mv_ch [19, 67, 68, 69, 70, 71, 75, 76, 77, 78, 79, 80] [(66, 0), (74, 8)] G G3 := hc.tr (h11.mono rfl rfl)
        have hK3 : mv_kC G3 a := by unfold mv_kC; rw [h11.cell 77 rfl]; exact hK
        have nx := nx G3 hc3 hK3
        have hle := mv_but_le (p := i) hi h3.2.1 h3.2.2
        cases ho : mv_fd a (mv_but a i).1 (mv_but a i).2 q with
        | none =>
          rw [ho] at nx
          exact mv_J.t (mv_b0 (fun h => h rfl)) (mv_J.cut nx)
        | some u =>
          rw [ho] at nx h10
          dsimp only at nx
          have hco := fx_cost hle ho h10
          refine mv_J.f (by rw [mv_b1 (fun h => by cases h)]; decide) (mv_J.i (fun h12 => mv_J.ce hco (mv_J.cut ?_)) (fun h12 => mv_J.ce hco (mv_J.i (fun h13 => mv_J.ce hco (mv_J.cut ?_)) (fun h13 => mv_J.cut ?_))))
          · rw [if_pos (Or.inl h12)] at nx; exact nx
          · rw [if_pos (Or.inr h13)] at nx; exact nx
          · rw [if_neg (fun h => h.elim h12 h13)] at nx; exact nx
  have := key (a 0 1).toNat 0 G1 (by omega) hc1 h6.1
  exact this
set_option maxHeartbeats 1000000 in
theorem gx_rise (hB : mv_mB G a) (hi : mv_iB a) (hL : mv_mL G 1 a 22) (hLi : mv_iL mv_qm a 22) (p what : Int) : mv_Kp (ff_X12_rise [.inr (100, 0), .inl p, .inl what] G) (fun v G' => v = mv_ris a p what ∧ mv_ch [121, 122, 123, 124, 125, 126, 127, 128, 129, 130, 131] [(100, 0), (100, 46), (100, 47), (100, 48), (100, 49), (100, 50), (100, 57)] G G') := by
  have b1 := hi.1
  obtain ⟨P, hP⟩ : ∃ P : Int → mv_G → Prop, P = (fun v G' => v = mv_ris a p what ∧ mv_ch [121, 122, 123, 124, 125, 126, 127, 128, 129, 130, 131] [(100, 0), (100, 46), (100, 47), (100, 48), (100, 49), (100, 50), (100, 57)] G G') := ⟨_, rfl⟩
  rw [← hP]
  have c0 : mv_ch [121, 122, 123, 124, 125, 126, 127, 128, 129, 130, 131] [(100, 0), (100, 46), (100, 47), (100, 48), (100, 49), (100, 50), (100, 57)] G (mv_up G 100 0 0 0) := mv_ch.rf.up rfl
  refine mv_Kp.of (mv_JP.of (rg_X12_rise_0 p what G) ?_)
  generalize mv_up G 100 0 0 0 = G0 at c0
  have hB0 := hB.ch c0 (by decide) rfl rfl
  have dead : ∀ G1, ¬ ((0 ≤ p ∧ p < a 0 1 ∧ a 3 p.toNat = -1) ∧ 0 ≤ what ∧ what ≤ 1) → mv_ch [121, 122, 123, 124, 125, 126, 127, 128, 129, 130, 131] [(100, 0), (100, 46), (100, 47), (100, 48), (100, 49), (100, 50), (100, 57)] G G1 → mv_J mm_X12_rise P (some (.inl (-1, G1))) := fun G1 h1 h2 => by
    refine mv_J.ret ?_
    rw [hP]
    exact ⟨(if_neg h1).symm, h2⟩
  refine mv_J.ce (gx_isAside hB0 hi p) (mv_J.bt (fun h3 => dead _ (fun h => h3 h.1) c0) (fun h3 => mv_J.ce (gx_isIn _ _ _ _) (mv_J.bt (fun h1 => dead _ (fun h => h1 h.2) c0) (fun h1 => mv_J.cut ?_))))
  obtain ⟨q, hq⟩ : ∃ q : Nat, p = q := ⟨p.toNat, by omega⟩
  subst hq
  have er : mv_ris a q what = if what = 0 then (mv_rs a q (a 0 1).toNat).1 else (mv_rs a q (a 0 1).toNat).2 := by
    unfold mv_ris
    rw [if_pos ⟨h3, by omega, by omega⟩, Int.toNat_natCast]
  rw [Int.toNat_natCast] at h3
  have key : ∀ (k i : Nat) (G2 : mv_G), i + k = (a 0 1).toNat → mv_ch [121, 122, 123, 124, 125, 126, 127, 128, 129, 130, 131] [(100, 0), (100, 46), (100, 47), (100, 48), (100, 49), (100, 50), (100, 57)] G G2 → mv_JP mm_X12_rise P 35 [some (.inr (100, 0)), some (.inl (q : Int)), some (.inl what), some (.inl (mv_rs a q i).1), some (.inl (mv_r6 (mv_rs a q i))), some (.inl (i : Int))] G2 := by
    intro k
    induction k with
    | zero =>
      intro i G2 hk hc
      have hB2 := hB.ch hc (by decide) rfl rfl
      refine mv_JP.of (rg_X12_rise_35 _ _ _ _ _ G2) ?_
      rw [hB2.1.2.1]
      have ei : (a 0 1).toNat = i := by omega
      rw [ei] at er
      refine mv_J.f (by omega) (mv_J.i (fun h7 => mv_J.ret ?_) (fun h7 => mv_J.i (fun h8 => mv_J.ret ?_) (fun h8 => mv_J.ret ?_)))
      · rw [hP]
        refine ⟨?_, hc⟩
        rw [er, mv_rs_n i h7]
        split <;> rw [h7]
      · rw [hP]; exact ⟨by rw [er, if_pos h8], hc⟩
      · rw [hP]; exact ⟨by rw [er, if_neg h8]; exact if_neg h7, hc⟩
    | succ k ih =>
      intro i G2 hk hc
      have hB2 := hB.ch hc (by decide) rfl rfl
      have hL2 := hL.ch hc (by decide)
      have e01 := hB2.1.2.1
      refine mv_JP.of (rg_X12_rise_35 _ _ _ _ _ G2) ?_
      rw [e01, mv_ws (x := (i : Int) + 1) (by omega)]
      have nx := fun G3 hc => ih (i + 1) G3 (by omega) hc
      have est : mv_rs a q (i + 1) = if a 3 i = -1 then mv_rs a q i else match mv_fd a (mv_but a i).1 (mv_but a i).2 q with
        | none => mv_rs a q i
        | some u => if (mv_rs a q i).1 = -1 ∨ u.1 / 100 < (mv_rs a q i).2 then ((i : Int), u.1 / 100) else mv_rs a q i := rfl
      rw [est] at nx
      clear est
      refine mv_J.t (by omega) (mv_J.ce (gx_sits hB2 hi i (by omega)) (mv_J.bt (fun h7 => ?_) (fun h7 => ?_)))
      · have hs : a 3 i = -1 := Classical.byContradiction h7
        rw [if_pos hs] at nx
        exact mv_J.cut (nx _ hc)
      · rw [if_neg h7] at nx
        refine mv_J.ce (gx_everyone hB2) (mv_J.cn (gx_findsRoom hB2 hi hL2 hLi h3.2.1 h3.2.2 _) (fun v G3 h8 => ?_))
        have eb : mv_gat a (mv_and (mv_w (mv_shl 1 (a 0 1) - 1)) (mv_xor (mv_shl 1 i) (-1))) (a 0 1).toNat = mv_but a i := mv_but_ev hi i (by omega)
        rw [eb] at h8
        obtain ⟨h9, h10, h11⟩ := h8
        subst h9
        have hc3 : mv_ch [121, 122, 123, 124, 125, 126, 127, 128, 129, 130, 131] [(100, 0), (100, 46), (100, 47), (100, 48), (100, 49), (100, 50), (100, 57)] G G3 := hc.tr (h11.mono rfl rfl)
        have nx := nx G3 hc3
        have hle := mv_but_le (p := i) hi h3.2.1 h3.2.2
        cases ho : mv_fd a (mv_but a i).1 (mv_but a i).2 q with
        | none =>
          rw [ho] at nx
          exact mv_J.t (mv_b0 (fun h => h rfl)) (mv_J.cut nx)
        | some u =>
          rw [ho] at nx h10
          dsimp only at nx
          have hq4 := mv_ph_c (by omega) (mv_fd_Q ho).1
          have e57 : G3 100 0 57 = u.1 := h10.2.1
          rw [e57, hq4.2.2.1]
          have ni : ¬ (i : Int) = -1 := by omega
          refine mv_J.f (by rw [mv_b1 (fun h => by cases h)]; decide) (mv_J.f (by decide) (mv_J.i (fun h12 => mv_J.f (by decide) (mv_J.cut ?_)) (fun h12 => mv_J.cut ?_)))
          · have hor : (mv_rs a q i).1 = -1 ∨ u.1 / 100 < (mv_rs a q i).2 := by
              by_cases h13 : (mv_rs a q i).1 = -1
              · exact Or.inl h13
              · unfold mv_r6 at h12; rw [if_neg h13] at h12; exact Or.inr h12
            rw [if_pos hor, show mv_r6 ((i : Int), u.1 / 100) = u.1 / 100 from if_neg ni] at nx
            exact nx
          · have hno : ¬ ((mv_rs a q i).1 = -1 ∨ u.1 / 100 < (mv_rs a q i).2) := by
              intro hor
              by_cases h13 : (mv_rs a q i).1 = -1
              · unfold mv_r6 at h12; rw [if_pos h13] at h12; omega
              · unfold mv_r6 at h12; rw [if_neg h13] at h12; exact hor.elim h13 h12
            rw [if_neg hno] at nx
            exact nx
  have := key (a 0 1).toNat 0 G0 (by omega) c0
  exact this
end RI
