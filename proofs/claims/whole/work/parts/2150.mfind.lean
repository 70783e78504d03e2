/-! ROOM, the reference: the best gap and the seats; where one is in the line. -/
def mv_mF (G : mv_G) (a : mv_a) (n : Nat) (r : mv_a) (p0 : Nat) (o : Option (Int × Nat)) : Prop := G 100 0 46 = n ∧ (match o with
  | none => G 100 0 57 = 1000000
  | some u => G 100 0 57 = u.1 ∧ (∀ i, i < n + 1 → G 128 0 i = mv_itg r p0 u.2 i) ∧ ∀ i, i < n + 1 → G 131 0 i = ((mv_xx a p0 (mv_itg r p0 u.2) (n + 1) i : Nat) : Int))
def mv_o1 (o : Option (Int × Nat)) : Option Int := match o with | some u => some u.1 | none => none
def mv_o2 (o : Option (Int × Nat)) : Int := match o with | some u => (u.2 : Int) | none => -1
theorem mv_tot_B {a : mv_a} {n g : Nat} {r : mv_a} {p0 : Nat} (hn : n ≤ 9) : mv_B6 (mv_tot a n r p0 g) := mv_lm_B (c := n + 1) (i := 0) (by omega) (by omega)
theorem mv_bg_B {tot : Nat → Option Int} (h : ∀ g, mv_B6 (tot g)) (g : Nat) : mv_B6 (mv_o1 (mv_bg tot g)) := by
  intro v hv
  cases ho : mv_bg tot g with
  | none => rw [ho] at hv; cases hv
  | some u =>
    rw [ho] at hv
    cases hv
    exact h u.2 u.1 (mv_bg_sp g u ho).2
section MJ
variable {G : mv_G} {a : mv_a} {p0 n : Nat} {r : mv_a}
set_option maxHeartbeats 2000000 in
set_option maxRecDepth 100000 in
theorem gx_settle (hB : mv_mB G a) (hi : mv_iB a) {c : Nat} {it : Nat → Nat} (hl : mv_ln a p0 it c) (h0 : 0 < c) (h46 : G 100 0 46 = (c : Int) - 1) (hI : mv_mI G a p0 it c) (ht : ∀ i, i < c → mv_mt G a p0 it c i) {v0 : Int} (hv0 : mv_lm a p0 it c 0 0 = some v0) : mv_JP mm_X12_findsRoom (fun v G' => v = 1 ∧ (∀ i, i < c → G' 131 0 i = ((mv_xx a p0 it c i : Nat) : Int)) ∧ mv_ch [131] [] G G') 82 [some (.inr (100, 0)), none, none, none, none, some (.inl 0), some (.inl 0), none, none] G := by
  have b1 := hi.1
  have hc10 := hl.1
  obtain ⟨P, hP⟩ : ∃ P : Int → mv_G → Prop, P = (fun v G' => v = 1 ∧ (∀ i, i < c → G' 131 0 i = ((mv_xx a p0 it c i : Nat) : Int)) ∧ mv_ch [131] [] G G') := ⟨_, rfl⟩
  rw [← hP]
  have key : ∀ (q i y : Nat) (G1 : mv_G), i + q = c → (i = 0 ∧ y = 0 ∨ 0 < i ∧ y = mv_xx a p0 it c (i - 1)) → mv_ch [131] [] G G1 → (∀ j, j < i → G1 131 0 j = ((mv_xx a p0 it c j : Nat) : Int)) → mv_JP mm_X12_findsRoom P 82 [some (.inr (100, 0)), none, none, none, none, some (.inl (y : Int)), some (.inl (i : Int)), none, none] G1 := by
    intro q
    induction q with
    | zero =>
      intro i y G1 hq hy hc hd
      refine mv_JP.of (rg_X12_findsRoom_82 _ _ G1) ?_
      rw [hc.cell 100 rfl, h46]
      refine mv_J.t (by omega) (mv_J.r0 (Or.inr rfl) ?_)
      rw [hP]
      exact ⟨rfl, fun j h => hd j (by omega), hc⟩
    | succ q ih =>
      intro i y G1 hq hy hc hd
      have hic : i < c := by omega
      have hB1 := hB.ch hc (by decide) rfl rfl
      have hI1 := hI.ch hc rfl
      have ht1 := (ht i hic).ch hc rfl
      obtain ⟨v, s1, s2, s3, s4, s5, s6⟩ := mv_xx_sp hv0 i hic
      have q1 := (hl.2 i hic).1
      have hvB : mv_B6 (some v) := by rw [← s1]; exact mv_lm_B hc10 hic
      have hy60 : y ≤ 60 := by
        rcases hy with ⟨e1, e2⟩ | ⟨e1, e2⟩
        · omega
        · obtain ⟨-, -, -, t3, -⟩ := mv_xx_sp hv0 (i - 1) (by omega)
          omega
      have hlo : i = 0 ∧ mv_yy a p0 it c i = 0 ∨ 0 < i ∧ mv_yy a p0 it c i = y + (mv_dd a (it (i - 1)) (it i)).toNat := by
        rcases hy with ⟨e1, e2⟩ | ⟨e1, e2⟩
        · subst e1
          exact Or.inl ⟨rfl, rfl⟩
        · refine Or.inr ⟨e1, ?_⟩
          obtain ⟨k, rfl⟩ : ∃ k, i = k + 1 := ⟨i - 1, by omega⟩
          rw [e2, Nat.add_sub_cancel]
          rfl
      have hlb := gx_leastB hB1 hi hl hI1 (by rw [hc.cell 100 rfl]; exact h46) i hic ht1 y _ hy60 hlo
      rw [s1] at hlb
      refine mv_JP.of (rg_X12_findsRoom_82 _ _ G1) ?_
      rw [hc.cell 100 rfl, h46]
      refine mv_J.f (by omega) (mv_J.ce hlb (mv_J.cut ?_))
      have inner : ∀ (m z : Nat), z + m = mv_xx a p0 it c i → mv_JP mm_X12_findsRoom P 104 [some (.inr (100, 0)), none, none, none, none, some (.inl (y : Int)), some (.inl (i : Int)), some (.inl (mv_e6 (some v))), some (.inl (z : Int))] G1 := by
        intro m z hz
        induction m generalizing z with
        | zero =>
          have ei : mv_w (mv_w (60 * (i : Int)) + z) = ((60 * i + z : Nat) : Int) := by rw [mv_ws (x := 60 * (i : Int)) (by omega), mv_ws (by omega)]; omega
          refine mv_JP.of (rg_X12_findsRoom_104 _ _ _ _ G1) ?_
          rw [ei]
          clear ei
          rw [Int.toNat_natCast, Int.toNat_natCast, mv_ckp (n := 660) (by omega), ht1 z (by omega), mv_ws (x := (i : Int) + 1) (by omega)]
          have ez : mv_xi a p0 it c i z = some v := by rw [show z = mv_xx a p0 it c i by omega]; exact s4
          rw [ez]
          have nx : mv_JP mm_X12_findsRoom P 82 [some (.inr (100, 0)), none, none, none, none, some (.inl (z : Int)), some (.inl ((i : Int) + 1)), none, none] (mv_up G1 131 0 i z) := by
            refine ih (i + 1) z _ (by omega) (Or.inr ⟨by omega, ?_⟩) (hc.uc rfl) (fun j hj => ?_)
            · rw [Nat.add_sub_cancel]; omega
            · rw [mv_up_at]
              by_cases e : j = i
              · rw [if_pos e, e]; omega
              · rw [if_neg e]; exact hd j (by omega)
          refine mv_J.t rfl (mv_J.i (fun h1 => ?_) (fun h1 => mv_J.ck (by omega) (mv_J.cut nx)))
          rcases hlo with ⟨e1, e2⟩ | ⟨e1, e2⟩
          · omega
          rw [mv_ws (x := (i : Int) - 1) (by omega), show ((i : Int) - 1).toNat = i - 1 by omega, (hI1 (i - 1) (by omega)).1, (hI1 i hic).1]
          refine mv_J.ck (by omega) (mv_J.ck (by omega) (mv_J.ce (gx_canBeside hB1 hi _ _ _ _ (hl.2 (i - 1) (by omega)).1 q1 hy60 (by omega)) (mv_J.bt (fun h2 => absurd ?_ h2) (fun h2 => mv_J.ck (by omega) (mv_J.cut nx)))))
          omega
        | succ m ihm =>
          have ei : mv_w (mv_w (60 * (i : Int)) + z) = ((60 * i + z : Nat) : Int) := by rw [mv_ws (x := 60 * (i : Int)) (by omega), mv_ws (by omega)]; omega
          refine mv_JP.of (rg_X12_findsRoom_104 _ _ _ _ G1) ?_
          rw [ei]
          clear ei
          rw [Int.toNat_natCast, Int.toNat_natCast, mv_ckp (n := 660) (by omega), ht1 z (by omega), mv_ws (x := (z : Int) + 1) (by omega)]
          have nx := ihm (z + 1) (by omega)
          refine mv_J.i (fun h1 => ?_) (fun h1 => mv_J.cut nx)
          have ex := mv_e6_inj (mv_xi_B hc10) hvB h1
          have hzy : z < mv_yy a p0 it c i := by
            rcases Nat.lt_or_ge z (mv_yy a p0 it c i) with h2 | h2
            · exact h2
            · exact absurd ex (s5 z h2 (by omega))
          rcases hlo with ⟨e1, e2⟩ | ⟨e1, e2⟩
          · omega
          refine mv_J.t (by omega) ?_
          rw [mv_ws (x := (i : Int) - 1) (by omega), show ((i : Int) - 1).toNat = i - 1 by omega, (hI1 (i - 1) (by omega)).1, (hI1 i hic).1]
          refine mv_J.ck (by omega) (mv_J.ck (by omega) (mv_J.ce (gx_canBeside hB1 hi _ _ _ _ (hl.2 (i - 1) (by omega)).1 q1 hy60 (by omega)) (mv_J.bt (fun h2 => mv_J.cut nx) (fun h2 => absurd h2 (by omega)))))
      exact inner (mv_xx a p0 it c i) 0 (by omega)
  exact key c 0 0 G (by omega) (Or.inl ⟨rfl, rfl⟩) mv_ch.rf (fun j h => by omega)
set_option maxHeartbeats 2000000 in
theorem gx_findsRoom (hB : mv_mB G a) (hi : mv_iB a) (hL : mv_mL G 1 a 22) (hLi : mv_iL mv_qm a 22) (hp : (p0 : Int) < a 0 1) (h0 : a 3 p0 = -1) (s : Int) : mv_Kp (ff_X12_findsRoom [.inr (100, 0), .inl p0, .inl s] G) (fun v G' => v = mv_b (mv_fd a (mv_gat a s (a 0 1).toNat).1 (mv_gat a s (a 0 1).toNat).2 p0 ≠ none) ∧ mv_mF G' a (mv_gat a s (a 0 1).toNat).1 (mv_gat a s (a 0 1).toNat).2 p0 (mv_fd a (mv_gat a s (a 0 1).toNat).1 (mv_gat a s (a 0 1).toNat).2 p0) ∧ mv_ch [121, 122, 123, 124, 125, 126, 127, 128, 129, 130, 131] [(100, 46), (100, 47), (100, 48), (100, 49), (100, 50), (100, 57)] G G') := by
  have b1 := hi.1
  have hle := mv_gat_le2 (s := s) h0 (a 0 1).toNat
  rw [if_pos (by omega)] at hle
  have hln := fun g hg => mv_itg_ok (s := s) (g := g) hi hp h0 hg
  have hwho := fun i hi => mv_gat_who (a := a) (s := s) (i := i) hi
  refine mv_Kp.of (mv_JP.of (rg_X12_findsRoom_0 p0 s G) (mv_J.cn (gx_lists hB hi s) (fun v G1 h1 => mv_J.cut ?_)))
  obtain ⟨hR1, hc1⟩ := h1
  obtain ⟨n, r, hg⟩ : ∃ n r, mv_gat a s (a 0 1).toNat = (n, r) := ⟨_, _, rfl⟩
  rw [hg] at hle hln hR1 hwho ⊢
  dsimp only at hle hln hR1 hwho ⊢
  have hw : ∀ i, i < n → ∃ q : Nat, r 4 i = q ∧ q ≠ p0 ∧ r 0 i = a 3 q := fun i h => by
    obtain ⟨q, e1, e2, e3, e4⟩ := hwho i h
    exact ⟨q, e1, fun e => e3 (e ▸ h0), e4⟩
  obtain ⟨P, hP⟩ : ∃ P : Int → mv_G → Prop, P = (fun v G' => v = mv_b (mv_fd a n r p0 ≠ none) ∧ mv_mF G' a n r p0 (mv_fd a n r p0) ∧ mv_ch [121, 122, 123, 124, 125, 126, 127, 128, 129, 130, 131] [(100, 46), (100, 47), (100, 48), (100, 49), (100, 50), (100, 57)] G G') := ⟨_, rfl⟩
  rw [← hP]
  have key : ∀ (q g : Nat) (G2 : mv_G), g + q = n + 1 → mv_ch [121, 122, 123, 124, 125, 126, 127, 128, 129, 130, 131] [(100, 46), (100, 47), (100, 48), (100, 49), (100, 50), (100, 57)] G G2 → mv_mR G2 n r → mv_JP mm_X12_findsRoom P 15 [some (.inr (100, 0)), some (.inl (p0 : Int)), none, some (.inl (mv_e6 (mv_o1 (mv_bg (mv_tot a n r p0) g)))), some (.inl (mv_o2 (mv_bg (mv_tot a n r p0) g))), some (.inl (g : Int)), none, none, none] G2 := by
    intro q
    induction q with
    | zero =>
      intro g G2 hq hc hR
      refine mv_JP.of (rg_X12_findsRoom_15 _ _ _ _ G2) ?_
      rw [hR.1]
      have ef : mv_bg (mv_tot a n r p0) g = mv_fd a n r p0 := by unfold mv_fd; rw [show n + 1 = g by omega]
      rw [ef]
      refine mv_J.t (by omega) ?_
      have hc3 : mv_ch [121, 122, 123, 124, 125, 126, 127, 128, 129, 130, 131] [(100, 46), (100, 47), (100, 48), (100, 49), (100, 50), (100, 57)] G (mv_up G2 100 0 57 (mv_e6 (mv_o1 (mv_fd a n r p0)))) := hc.up rfl
      have e57 : (mv_up G2 100 0 57 (mv_e6 (mv_o1 (mv_fd a n r p0)))) 100 0 57 = mv_e6 (mv_o1 (mv_fd a n r p0)) := mv_ups_eq
      have hR3 : mv_mR (mv_up G2 100 0 57 (mv_e6 (mv_o1 (mv_fd a n r p0)))) n r := hR.ch (mv_ch.rf.up (S := []) (T := [(100, 57)]) rfl) (by decide) rfl
      generalize mv_up G2 100 0 57 (mv_e6 (mv_o1 (mv_fd a n r p0))) = G3 at hc3 e57 hR3
      cases ho : mv_fd a n r p0 with
      | none =>
        refine mv_J.t rfl (mv_J.r0 (Or.inl rfl) ?_)
        rw [hP]
        rw [ho] at e57
        refine ⟨(mv_b0 (fun h => h ho)).symm, ?_, hc3⟩
        rw [ho]
        exact ⟨hR3.1, e57⟩
      | some u =>
        have hsp := mv_bg_sp _ _ ho
        have hu : u.2 ≤ n := by omega
        obtain ⟨hl, hinj⟩ := hln u.2 hu
        have hB3 := hB.ch hc3 (by decide) rfl rfl
        have hL3 := hL.ch hc3 (by decide)
        rw [ho] at e57
        refine mv_J.f ?_ (mv_J.cn (gx_leastBy hB3 hi hL3 hLi hR3 (by omega) hw u.2 hu hl) (fun v G4 h4 => mv_J.cut ?_))
        · show ¬ (u.2 : Int) = -1
          omega
        obtain ⟨hv, hI4, ht4, hc4⟩ := h4
        have hc5 : mv_ch [121, 122, 123, 124, 125, 126, 127, 128, 129, 130, 131] [(100, 46), (100, 47), (100, 48), (100, 49), (100, 50), (100, 57)] G G4 := hc3.tr (hc4.mono rfl rfl)
        have hB4 := hB.ch hc5 (by decide) rfl rfl
        have e46 : G4 100 0 46 = ((n + 1 : Nat) : Int) - 1 := by rw [hc4.slot 100 46 rfl, hR3.1]; omega
        have e574 : G4 100 0 57 = u.1 := by rw [hc4.slot 100 57 rfl]; exact e57
        refine mv_JP.mono (gx_settle hB4 hi hl (by omega) e46 hI4 ht4 hsp.2) (fun v G' h5 => ?_)
        obtain ⟨h5, h6, h7⟩ := h5
        rw [hP]
        refine ⟨by rw [h5]; exact (mv_b1 (by rw [ho]; exact fun h => by cases h)).symm, ?_, hc5.tr (h7.mono rfl rfl)⟩
        rw [ho]
        refine ⟨?_, ?_, fun i hi => ?_, h6⟩
        · rw [h7.cell 100 rfl, e46]; omega
        · rw [h7.cell 100 rfl]; exact e574
        · rw [h7.cell 128 rfl]; exact (hI4 i hi).1
    | succ q ih =>
      intro g G2 hq hc hR
      obtain ⟨hl, hinj⟩ := hln g (by omega)
      have hB2 := hB.ch hc (by decide) rfl rfl
      have hL2 := hL.ch hc (by decide)
      refine mv_JP.of (rg_X12_findsRoom_15 _ _ _ _ G2) ?_
      rw [hR.1, mv_ws (x := (g : Int) + 1) (by omega)]
      refine mv_J.f (by omega) (mv_J.cn (gx_leastBy hB2 hi hL2 hLi hR (by omega) hw g (by omega) hl) (fun v G4 h4 => ?_))
      obtain ⟨hv, hI4, ht4, hc4⟩ := h4
      subst hv
      have hR4 := hR.ch hc4 (by decide) rfl
      have nx := ih (g + 1) G4 (by omega) (hc.tr (hc4.mono rfl rfl)) hR4
      have htB : mv_B6 (mv_tot a n r p0 g) := mv_tot_B (by omega)
      have hbB : mv_B6 (mv_o1 (mv_bg (mv_tot a n r p0) g)) := mv_bg_B (fun g => mv_tot_B (by omega)) g
      have estep : mv_bg (mv_tot a n r p0) (g + 1) = (match mv_tot a n r p0 g, mv_bg (mv_tot a n r p0) g with
        | some v, none => some (v, g)
        | some v, some u => if v < u.1 then some (v, g) else some u
        | none, o => o) := rfl
      rw [estep] at nx
      cases hto : mv_tot a n r p0 g with
      | none =>
        rw [hto] at nx htB
        refine mv_J.f ?_ (mv_J.cut nx)
        intro h1
        have h1 : 1000000 < mv_e6 (mv_o1 (mv_bg (mv_tot a n r p0) g)) := h1
        cases hbo : mv_o1 (mv_bg (mv_tot a n r p0) g) with
        | none => rw [hbo] at h1; exact absurd h1 (by decide)
        | some w =>
          rw [hbo] at h1 hbB
          have := hbB w rfl
          have h1 : 1000000 < w := h1
          omega
      | some w =>
        rw [hto] at nx htB
        have hw6 := htB w rfl
        cases hbo : mv_bg (mv_tot a n r p0) g with
        | none =>
          rw [hbo] at nx
          exact mv_J.t hw6.2 (mv_J.cut nx)
        | some u =>
          rw [hbo] at nx
          dsimp only at nx
          refine mv_J.i (fun h1 => mv_J.cut ?_) (fun h1 => mv_J.cut ?_)
          · have h1 : w < u.1 := h1
            rw [if_pos h1] at nx
            exact nx
          · have h1 : ¬ w < u.1 := h1
            rw [if_neg h1] at nx
            exact nx
  have := key (n + 1) 0 G1 (by omega) (hc1.mono rfl rfl) hR1
  exact this
end MJ
