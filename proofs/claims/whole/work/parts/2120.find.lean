/-! ROOM, the class: the seats out of the table, and the best gap. -/
def mv_po (f : Nat → Option Int) (t : Option Int) : Nat → Nat → Nat
  | 0, y => y
  | q + 1, y => if f y = t then y else mv_po f t q (y + 1)
theorem mv_mn_at {f : Nat → Option Int} : ∀ q y v, mv_mn f q y = some v → ∃ z, y ≤ z ∧ z < y + q ∧ f z = some v
  | 0, _, _, h => by cases h
  | q + 1, y, v, h => by
    unfold mv_mn at h
    cases h1 : f y with
    | none =>
      rw [h1] at h
      obtain ⟨z, h2, h3, h4⟩ := mv_mn_at q (y + 1) v h
      exact ⟨z, by omega, by omega, h4⟩
    | some u =>
      rw [h1] at h
      cases h2 : mv_mn f q (y + 1) with
      | none =>
        rw [h2] at h
        exact ⟨y, Nat.le_refl _, by omega, by rw [h1]; exact h⟩
      | some u2 =>
        rw [h2] at h
        unfold mv_om at h
        dsimp only at h
        split at h
        · cases h
          obtain ⟨z, h2, h3, h4⟩ := mv_mn_at q (y + 1) _ h2
          exact ⟨z, by omega, by omega, h4⟩
        · cases h
          exact ⟨y, Nat.le_refl _, by omega, h1⟩
theorem mv_po_sp {f : Nat → Option Int} {t : Option Int} : ∀ q y, (∃ z, y ≤ z ∧ z < y + q ∧ f z = t) → y ≤ mv_po f t q y ∧ mv_po f t q y < y + q ∧ f (mv_po f t q y) = t ∧ ∀ x, y ≤ x → x < mv_po f t q y → f x ≠ t
  | 0, y, ⟨z, h1, h2, _⟩ => by omega
  | q + 1, y, ⟨z, h1, h2, h3⟩ => by
    unfold mv_po
    by_cases e : f y = t
    · rw [if_pos e]
      exact ⟨Nat.le_refl _, by omega, e, fun x h4 h5 => by omega⟩
    · rw [if_neg e]
      have hz : z ≠ y := fun h => e (h ▸ h3)
      obtain ⟨g1, g2, g3, g4⟩ := mv_po_sp (f := f) (t := t) q (y + 1) ⟨z, by omega, by omega, h3⟩
      refine ⟨by omega, by omega, g3, fun x h4 h5 => ?_⟩
      by_cases e2 : x = y
      · rw [e2]; exact e
      · exact g4 x (by omega) h5
/-- from where on one of the line is looked for -/
noncomputable def mv_yy (a : mv_a) (p0 : Nat) (it : Nat → Nat) (c : Nat) : Nat → Nat
  | 0 => 0
  | i + 1 => mv_po (mv_xi a p0 it c i) (mv_lm a p0 it c i (mv_yy a p0 it c i)) ((a 0 0).toNat - mv_yy a p0 it c i) (mv_yy a p0 it c i) + (mv_dd a (it i) (it (i + 1))).toNat
/-- where one of the line sits then -/
noncomputable def mv_xx (a : mv_a) (p0 : Nat) (it : Nat → Nat) (c i : Nat) : Nat := mv_po (mv_xi a p0 it c i) (mv_lm a p0 it c i (mv_yy a p0 it c i)) ((a 0 0).toNat - mv_yy a p0 it c i) (mv_yy a p0 it c i)
theorem mv_oa_some {a b : Option Int} {v : Int} (h : mv_oa a b = some v) : ∃ x y, a = some x ∧ b = some y := by
  unfold mv_oa at h
  split at h
  · exact ⟨_, _, rfl, rfl⟩
  · cases h
/-- the first of the line has a finite cost: then all have -/
theorem mv_xx_sp {a : mv_a} {p0 c : Nat} {it : Nat → Nat} {v0 : Int} (h0 : mv_lm a p0 it c 0 0 = some v0) : ∀ i, i < c → ∃ v, mv_lm a p0 it c i (mv_yy a p0 it c i) = some v ∧ mv_yy a p0 it c i ≤ mv_xx a p0 it c i ∧ mv_xx a p0 it c i < (a 0 0).toNat ∧ mv_xi a p0 it c i (mv_xx a p0 it c i) = some v ∧ (∀ x, mv_yy a p0 it c i ≤ x → x < mv_xx a p0 it c i → mv_xi a p0 it c i x ≠ some v) ∧ ∃ u, mv_wt a p0 (it i) (mv_xx a p0 it c i) = some u
  | i, hi => by
    have hs : ∃ v, mv_lm a p0 it c i (mv_yy a p0 it c i) = some v := by
      cases i with
      | zero => exact ⟨v0, h0⟩
      | succ i =>
        obtain ⟨v, h1, h2, h3, h4, h5, h6⟩ := mv_xx_sp h0 i (by omega)
        rw [mv_xi_step (by omega)] at h4
        obtain ⟨x, y, h7, h8⟩ := mv_oa_some h4
        exact ⟨y, h8⟩
    obtain ⟨v, hv⟩ := hs
    have hv2 := hv
    unfold mv_lm at hv2
    have hp := mv_po_sp _ _ (mv_mn_at _ _ _ hv2)
    have e : mv_po (mv_xi a p0 it c i) (some v) ((a 0 0).toNat - mv_yy a p0 it c i) (mv_yy a p0 it c i) = mv_xx a p0 it c i := by unfold mv_xx; rw [hv]
    rw [e] at hp
    obtain ⟨p1, p2, p3, p4⟩ := hp
    refine ⟨v, hv, p1, by omega, p3, p4, ?_⟩
    by_cases hc : i + 1 < c
    · rw [mv_xi_step hc] at p3
      obtain ⟨x, y, h7, h8⟩ := mv_oa_some p3
      exact ⟨x, h7⟩
    · rw [mv_xi_last hc] at p3
      exact ⟨v, p3⟩
theorem mv_yy_lt {a : mv_a} {p0 c : Nat} {it : Nat → Nat} {v0 : Int} (h0 : mv_lm a p0 it c 0 0 = some v0) {i : Nat} (hi : i < c) : mv_yy a p0 it c i < (a 0 0).toNat := by
  obtain ⟨v, h1, h2, h3, -⟩ := mv_xx_sp h0 i hi
  omega
theorem mv_cx_eq {k : Nat} {x : Int} {o : Option Int} {v : Int} (hk : k ≤ 10) (ho : mv_Qv k o) (hv : mv_Qv k (some v)) (h : mv_cx x o) : x = mv_ph v ↔ o = some v := by
  have b := mv_Qv_b hk hv
  cases o with
  | none =>
    unfold mv_cx at h
    dsimp only at h
    constructor
    · intro h2; omega
    · intro h2; cases h2
  | some u =>
    unfold mv_cx at h
    dsimp only at h
    constructor
    · intro h2
      rw [mv_ph_inj hk ho hv (by omega)]
    · intro h2
      cases h2
      exact h
section FI
variable {G : mv_G} {a : mv_a} {p0 c : Nat} {it : Nat → Nat}
set_option maxHeartbeats 1000000 in
theorem fx_settle (hB : mv_cB G a) (hi : mv_iB a) (hl : mv_ln a p0 it c) (hj : ∀ i j, i < c → j < c → it i = it j → i = j) (h80 : ∀ i, i < c → G 80 0 i = it i) (ht : ∀ i, i < c → mv_tb G a p0 it c i) {v0 : Int} (h0 : mv_lm a p0 it c 0 0 = some v0) : mv_Kp (ff_X8_settle [.inr (74, 0), .inl c] G) (fun _ G' => (∀ i, i < c → G' 75 0 (it i) = ((mv_xx a p0 it c i : Nat) : Int)) ∧ mv_ch [75] [] G G') := by
  have b1 := hi.1
  have hc10 := hl.1
  obtain ⟨P, hP⟩ : ∃ P : Int → mv_G → Prop, P = (fun _ G' => (∀ i, i < c → G' 75 0 (it i) = ((mv_xx a p0 it c i : Nat) : Int)) ∧ mv_ch [75] [] G G') := ⟨_, rfl⟩
  rw [← hP]
  have key : ∀ (q i : Nat) (y : Int) (G1 : mv_G), i + q = c → (i < c → y = mv_yy a p0 it c i) → mv_ch [75] [] G G1 → (∀ j, j < i → G1 75 0 (it j) = ((mv_xx a p0 it c j : Nat) : Int)) → mv_JP mm_X8_settle P 4 [some (.inr (74, 0)), some (.inl (c : Int)), some (.inl y), some (.inl (i : Int)), none] G1 := by
    intro q
    induction q with
    | zero =>
      intro i y G1 hq hy hc hd
      refine mv_JP.of (rg_X8_settle_4 _ _ _ G1) (mv_J.f (by omega) (mv_J.ret ?_))
      rw [hP]
      exact ⟨fun j h => hd j (by omega), hc⟩
    | succ q ih =>
      intro i y G1 hq hy hc hd
      have hic : i < c := by omega
      rw [hy hic]
      refine mv_JP.of (rg_X8_settle_4 _ _ _ G1) (mv_J.t (by omega) (mv_J.cut ?_))
      obtain ⟨v, s1, s2, s3, s4, s5, s6⟩ := mv_xx_sp h0 i hic
      have hylt := mv_yy_lt h0 hic
      have hti := ht i hic
      have q0 := (hl.2 i hic).1
      have inner : ∀ (m z : Nat), z + m = mv_xx a p0 it c i → mv_yy a p0 it c i ≤ z → mv_JP mm_X8_settle P 12 [some (.inr (74, 0)), some (.inl (c : Int)), some (.inl ((mv_yy a p0 it c i : Nat) : Int)), some (.inl (i : Int)), some (.inl (z : Int))] G1 := by
        intro m
        induction m with
        | zero =>
          intro z hz hyz
          refine mv_JP.of (rg_X8_settle_12 _ _ _ _ G1) ?_
          rw [(hB.ch hc (by decide)).1.1, Int.toNat_natCast, Int.toNat_natCast, Int.toNat_natCast, hc.cell 78 rfl, hc.cell 79 rfl, hc.cell 80 rfl, h80 i hic]
          have e1 := hti.1 z (by omega)
          have e2 := hti.2 (mv_yy a p0 it c i) (by omega)
          rw [s1] at e2
          have e2 : G 79 (i + 1) (mv_yy a p0 it c i) = mv_ph v := e2
          have hQv : mv_Qv (c - 1 - i + 1) (some v) := by rw [← s1]; exact mv_lm_Q
          have eq := (mv_cx_eq (k := c - 1 - i + 1) (by omega) mv_xi_Q hQv e1).mpr (by rw [show z = mv_xx a p0 it c i by omega]; exact s4)
          refine mv_J.t (by omega) (mv_J.ck (by omega) (mv_J.ck (by omega) (mv_J.ck (by omega) (mv_J.ck (by omega) (mv_J.t (by rw [eq, e2]) (mv_J.ck (by omega) (mv_J.ck (by omega) ?_)))))))
          rw [Int.toNat_natCast]
          have hc2 : mv_ch [75] [] G (mv_up G1 75 0 (it i) z) := hc.uc rfl
          have e75 : ∀ j, j < i + 1 → (mv_up G1 75 0 (it i) (z : Int)) 75 0 (it j) = ((mv_xx a p0 it c j : Nat) : Int) := fun j h => by
            rw [mv_up_at]
            split
            · next h2 =>
              have := hj j i (by omega) hic h2
              subst this
              omega
            · next h2 =>
              refine hd j ?_
              by_cases h3 : j = i
              · exact absurd (by rw [h3]) h2
              · omega
          generalize mv_up G1 75 0 (it i) (z : Int) = G2 at hc2 e75
          have hB2 := hB.ch hc2 (by decide)
          refine mv_J.ce (fx_takesWithKeep hB2 hi hl (fun j h => by rw [hc2.cell 80 rfl]; exact h80 j h) i hic) ?_
          have tb1 : 1 ≤ (if i + 1 < c then mv_dd a (it i) (it (i + 1)) else mv_tk a (it i)) ∧ (if i + 1 < c then mv_dd a (it i) (it (i + 1)) else mv_tk a (it i)) ≤ 45 := by
            split
            · have := mv_dd_b hi q0 (hl.2 (i + 1) (by omega)).1
              omega
            · have := mv_dd_b hi q0 q0
              omega
          rw [hB2.1.1, mv_ws (x := (z : Int) + _) (by omega), mv_ws (x := (i : Int) + 1) (by omega)]
          refine mv_J.ce (mv_min_eq _ _ _) (mv_J.cut ?_)
          refine ih (i + 1) _ G2 (by omega) (fun h => ?_) hc2 e75
          have hlt := mv_yy_lt h0 h
          have ey : mv_yy a p0 it c (i + 1) = mv_xx a p0 it c i + (mv_dd a (it i) (it (i + 1))).toNat := rfl
          have db := mv_dd_b hi q0 (hl.2 (i + 1) h).1
          rw [if_pos h, if_neg (by omega), ey]
          omega
        | succ m ihm =>
          intro z hz hyz
          refine mv_JP.of (rg_X8_settle_12 _ _ _ _ G1) ?_
          rw [(hB.ch hc (by decide)).1.1, Int.toNat_natCast, Int.toNat_natCast, Int.toNat_natCast, hc.cell 78 rfl, hc.cell 79 rfl]
          have e1 := hti.1 z (by omega)
          have e2 := hti.2 (mv_yy a p0 it c i) (by omega)
          rw [s1] at e2
          have e2 : G 79 (i + 1) (mv_yy a p0 it c i) = mv_ph v := e2
          have hQv : mv_Qv (c - 1 - i + 1) (some v) := by rw [← s1]; exact mv_lm_Q
          have ne : ¬ G 78 (i + 1) z = G 79 (i + 1) (mv_yy a p0 it c i) := fun h => by
            rw [e2] at h
            exact s5 z hyz (by omega) ((mv_cx_eq (k := c - 1 - i + 1) (by omega) mv_xi_Q hQv e1).mp h)
          refine mv_J.t (by omega) (mv_J.ck (by omega) (mv_J.ck (by omega) (mv_J.ck (by omega) (mv_J.ck (by omega) (mv_J.f ne (mv_J.cut ?_))))))
          rw [mv_ws (by omega)]
          exact ihm (z + 1) (by omega) (by omega)
      exact inner (mv_xx a p0 it c i - mv_yy a p0 it c i) (mv_yy a p0 it c i) (by omega) (Nat.le_refl _)
  refine mv_Kp.of (mv_JP.of (rg_X8_settle_0 c G) (mv_J.cut ?_))
  exact key c 0 0 G (by omega) (fun _ => rfl) mv_ch.rf (fun j h => by omega)
end FI
/-- the best of the first so many gaps -/
def mv_bg (tot : Nat → Option Int) : Nat → Option (Int × Nat)
  | 0 => none
  | g + 1 => match tot g, mv_bg tot g with
    | some v, none => some (v, g)
    | some v, some u => if v < u.1 then some (v, g) else some u
    | none, o => o
theorem mv_bg_sp {tot : Nat → Option Int} : ∀ g u, mv_bg tot g = some u → u.2 < g ∧ tot u.2 = some u.1
  | 0, _, h => by cases h
  | g + 1, u, h => by
    unfold mv_bg at h
    cases h1 : tot g with
    | none =>
      rw [h1] at h
      have := mv_bg_sp g u h
      exact ⟨by omega, this.2⟩
    | some v =>
      rw [h1] at h
      cases h2 : mv_bg tot g with
      | none =>
        rw [h2] at h
        cases h
        exact ⟨Nat.lt_succ_self _, h1⟩
      | some w =>
        rw [h2] at h
        dsimp only at h
        split at h
        · cases h; exact ⟨Nat.lt_succ_self _, h1⟩
        · cases h
          have := mv_bg_sp g _ h2
          exact ⟨by omega, this.2⟩
/-- the line that has the asker in a gap -/
def mv_itg (r : mv_a) (p0 g : Nat) : Nat → Nat := fun i => if i < g then (r 4 i).toNat else if i = g then p0 else (r 4 (i - 1)).toNat
noncomputable def mv_tot (a : mv_a) (n : Nat) (r : mv_a) (p0 g : Nat) : Option Int := mv_lm a p0 (mv_itg r p0 g) (n + 1) 0 0
/-- the best gap: its cost, and which -/
noncomputable def mv_fd (a : mv_a) (n : Nat) (r : mv_a) (p0 : Nat) : Option (Int × Nat) := mv_bg (mv_tot a n r p0) (n + 1)
theorem mv_gat_le2 {a : mv_a} {s : Int} {p0 : Nat} (h : a 3 p0 = -1) : ∀ p, (mv_gat a s p).1 + (if p0 < p then 1 else 0) ≤ p
  | 0 => by rw [if_neg (by omega)]; exact Nat.le_refl _
  | p + 1 => by
    have ih := mv_gat_le2 (s := s) h p
    unfold mv_gat
    split
    · next c =>
      have : p ≠ p0 := fun e => c.2 (e ▸ h)
      dsimp only
      split
      · rw [if_pos (by omega)] at ih; omega
      · rw [if_neg (by omega)] at ih; omega
    · split
      · split at ih <;> omega
      · rw [if_neg (by omega)] at ih; omega
/-- the line of a gap is a good one -/
theorem mv_itg_ok {a : mv_a} {s : Int} {p0 g : Nat} (hi : mv_iB a) (hp : (p0 : Int) < a 0 1) (h0 : a 3 p0 = -1) (hg : g ≤ (mv_gat a s (a 0 1).toNat).1) : mv_ln a p0 (mv_itg (mv_gat a s (a 0 1).toNat).2 p0 g) ((mv_gat a s (a 0 1).toNat).1 + 1) ∧ ∀ i j, i < (mv_gat a s (a 0 1).toNat).1 + 1 → j < (mv_gat a s (a 0 1).toNat).1 + 1 → mv_itg (mv_gat a s (a 0 1).toNat).2 p0 g i = mv_itg (mv_gat a s (a 0 1).toNat).2 p0 g j → i = j := by
  have b1 := hi.1
  have hle := mv_gat_le2 (s := s) h0 (a 0 1).toNat
  rw [if_pos (by omega)] at hle
  have hok := mv_gat_ok (s := s) hi (a 0 1).toNat (by omega)
  have hmem := mv_gat_mem (a := a) (s := s) (a 0 1).toNat
  generalize mv_gat a s (a 0 1).toNat = gr at hle hok hmem hg
  obtain ⟨n, r⟩ := gr
  dsimp only at hle hok hmem hg ⊢
  have who : ∀ i, i < n → ((r 4 i).toNat : Int) < a 0 1 ∧ a 3 (r 4 i).toNat ≠ -1 ∧ r 0 i = a 3 (r 4 i).toNat := fun i h => by
    obtain ⟨q, h1, h2, h3, h4⟩ := hmem i h
    have e4 : r 4 i = (q : Int) := congrFun h4 4
    have e0 : r 0 i = a 3 q := congrFun h4 0
    rw [e4, Int.toNat_natCast]
    exact ⟨by omega, h2, e0⟩
  have inj : ∀ i j, i < n → j < n → (r 4 i).toNat = (r 4 j).toNat → i = j := fun i j h1 h2 h3 => by
    have e1 := (who i h1).2.2
    have e2 := (who j h2).2.2
    rw [h3, ← e2] at e1
    have q1 := hok.2 i h1
    have q2 := hok.2 j h2
    rcases Nat.lt_trichotomy i j with h4 | h4 | h4
    · have := q1.2.2.2 j h4 h2; omega
    · exact h4
    · have := q2.2.2.2 i h4 h1; omega
  have ne : ∀ i, i < n → (r 4 i).toNat ≠ p0 := fun i h e => (who i h).2.1 (by rw [e]; exact h0)
  refine ⟨⟨by omega, fun i h => ?_⟩, fun i j h1 h2 h3 => ?_⟩
  · unfold mv_itg
    by_cases c1 : i < g
    · rw [if_pos c1]
      exact ⟨(who i (by omega)).1, fun _ => (who i (by omega)).2.1⟩
    · rw [if_neg c1]
      by_cases c2 : i = g
      · rw [if_pos c2]
        exact ⟨hp, fun h => absurd rfl h⟩
      · rw [if_neg c2]
        exact ⟨(who (i - 1) (by omega)).1, fun _ => (who (i - 1) (by omega)).2.1⟩
  · unfold mv_itg at h3
    by_cases c1 : i < g <;> by_cases d1 : j < g
    · rw [if_pos c1, if_pos d1] at h3
      exact inj i j (by omega) (by omega) h3
    · rw [if_pos c1, if_neg d1] at h3
      by_cases d2 : j = g
      · rw [if_pos d2] at h3
        exact absurd h3 (ne i (by omega))
      · rw [if_neg d2] at h3
        have := inj i (j - 1) (by omega) (by omega) h3
        omega
    · rw [if_neg c1, if_pos d1] at h3
      by_cases c2 : i = g
      · rw [if_pos c2] at h3
        exact absurd h3.symm (ne j (by omega))
      · rw [if_neg c2] at h3
        have := inj (i - 1) j (by omega) (by omega) h3
        omega
    · rw [if_neg c1, if_neg d1] at h3
      by_cases c2 : i = g <;> by_cases d2 : j = g
      · omega
      · rw [if_pos c2, if_neg d2] at h3
        exact absurd h3.symm (ne (j - 1) (by omega))
      · rw [if_neg c2, if_pos d2] at h3
        exact absurd h3 (ne (i - 1) (by omega))
      · rw [if_neg c2, if_neg d2] at h3
        have := inj (i - 1) (j - 1) (by omega) (by omega) h3
        omega
section FJ
variable {G : mv_G} {a : mv_a} {p0 : Nat}
/-- what the class has of the best gap -/
def mv_cF (G : mv_G) (a : mv_a) (n : Nat) (r : mv_a) (p0 : Nat) (o : Option (Int × Nat)) : Prop := match o with
  | none => G 74 0 8 = 1000000
  | some u => G 74 0 8 = mv_ph u.1 ∧ ∀ i, i < n + 1 → G 75 0 (mv_itg r p0 u.2 i) = mv_xx a p0 (mv_itg r p0 u.2) (n + 1) i
set_option maxHeartbeats 2000000 in
theorem fx_find (hB : mv_cB G a) (hi : mv_iB a) (hK : mv_kC G a) (hp : (p0 : Int) < a 0 1) (h0 : a 3 p0 = -1) (s : Int) : mv_Kp (ff_X8_find [.inr (74, 0), .inl p0, .inl s] G) (fun v G' => v = mv_b (mv_fd a (mv_gat a s (a 0 1).toNat).1 (mv_gat a s (a 0 1).toNat).2 p0 ≠ none) ∧ mv_cF G' a (mv_gat a s (a 0 1).toNat).1 (mv_gat a s (a 0 1).toNat).2 p0 (mv_fd a (mv_gat a s (a 0 1).toNat).1 (mv_gat a s (a 0 1).toNat).2 p0) ∧ mv_ch [67, 68, 69, 70, 71, 75, 78, 79, 80] [(66, 0), (74, 8)] G G') := by
  have b1 := hi.1
  have hle := mv_gat_le2 (s := s) h0 (a 0 1).toNat
  rw [if_pos (by omega)] at hle
  have hln := fun g hg => mv_itg_ok (s := s) (g := g) hi hp h0 hg
  refine mv_Kp.of (mv_JP.of (rg_X8_find_0 p0 s G) (mv_J.cn (fx_gather hB hi s) (fun v G1 h1 => mv_J.cut ?_)))
  obtain ⟨hR1, hc1⟩ := h1
  obtain ⟨n, r, hg⟩ : ∃ n r, mv_gat a s (a 0 1).toNat = (n, r) := ⟨_, _, rfl⟩
  rw [hg] at hle hln hR1 ⊢
  dsimp only at hle hln hR1 ⊢
  obtain ⟨P, hP⟩ : ∃ P : Int → mv_G → Prop, P = (fun v G' => v = mv_b (mv_fd a n r p0 ≠ none) ∧ mv_cF G' a n r p0 (mv_fd a n r p0) ∧ mv_ch [67, 68, 69, 70, 71, 75, 78, 79, 80] [(66, 0), (74, 8)] G G') := ⟨_, rfl⟩
  rw [← hP]
  have Qb : ∀ g u, mv_bg (mv_tot a n r p0) g = some u → mv_Qv (n + 1) (some u.1) := fun g u h => by
    rw [← (mv_bg_sp g u h).2]
    have := mv_lm_Q (a := a) (p0 := p0) (it := mv_itg r p0 u.2) (c := n + 1) (i := 0) (y := 0)
    rw [show n + 1 - 1 - 0 + 1 = n + 1 by omega] at this
    exact this
  have endd : ∀ G1, mv_ch [67, 68, 69, 70, 71, 75, 78, 79, 80] [(66, 0), (74, 8)] G G1 → mv_cF G1 a n r p0 (mv_fd a n r p0) → mv_J mm_X8_find P (if G1 74 0 8 < 1000000 then mv_rzc 0 1 1 (some (.inl (1, G1))) else mv_rzc 0 1 0 (some (.inl (0, G1)))) := fun G1 hc hF => by
    have hF2 := hF
    cases ho : mv_fd a n r p0 with
    | none =>
      rw [ho] at hF2
      have hF2 : G1 74 0 8 = 1000000 := hF2
      refine mv_J.f (by omega) (mv_J.r0 (Or.inl rfl) ?_)
      rw [hP]
      exact ⟨(mv_b0 (fun h => h ho)).symm, hF, hc⟩
    | some u =>
      rw [ho] at hF2
      have hF3 : G1 74 0 8 = mv_ph u.1 := hF2.1
      have := mv_Qv_b (k := n + 1) (by omega) (Qb (n + 1) u ho)
      refine mv_J.t (by omega) (mv_J.r0 (Or.inr rfl) ?_)
      rw [hP]
      exact ⟨(mv_b1 (by rw [ho]; exact fun h => by cases h)).symm, hF, hc⟩
  have key : ∀ (q g : Nat) (G1 : mv_G), g + q = n + 1 → mv_ch [67, 68, 69, 70, 71, 75, 78, 79, 80] [(66, 0), (74, 8)] G G1 → mv_cR G1 n r → mv_cF G1 a n r p0 (mv_bg (mv_tot a n r p0) g) → mv_JP mm_X8_find P 20 [some (.inr (74, 0)), some (.inl (p0 : Int)), none, some (.inl (g : Int)), none] G1 := by
    intro q
    induction q with
    | zero =>
      intro g G1 hq hc hR hF
      refine mv_JP.of (rg_X8_find_20 _ _ G1) ?_
      rw [hR.1]
      refine mv_J.t (by omega) (endd G1 hc ?_)
      unfold mv_fd
      rw [show n + 1 = g by omega]
      exact hF
    | succ q ih =>
      intro g G1 hq hc hR hF
      refine mv_JP.of (rg_X8_find_20 _ _ G1) ?_
      rw [hR.1]
      refine mv_J.f (by omega) (mv_J.t (by omega) (mv_J.cut ?_))
      obtain ⟨hl, hinj⟩ := hln g (by omega)
      have line : ∀ (m i : Nat) (G2 : mv_G), i + m = n + 1 → mv_ch [67, 68, 69, 70, 71, 75, 78, 79, 80] [(66, 0), (74, 8)] G G2 → mv_cR G2 n r → mv_cF G2 a n r p0 (mv_bg (mv_tot a n r p0) g) → (∀ j, j < i → G2 80 0 j = mv_itg r p0 g j) → mv_JP mm_X8_find P 46 [some (.inr (74, 0)), some (.inl (p0 : Int)), none, some (.inl (g : Int)), some (.inl (i : Int))] G2 := by
        intro m
        induction m with
        | zero =>
          intro i G2 hm hc2 hR2 hF2 h80
          have hB2 := hB.ch hc2 (by decide)
          have hK2 : mv_kC G2 a := by unfold mv_kC; rw [hc2.cell 77 rfl]; exact hK
          have h80' : ∀ j, j < n + 1 → G2 80 0 j = mv_itg r p0 g j := fun j h => h80 j (by omega)
          refine mv_JP.of (rg_X8_find_46 _ _ _ G2) ?_
          rw [hR2.1, mv_ws (x := (n : Int) + 1) (by omega), mv_ws (x := (g : Int) + 1) (by omega), show (n : Int) + 1 = ((n + 1 : Nat) : Int) by omega]
          refine mv_J.t (by omega) (mv_J.cn (fx_weigh hB2 hi hK2 hl h80') (fun v G3 h3 => mv_J.ck (by omega) (mv_J.ck (by omega) ?_)))
          obtain ⟨ht3, hc3⟩ := h3
          have hc23 := hc2.tr (hc3.mono (S2 := [67, 68, 69, 70, 71, 75, 78, 79, 80]) (T2 := [(66, 0), (74, 8)]) rfl rfl)
          have hR3 := hR2.ch hc3 (by decide) rfl
          have hF3 : mv_cF G3 a n r p0 (mv_bg (mv_tot a n r p0) g) := by
            unfold mv_cF
            rw [hc3.cell 74 rfl, hc3.cell 75 rfl]
            exact hF2
          have hz := (ht3 0 (by omega)).2 0 (by omega)
          have hz : mv_cz (G3 79 1 0) (mv_tot a n r p0 g) := hz
          have hQt : mv_Qv (n + 1) (mv_tot a n r p0 g) := by
            have := mv_lm_Q (a := a) (p0 := p0) (it := mv_itg r p0 g) (c := n + 1) (i := 0) (y := 0)
            rw [show n + 1 - 1 - 0 + 1 = n + 1 by omega] at this
            exact this
          -- whether this gap is better
          have keep : mv_bg (mv_tot a n r p0) (g + 1) = mv_bg (mv_tot a n r p0) g → mv_J mm_X8_find P (some (.inr (20, [some (.inr (74, 0)), some (.inl (p0 : Int)), none, some (.inl ((g : Int) + 1)), none], G3))) := fun e => mv_J.cut (by
            have := ih (g + 1) G3 (by omega) hc23 hR3 (by rw [e]; exact hF3)
            exact this)
          have take : ∀ v, mv_tot a n r p0 g = some v → mv_bg (mv_tot a n r p0) (g + 1) = some (v, g) → mv_J mm_X8_find P (mv_ck 0 10 (mv_ck 0 61 (mv_cn (ff_X8_settle [.inr (74, 0), .inl (mv_w ((mv_up G3 74 0 8 (G3 79 1 0)) 66 0 0 + 1))] (mv_up G3 74 0 8 (G3 79 1 0))) fun r1 G1 => some (.inr (20, [some (.inr (74, 0)), some (.inl (p0 : Int)), none, some (.inl ((g : Int) + 1)), none], G1))))) := fun v hv hb => by
            have hc4 : mv_ch [] [(74, 8)] G3 (mv_up G3 74 0 8 (G3 79 1 0)) := mv_ch.rf.up rfl
            have e748 : (mv_up G3 74 0 8 (G3 79 1 0)) 74 0 8 = mv_ph v := by
              rw [mv_ups_eq]
              rw [hv] at hz
              exact hz
            rw [mv_up_k (by decide : (66 : Nat) ≠ 74), hR3.1, mv_ws (by omega), show (n : Int) + 1 = ((n + 1 : Nat) : Int) by omega]
            generalize mv_up G3 74 0 8 (G3 79 1 0) = G4 at hc4 e748
            have hB4 := hB.ch (hc23.tr (hc4.mono (S2 := [67, 68, 69, 70, 71, 75, 78, 79, 80]) (T2 := [(66, 0), (74, 8)]) rfl rfl)) (by decide)
            refine mv_J.ck (by omega) (mv_J.ck (by omega) (mv_J.cn (fx_settle hB4 hi hl hinj (fun j h => by rw [hc4.cell 80 rfl, hc3.cell 80 rfl]; exact h80' j h) (fun j h => by unfold mv_tb; rw [hc4.cell 78 rfl, hc4.cell 79 rfl]; exact ht3 j h) hv) (fun w G5 h5 => mv_J.cut ?_)))
            have := ih (g + 1) G5 (by omega) ((hc23.tr (hc4.mono rfl rfl)).tr (h5.2.mono rfl rfl)) ((hR3.ch hc4 (by decide) rfl).ch h5.2 (by decide) rfl) (by
              rw [hb]
              exact ⟨by rw [h5.2.cell 74 rfl]; exact e748, h5.1⟩)
            exact this
          cases hto : mv_tot a n r p0 g with
          | none =>
            have hz2 := hz
            rw [hto] at hz2
            have hz2 : G3 79 1 0 = 1000000 := hz2
            have e : mv_bg (mv_tot a n r p0) (g + 1) = mv_bg (mv_tot a n r p0) g := by
              show (match mv_tot a n r p0 g, mv_bg (mv_tot a n r p0) g with | some v, none => some (v, g) | some v, some u => if v < u.1 then some (v, g) else some u | none, o => o) = _
              rw [hto]
            refine mv_J.f ?_ (keep e)
            cases hbo : mv_bg (mv_tot a n r p0) g with
            | none =>
              rw [hbo] at hF3
              have hF3 : G3 74 0 8 = 1000000 := hF3
              omega
            | some u =>
              rw [hbo] at hF3
              have hF4 : G3 74 0 8 = mv_ph u.1 := hF3.1
              have := mv_Qv_b (k := n + 1) (by omega) (Qb g u hbo)
              omega
          | some v =>
            have hz2 := hz
            rw [hto] at hz2
            have hz2 : G3 79 1 0 = mv_ph v := hz2
            rw [hto] at hQt
            have hvb := mv_Qv_b (k := n + 1) (by omega) hQt
            cases hbo : mv_bg (mv_tot a n r p0) g with
            | none =>
              have e : mv_bg (mv_tot a n r p0) (g + 1) = some (v, g) := by
                show (match mv_tot a n r p0 g, mv_bg (mv_tot a n r p0) g with | some v, none => some (v, g) | some v, some u => if v < u.1 then some (v, g) else some u | none, o => o) = _
                rw [hto, hbo]
              rw [hbo] at hF3
              have hF3 : G3 74 0 8 = 1000000 := hF3
              exact mv_J.t (by omega) (take v hto e)
            | some u =>
              have hF4 := hF3
              rw [hbo] at hF4
              have hF4 : G3 74 0 8 = mv_ph u.1 := hF4.1
              have hlt := mv_ph_lt (k := n + 1) (by omega) hQt (Qb g u hbo)
              have e0 : mv_bg (mv_tot a n r p0) (g + 1) = if v < u.1 then some (v, g) else some u := by
                show (match mv_tot a n r p0 g, mv_bg (mv_tot a n r p0) g with | some v, none => some (v, g) | some v, some u => if v < u.1 then some (v, g) else some u | none, o => o) = _
                rw [hto, hbo]
              refine mv_J.i (fun h6 => ?_) (fun h6 => ?_)
              · rw [hz2, hF4] at h6
                rw [if_pos (hlt.mp h6)] at e0
                exact take v hto e0
              · rw [hz2, hF4] at h6
                rw [if_neg (fun h7 => h6 (hlt.mpr h7))] at e0
                exact keep (by rw [e0, hbo])
        | succ m ihm =>
          intro i G2 hm hc2 hR2 hF2 h80
          refine mv_JP.of (rg_X8_find_46 _ _ _ G2) ?_
          rw [hR2.1, mv_ws (x := (i : Int) + 1) (by omega), Int.toNat_natCast]
          have nx : ∀ v : Int, v = mv_itg r p0 g i → mv_JP mm_X8_find P 46 [some (.inr (74, 0)), some (.inl (p0 : Int)), none, some (.inl (g : Int)), some (.inl ((i : Int) + 1))] (mv_up G2 80 0 i v) := fun v hv => by
            have := ihm (i + 1) (mv_up G2 80 0 i v) (by omega) (hc2.uc rfl) (hR2.ch (S := [80]) (T := []) (mv_ch.rf.uc rfl) (by decide) rfl) (by unfold mv_cF; rw [mv_up_k (by decide), mv_up_k (by decide)]; exact hF2) (fun j h => by
              rw [mv_up_at]
              split
              · next h2 => rw [h2]; exact hv
              · exact h80 j (by omega))
            exact this
          unfold mv_itg at nx
          have mem := mv_gat_mem (a := a) (s := s) (a 0 1).toNat
          rw [hg] at mem
          have wn : ∀ j, j < n → G2 71 0 j = ((r 4 j).toNat : Int) := fun j h => by
            obtain ⟨q2, h1, h2, h3, h4⟩ := mem j h
            have e4 : r 4 j = (q2 : Int) := congrFun h4 4
            have e : G2 71 0 j = r 4 j := hR2.2 4 (by decide) j h
            rw [e, e4, Int.toNat_natCast]
          refine mv_J.f (by omega) (mv_J.i (fun h1 => mv_J.ck (by omega) (mv_J.cut (nx _ ?_))) (fun h1 => mv_J.i (fun h2 => mv_J.ck (by omega) (mv_J.ck (by omega) (mv_J.cut (nx _ ?_)))) (fun h2 => ?_)))
          · rw [if_neg (by omega), if_pos (by omega)]
          · rw [if_pos (by omega)]
            exact wn i (by omega)
          · rw [mv_ws (x := (i : Int) - 1) (by omega), show ((i : Int) - 1).toNat = i - 1 by omega]
            refine mv_J.ck (by omega) (mv_J.ck (by omega) (mv_J.cut (nx _ ?_)))
            rw [if_neg (by omega), if_neg (by omega)]
            exact wn (i - 1) (by omega)
      exact line (n + 1) 0 G1 (by omega) hc hR hF (fun j h => by omega)
  exact key (n + 1) 0 _ (by omega) ((hc1.mono rfl rfl).up rfl) (hR1.ch (S := []) (T := [(74, 8)]) (mv_ch.rf.up rfl) (by decide) rfl) (by show mv_up G1 74 0 8 1000000 74 0 8 = 1000000; exact mv_ups_eq)
end FJ
