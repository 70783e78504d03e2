/-! TEXT: the reference reads a day. -/
def pr_z0 (G G2 : mv_G) : Prop := mv_ch [] [(100, 17), (100, 18), (100, 19), (100, 20), (100, 33), (100, 34)] G G2
def pr_zc (G G2 : mv_G) : Prop := mv_ch [120] [(100, 17), (100, 18), (100, 19), (100, 20), (100, 33), (100, 34)] G G2 ∧ ∀ j, j < 72 → G2 120 0 j = G 120 0 j
theorem pr_zc.rf {G : mv_G} : pr_zc G G := ⟨mv_ch.rf, fun _ _ => rfl⟩
theorem pr_zc.tr {G G2 G3 : mv_G} (h : pr_zc G G2) (h2 : pr_zc G2 G3) : pr_zc G G3 := ⟨h.1.tr h2.1, fun j hj => (h2.2 j hj).trans (h.2 j hj)⟩
theorem pr_z0.c {G G2 : mv_G} (h : pr_z0 G G2) : pr_zc G G2 := ⟨mv_ch.mono h rfl rfl, fun j _ => by rw [mv_ch.cell h 120 rfl]⟩
theorem pr_zc.up {G G2 : mv_G} {j : Nat} {v : Int} (h : pr_zc G G2) (hj : 72 ≤ j) : pr_zc G (mv_up G2 120 0 j v) := ⟨h.1.uc rfl, fun i hi => by rw [mv_up_j (by omega)]; exact h.2 i hi⟩
/-- what the reading finds -/
def pr_zE (G : mv_G) (t : Nat → Int) (n : Nat) (pp : Int) : Prop := G 100 0 16 = (n : Int) ∧ (∀ j, j < n → G 111 0 j = t j) ∧ (∀ j, G 112 0 j = mv_wo.getD j 0) ∧ G 100 0 8 = pp
theorem pr_zE.zc {G G2 : mv_G} {t : Nat → Int} {n : Nat} {pp : Int} (h : pr_zE G t n pp) (hc : pr_zc G G2) : pr_zE G2 t n pp := by
  unfold pr_zE at h ⊢
  rw [hc.1.slot 100 16 rfl, hc.1.slot 100 8 rfl, hc.1.cell 111 rfl, hc.1.cell 112 rfl]
  exact h
def pr_zF (G : mv_G) (t : Nat → Int) (n : Nat) (e : Int × Nat) : Prop := G 100 0 33 = e.1 ∧ G 100 0 34 = ((mv_tbg t n e.2 : Nat) : Int)
/-- the lines of a day that the reference reads -/
def pr_zN (G : mv_G) (j : Nat) (A W H : Nat → Int) : Prop := ∀ l, l < j → G 120 0 (72 + 3 * l) = A l ∧ G 120 0 (72 + 3 * l + 1) = W l ∧ G 120 0 (72 + 3 * l + 2) = H l
def pr_zV (t : Nat → Int) (n : Nat) (R : pr_Y) (r : Int) (G : mv_G) : Prop := match R with
  | .inl (j, A, W, H) => r = (j : Int) ∧ pr_zN G j A W H
  | .inr e => r = -1 ∧ pr_zF G t n e
section ZD
variable {G : mv_G} {t : Nat → Int} {n m : Nat} {pp : Int}
theorem gx_readsZ (hn : n ≤ 400) (hb : ∀ j, j < n → 0 ≤ t j ∧ t j ≤ 255) (hE : pr_zE G t n pp) (k : Nat) (h : mv_mT G t n k) : mv_Kp (ff_X12_reads [.inr (100, 0)] G) (fun _ G' => mv_mT G' t n (k + 1) ∧ pr_z0 G G') :=
  mv_Kp.mono (gx_reads hn hE.1 hE.2.1 hb hE.2.2.1 k h) (fun r G' h2 => ⟨h2.1, h2.2.mono rfl rfl⟩)
theorem gx_errsZ (k : Nat) (h : mv_mT G t n k) (e : Int) : mv_Kp (ff_X12_errs [.inr (100, 0), .inl e] G) (fun r G' => r = -1 ∧ pr_zF G' t n (e, k) ∧ pr_z0 G G') := by
  refine mv_Kp.of (mv_JP.of (rg_X12_errs_0 e G) (mv_J.ret ⟨rfl, ⟨?_, ?_⟩, (mv_ch.rf.up rfl).up rfl⟩))
  · rw [mv_up_j (by decide), mv_ups_eq]
  · rw [mv_ups_eq, mv_up_j (by decide)]
    exact h.1
theorem gx_readNumber (hn : n ≤ 400) (hb : ∀ j, j < n → 0 ≤ t j ∧ t j ≤ 255) (hE : pr_zE G t n pp) (k : Nat) (h : mv_mT G t n k) (x : Int) : mv_Kp (ff_X12_readNumber [.inr (100, 0), .inl 0, .inl x] G) (fun r G' => pr_z0 G G' ∧ ((¬ pr_nb (pr_I t n k) ∧ r = -1 ∧ pr_zF G' t n (1, k)) ∨ (pr_nb (pr_I t n k) ∧ x < pr_I t n k ∧ r = -1 ∧ pr_zF G' t n (2, k)) ∨ (pr_nb (pr_I t n k) ∧ ¬ x < pr_I t n k ∧ r = pr_I t n k ∧ mv_mT G' t n (k + 1)))) := by
  obtain ⟨n1, n2⟩ := pr_tok_n k h
  refine mv_Kp.of (mv_JP.of (rg_X12_readNumber_0 0 x G) (mv_J.i (fun h3 => ?_) (fun h3 => mv_J.cn (gx_errsZ k h 1) (fun r G2 h2 => mv_J.ret ⟨h2.2.2, Or.inl ⟨fun g => h3 (n1.mpr g), h2.1, h2.2.1⟩⟩))))
  have hnb := n1.mp h3
  have n3 := n2 h3
  have n4 := hnb.1
  refine mv_J.ce (gx_isIn _ _ _ _) (mv_J.bt (fun g => mv_J.cn (gx_errsZ k h 2) (fun r G2 h2 => mv_J.ret ⟨h2.2.2, Or.inr (Or.inl ⟨hnb, by omega, h2.1, h2.2.1⟩)⟩)) (fun g => mv_J.cn (gx_readsZ hn hb hE k h) (fun _ G2 h2 => mv_J.ret ⟨h2.2, Or.inr (Or.inr ⟨hnb, by omega, n3, h2.1⟩)⟩)))
set_option maxHeartbeats 2000000 in
set_option maxRecDepth 100000 in
theorem gx_readDayLine (hn : n ≤ 400) (hb : ∀ j, j < n → 0 ≤ t j ∧ t j ≤ 255) (hE : pr_zE G t n pp) (hpp : 0 ≤ pp ∧ pp ≤ 10) (k j : Nat) (h : mv_mT G t n k) (hj : j < 24) (hw : 20006 ≤ pr_I t n k ∧ pr_I t n k ≤ 20008) (h20 : G 100 0 20 = pr_I t n k - 20006 + 18) (A W H : Nat → Int) (hN : pr_zN G j A W H) (R : pr_Y) (f : Nat) (hR : R = pr_if (¬ pr_nb (pr_I t n (k + 1))) (.inr (1, k + 1)) (pr_if (pp - 1 < pr_I t n (k + 1)) (.inr (2, k + 1)) (pr_if (¬ pr_I t n (k + 2) = 20014) (.inr (1, k + 2))
      (pr_if (¬ pr_nb (pr_I t n (k + 3))) (.inr (1, k + 3)) (pr_if (999 < pr_I t n (k + 3)) (.inr (2, k + 3)) (pr_if (¬ pr_I t n (k + 4) = 30059) (.inr (1, k + 4))
      (pr_dy (pr_I t n) pp f (j + 1) (k + 5) (mv_sp A j (pr_I t n k - 20006)) (mv_sp W j (pr_I t n (k + 1))) (mv_sp H j (pr_I t n (k + 3)))))))))) :
    mv_Kp (ff_X12_readDayLine [.inr (100, 0), .inl ((72 + 3 * j : Nat) : Int)] G) (fun r G' => pr_zc G G' ∧ ((∃ e, R = .inr e ∧ r = -1 ∧ pr_zF G' t n e) ∨ (r = 0 ∧ mv_mT G' t n (k + 5) ∧ pr_zN G' (j + 1) (mv_sp A j (pr_I t n k - 20006)) (mv_sp W j (pr_I t n (k + 1))) (mv_sp H j (pr_I t n (k + 3))) ∧ R = pr_dy (pr_I t n) pp f (j + 1) (k + 5) (mv_sp A j (pr_I t n k - 20006)) (mv_sp W j (pr_I t n (k + 1))) (mv_sp H j (pr_I t n (k + 3))) ∧ pr_I t n (k + 4) ≠ -2))) := by
  have mu : ∀ (G2 : mv_G) (k i : Nat) (v : Int), mv_mT G2 t n k → mv_mT (mv_up G2 120 0 i v) t n k := fun G2 k i v h => by
    unfold mv_mT at h ⊢
    rw [mv_up_k (by decide)]
    exact h
  refine mv_Kp.of (mv_JP.of (rg_X12_readDayLine_0 _ G) ?_)
  rw [Int.toNat_natCast, h20, mv_ws (x := pr_I t n k - 20006 + 18 - 18) (by omega), mv_ws (x := ((72 + 3 * j : Nat) : Int) + 1) (by omega), mv_ws (x := ((72 + 3 * j : Nat) : Int) + 2) (by omega), show Int.toNat (((72 + 3 * j : Nat) : Int) + 1) = 72 + 3 * j + 1 by omega, show Int.toNat (((72 + 3 * j : Nat) : Int) + 2) = 72 + 3 * j + 2 by omega, show pr_I t n k - 20006 + 18 - 18 = pr_I t n k - 20006 by omega]
  refine mv_J.ck (by omega) ?_
  have c1 : pr_zc G (mv_up G 120 0 (72 + 3 * j) (pr_I t n k - 20006)) := pr_zc.rf.up (by omega)
  refine mv_J.cn (gx_readsZ hn hb (hE.zc c1) k (mu _ _ _ _ h)) (fun _ G2 h2 => ?_)
  obtain ⟨hT2, d2⟩ := h2
  have c2 := c1.tr d2.c
  have hE2 := hE.zc c2
  rw [hE2.2.2.2, mv_ws (x := pp - 1) (by omega)]
  refine mv_J.cn (gx_readNumber hn hb hE2 (k + 1) hT2 (pp - 1)) (fun r1 G3 h3 => ?_)
  obtain ⟨d3, h3⟩ := h3
  have c3 := c2.tr d3.c
  rw [mv_ups_eq]
  have c3u : ∀ v, pr_zc G (mv_up G3 120 0 (72 + 3 * j + 1) v) := fun v => c3.up (by omega)
  have zu : ∀ (G2 : mv_G) (i : Nat) (v : Int) (e : Int × Nat), pr_zF G2 t n e → pr_zF (mv_up G2 120 0 i v) t n e := fun G2 i v e h => by
    unfold pr_zF at h ⊢
    rw [mv_up_k (by decide)]
    exact h
  rcases h3 with ⟨g1, g2, g3⟩ | ⟨g1, g2, g3, g4⟩ | ⟨g1, g2, g3, g4⟩
  · refine mv_J.ck (by omega) (mv_J.ck (by omega) (mv_J.t g2 (mv_J.ret ⟨c3u _, Or.inl ⟨(1, k + 1), ?_, rfl, zu _ _ _ _ g3⟩⟩)))
    rw [hR, pr_t g1]
  · refine mv_J.ck (by omega) (mv_J.ck (by omega) (mv_J.t g3 (mv_J.ret ⟨c3u _, Or.inl ⟨(2, k + 1), ?_, rfl, zu _ _ _ _ g4⟩⟩)))
    rw [hR, pr_f (fun h => h g1), pr_t g2]
  have g1b := g1.1
  rw [pr_f (fun h => h g1), pr_f g2] at hR
  refine mv_J.ck (by omega) (mv_J.ck (by omega) (mv_J.f (by omega) ?_))
  rw [g3]
  have hT4 := mu G3 (k + 2) (72 + 3 * j + 1) (pr_I t n (k + 1)) g4
  have hv4 : ∀ i, i < 72 + 3 * j + 1 → 72 ≤ i → (mv_up G3 120 0 (72 + 3 * j + 1) (pr_I t n (k + 1))) 120 0 i = if i = 72 + 3 * j then pr_I t n k - 20006 else G 120 0 i := fun i h1 h2 => by
    rw [mv_up_j (by omega), mv_ch.cell d3 120 rfl, mv_ch.cell d2 120 rfl, mv_up_at]
  have hv5 : (mv_up G3 120 0 (72 + 3 * j + 1) (pr_I t n (k + 1))) 120 0 (72 + 3 * j + 1) = pr_I t n (k + 1) := mv_ups_eq
  have c4 := c3u (pr_I t n (k + 1))
  generalize mv_up G3 120 0 (72 + 3 * j + 1) (pr_I t n (k + 1)) = G4 at hT4 hv4 hv5 c4
  refine mv_J.ce (gx_isWord (k + 2) 11 (by decide) hT4) (mv_J.bt (fun q1 => ?_) (fun q1 => ?_))
  · have q1 : ¬ pr_I t n (k + 2) = 20014 := q1
    refine mv_J.cn (gx_errsZ (k + 2) hT4 1) (fun r G5 h5 => mv_J.ret ⟨c4.tr h5.2.2.c, Or.inl ⟨(1, k + 2), ?_, h5.1, h5.2.1⟩⟩)
    rw [hR, pr_t q1]
  have q1 : pr_I t n (k + 2) = 20014 := q1
  rw [pr_f (fun h => h q1)] at hR
  refine mv_J.cn (gx_readsZ hn hb (hE.zc c4) (k + 2) hT4) (fun _ G5 h5 => ?_)
  obtain ⟨hT5, d5⟩ := h5
  have c5 := c4.tr d5.c
  refine mv_J.cn (gx_readNumber hn hb (hE.zc c5) (k + 3) hT5 999) (fun r2 G6 h6 => ?_)
  obtain ⟨d6, h6⟩ := h6
  have c6 := c5.tr d6.c
  have c6u : ∀ v, pr_zc G (mv_up G6 120 0 (72 + 3 * j + 2) v) := fun v => c6.up (by omega)
  rw [mv_ups_eq]
  rcases h6 with ⟨p1, p2, p3⟩ | ⟨p1, p2, p3, p4⟩ | ⟨p1, p2, p3, p4⟩
  · refine mv_J.ck (by omega) (mv_J.ck (by omega) (mv_J.t p2 (mv_J.ret ⟨c6u _, Or.inl ⟨(1, k + 3), ?_, rfl, zu _ _ _ _ p3⟩⟩)))
    rw [hR, pr_t p1]
  · refine mv_J.ck (by omega) (mv_J.ck (by omega) (mv_J.t p3 (mv_J.ret ⟨c6u _, Or.inl ⟨(2, k + 3), ?_, rfl, zu _ _ _ _ p4⟩⟩)))
    rw [hR, pr_f (fun h => h p1), pr_t p2]
  have p1b := p1.1
  rw [pr_f (fun h => h p1), pr_f p2] at hR
  refine mv_J.ck (by omega) (mv_J.ck (by omega) (mv_J.f (by omega) ?_))
  rw [p3]
  have hT7 := mu G6 (k + 4) (72 + 3 * j + 2) (pr_I t n (k + 3)) p4
  have e120 : ∀ i, G6 120 0 i = G4 120 0 i := fun i => by rw [mv_ch.cell d6 120 rfl, mv_ch.cell d5 120 rfl]
  have hN7 : pr_zN (mv_up G6 120 0 (72 + 3 * j + 2) (pr_I t n (k + 3))) (j + 1) (mv_sp A j (pr_I t n k - 20006)) (mv_sp W j (pr_I t n (k + 1))) (mv_sp H j (pr_I t n (k + 3))) := fun l hl => by
    unfold mv_sp
    by_cases e : l = j
    · subst e
      rw [if_pos rfl, if_pos rfl, if_pos rfl, mv_ups_eq, mv_up_j (by omega), mv_up_j (by omega), e120, e120, hv5, hv4 _ (by omega) (by omega), if_pos rfl]
      exact ⟨rfl, rfl, rfl⟩
    · obtain ⟨r1, r2, r3⟩ := hN l (by omega)
      rw [if_neg e, if_neg e, if_neg e, mv_up_j (by omega), mv_up_j (by omega), mv_up_j (by omega), e120, e120, e120, hv4 _ (by omega) (by omega), hv4 _ (by omega) (by omega), hv4 _ (by omega) (by omega), if_neg (by omega), if_neg (by omega), if_neg (by omega)]
      exact ⟨r1, r2, r3⟩
  have c7 := c6u (pr_I t n (k + 3))
  generalize mv_up G6 120 0 (72 + 3 * j + 2) (pr_I t n (k + 3)) = G7 at hT7 hN7 c7
  refine mv_J.ce (gx_isSign (k + 4) 59 (by decide) hT7) (mv_J.bt (fun s1 => ?_) (fun s1 => ?_))
  · have s1 : ¬ pr_I t n (k + 4) = 30059 := by omega
    refine mv_J.cn (gx_errsZ (k + 4) hT7 1) (fun r G8 h8 => mv_J.ret ⟨c7.tr h8.2.2.c, Or.inl ⟨(1, k + 4), ?_, h8.1, h8.2.1⟩⟩)
    rw [hR, pr_t s1]
  have s1 : pr_I t n (k + 4) = 30059 := by omega
  rw [pr_f (fun h => h s1)] at hR
  refine mv_J.cn (gx_readsZ hn hb (hE.zc c7) (k + 4) hT7) (fun _ G8 h8 => mv_J.ret ⟨c7.tr h8.2.c, Or.inr ⟨rfl, h8.1, ?_, hR, by omega⟩⟩)
  intro l hl
  rw [mv_ch.cell h8.2 120 rfl]
  exact hN7 l hl
set_option maxHeartbeats 2000000 in
theorem gx_readDay (hn : n ≤ 400) (hb : ∀ j, j < n → 0 ≤ t j ∧ t j ≤ 255) (hE : pr_zE G t n pp) (hpp : 0 ≤ pp ∧ pp ≤ 10) (hIm : ∀ k, m ≤ k → pr_I t n k = -2) (hm : m ≤ n) (h : mv_mT G t n 0) : mv_Kp (ff_X12_readDay [.inr (100, 0)] G) (fun r G' => pr_zV t n (pr_dy (pr_I t n) pp 500 0 0 (fun _ => 0) (fun _ => 0) (fun _ => 0)) r G' ∧ pr_zc G G') := by
  obtain ⟨Q, hQ⟩ : ∃ Q : pr_Y → Int → mv_G → Prop, Q = (fun R r G' => pr_zV t n R r G' ∧ pr_zc G G') := ⟨_, rfl⟩
  have key : ∀ (f j k : Nat) (A W H : Nat → Int) (G1 : mv_G), m < k + f → pr_zc G G1 → mv_mT G1 t n k → pr_zN G1 j A W H → k ≤ m → j ≤ 24 → mv_JP mm_X12_readDay (Q (pr_dy (pr_I t n) pp f j k A W H)) 2 [some (.inr (100, 0)), some (.inl (j : Int))] G1 := by
    intro f
    induction f with
    | zero => intro j k A W H G1 h1 _ _ _ h4; omega
    | succ f ih =>
      intro j k A W H G1 hf hc hT hN hk hj
      have hE1 := hE.zc hc
      have dy : pr_dy (pr_I t n) pp (f + 1) j k A W H = pr_if (pr_I t n k = -2) (.inl (j, A, W, H)) (pr_if (¬ (20006 ≤ pr_I t n k ∧ pr_I t n k ≤ 20008)) (.inr (1, k)) (pr_if (24 ≤ j) (.inr (3, k))
      (pr_if (¬ pr_nb (pr_I t n (k + 1))) (.inr (1, k + 1)) (pr_if (pp - 1 < pr_I t n (k + 1)) (.inr (2, k + 1)) (pr_if (¬ pr_I t n (k + 2) = 20014) (.inr (1, k + 2))
      (pr_if (¬ pr_nb (pr_I t n (k + 3))) (.inr (1, k + 3)) (pr_if (999 < pr_I t n (k + 3)) (.inr (2, k + 3)) (pr_if (¬ pr_I t n (k + 4) = 30059) (.inr (1, k + 4))
      (pr_dy (pr_I t n) pp f (j + 1) (k + 5) (mv_sp A j (pr_I t n k - 20006)) (mv_sp W j (pr_I t n (k + 1))) (mv_sp H j (pr_I t n (k + 3)))))))))))) := rfl
      have hv := hT.2.2
      have hIk : mv_tk1 t n (mv_tbg t n k) = pr_I t n k := rfl
      rw [hIk] at hv
      have tk0 : G1 100 0 19 = 0 ↔ pr_I t n k = -2 := by
        rcases hv with ⟨q1, q2⟩ | ⟨q1, q2⟩ | ⟨q1, q2, q3, q4⟩ | ⟨x, q1, q2, q3, q4⟩ | ⟨q1, q2, q3⟩
        · omega
        · omega
        · omega
        · omega
        · have : 0 ≤ G1 100 0 20 ∧ G1 100 0 20 ≤ 62 := by have := of_decide_eq_true q3; omega
          omega
      have tk2 : G1 100 0 19 = 2 ∧ 18 ≤ G1 100 0 20 ∧ G1 100 0 20 ≤ 20 ↔ 20006 ≤ pr_I t n k ∧ pr_I t n k ≤ 20008 := by
        have tab : ∀ x : Nat, x < 21 → (18 ≤ x ↔ 6 ≤ mv_pm x ∧ mv_pm x ≤ 8) := by decide
        rcases hv with ⟨q1, q2⟩ | ⟨q1, q2⟩ | ⟨q1, q2, q3, q4⟩ | ⟨x, q1, q2, q3, q4⟩ | ⟨q1, q2, q3⟩
        · omega
        · omega
        · omega
        · have := tab x q1
          omega
        · have : 0 ≤ G1 100 0 20 ∧ G1 100 0 20 ≤ 62 := by have := of_decide_eq_true q3; omega
          omega
      have tk3 : 20006 ≤ pr_I t n k ∧ pr_I t n k ≤ 20008 → G1 100 0 20 = pr_I t n k - 20006 + 18 := fun hw => by
        have tab : ∀ x : Nat, x < 21 → 6 ≤ mv_pm x → mv_pm x ≤ 8 → mv_pm x + 12 = x := by decide
        rcases hv with ⟨q1, q2⟩ | ⟨q1, q2⟩ | ⟨q1, q2, q3, q4⟩ | ⟨x, q1, q2, q3, q4⟩ | ⟨q1, q2, q3⟩
        · omega
        · omega
        · omega
        · have := tab x q1 (by omega) (by omega)
          omega
        · have : 0 ≤ G1 100 0 20 ∧ G1 100 0 20 ≤ 62 := by have := of_decide_eq_true q3; omega
          omega
      have nn : ¬ (20006 ≤ pr_I t n k ∧ pr_I t n k ≤ 20008) → mv_J mm_X12_readDay (Q (pr_dy (pr_I t n) pp (f + 1) j k A W H)) (if G1 100 0 19 = 0 then some (.inl ((j : Int), G1)) else mv_cn (ff_X12_errs [.inr (100, 0), .inl 1] G1) fun r1 G1 => some (.inl (r1, G1))) := fun hw => by
        rw [dy, hQ]
        refine mv_J.i (fun c1 => mv_J.ret ?_) (fun c1 => ?_)
        · rw [pr_t (tk0.mp c1)]
          exact ⟨⟨rfl, hN⟩, hc⟩
        · rw [pr_f (fun h => c1 (tk0.mpr h)), pr_t hw]
          exact mv_J.cn (gx_errsZ k hT 1) (fun r G2 h2 => mv_J.ret ⟨⟨h2.1, h2.2.1⟩, hc.tr h2.2.2.c⟩)
      refine mv_JP.of (rg_X12_readDay_2 _ G1) ?_
      refine mv_J.i (fun h2 => mv_J.ce (gx_isIn _ _ _ _) (mv_J.bt (fun g => nn (fun hw => g (tk2.mpr hw).2)) (fun g => ?_))) (fun h2 => nn (fun hw => h2 (tk2.mpr hw).1))
      have hw := tk2.mp ⟨h2, g⟩
      have hkm : k < m := by
        rcases Nat.lt_or_ge k m with h | h
        · exact h
        · have := hIm k h; omega
      rw [dy, pr_f (show ¬ pr_I t n k = -2 by omega), pr_f (show ¬ ¬ (20006 ≤ pr_I t n k ∧ pr_I t n k ≤ 20008) from fun h => h hw)]
      clear dy nn
      refine mv_J.i (fun c3 => ?_) (fun c3 => ?_)
      · rw [pr_t (show 24 ≤ j by omega), hQ]
        exact mv_J.cn (gx_errsZ k hT 3) (fun r G2 h2 => mv_J.ret ⟨⟨h2.1, h2.2.1⟩, hc.tr h2.2.2.c⟩)
      · rw [pr_f (show ¬ 24 ≤ j by omega), mv_ws (x := 3 * (j : Int)) (by omega), mv_ws (x := 72 + 3 * (j : Int)) (by omega), mv_ws (x := (j : Int) + 1) (by omega), show 72 + 3 * (j : Int) = ((72 + 3 * j : Nat) : Int) by omega]
        refine mv_J.cn (gx_readDayLine hn hb hE1 hpp k j hT (by omega) hw (tk3 hw) A W H hN _ f rfl) (fun r G2 h2 => ?_)
        obtain ⟨c2, h2⟩ := h2
        rcases h2 with ⟨e, e1, e2, e3⟩ | ⟨e1, e2, e3, e4, e5⟩
        · rw [e1]
          refine mv_J.t e2 (mv_J.ret ?_)
          rw [hQ]
          exact ⟨⟨rfl, e3⟩, hc.tr c2⟩
        · rw [e4]
          have hk5 : k + 5 ≤ m := by
            rcases Nat.lt_or_ge (k + 4) m with h | h
            · omega
            · exact absurd (hIm (k + 4) h) e5
          exact mv_J.f (by omega) (mv_J.cut (ih (j + 1) (k + 5) _ _ _ G2 (by omega) (hc.tr c2) e2 e3 hk5 (by omega)))
  refine mv_Kp.mono (P := Q (pr_dy (pr_I t n) pp 500 0 0 (fun _ => 0) (fun _ => 0) (fun _ => 0))) (mv_Kp.of (mv_JP.of (rg_X12_readDay_0 G) (mv_J.cut ?_))) (fun r G' h => by rw [hQ] at h; exact h)
  exact key 500 0 0 _ _ _ G (by omega) pr_zc.rf h (fun l hl => absurd hl (Nat.not_lt_zero l)) (Nat.zero_le _) (Nat.zero_le _)
end ZD
