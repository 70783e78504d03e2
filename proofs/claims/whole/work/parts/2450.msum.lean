/-! TEXT: the reference reads sums and comparisons. -/
def pr_mS (G : mv_G) (t : Nat → Int) (n : Nat) (S : pr_S) : Prop := mv_mT G t n S.1 ∧ G 100 0 29 = (S.2.1 : Int) ∧ ∀ j, j < S.2.1 → G 117 0 (800 + j) = mv_opk (S.2.2 j) ∧ G 118 0 (800 + j) = mv_ark (S.2.2 j)
/-- what the reading finds -/
def pr_mE (G : mv_G) (t : Nat → Int) (n kd : Nat) : Prop := G 100 0 16 = (n : Int) ∧ (∀ j, j < n → G 111 0 j = t j) ∧ (∀ j, G 112 0 j = mv_wo.getD j 0) ∧ G 100 0 28 = (kd : Int)
/-- its frame -/
def pr_mb (G G2 : mv_G) : Prop := mv_ch [117, 118] [(100, 17), (100, 18), (100, 19), (100, 20), (100, 29), (100, 33), (100, 34)] G G2 ∧ ∀ j, j < 800 → G2 117 0 j = G 117 0 j ∧ G2 118 0 j = G 118 0 j
theorem pr_mb.rf {G : mv_G} : pr_mb G G := ⟨mv_ch.rf, fun _ _ => ⟨rfl, rfl⟩⟩
theorem pr_mb.tr {G G2 G3 : mv_G} (h : pr_mb G G2) (h2 : pr_mb G2 G3) : pr_mb G G3 := ⟨h.1.tr h2.1, fun j hj => ⟨(h2.2 j hj).1.trans (h.2 j hj).1, (h2.2 j hj).2.trans (h.2 j hj).2⟩⟩
theorem pr_mb.of {T : List (Nat × Nat)} {G G2 : mv_G} (h : mv_ch [] T G G2) (hT : (T.all fun q => [(100, 17), (100, 18), (100, 19), (100, 20), (100, 29), (100, 33), (100, 34)].contains q) = true) : pr_mb G G2 := by
  have hm : mv_ch [117, 118] [(100, 17), (100, 18), (100, 19), (100, 20), (100, 29), (100, 33), (100, 34)] G G2 := h.mono rfl (by
    rw [List.all_eq_true] at hT ⊢
    intro q hq
    rw [Bool.or_eq_true]
    exact Or.inr (hT q hq))
  refine ⟨hm, fun j hj => ?_⟩
  have nc : ∀ k, k ≠ 100 → (([] : List Nat).contains k || T.any fun q => q.1 == k) = false := fun k hk => by
    rw [Bool.or_eq_false_iff]
    refine ⟨rfl, ?_⟩
    rw [List.any_eq_false]
    intro q hq h2
    have := List.all_eq_true.mp hT q hq
    have e : q.1 = k := by simpa using h2
    simp at this
    rcases this with rfl | rfl | rfl | rfl | rfl | rfl | rfl <;> exact hk e.symm
  rw [h.cell 117 (nc 117 (by decide)), h.cell 118 (nc 118 (by decide))]
  exact ⟨rfl, rfl⟩
theorem pr_mE.mb {G G2 : mv_G} {t : Nat → Int} {n kd : Nat} (h : pr_mE G t n kd) (hc : pr_mb G G2) : pr_mE G2 t n kd := by
  unfold pr_mE at h ⊢
  rw [hc.1.slot 100 16 rfl, hc.1.slot 100 28 rfl, hc.1.cell 111 rfl, hc.1.cell 112 rfl]
  exact h
/-- how a reading ends -/
def pr_M (t : Nat → Int) (n : Nat) (G : mv_G) (R : pr_R) : Int → mv_G → Prop := fun r G' => (match R with
  | .inl S => r = 0 ∧ pr_mS G' t n S
  | .inr e => r = -1 ∧ G' 100 0 33 = e.1 ∧ G' 100 0 34 = ((mv_tbg t n e.2 : Nat) : Int)) ∧ pr_mb G G'
theorem mv_pm_inj : ∀ a : Nat, a < 21 → ∀ b : Nat, b < 21 → mv_pm a = mv_pm b → a = b := by decide
theorem mv_pm_lt : ∀ a : Nat, a < 21 → mv_pm a < 21 := by decide
section MS
variable {G : mv_G} {t : Nat → Int} {n m kd : Nat}
theorem gx_isWord (k w : Nat) (hw : w < 21) (h : mv_mT G t n k) : ff_X12_isWord [.inr (100, 0), .inl (w : Int)] G = some (mv_b (pr_I t n k = 20000 + (mv_pm w : Int)), G) := by
  have hv := h.2.2
  have hp := mv_pm_lt w hw
  refine mv_Kp.eq (mv_Kp.of (mv_JP.of (rg_X12_isWord_0 w G) ?_))
  have key : (G 100 0 19 = 2 ∧ G 100 0 20 = w) ↔ pr_I t n k = 20000 + (mv_pm w : Int) := by
    show _ ↔ mv_tk1 t n (mv_tbg t n k) = _
    generalize mv_tk1 t n (mv_tbg t n k) = v at hv
    rcases hv with ⟨h1, h2⟩ | ⟨h1, h2⟩ | ⟨h1, h2, h3, h4⟩ | ⟨x, h1, h2, h3, h4⟩ | ⟨h1, h2, h3⟩
    · omega
    · omega
    · omega
    · constructor
      · rintro ⟨g1, g2⟩
        have : x = w := by omega
        rw [h2, this]
      · intro g
        have := mv_pm_inj x h1 w hw (by omega)
        omega
    · have : 0 ≤ G 100 0 20 ∧ G 100 0 20 ≤ 62 := by have := of_decide_eq_true h3; omega
      omega
  refine mv_J.i (fun h1 => mv_J.i (fun h2 => mv_J.r0 (Or.inr rfl) ⟨(mv_b1 (key.mp ⟨h1, h2⟩)).symm, rfl⟩) (fun h2 => mv_J.r0 (Or.inl rfl) ⟨(mv_b0 (fun h3 => h2 (key.mpr h3).2)).symm, rfl⟩)) (fun h1 => mv_J.r0 (Or.inl rfl) ⟨(mv_b0 (fun h3 => h1 (key.mpr h3).1)).symm, rfl⟩)
theorem pr_tok_s (k : Nat) (c : Int) (hc : 0 ≤ c ∧ c ≤ 9000) (h : mv_mT G t n k) : (G 100 0 19 = 4 ∧ G 100 0 20 = c) ↔ pr_I t n k = 30000 + c := by
  have hv := h.2.2
  show _ ↔ mv_tk1 t n (mv_tbg t n k) = _
  generalize mv_tk1 t n (mv_tbg t n k) = v at hv
  rcases hv with ⟨h1, h2⟩ | ⟨h1, h2⟩ | ⟨h1, h2, h3, h4⟩ | ⟨x, h1, h2, h3, h4⟩ | ⟨h1, h2, h3⟩
  · omega
  · omega
  · omega
  · have := mv_pm_lt x h1
    omega
  · omega
theorem gx_isSign (k : Nat) (c : Int) (hc : 0 ≤ c ∧ c ≤ 9000) (h : mv_mT G t n k) : ff_X12_isSign [.inr (100, 0), .inl c] G = some (mv_b (pr_I t n k = 30000 + c), G) := by
  have key := pr_tok_s k c hc h
  refine mv_Kp.eq (mv_Kp.of (mv_JP.of (rg_X12_isSign_0 c G) ?_))
  refine mv_J.i (fun h1 => mv_J.i (fun h2 => mv_J.r0 (Or.inr rfl) ⟨(mv_b1 (key.mp ⟨h1, h2⟩)).symm, rfl⟩) (fun h2 => mv_J.r0 (Or.inl rfl) ⟨(mv_b0 (fun h3 => h2 (key.mpr h3).2)).symm, rfl⟩)) (fun h1 => mv_J.r0 (Or.inl rfl) ⟨(mv_b0 (fun h3 => h1 (key.mpr h3).1)).symm, rfl⟩)
theorem pr_tok_n (k : Nat) (h : mv_mT G t n k) : (G 100 0 19 = 3 ↔ pr_nb (pr_I t n k)) ∧ (G 100 0 19 = 3 → G 100 0 20 = pr_I t n k) := by
  have hv := h.2.2
  unfold pr_nb
  show (G 100 0 19 = 3 ↔ 0 ≤ mv_tk1 t n (mv_tbg t n k) ∧ mv_tk1 t n (mv_tbg t n k) ≤ 9999) ∧ (_ → _ = mv_tk1 t n (mv_tbg t n k))
  generalize mv_tk1 t n (mv_tbg t n k) = v at hv
  rcases hv with ⟨h1, h2⟩ | ⟨h1, h2⟩ | ⟨h1, h2, h3, h4⟩ | ⟨x, h1, h2, h3, h4⟩ | ⟨h1, h2, h3⟩
  · omega
  · omega
  · omega
  · omega
  · have : 0 ≤ G 100 0 20 ∧ G 100 0 20 ≤ 62 := by have := of_decide_eq_true h3; omega
    omega
set_option maxRecDepth 100000 in
theorem gx_emits (S : pr_S) (h : pr_mS G t n S) (hz : S.2.1 < 400) (o b v : Int) (ho : o = mv_opk v) (hb : b = mv_ark v) : mv_Kp (ff_X12_emits [.inr (100, 0), .inl o, .inl b] G) (fun _ G' => pr_mS G' t n (pr_ad S v) ∧ pr_mb G G') := by
  obtain ⟨h1, h2, h3⟩ := h
  refine mv_Kp.of (mv_JP.of (rg_X12_emits_0 o b G) ?_)
  rw [mv_up_k (by decide : (100 : Nat) ≠ 118), mv_up_k (by decide : (100 : Nat) ≠ 117), h2, mv_ws (x := 800 + (S.2.1 : Int)) (by omega), mv_ws (x := (S.2.1 : Int) + 1) (by omega), show Int.toNat (800 + (S.2.1 : Int)) = 800 + S.2.1 by omega, mv_ckp (n := 1200) (by omega), mv_ckp (n := 1200) (by omega)]
  refine mv_J.ret ⟨⟨?_, ?_, fun j hj => ?_⟩, ?_, fun j hj => ?_⟩
  · unfold mv_mT
    rw [mv_up_j (by decide), mv_up_j (by decide), mv_up_j (by decide), mv_up_j (by decide), mv_up_k (by decide), mv_up_k (by decide)]
    exact h1
  · rw [mv_ups_eq]; rfl
  · rw [mv_up_k (by decide), mv_up_k (by decide), mv_up_k (by decide : (118 : Nat) ≠ 100), mv_up_at, mv_up_at]
    show _ = mv_opk (if j = S.2.1 then v else S.2.2 j) ∧ _ = mv_ark (if j = S.2.1 then v else S.2.2 j)
    have hj : j < S.2.1 + 1 := hj
    by_cases e : j = S.2.1
    · subst e
      rw [if_pos rfl, if_pos rfl, if_pos rfl]
      exact ⟨ho, hb⟩
    · rw [if_neg e, if_neg (c := 800 + j = 800 + S.2.1) (by omega), if_neg (c := 800 + j = 800 + S.2.1) (by omega), mv_up_k (by decide)]
      exact h3 j (by omega)
  · exact ((mv_ch.rf.uc rfl).uc rfl).up rfl
  · rw [mv_up_k (by decide), mv_up_k (by decide), mv_up_k (by decide : (118 : Nat) ≠ 100), mv_up_j (by omega), mv_up_j (by omega), mv_up_k (by decide)]
    exact ⟨rfl, rfl⟩
theorem gx_readsS (hn : n ≤ 400) (hb : ∀ j, j < n → 0 ≤ t j ∧ t j ≤ 255) (hE : pr_mE G t n kd) (S : pr_S) (h : pr_mS G t n S) : mv_Kp (ff_X12_reads [.inr (100, 0)] G) (fun _ G' => pr_mS G' t n (pr_st S) ∧ pr_mb G G') := by
  refine mv_Kp.mono (gx_reads hn hE.1 hE.2.1 hb hE.2.2.1 S.1 h.1) (fun r G' h2 => ?_)
  refine ⟨⟨h2.1, ?_, ?_⟩, pr_mb.of h2.2 rfl⟩
  · rw [h2.2.slot 100 29 rfl]; exact h.2.1
  · rw [h2.2.cell 117 rfl, h2.2.cell 118 rfl]; exact h.2.2
theorem gx_errs (k : Nat) (h : mv_mT G t n k) (e : Int) : mv_Kp (ff_X12_errs [.inr (100, 0), .inl e] G) (pr_M t n G (.inr (e, k))) := by
  refine mv_Kp.of (mv_JP.of (rg_X12_errs_0 e G) (mv_J.ret ⟨⟨rfl, ?_, ?_⟩, pr_mb.of ((mv_ch.rf.up (T := [(100, 33), (100, 34)]) rfl).up rfl) rfl⟩))
  · rw [mv_up_j (by decide), mv_ups_eq]
  · rw [mv_ups_eq, mv_up_j (by decide)]
    exact h.1
noncomputable def pr_ru (I : Nat → Int) (kd : Nat) (S : pr_S) : pr_R := pr_if (¬ pr_nb (I S.1) ∧ ¬ pr_tm kd (I S.1)) (.inr (1, S.1)) (.inl (pr_st (pr_ad S (pr_un (I S.1)))))
set_option maxHeartbeats 1000000 in
theorem gx_readUnit (hn : n ≤ 400) (hb : ∀ j, j < n → 0 ≤ t j ∧ t j ≤ 255) (hE : pr_mE G t n kd) (hkd : kd ≤ 1) (S : pr_S) (h : pr_mS G t n S) (hz : pr_I t n S.1 ≠ -2 → S.2.1 < 400) : mv_Kp (ff_X12_readUnit [.inr (100, 0)] G) (pr_M t n G (pr_ru (pr_I t n) kd S)) := by
  obtain ⟨n1, n2⟩ := pr_tok_n S.1 h.1
  have hv := h.1.2.2
  have key : ∀ (o b : Int), pr_nb (pr_I t n S.1) ∨ pr_tm kd (pr_I t n S.1) → o = mv_opk (pr_un (pr_I t n S.1)) → b = mv_ark (pr_un (pr_I t n S.1)) → mv_J mm_X12_readUnit (pr_M t n G (pr_ru (pr_I t n) kd S)) (mv_cn (ff_X12_emits [.inr (100, 0), .inl o, .inl b] G) fun r0 G0 => mv_cn (ff_X12_reads [.inr (100, 0)] G0) fun r1 G1 => some (.inl (0, G1))) := fun o b hg ho hbb => by
    have e : pr_ru (pr_I t n) kd S = .inl (pr_st (pr_ad S (pr_un (pr_I t n S.1)))) := pr_f (fun h => hg.elim h.1 h.2)
    have hz := hz (fun e2 => by
      rw [e2] at hg
      exact hg.elim (fun g => by have := g.1; omega) (fun g => by have := g.1; omega))
    rw [e]
    refine mv_J.cn (gx_emits S h hz o b _ ho hbb) (fun _ G2 h2 => ?_)
    exact mv_J.cn (gx_readsS hn hb (hE.mb h2.2) _ h2.1) (fun _ G3 h3 => mv_J.ret ⟨⟨rfl, h3.1⟩, h2.2.tr h3.2⟩)
  have num : G 100 0 19 = 3 → mv_J mm_X12_readUnit (pr_M t n G (pr_ru (pr_I t n) kd S)) (mv_cn (ff_X12_emits [.inr (100, 0), .inl 0, .inl (G 100 0 20)] G) fun r0 G0 => mv_cn (ff_X12_reads [.inr (100, 0)] G0) fun r1 G1 => some (.inl (0, G1))) := fun h3 => by
    have hnb := n1.mp h3
    have e : pr_un (pr_I t n S.1) = pr_I t n S.1 := pr_t hnb
    have hb2 := hnb.2
    refine key 0 _ (Or.inl hnb) ?_ ?_
    · rw [e]; unfold mv_opk; rw [if_pos (by omega)]
    · rw [e, n2 h3]; unfold mv_ark; rw [if_pos (by omega)]
  have bad : ¬ (pr_nb (pr_I t n S.1) ∨ pr_tm kd (pr_I t n S.1)) → mv_J mm_X12_readUnit (pr_M t n G (pr_ru (pr_I t n) kd S)) (mv_cn (ff_X12_errs [.inr (100, 0), .inl 1] G) fun r0 G0 => some (.inl (r0, G0))) := fun hg => by
    have e : pr_ru (pr_I t n) kd S = .inr (1, S.1) := pr_t ⟨fun h => hg (Or.inl h), fun h => hg (Or.inr h)⟩
    rw [e]
    exact mv_J.cn (gx_errs S.1 h.1 1) (fun r G2 h2 => mv_J.ret h2)
  refine mv_Kp.of (mv_JP.of (rg_X12_readUnit_0 G) ?_)
  have hI : mv_tk1 t n (mv_tbg t n S.1) = pr_I t n S.1 := rfl
  rw [hI] at hv
  generalize pr_I t n S.1 = v at hv key num bad n1 n2
  refine mv_J.i (fun h2 => ?_) (fun h2 => ?_)
  · have hw : ∃ w : Nat, w < 21 ∧ v = 20000 + (mv_pm w : Int) ∧ G 100 0 20 = w := by
      rcases hv with ⟨g1, g2⟩ | ⟨g1, g2⟩ | ⟨g1, g2, g3, g4⟩ | ⟨x, g1, g2, g3, g4⟩ | ⟨g1, g2, g3⟩
      · omega
      · omega
      · omega
      · exact ⟨x, g1, g2, g4⟩
      · omega
    obtain ⟨w, w1, w2, w3⟩ := hw
    have ask : pr_tm kd v ↔ (6 ≤ w ∧ (w : Int) ≤ (if kd = 0 then 16 else 10)) ∨ (kd = 1 ∧ w = 17) := by
      have tab : ∀ w : Nat, w < 21 → ∀ kd : Nat, kd < 2 → ((20009 ≤ (20000 : Int) + mv_pm w ∧ (20000 : Int) + mv_pm w ≤ 20020 ∧ ((20000 : Int) + mv_pm w ≤ 20013 ∨ (kd = 1 ↔ (20000 : Int) + mv_pm w = 20020))) ↔ (6 ≤ w ∧ (w : Int) ≤ (if kd = 0 then 16 else 10)) ∨ (kd = 1 ∧ w = 17)) := by decide
      rw [w2]
      exact tab w w1 kd (by omega)
    have un : pr_tm kd v → mv_opk (pr_un v) = 1 ∧ mv_ark (pr_un v) = (w : Int) - 6 := fun hg => by
      have tab : ∀ w : Nat, w < 21 → 6 ≤ w → w ≤ 17 → mv_pm w = w + 3 := by decide
      have hw2 : 6 ≤ w ∧ w ≤ 17 := by
        rcases ask.mp hg with h | h
        · have := h.2; split at this <;> omega
        · omega
      have := tab w w1 hw2.1 hw2.2
      have e : pr_un v = v - 10009 := pr_f (fun h => by have := h.2; omega)
      rw [e]
      unfold mv_opk mv_ark
      rw [if_neg (by omega), if_pos (by omega), if_neg (by omega), if_pos (by omega)]
      exact ⟨rfl, by omega⟩
    have ca : ff_X12_canAsk [.inr (100, 0), .inl (w : Int)] G = some (mv_b (pr_tm kd v), G) := by
      refine mv_Kp.eq (mv_Kp.of (mv_JP.of (rg_X12_canAsk_0 w G) ?_))
      rw [hE.2.2.2]
      have y : pr_tm kd v → mv_J mm_X12_canAsk (fun a b => a = mv_b (pr_tm kd v) ∧ b = G) (mv_rzc 0 1 1 (some (.inl (1, G)))) := fun h => mv_J.r0 (Or.inr rfl) ⟨(mv_b1 h).symm, rfl⟩
      have nn : ¬ pr_tm kd v → mv_J mm_X12_canAsk (fun a b => a = mv_b (pr_tm kd v) ∧ b = G) (mv_rzc 0 1 0 (some (.inl (0, G)))) := fun h => mv_J.r0 (Or.inl rfl) ⟨(mv_b0 h).symm, rfl⟩
      rw [ask] at y nn
      rw [ask]
      refine mv_J.i (fun g1 => mv_J.ce (gx_isIn _ _ _ _) (mv_J.bt (fun g2 => ?_) (fun g2 => y (Or.inl ?_)))) (fun g1 => mv_J.ce (gx_isIn _ _ _ _) (mv_J.bt (fun g2 => ?_) (fun g2 => y (Or.inl ?_))))
      · rw [hE.2.2.2]
        refine mv_J.f (by omega) (nn (fun h => ?_))
        rw [if_pos (by omega)] at h
        omega
      · rw [if_pos (by omega)]; omega
      · rw [hE.2.2.2]
        refine mv_J.i (fun g3 => mv_J.i (fun g4 => y (Or.inr ⟨by omega, by omega⟩)) (fun g4 => nn (fun h => ?_))) (fun g3 => nn (fun h => ?_))
        · rw [if_neg (by omega)] at h; omega
        · rw [if_neg (by omega)] at h; omega
      · rw [if_neg (by omega)]; omega
    rw [w3]
    refine mv_J.ce ca (mv_J.bt (fun g => mv_J.t rfl (mv_J.f (by omega) (bad (fun g2 => g2.elim (fun g3 => by have := g3.2; omega) g)))) (fun g => mv_J.f (by decide) (mv_J.f (by decide) (mv_J.f (by decide) ?_))))
    rw [w3, mv_ws (x := (w : Int) - 6) (by omega)]
    exact key _ _ (Or.inr g) (un g).1.symm (un g).2.symm
  · have htm : G 100 0 19 ≠ 3 → ¬ pr_tm kd v := fun h3 h4 => by
      obtain ⟨g1, g2, -⟩ := h4
      rcases hv with ⟨q1, q2⟩ | ⟨q1, q2⟩ | ⟨q1, q2, q3, q4⟩ | ⟨x, q1, q2, q3, q4⟩ | ⟨q1, q2, q3⟩
      · omega
      · omega
      · omega
      · omega
      · have : 0 ≤ G 100 0 20 ∧ G 100 0 20 ≤ 62 := by have := of_decide_eq_true q3; omega
        omega
    refine mv_J.t rfl (mv_J.i (fun h3 => mv_J.t rfl (mv_J.t rfl (num h3))) (fun h3 => bad (fun g => g.elim (fun g2 => h3 (n1.mpr g2)) (htm h3))))
end MS
