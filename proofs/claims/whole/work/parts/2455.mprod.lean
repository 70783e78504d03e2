/-! TEXT: the reference reads products, sums, comparisons. -/
section MP
variable {G : mv_G} {t : Nat → Int} {n m kd : Nat}
theorem pr_pp_s {I : Nat → Int} (f : Nat) (sg : Int) (S : pr_S) : pr_pp I kd (f + 1) sg S = pr_if (¬ pr_nb (I S.1) ∧ (sg = 30047 ∨ ¬ pr_tm kd (I S.1))) (.inr (1, S.1)) (pr_if (sg = 30047 ∧ I S.1 = 0) (.inr (2, S.1))
      (pr_if (I (S.1 + 1) = 30042 ∨ I (S.1 + 1) = 30047) (pr_pp I kd f (I (S.1 + 1)) (pr_st (pr_st (pr_sg (pr_ad S (pr_un (I S.1))) sg)))) (.inl (pr_st (pr_sg (pr_ad S (pr_un (I S.1))) sg))))) := rfl
theorem pr_pp_ru {I : Nat → Int} (f : Nat) (sg : Int) (S : pr_S) (hsg : sg ≠ 30047) : pr_pp I kd (f + 1) sg S = pr_bd (pr_ru I kd S) fun U => pr_if (I U.1 = 30042 ∨ I U.1 = 30047) (pr_pp I kd f (I U.1) (pr_st (pr_sg U sg))) (.inl (pr_sg U sg)) := by
  rw [pr_pp_s]
  unfold pr_ru
  have e : ∀ v, pr_st (pr_sg (pr_ad S v) sg) = pr_sg (pr_st (pr_ad S v)) sg := fun v => by
    unfold pr_sg
    split <;> rfl
  by_cases c : ¬ pr_nb (I S.1) ∧ ¬ pr_tm kd (I S.1)
  · rw [pr_t (c := ¬ pr_nb (I S.1) ∧ (sg = 30047 ∨ ¬ pr_tm kd (I S.1))) ⟨c.1, Or.inr c.2⟩, pr_t c]
    rfl
  · rw [pr_f (c := ¬ pr_nb (I S.1) ∧ (sg = 30047 ∨ ¬ pr_tm kd (I S.1))) (fun h => c ⟨h.1, h.2.resolve_left hsg⟩), pr_f (c := sg = 30047 ∧ I S.1 = 0) (fun h => hsg h.1), pr_f c, e]
    rfl
theorem pr_pp_dv {I : Nat → Int} (f : Nat) (S : pr_S) : pr_pp I kd (f + 1) 30047 S = pr_if (¬ pr_nb (I S.1)) (.inr (1, S.1)) (pr_if (I S.1 = 0) (.inr (2, S.1)) (pr_bd (pr_ru I kd S) fun U => pr_if (I U.1 = 30042 ∨ I U.1 = 30047) (pr_pp I kd f (I U.1) (pr_st (pr_sg U 30047))) (.inl (pr_sg U 30047)))) := by
  rw [pr_pp_s]
  unfold pr_ru
  have e : ∀ v, pr_st (pr_sg (pr_ad S v) 30047) = pr_sg (pr_st (pr_ad S v)) 30047 := fun v => rfl
  by_cases c : pr_nb (I S.1)
  · rw [pr_f (c := ¬ pr_nb (I S.1) ∧ ((30047 : Int) = 30047 ∨ ¬ pr_tm kd (I S.1))) (fun h => h.1 c), pr_f (c := ¬ pr_nb (I S.1)) (fun h => h c), pr_f (c := ¬ pr_nb (I S.1) ∧ ¬ pr_tm kd (I S.1)) (fun h => h.1 c), e]
    by_cases c2 : I S.1 = 0
    · rw [pr_t (c := (30047 : Int) = 30047 ∧ I S.1 = 0) ⟨rfl, c2⟩, pr_t c2]
    · rw [pr_f (c := (30047 : Int) = 30047 ∧ I S.1 = 0) (fun h => c2 h.2), pr_f c2]
      rfl
  · rw [pr_t (show ¬ pr_nb (I S.1) ∧ ((30047 : Int) = 30047 ∨ ¬ pr_tm kd (I S.1)) from ⟨c, Or.inl rfl⟩), pr_t c]
theorem pr_ru_b {I : Nat → Int} (hm : I m = -2) (S U : pr_S) (p : Nat) (hk : S.1 ≤ m) (hz : S.2.1 + p ≤ S.1) (h : pr_ru I kd S = .inl U) : U.1 = S.1 + 1 ∧ U.1 ≤ m ∧ U.2.1 + p ≤ U.1 ∧ U.2.1 = S.2.1 + 1 := by
  unfold pr_ru at h
  by_cases c : ¬ pr_nb (I S.1) ∧ ¬ pr_tm kd (I S.1)
  · rw [pr_t c] at h; cases h
  · rw [pr_f c] at h
    cases h
    have : S.1 ≠ m := fun e => by
      rw [e, hm] at c
      exact c ⟨fun h => by have := h.1; omega, fun h => by have := h.1; omega⟩
    show S.1 + 1 = S.1 + 1 ∧ S.1 + 1 ≤ m ∧ S.2.1 + 1 + p ≤ S.1 + 1 ∧ S.2.1 + 1 = S.2.1 + 1
    omega
set_option maxHeartbeats 2000000 in
theorem gx_readProduct (hn : n ≤ 400) (hb : ∀ j, j < n → 0 ≤ t j ∧ t j ≤ 255) (hE : pr_mE G t n kd) (hkd : kd ≤ 1) (hIm : pr_I t n m = -2) (hm : m ≤ n) (S : pr_S) (h : pr_mS G t n S) (hk : S.1 ≤ m) (hz : S.2.1 ≤ S.1) : mv_Kp (ff_X12_readProduct [.inr (100, 0)] G) (pr_M t n G (pr_pp (pr_I t n) kd 500 0 S)) := by
  have hlt : ∀ k, k ≤ m → pr_I t n k ≠ -2 → k < m := fun k h1 h2 => by
    rcases Nat.lt_or_eq_of_le h1 with h | h
    · exact h
    · exact absurd (h ▸ hIm) h2
  -- the loop
  have key : ∀ (f : Nat) (U : pr_S) (G1 : mv_G), pr_mb G G1 → pr_mS G1 t n U → U.1 ≤ m → U.2.1 ≤ U.1 → m < U.1 + 1 + f → mv_JP mm_X12_readProduct (pr_M t n G (pr_if (pr_I t n U.1 = 30042 ∨ pr_I t n U.1 = 30047) (pr_pp (pr_I t n) kd f (pr_I t n U.1) (pr_st U)) (.inl U))) 10 [some (.inr (100, 0)), none] G1 := by
    intro f
    induction f with
    | zero =>
      intro U G1 hc hU hk hz hf
      have e : U.1 = m := by omega
      have hno : ¬ (pr_I t n U.1 = 30042 ∨ pr_I t n U.1 = 30047) := fun h => by rw [e, hIm] at h; omega
      rw [pr_f hno]
      refine mv_JP.of (rg_X12_readProduct_10 G1) (mv_J.ce (gx_isSign U.1 42 (by decide) hU.1) (mv_J.bt (fun _ => mv_J.ce (gx_isSign U.1 47 (by decide) hU.1) (mv_J.bt (fun _ => mv_J.ret ⟨⟨rfl, hU⟩, hc⟩) (fun h => absurd (Or.inr (by omega)) hno))) (fun h => absurd (Or.inl (by omega)) hno)))
    | succ f ih =>
      intro U G1 hc hU hk hz hf
      -- a further unit, the sign read
      have unit : ∀ (sg : Int) (G2 : mv_G) (cc : Int), (sg = 30042 ∧ cc = 4 ∨ sg = 30047 ∧ cc = 5) → pr_mb G G2 → pr_mS G2 t n (pr_st U) → U.1 < m → (R : pr_R) → R = pr_bd (pr_ru (pr_I t n) kd (pr_st U)) (fun V => pr_if (pr_I t n V.1 = 30042 ∨ pr_I t n V.1 = 30047) (pr_pp (pr_I t n) kd f (pr_I t n V.1) (pr_st (pr_sg V sg))) (.inl (pr_sg V sg))) → ∀ (A B : mv_G → Option mv_O), (∀ G4, A G4 = mv_cn (ff_X12_emits [.inr (100, 0), .inl cc, .inl 0] G4) fun r5 G5 => some (.inr (10, [some (.inr (100, 0)), none], G5))) → mv_J mm_X12_readProduct (pr_M t n G R) (mv_cn (ff_X12_readUnit [.inr (100, 0)] G2) fun r4 G4 => if r4 = -1 then some (.inl (-1, G4)) else A G4) := by
        intro sg G2 cc hsg hc2 hU2 hkm R hR A B hA
        have hE2 := hE.mb hc2
        refine mv_J.cn (gx_readUnit hn hb hE2 hkd (pr_st U) hU2 (fun _ => show U.2.1 < 400 by omega)) (fun r G3 h3 => ?_)
        obtain ⟨h3, c3⟩ := h3
        rw [hR]
        cases hp : pr_ru (pr_I t n) kd (pr_st U) with
        | inr e =>
          rw [hp] at h3
          exact mv_J.t h3.1 (mv_J.ret ⟨⟨rfl, h3.2⟩, hc2.tr c3⟩)
        | inl V =>
          rw [hp] at h3
          have b := pr_ru_b hIm (pr_st U) V 1 (show U.1 + 1 ≤ m by omega) (show U.2.1 + 1 ≤ U.1 + 1 by omega) hp
          have e1 : (pr_st U).1 = U.1 + 1 := rfl
          have esg : pr_sg V sg = pr_ad V sg := if_neg (by omega)
          have y : (pr_sg V sg).1 = V.1 := pr_sg_1
          refine mv_J.f (by have := h3.1; omega) ?_
          rw [hA]
          refine mv_J.cn (gx_emits V h3.2 (by omega) cc 0 sg ?_ ?_) (fun _ G4 h4 => mv_J.cut ?_)
          · rcases hsg with ⟨rfl, rfl⟩ | ⟨rfl, rfl⟩ <;> decide
          · rcases hsg with ⟨rfl, rfl⟩ | ⟨rfl, rfl⟩ <;> decide
          · have := ih (pr_sg V sg) G4 ((hc2.tr c3).tr h4.2) (by rw [esg]; exact h4.1) (by omega) (by rw [esg]; show V.2.1 + 1 ≤ V.1; omega) (by omega)
            rw [y] at this
            exact this
      refine mv_JP.of (rg_X12_readProduct_10 G1) (mv_J.ce (gx_isSign U.1 42 (by decide) hU.1) (mv_J.bt (fun h1 => mv_J.ce (gx_isSign U.1 47 (by decide) hU.1) (mv_J.bt (fun h2 => mv_J.ret ?_) (fun h2 => ?_))) (fun h1 => ?_)))
      · rw [pr_f (by omega)]
        exact ⟨⟨rfl, hU⟩, hc⟩
      · -- parted by
        have hsg : pr_I t n U.1 = 30047 := by omega
        have hkm := hlt U.1 hk (by omega)
        rw [pr_t (Or.inr hsg), hsg, pr_pp_dv]
        refine mv_J.ce (gx_isSign U.1 42 (by decide) hU.1) (mv_J.cn (gx_readsS hn hb (hE.mb hc) U hU) (fun _ G2 h3 => ?_))
        obtain ⟨hU2, c2⟩ := h3
        have hc2 := hc.tr c2
        obtain ⟨n1, n2⟩ := pr_tok_n (pr_st U).1 hU2.1
        have ez : mv_b (pr_I t n U.1 = 30000 + 42) = 0 := mv_b0 (by omega)
        rw [ez]
        refine mv_J.t rfl (mv_J.i (fun h3 => mv_J.t rfl ?_) (fun h3 => ?_))
        · have hnb := n1.mp h3
          rw [pr_f (show ¬ ¬ pr_nb (pr_I t n (pr_st U).1) from fun h => h hnb), n2 h3]
          refine mv_J.i (fun h4 => ?_) (fun h4 => ?_)
          · rw [pr_t h4]
            exact mv_J.cn (gx_errs (pr_st U).1 hU2.1 2) (fun r G3 h5 => mv_J.ret ⟨h5.1, hc2.tr h5.2⟩)
          · rw [pr_f h4]
            exact unit 30047 G2 5 (Or.inr ⟨rfl, rfl⟩) hc2 hU2 hkm _ rfl _ (fun _ => none) (fun G4 => rfl)
        · rw [pr_t (show ¬ pr_nb (pr_I t n (pr_st U).1) from fun h => h3 (n1.mpr h))]
          exact mv_J.cn (gx_errs (pr_st U).1 hU2.1 1) (fun r G3 h5 => mv_J.ret ⟨h5.1, hc2.tr h5.2⟩)
      · -- times
        have hsg : pr_I t n U.1 = 30042 := by omega
        have hkm := hlt U.1 hk (by omega)
        rw [pr_t (Or.inl hsg), hsg, pr_pp_ru _ _ _ (by decide)]
        refine mv_J.ce (gx_isSign U.1 42 (by decide) hU.1) (mv_J.cn (gx_readsS hn hb (hE.mb hc) U hU) (fun _ G2 h3 => ?_))
        obtain ⟨hU2, c2⟩ := h3
        have hc2 := hc.tr c2
        have ez : mv_b (pr_I t n U.1 = 30000 + 42) = 1 := mv_b1 (by omega)
        rw [ez]
        refine mv_J.f (by decide) (mv_J.f (by decide) ?_)
        exact unit 30042 G2 4 (Or.inl ⟨rfl, rfl⟩) hc2 hU2 hkm _ rfl _ (fun _ => none) (fun G4 => rfl)
  refine mv_Kp.of (mv_JP.of (rg_X12_readProduct_0 G) (mv_J.cn (gx_readUnit hn hb hE hkd S h (fun h2 => by
    have := hlt S.1 hk h2
    omega)) (fun r G2 h2 => ?_)))
  obtain ⟨h2, c2⟩ := h2
  rw [pr_pp_ru _ _ _ (by decide)]
  cases hp : pr_ru (pr_I t n) kd S with
  | inr e =>
    rw [hp] at h2
    exact mv_J.t h2.1 (mv_J.ret ⟨⟨rfl, h2.2⟩, c2⟩)
  | inl U =>
    rw [hp] at h2
    have b := pr_ru_b hIm S U 0 hk hz hp
    refine mv_J.f (by have := h2.1; omega) (mv_J.cut ?_)
    exact key 499 U G2 c2 h2.2 b.2.1 (by omega) (by omega)
end MP
