/-! FILL, the class: the fewest of a stretch. -/
def mv_fsp (C : Nat → Prop) (w a : Nat) (t f : Int) : Prop := (f = -1 ∧ ∀ b, ¬ mv_plc C w a t b) ∨ ∃ p : Nat, f = p ∧ mv_plc C w a t p ∧ ∀ b, mv_plc C w a t b → p ≤ b
theorem mv_fsp_no {C : Nat → Prop} {w a : Nat} {t f : Int} (h : mv_fsp C w (a + 1) t f) (hn : ¬ (C a ∧ (a : Int) + w ≤ t)) : mv_fsp C w a t f := by
  have up : ∀ b, mv_plc C w a t b → mv_plc C w (a + 1) t b := fun b hb => ⟨hb.1, by
    have h2 := hb.2
    by_cases e : b = a
    · subst e; exact absurd ⟨hb.1, h2.2⟩ hn
    · omega, hb.2.2⟩
  rcases h with ⟨h1, h2⟩ | ⟨p, h1, h2, h3⟩
  · exact Or.inl ⟨h1, fun b hb => h2 b (up b hb)⟩
  · exact Or.inr ⟨p, h1, ⟨h2.1, by have := h2.2; omega, h2.2.2⟩, fun b hb => h3 b (up b hb)⟩
theorem mv_fsp_yes {C : Nat → Prop} {w a : Nat} {t : Int} (h : mv_plc C w a t a) : mv_fsp C w a t a := Or.inr ⟨a, rfl, h, fun b hb => hb.2.1⟩
section CF
variable {G : mv_G}
theorem fx_isClear4_3 {w : Nat} (h6 : G 81 0 6 = w) (hw : w ≤ 20) (x : Nat) (hx : x ≤ 60) : ff_X4_isClear [.inr (81, 0), .inr (3, 0), .inl x] G = some (mv_b (x < 60 ∧ (x : Int) + w ≤ G 3 0 x), G) := by
  refine mv_Kp.eq (mv_Kp.of (mv_JP.of (rg_X4_isClear_0_81_3 x G) (mv_J.f (by omega) (mv_J.i (fun h1 => mv_J.ck (by omega) ?_) (fun h1 => mv_J.r0 (Or.inl rfl) ⟨(mv_b0 (by omega)).symm, rfl⟩)))))
  rw [h6, mv_ws (by omega), Int.toNat_natCast]
  exact mv_J.i (fun h2 => mv_J.r0 (Or.inl rfl) ⟨(mv_b0 (by omega)).symm, rfl⟩) (fun h2 => mv_J.r0 (Or.inr rfl) ⟨(mv_b1 (by omega)).symm, rfl⟩)
set_option maxHeartbeats 1000000 in
theorem fx_fewest_3 {w k L : Nat} {C : Nat → Prop} (h6 : G 81 0 6 = w) (h7 : G 81 0 7 = k) (hw : 1 ≤ w ∧ w ≤ 20) (hk : k ≤ 15) (hL : L ≤ 60) (hC : ∀ x : Nat, x + w ≤ L → (C x ↔ (x : Int) + w ≤ G 3 0 x)) (s t : Nat) (hst : s ≤ t) (htL : t ≤ L) : mv_Kp (ff_X4_fewest [.inr (81, 0), .inr (3, 0), .inl s, .inl t] G) (fun v G' => v = mv_Fe w k C s t ∧ mv_ch [83] [] G G') := by
  obtain ⟨P, hP⟩ : ∃ P : Int → mv_G → Prop, P = (fun v G' => v = mv_Fe w k C s t ∧ mv_ch [83] [] G G') := ⟨_, rfl⟩
  rw [← hP]
  have key : ∀ (q a : Nat) (f : Int) (G1 : mv_G), a = s + q → a ≤ t + 1 → mv_ch [83] [] G G1 → mv_fsp C w a t f → (∀ x, a ≤ x → x ≤ t → G1 83 0 x = mv_Fe w k C x t) → mv_JP mm_X4_fewest P 6 [some (.inr (81, 0)), some (.inr (3, 0)), some (.inl (s : Int)), some (.inl (t : Int)), some (.inl f), some (.inl ((a : Int) - 1)), none, none, none, none] G1 := by
    intro q
    induction q with
    | zero =>
      intro a f G1 ha hat hc hf ht
      refine mv_JP.of (rg_X4_fewest_6_81_3 _ _ _ _ G1) (mv_J.t (by omega) (mv_J.ck (by omega) (mv_J.ret ?_)))
      rw [hP, Int.toNat_natCast]
      exact ⟨ht s (by omega) hst, hc⟩
    | succ q ih =>
      intro a1 f G1 ha hat hc hf ht
      obtain ⟨a, rfl⟩ : ∃ a, a1 = a + 1 := ⟨s + q, by omega⟩
      have ea : ((a + 1 : Nat) : Int) - 1 = (a : Int) := by omega
      rw [ea]
      have h61 : G1 81 0 6 = w := by rw [hc.cell 81 rfl]; exact h6
      have h71 : G1 81 0 7 = k := by rw [hc.cell 81 rfl]; exact h7
      have hC1 : ∀ x : Nat, x + w ≤ L → (C x ↔ (x : Int) + w ≤ G1 3 0 x) := fun x hx => by rw [hc.cell 3 rfl]; exact hC x hx
      -- the number of this start is put down
      have put : ∀ (v f2 y z : Int), mv_fsp C w a t f2 → y < z → v = mv_Fe w k C a t → mv_JP mm_X4_fewest P 91 [some (.inr (81, 0)), some (.inr (3, 0)), some (.inl (s : Int)), some (.inl (t : Int)), some (.inl f2), some (.inl (a : Int)), some (.inl v), some (.inl y), some (.inl z), none] G1 := fun v f2 y z h1 h2 h3 => by
        refine mv_JP.of (rg_X4_fewest_91_81_3 _ _ _ _ _ _ _ G1) (mv_J.t h2 (mv_J.ck (by omega) (mv_J.cut ?_)))
        rw [Int.toNat_natCast, mv_ws (by omega)]
        refine ih a f2 _ (by omega) (by omega) (hc.uc rfl) h1 (fun x h4 h5 => ?_)
        rw [mv_up_at]
        by_cases e : x = a
        · rw [if_pos e, e]; exact h3
        · rw [if_neg e]; exact ht x (by omega) h5
      have run : ∀ (p : Nat), mv_plc C w a t p → (∀ b, mv_plc C w a t b → p ≤ b) → ∀ (m z : Nat) (v : Int), z + m = (if t < p + w + w + k then t - w + 1 else p + w + k) → p ≤ z → (∀ b, mv_plc C w a t b → b < z → v ≤ 1 + mv_Fe w k C (b + w + k) t) → (v = 60 ∧ z = p ∨ ∃ b, mv_plc C w a t b ∧ b < z ∧ b < p + w + k ∧ v = 1 + mv_Fe w k C (b + w + k) t) → mv_JP mm_X4_fewest P 91 [some (.inr (81, 0)), some (.inr (3, 0)), some (.inl (s : Int)), some (.inl (t : Int)), some (.inl (p : Int)), some (.inl (a : Int)), some (.inl v), some (.inl (if (t : Int) - w < p + w + k - 1 then (t : Int) - w else p + w + k - 1)), some (.inl (z : Int)), none] G1 := by
        intro p hp hpf m
        have hpt := hp.2
        induction m with
        | zero =>
          intro z v hz hpz h1 h2
          refine put v p _ _ (Or.inr ⟨p, rfl, hp, hpf⟩) (by split at hz <;> split <;> omega) ?_
          have h3 : ∀ b, mv_plc C w a t b → b < p + w + k → b < z := fun b hb hb2 => by
            have := hb.2
            split at hz <;> omega
          refine mv_Fe_min hw.1 hp hpf ?_ (fun b hb hb2 => h1 b hb (h3 b hb hb2))
          rcases h2 with ⟨h4, h5⟩ | ⟨b, h4, h5, h6, h7⟩
          · split at hz <;> omega
          · exact ⟨b, h4, h6, h7⟩
        | succ m ihm =>
          intro z v hz hpz h1 h2
          have hzt : z + w ≤ t ∧ z < p + w + k := by split at hz <;> omega
          refine mv_JP.of (rg_X4_fewest_91_81_3 _ _ _ _ _ _ _ G1) (mv_J.f (by split <;> omega) (mv_J.ce (fx_isClear4_3 h61 hw.2 z (by omega)) (mv_J.bt (fun h3 => ?_) (fun h3 => ?_))))
          · rw [mv_ws (by omega)]
            have hnC : ¬ C z := fun h => h3 ⟨by omega, (hC1 z (by omega)).mp h⟩
            refine mv_J.cut (ihm (z + 1) v (by omega) (by omega) (fun b hb hb2 => ?_) ?_)
            · by_cases e : b = z
              · exact absurd (e ▸ hb.1) hnC
              · exact h1 b hb (by omega)
            · rcases h2 with ⟨h4, h5⟩ | ⟨b, h4, h5, h6, h7⟩
              · exact absurd (h5 ▸ hp.1) hnC
              · exact Or.inr ⟨b, h4, by omega, h6, h7⟩
          · have hCz : C z := (hC1 z (by omega)).mpr h3.2
            have hpz2 : mv_plc C w a t z := ⟨hCz, by omega, by omega⟩
            have fb := mv_Fe_b (k := k) (C := C) hw.1 t (z + w + k) t (by omega)
            have hv : v ≤ 60 ∧ 0 ≤ v := by
              rcases h2 with ⟨h4, h5⟩ | ⟨b, h4, h5, h6, h7⟩
              · omega
              · have := mv_Fe_b (k := k) (C := C) hw.1 t (b + w + k) t (by omega)
                omega
            rw [h61, h71, mv_ws (x := (z : Int) + w) (by omega), mv_ws (x := (z : Int) + w + k) (by omega), mv_ws (x := (z : Int) + 1) (by omega)]
            have fin : ∀ y : Int, y = 1 + mv_Fe w k C (z + w + k) t → mv_JP mm_X4_fewest P 91 [some (.inr (81, 0)), some (.inr (3, 0)), some (.inl (s : Int)), some (.inl (t : Int)), some (.inl (p : Int)), some (.inl (a : Int)), some (.inl (if y < v then y else v)), some (.inl (if (t : Int) - w < p + w + k - 1 then (t : Int) - w else p + w + k - 1)), some (.inl ((z : Int) + 1)), none] G1 := fun y hy => by
              refine ihm (z + 1) _ (by omega) (by omega) (fun b hb hb2 => ?_) (Or.inr ?_)
              · by_cases e : b = z
                · subst e
                  split <;> omega
                · have := h1 b hb (by omega)
                  split <;> omega
              · by_cases c : y < v
                · rw [if_pos c]
                  exact ⟨z, hpz2, by omega, hzt.2, hy⟩
                · rw [if_neg c]
                  rcases h2 with ⟨h4, h5⟩ | ⟨b, h4, h5, h6, h7⟩
                  · exact ⟨z, hpz2, by omega, hzt.2, by omega⟩
                  · exact ⟨b, h4, by omega, h6, h7⟩
            refine mv_J.i (fun h4 => mv_J.ce (mv_min_eq _ _ _) (mv_J.cut (fin 1 ?_))) (fun h4 => mv_J.ck (by omega) ?_)
            · unfold mv_Fe
              rw [mv_stv_0 mv_Hf_ok hw.1 (by omega)]
              rfl
            · have e83 := ht (z + w + k) (by omega) (by omega)
              rw [show (z : Int) + w + k = ((z + w + k : Nat) : Int) by omega, Int.toNat_natCast, e83, mv_ws (by omega)]
              exact mv_J.ce (mv_min_eq _ _ _) (mv_J.cut (fin _ rfl))
      have tail : ∀ f2 : Int, mv_fsp C w a t f2 → mv_J mm_X4_fewest P (if f2 = -1 then (if f2 = -1 then some (.inr (91, [some (.inr (81, 0)), some (.inr (3, 0)), some (.inl (s : Int)), some (.inl (t : Int)), some (.inl f2), some (.inl (a : Int)), some (.inl 0), some (.inl (-2)), some (.inl f2), none], G1)) else mv_cn (mv_min [.inl (mv_w (mv_w (mv_w (f2 + G1 81 0 6) + G1 81 0 7) - 1)), .inl (mv_w ((t : Int) - G1 81 0 6))] G1) fun r0 G0 => some (.inr (91, [some (.inr (81, 0)), some (.inr (3, 0)), some (.inl (s : Int)), some (.inl (t : Int)), some (.inl f2), some (.inl (a : Int)), some (.inl 0), some (.inl r0), some (.inl f2), none], G0))) else (if f2 = -1 then some (.inr (91, [some (.inr (81, 0)), some (.inr (3, 0)), some (.inl (s : Int)), some (.inl (t : Int)), some (.inl f2), some (.inl (a : Int)), some (.inl 60), some (.inl (-2)), some (.inl f2), none], G1)) else mv_cn (mv_min [.inl (mv_w (mv_w (mv_w (f2 + G1 81 0 6) + G1 81 0 7) - 1)), .inl (mv_w ((t : Int) - G1 81 0 6))] G1) fun r0 G0 => some (.inr (91, [some (.inr (81, 0)), some (.inr (3, 0)), some (.inl (s : Int)), some (.inl (t : Int)), some (.inl f2), some (.inl (a : Int)), some (.inl 60), some (.inl r0), some (.inl f2), none], G0)))) := by
        intro f2 hf2
        rcases id hf2 with ⟨h1, h2⟩ | ⟨p, h1, h2, h3⟩
        · subst h1
          refine mv_J.t rfl (mv_J.t rfl (mv_J.cut (put 0 _ _ _ hf2 (by omega) (mv_Fe_0 hw.1 h2).symm)))
        · subst h1
          have hp2 := h2.2
          rw [h61, h71, mv_ws (x := (p : Int) + w) (by omega), mv_ws (x := (p : Int) + w + k) (by omega), mv_ws (x := (p : Int) + w + k - 1) (by omega), mv_ws (x := (t : Int) - w) (by omega)]
          refine mv_J.f (by omega) (mv_J.f (by omega) (mv_J.ce (mv_min_eq _ _ _) (mv_J.cut ?_)))
          refine run p h2 h3 ((if t < p + w + w + k then t - w + 1 else p + w + k) - p) p 60 ?_ (Nat.le_refl _) (fun b hb hb2 => ?_) (Or.inl ⟨rfl, rfl⟩)
          · split <;> omega
          · have := h3 b hb
            omega
      refine mv_JP.of (rg_X4_fewest_6_81_3 _ _ _ _ G1) ?_
      rw [show mv_w ((a : Int) + G1 81 0 6) = (a : Int) + w by rw [h61, mv_ws (by omega)]]
      refine mv_J.f (by omega) (mv_J.i (fun h1 => tail f (mv_fsp_no hf (fun h => by omega))) (fun h1 => mv_J.ce (fx_isClear4_3 h61 hw.2 a (by omega)) (mv_J.bt (fun h2 => tail f (mv_fsp_no hf (fun h => h2 ⟨by omega, (hC1 a (by omega)).mp h.1⟩))) (fun h2 => tail a (mv_fsp_yes ⟨(hC1 a (by omega)).mpr h2.2, Nat.le_refl _, by omega⟩)))))
  refine mv_Kp.of (mv_JP.of (rg_X4_fewest_0_81_3 s t G) (mv_J.cut ?_))
  have := key (t + 1 - s) (t + 1) (-1) G (by omega) (Nat.le_refl _) mv_ch.rf (Or.inl ⟨rfl, fun b hb => by have := hb.2; omega⟩) (fun x h1 h2 => by omega)
  rw [show ((t + 1 : Nat) : Int) - 1 = (t : Int) by omega] at this
  exact this
theorem fx_isClear4_82 {w : Nat} (h6 : G 81 0 6 = w) (hw : w ≤ 20) (x : Nat) (hx : x ≤ 60) : ff_X4_isClear [.inr (81, 0), .inr (82, 0), .inl x] G = some (mv_b (x < 60 ∧ (x : Int) + w ≤ G 82 0 x), G) := by
  refine mv_Kp.eq (mv_Kp.of (mv_JP.of (rg_X4_isClear_0_81_82 x G) (mv_J.f (by omega) (mv_J.i (fun h1 => mv_J.ck (by omega) ?_) (fun h1 => mv_J.r0 (Or.inl rfl) ⟨(mv_b0 (by omega)).symm, rfl⟩)))))
  rw [h6, mv_ws (by omega), Int.toNat_natCast]
  exact mv_J.i (fun h2 => mv_J.r0 (Or.inl rfl) ⟨(mv_b0 (by omega)).symm, rfl⟩) (fun h2 => mv_J.r0 (Or.inr rfl) ⟨(mv_b1 (by omega)).symm, rfl⟩)
set_option maxHeartbeats 1000000 in
theorem fx_fewest_82 {w k L : Nat} {C : Nat → Prop} (h6 : G 81 0 6 = w) (h7 : G 81 0 7 = k) (hw : 1 ≤ w ∧ w ≤ 20) (hk : k ≤ 15) (hL : L ≤ 60) (hC : ∀ x : Nat, x + w ≤ L → (C x ↔ (x : Int) + w ≤ G 82 0 x)) (s t : Nat) (hst : s ≤ t) (htL : t ≤ L) : mv_Kp (ff_X4_fewest [.inr (81, 0), .inr (82, 0), .inl s, .inl t] G) (fun v G' => v = mv_Fe w k C s t ∧ mv_ch [83] [] G G') := by
  obtain ⟨P, hP⟩ : ∃ P : Int → mv_G → Prop, P = (fun v G' => v = mv_Fe w k C s t ∧ mv_ch [83] [] G G') := ⟨_, rfl⟩
  rw [← hP]
  have key : ∀ (q a : Nat) (f : Int) (G1 : mv_G), a = s + q → a ≤ t + 1 → mv_ch [83] [] G G1 → mv_fsp C w a t f → (∀ x, a ≤ x → x ≤ t → G1 83 0 x = mv_Fe w k C x t) → mv_JP mm_X4_fewest P 6 [some (.inr (81, 0)), some (.inr (82, 0)), some (.inl (s : Int)), some (.inl (t : Int)), some (.inl f), some (.inl ((a : Int) - 1)), none, none, none, none] G1 := by
    intro q
    induction q with
    | zero =>
      intro a f G1 ha hat hc hf ht
      refine mv_JP.of (rg_X4_fewest_6_81_82 _ _ _ _ G1) (mv_J.t (by omega) (mv_J.ck (by omega) (mv_J.ret ?_)))
      rw [hP, Int.toNat_natCast]
      exact ⟨ht s (by omega) hst, hc⟩
    | succ q ih =>
      intro a1 f G1 ha hat hc hf ht
      obtain ⟨a, rfl⟩ : ∃ a, a1 = a + 1 := ⟨s + q, by omega⟩
      have ea : ((a + 1 : Nat) : Int) - 1 = (a : Int) := by omega
      rw [ea]
      have h61 : G1 81 0 6 = w := by rw [hc.cell 81 rfl]; exact h6
      have h71 : G1 81 0 7 = k := by rw [hc.cell 81 rfl]; exact h7
      have hC1 : ∀ x : Nat, x + w ≤ L → (C x ↔ (x : Int) + w ≤ G1 82 0 x) := fun x hx => by rw [hc.cell 82 rfl]; exact hC x hx
      -- the number of this start is put down
      have put : ∀ (v f2 y z : Int), mv_fsp C w a t f2 → y < z → v = mv_Fe w k C a t → mv_JP mm_X4_fewest P 91 [some (.inr (81, 0)), some (.inr (82, 0)), some (.inl (s : Int)), some (.inl (t : Int)), some (.inl f2), some (.inl (a : Int)), some (.inl v), some (.inl y), some (.inl z), none] G1 := fun v f2 y z h1 h2 h3 => by
        refine mv_JP.of (rg_X4_fewest_91_81_82 _ _ _ _ _ _ _ G1) (mv_J.t h2 (mv_J.ck (by omega) (mv_J.cut ?_)))
        rw [Int.toNat_natCast, mv_ws (by omega)]
        refine ih a f2 _ (by omega) (by omega) (hc.uc rfl) h1 (fun x h4 h5 => ?_)
        rw [mv_up_at]
        by_cases e : x = a
        · rw [if_pos e, e]; exact h3
        · rw [if_neg e]; exact ht x (by omega) h5
      have run : ∀ (p : Nat), mv_plc C w a t p → (∀ b, mv_plc C w a t b → p ≤ b) → ∀ (m z : Nat) (v : Int), z + m = (if t < p + w + w + k then t - w + 1 else p + w + k) → p ≤ z → (∀ b, mv_plc C w a t b → b < z → v ≤ 1 + mv_Fe w k C (b + w + k) t) → (v = 60 ∧ z = p ∨ ∃ b, mv_plc C w a t b ∧ b < z ∧ b < p + w + k ∧ v = 1 + mv_Fe w k C (b + w + k) t) → mv_JP mm_X4_fewest P 91 [some (.inr (81, 0)), some (.inr (82, 0)), some (.inl (s : Int)), some (.inl (t : Int)), some (.inl (p : Int)), some (.inl (a : Int)), some (.inl v), some (.inl (if (t : Int) - w < p + w + k - 1 then (t : Int) - w else p + w + k - 1)), some (.inl (z : Int)), none] G1 := by
        intro p hp hpf m
        have hpt := hp.2
        induction m with
        | zero =>
          intro z v hz hpz h1 h2
          refine put v p _ _ (Or.inr ⟨p, rfl, hp, hpf⟩) (by split at hz <;> split <;> omega) ?_
          have h3 : ∀ b, mv_plc C w a t b → b < p + w + k → b < z := fun b hb hb2 => by
            have := hb.2
            split at hz <;> omega
          refine mv_Fe_min hw.1 hp hpf ?_ (fun b hb hb2 => h1 b hb (h3 b hb hb2))
          rcases h2 with ⟨h4, h5⟩ | ⟨b, h4, h5, h6, h7⟩
          · split at hz <;> omega
          · exact ⟨b, h4, h6, h7⟩
        | succ m ihm =>
          intro z v hz hpz h1 h2
          have hzt : z + w ≤ t ∧ z < p + w + k := by split at hz <;> omega
          refine mv_JP.of (rg_X4_fewest_91_81_82 _ _ _ _ _ _ _ G1) (mv_J.f (by split <;> omega) (mv_J.ce (fx_isClear4_82 h61 hw.2 z (by omega)) (mv_J.bt (fun h3 => ?_) (fun h3 => ?_))))
          · rw [mv_ws (by omega)]
            have hnC : ¬ C z := fun h => h3 ⟨by omega, (hC1 z (by omega)).mp h⟩
            refine mv_J.cut (ihm (z + 1) v (by omega) (by omega) (fun b hb hb2 => ?_) ?_)
            · by_cases e : b = z
              · exact absurd (e ▸ hb.1) hnC
              · exact h1 b hb (by omega)
            · rcases h2 with ⟨h4, h5⟩ | ⟨b, h4, h5, h6, h7⟩
              · exact absurd (h5 ▸ hp.1) hnC
              · exact Or.inr ⟨b, h4, by omega, h6, h7⟩
          · have hCz : C z := (hC1 z (by omega)).mpr h3.2
            have hpz2 : mv_plc C w a t z := ⟨hCz, by omega, by omega⟩
            have fb := mv_Fe_b (k := k) (C := C) hw.1 t (z + w + k) t (by omega)
            have hv : v ≤ 60 ∧ 0 ≤ v := by
              rcases h2 with ⟨h4, h5⟩ | ⟨b, h4, h5, h6, h7⟩
              · omega
              · have := mv_Fe_b (k := k) (C := C) hw.1 t (b + w + k) t (by omega)
                omega
            rw [h61, h71, mv_ws (x := (z : Int) + w) (by omega), mv_ws (x := (z : Int) + w + k) (by omega), mv_ws (x := (z : Int) + 1) (by omega)]
            have fin : ∀ y : Int, y = 1 + mv_Fe w k C (z + w + k) t → mv_JP mm_X4_fewest P 91 [some (.inr (81, 0)), some (.inr (82, 0)), some (.inl (s : Int)), some (.inl (t : Int)), some (.inl (p : Int)), some (.inl (a : Int)), some (.inl (if y < v then y else v)), some (.inl (if (t : Int) - w < p + w + k - 1 then (t : Int) - w else p + w + k - 1)), some (.inl ((z : Int) + 1)), none] G1 := fun y hy => by
              refine ihm (z + 1) _ (by omega) (by omega) (fun b hb hb2 => ?_) (Or.inr ?_)
              · by_cases e : b = z
                · subst e
                  split <;> omega
                · have := h1 b hb (by omega)
                  split <;> omega
              · by_cases c : y < v
                · rw [if_pos c]
                  exact ⟨z, hpz2, by omega, hzt.2, hy⟩
                · rw [if_neg c]
                  rcases h2 with ⟨h4, h5⟩ | ⟨b, h4, h5, h6, h7⟩
                  · exact ⟨z, hpz2, by omega, hzt.2, by omega⟩
                  · exact ⟨b, h4, by omega, h6, h7⟩
            refine mv_J.i (fun h4 => mv_J.ce (mv_min_eq _ _ _) (mv_J.cut (fin 1 ?_))) (fun h4 => mv_J.ck (by omega) ?_)
            · unfold mv_Fe
              rw [mv_stv_0 mv_Hf_ok hw.1 (by omega)]
              rfl
            · have e83 := ht (z + w + k) (by omega) (by omega)
              rw [show (z : Int) + w + k = ((z + w + k : Nat) : Int) by omega, Int.toNat_natCast, e83, mv_ws (by omega)]
              exact mv_J.ce (mv_min_eq _ _ _) (mv_J.cut (fin _ rfl))
      have tail : ∀ f2 : Int, mv_fsp C w a t f2 → mv_J mm_X4_fewest P (if f2 = -1 then (if f2 = -1 then some (.inr (91, [some (.inr (81, 0)), some (.inr (82, 0)), some (.inl (s : Int)), some (.inl (t : Int)), some (.inl f2), some (.inl (a : Int)), some (.inl 0), some (.inl (-2)), some (.inl f2), none], G1)) else mv_cn (mv_min [.inl (mv_w (mv_w (mv_w (f2 + G1 81 0 6) + G1 81 0 7) - 1)), .inl (mv_w ((t : Int) - G1 81 0 6))] G1) fun r0 G0 => some (.inr (91, [some (.inr (81, 0)), some (.inr (82, 0)), some (.inl (s : Int)), some (.inl (t : Int)), some (.inl f2), some (.inl (a : Int)), some (.inl 0), some (.inl r0), some (.inl f2), none], G0))) else (if f2 = -1 then some (.inr (91, [some (.inr (81, 0)), some (.inr (82, 0)), some (.inl (s : Int)), some (.inl (t : Int)), some (.inl f2), some (.inl (a : Int)), some (.inl 60), some (.inl (-2)), some (.inl f2), none], G1)) else mv_cn (mv_min [.inl (mv_w (mv_w (mv_w (f2 + G1 81 0 6) + G1 81 0 7) - 1)), .inl (mv_w ((t : Int) - G1 81 0 6))] G1) fun r0 G0 => some (.inr (91, [some (.inr (81, 0)), some (.inr (82, 0)), some (.inl (s : Int)), some (.inl (t : Int)), some (.inl f2), some (.inl (a : Int)), some (.inl 60), some (.inl r0), some (.inl f2), none], G0)))) := by
        intro f2 hf2
        rcases id hf2 with ⟨h1, h2⟩ | ⟨p, h1, h2, h3⟩
        · subst h1
          refine mv_J.t rfl (mv_J.t rfl (mv_J.cut (put 0 _ _ _ hf2 (by omega) (mv_Fe_0 hw.1 h2).symm)))
        · subst h1
          have hp2 := h2.2
          rw [h61, h71, mv_ws (x := (p : Int) + w) (by omega), mv_ws (x := (p : Int) + w + k) (by omega), mv_ws (x := (p : Int) + w + k - 1) (by omega), mv_ws (x := (t : Int) - w) (by omega)]
          refine mv_J.f (by omega) (mv_J.f (by omega) (mv_J.ce (mv_min_eq _ _ _) (mv_J.cut ?_)))
          refine run p h2 h3 ((if t < p + w + w + k then t - w + 1 else p + w + k) - p) p 60 ?_ (Nat.le_refl _) (fun b hb hb2 => ?_) (Or.inl ⟨rfl, rfl⟩)
          · split <;> omega
          · have := h3 b hb
            omega
      refine mv_JP.of (rg_X4_fewest_6_81_82 _ _ _ _ G1) ?_
      rw [show mv_w ((a : Int) + G1 81 0 6) = (a : Int) + w by rw [h61, mv_ws (by omega)]]
      refine mv_J.f (by omega) (mv_J.i (fun h1 => tail f (mv_fsp_no hf (fun h => by omega))) (fun h1 => mv_J.ce (fx_isClear4_82 h61 hw.2 a (by omega)) (mv_J.bt (fun h2 => tail f (mv_fsp_no hf (fun h => h2 ⟨by omega, (hC1 a (by omega)).mp h.1⟩))) (fun h2 => tail a (mv_fsp_yes ⟨(hC1 a (by omega)).mpr h2.2, Nat.le_refl _, by omega⟩)))))
  refine mv_Kp.of (mv_JP.of (rg_X4_fewest_0_81_82 s t G) (mv_J.cut ?_))
  have := key (t + 1 - s) (t + 1) (-1) G (by omega) (Nat.le_refl _) mv_ch.rf (Or.inl ⟨rfl, fun b hb => by have := hb.2; omega⟩) (fun x h1 h2 => by omega)
  rw [show ((t + 1 : Nat) : Int) - 1 = (t : Int) by omega] at this
  exact this
end CF
