/-! TEXT: the reference reads claims, with what waits. -/
def pr_mc (G G2 : mv_G) : Prop := mv_ch [117, 118, 119] [(100, 17), (100, 18), (100, 19), (100, 20), (100, 29), (100, 30), (100, 32), (100, 33), (100, 34)] G G2 ∧ ∀ j, j < 800 → G2 117 0 j = G 117 0 j ∧ G2 118 0 j = G 118 0 j
theorem pr_mc.rf {G : mv_G} : pr_mc G G := ⟨mv_ch.rf, fun _ _ => ⟨rfl, rfl⟩⟩
theorem pr_mc.tr {G G2 G3 : mv_G} (h : pr_mc G G2) (h2 : pr_mc G2 G3) : pr_mc G G3 := ⟨h.1.tr h2.1, fun j hj => ⟨(h2.2 j hj).1.trans (h.2 j hj).1, (h2.2 j hj).2.trans (h.2 j hj).2⟩⟩
theorem pr_mb.c {G G2 : mv_G} (h : pr_mb G G2) : pr_mc G G2 := ⟨h.1.mono rfl rfl, h.2⟩
theorem pr_mc.up {G G2 : mv_G} {k i j : Nat} {v : Int} (h : pr_mc G G2) (h1 : (k == 119 || (k == 100 && (j == 30 || j == 32))) = true) : pr_mc G (mv_up G2 k i j v) := by
  have hk : k = 119 ∨ k = 100 ∧ (j = 30 ∨ j = 32) := by simpa using h1
  refine ⟨h.1.up ?_, fun x hx => ?_⟩
  · rcases hk with rfl | ⟨rfl, rfl | rfl⟩ <;> rfl
  · rw [mv_up_k (by omega), mv_up_k (by omega)]
    exact h.2 x hx
theorem pr_mE.mc {G G2 : mv_G} {t : Nat → Int} {n kd : Nat} (h : pr_mE G t n kd) (hc : pr_mc G G2) : pr_mE G2 t n kd := by
  unfold pr_mE at h ⊢
  rw [hc.1.slot 100 16 rfl, hc.1.slot 100 28 rfl, hc.1.cell 111 rfl, hc.1.cell 112 rfl]
  exact h
def pr_pk (G : mv_G) : List Int → Prop
  | [] => True
  | x :: xs => G 119 0 xs.length = x ∧ pr_pk G xs
theorem pr_pk.cg {G G2 : mv_G} (l : Nat) (h2 : ∀ j, j < l → G2 119 0 j = G 119 0 j) : ∀ st : List Int, st.length ≤ l → pr_pk G st → pr_pk G2 st
  | [], _, _ => True.intro
  | x :: xs, hl, h => by
    have hl : xs.length + 1 ≤ l := hl
    exact ⟨(h2 xs.length (by omega)).trans h.1, pr_pk.cg l h2 xs (by omega) h.2⟩
def pr_op : List Int → Nat
  | [] => 0
  | x :: xs => if x = 9 ∨ x = 12 then pr_op xs + 1 else pr_op xs
def pr_br : List Int → Nat
  | [] => 0
  | x :: xs => if x = 12 then pr_br xs + 1 else pr_br xs
theorem pr_br_le : ∀ st : List Int, pr_br st ≤ pr_op st
  | [] => Nat.le_refl _
  | x :: xs => by
    have ih := pr_br_le xs
    unfold pr_br pr_op
    split
    · rename_i h; rw [if_pos (Or.inr h)]; omega
    · split <;> omega
def pr_nt (x : Int) : List Int → Prop
  | [] => True
  | y :: _ => y ≠ x
def pr_sl (x c : Int) : List Int → pr_S → List Int × pr_S
  | [], S => ([], S)
  | y :: ys, S => if y = x then pr_sl x c ys (pr_ad S c) else (y :: ys, S)
theorem pr_sl_nt {x c : Int} : ∀ {st : List Int} (S : pr_S), pr_nt x st → pr_sl x c st S = (st, S)
  | [], _, _ => rfl
  | _ :: _, _, h => if_neg h
theorem pr_sl_st {x c : Int} : ∀ (st : List Int) (S : pr_S), pr_sl x c st (pr_st S) = ((pr_sl x c st S).1, pr_st (pr_sl x c st S).2)
  | [], _ => rfl
  | y :: ys, S => by
    unfold pr_sl
    by_cases h : y = x
    · rw [if_pos h, if_pos h]
      exact pr_sl_st ys (pr_ad S c)
    · rw [if_neg h, if_neg h]
theorem pr_sl_br {c : Int} : ∀ (st : List Int) (S : pr_S), pr_br (pr_sl 9 c st S).1 = pr_br st
  | [], _ => rfl
  | y :: ys, S => by
    unfold pr_sl
    by_cases h : y = 9
    · rw [if_pos h, pr_sl_br ys]
      subst h
      rfl
    · rw [if_neg h]
/-- the reference, reading claims: what waits, and how far it is -/
def pr_A (G0 : mv_G) (t : Nat → Int) (n : Nat) (st : List Int) (S : pr_S) (G1 : mv_G) : Prop := pr_mc G0 G1 ∧ pr_mS G1 t n S ∧ G1 100 0 32 = ((st.length : Nat) : Int) ∧ pr_pk G1 st ∧ G1 100 0 30 = ((pr_op st : Nat) : Int)
section AN
variable {G0 : mv_G} {t : Nat → Int} {n m kd : Nat}
theorem pr_A.mb {st : List Int} {S S2 : pr_S} {G1 G2 : mv_G} (h : pr_A G0 t n st S G1) (hc : pr_mb G1 G2) (hS : pr_mS G2 t n S2) : pr_A G0 t n st S2 G2 := by
  obtain ⟨h1, h2, h3, h4, h5⟩ := h
  refine ⟨h1.tr hc.c, hS, (hc.1.slot 100 32 rfl).trans h3, pr_pk.cg st.length (fun j _ => by rw [hc.1.cell 119 rfl]) st (Nat.le_refl _) h4, (hc.1.slot 100 30 rfl).trans h5⟩
theorem pr_mS.up {G1 : mv_G} {S : pr_S} {k j : Nat} {v : Int} (h : pr_mS G1 t n S) (h1 : (k == 119 || (k == 100 && (j == 30 || j == 32))) = true) : pr_mS (mv_up G1 k 0 j v) t n S := by
  have hk : k = 119 ∨ k = 100 ∧ (j = 30 ∨ j = 32) := by simpa using h1
  unfold pr_mS mv_mT at h ⊢
  rw [mv_up_k (by omega : (117 : Nat) ≠ k), mv_up_k (by omega : (118 : Nat) ≠ k)]
  have e : ∀ x, x = 17 ∨ x = 18 ∨ x = 19 ∨ x = 20 ∨ x = 29 → (mv_up G1 k 0 j v) 100 0 x = G1 100 0 x := fun x hx => by
    rcases hk with rfl | ⟨rfl, hj⟩
    · rw [mv_up_k (by decide)]
    · rw [mv_up_j (by omega)]
  rw [e 17 (by omega), e 18 (by omega), e 19 (by omega), e 20 (by omega), e 29 (by omega)]
  exact h
/-- something more waits -/
theorem gx_waits {st : List Int} {S : pr_S} {G1 : mv_G} (h : pr_A G0 t n st S G1) (hl : st.length < 40) (x : Int) : mv_Kp (ff_X12_waits [.inr (100, 0), .inl x] G1) (fun _ G2 => pr_mc G0 G2 ∧ pr_mS G2 t n S ∧ G2 100 0 32 = (((x :: st).length : Nat) : Int) ∧ pr_pk G2 (x :: st) ∧ G2 100 0 30 = ((pr_op st : Nat) : Int)) := by
  obtain ⟨h1, h2, h3, h4, h5⟩ := h
  refine mv_Kp.of (mv_JP.of (rg_X12_waits_0 x G1) ?_)
  rw [mv_up_k (by decide : (100 : Nat) ≠ 119), h3, Int.toNat_natCast, mv_ws (by omega)]
  refine mv_J.ck (by omega) (mv_J.ret ⟨(h1.up rfl).up rfl, (h2.up rfl).up rfl, ?_, ⟨?_, ?_⟩, ?_⟩)
  · rw [mv_ups_eq]; rfl
  · rw [mv_up_k (by decide), mv_ups_eq]
  · refine pr_pk.cg st.length (fun j hj => ?_) st (Nat.le_refl _) h4
    rw [mv_up_k (by decide), mv_up_j (by omega)]
  · rw [mv_up_j (by decide), mv_up_k (by decide)]; exact h5
set_option maxHeartbeats 1000000 in
theorem gx_settles (x c : Int) (hx : x = 9 ∧ c = 20005 ∨ x = 10 ∧ c = 20004 ∨ x = 11 ∧ c = 20003) (st : List Int) (S : pr_S) (G1 : mv_G) (h : pr_A G0 t n st S G1) (hz : S.2.1 + st.length ≤ 400) (hl : st.length ≤ 40) : mv_Kp (ff_X12_settles [.inr (100, 0), .inl x] G1) (fun _ G2 => pr_A G0 t n (pr_sl x c st S).1 (pr_sl x c st S).2 G2) := by
  obtain ⟨P, hP⟩ : ∃ P : List Int → pr_S → Int → mv_G → Prop, P = (fun st S _ G2 => pr_A G0 t n (pr_sl x c st S).1 (pr_sl x c st S).2 G2) := ⟨_, rfl⟩
  have key : ∀ (st : List Int) (S : pr_S) (G1 : mv_G), pr_A G0 t n st S G1 → S.2.1 + st.length ≤ 400 → st.length ≤ 40 → mv_JP mm_X12_settles (P st S) 0 [some (.inr (100, 0)), some (.inl x)] G1 := by
    intro st
    induction st with
    | nil =>
      intro S G1 h _ _
      refine mv_JP.of (rg_X12_settles_0 x G1) ?_
      rw [h.2.2.1]
      refine mv_J.f (by decide) (mv_J.ret ?_)
      rw [hP]
      exact h
    | cons y ys ih =>
      intro S G1 h hz hl
      have hz : S.2.1 + (ys.length + 1) ≤ 400 := hz
      have hl : ys.length + 1 ≤ 40 := hl
      obtain ⟨h1, h2, h3, h4, h5⟩ := h
      have h3' : G1 100 0 32 = ((ys.length + 1 : Nat) : Int) := h3
      refine mv_JP.of (rg_X12_settles_0 x G1) ?_
      rw [h3', mv_ws (by omega), show ((ys.length + 1 : Nat) : Int) - 1 = (ys.length : Int) by omega, Int.toNat_natCast, h4.1]
      refine mv_J.t (by omega) (mv_J.ck (by omega) (mv_J.i (fun e => ?_) (fun e => mv_J.ret ?_)))
      · have es : P (y :: ys) S = P ys (pr_ad S c) := by
          rw [hP]
          funext r G2
          show pr_A G0 t n (if y = x then pr_sl x c ys (pr_ad S c) else (y :: ys, S)).1 (if y = x then pr_sl x c ys (pr_ad S c) else (y :: ys, S)).2 G2 = _
          rw [if_pos e]
        rw [es]
        have hS : pr_mS (mv_up G1 100 0 32 (ys.length : Int)) t n S := h2.up rfl
        refine mv_J.cn (gx_emits S hS (by omega) x 0 c ?_ ?_) (fun _ G2 h6 => ?_)
        · rcases hx with ⟨rfl, rfl⟩ | ⟨rfl, rfl⟩ | ⟨rfl, rfl⟩ <;> decide
        · rcases hx with ⟨rfl, rfl⟩ | ⟨rfl, rfl⟩ | ⟨rfl, rfl⟩ <;> decide
        · obtain ⟨hS2, c2⟩ := h6
          have q1 : pr_mc G0 G2 := (h1.up rfl).tr c2.c
          have q3 : G2 100 0 32 = (ys.length : Int) := by rw [c2.1.slot 100 32 rfl, mv_ups_eq]
          have q4 : pr_pk G2 ys := pr_pk.cg ys.length (fun j _ => by rw [c2.1.cell 119 rfl, mv_up_k (by decide)]) ys (Nat.le_refl _) h4.2
          have q5 : G2 100 0 30 = ((pr_op (y :: ys) : Nat) : Int) := by rw [c2.1.slot 100 30 rfl, mv_up_j (by decide)]; exact h5
          have ho : pr_op (y :: ys) = if y = 9 ∨ y = 12 then pr_op ys + 1 else pr_op ys := rfl
          refine mv_J.i (fun e9 => mv_J.cut ?_) (fun e9 => mv_J.cut ?_)
          · rw [q5, ho, if_pos (by omega), mv_ws (by
              have : pr_op ys ≤ ys.length := by
                have q : ∀ l : List Int, pr_op l ≤ l.length := fun l => by
                  induction l with
                  | nil => exact Nat.le_refl _
                  | cons z zs ihz =>
                    show (if z = 9 ∨ z = 12 then pr_op zs + 1 else pr_op zs) ≤ zs.length + 1
                    split <;> omega
                exact q ys
              omega)]
            refine ih (pr_ad S c) _ ⟨q1.up rfl, hS2.up rfl, ?_, ?_, ?_⟩ (show S.2.1 + 1 + ys.length ≤ 400 by omega) (by omega)
            · rw [mv_up_j (by decide)]; exact q3
            · exact pr_pk.cg ys.length (fun j _ => by rw [mv_up_k (by decide)]) ys (Nat.le_refl _) q4
            · rw [mv_ups_eq]; omega
          · refine ih (pr_ad S c) _ ⟨q1, hS2, q3, q4, ?_⟩ (show S.2.1 + 1 + ys.length ≤ 400 by omega) (by omega)
            rw [q5, ho, if_neg (by omega)]
      · rw [hP]
        show pr_A G0 t n (if y = x then pr_sl x c ys (pr_ad S c) else (y :: ys, S)).1 (if y = x then pr_sl x c ys (pr_ad S c) else (y :: ys, S)).2 G1
        rw [if_neg e]
        exact ⟨h1, h2, h3, h4, h5⟩
  have := key st S G1 h hz hl
  rw [hP] at this
  exact mv_Kp.of this
end AN
