/-! Where attributes agree. -/
def ag_X (a b : mv_a) : Prop := (∀ j, j < 5 → b 0 j = a 0 j) ∧ ∀ o, 1 ≤ o → o ≤ 26 → o ≠ 16 → b o = a o
def ag_U (a b : mv_a) : Prop := b 0 5 = a 0 5 ∧ ∀ o, 30 ≤ o → o < 60 → b o = a o
def ag_T (a b : mv_a) : Prop := b 0 6 = a 0 6 ∧ b 0 7 = a 0 7 ∧ b 0 8 = a 0 8 ∧ b 16 = a 16
def ag_I (a b : mv_a) : Prop := b 0 9 = a 0 9 ∧ ∀ o, 100 ≤ o → b o = a o
section AG
variable {G : mv_G} {a b : mv_a}
theorem mv_cX.ag (h : mv_cX G a) (e : ag_X a b) : mv_cX G b := by
  obtain ⟨e0, e⟩ := e
  unfold mv_cX mv_cB mv_cL mv_bkC mv_dyC at h ⊢
  rw [e0 0 (by decide), e0 1 (by decide), e0 2 (by decide), e0 3 (by decide), e0 4 (by decide), e 1 (by decide) (by decide) (by decide), e 2 (by decide) (by decide) (by decide), e 3 (by decide) (by decide) (by decide), e 4 (by decide) (by decide) (by decide), e 5 (by decide) (by decide) (by decide), e 6 (by decide) (by decide) (by decide), e 7 (by decide) (by decide) (by decide), e 8 (by decide) (by decide) (by decide), e 9 (by decide) (by decide) (by decide), e 10 (by decide) (by decide) (by decide), e 11 (by decide) (by decide) (by decide), e 12 (by decide) (by decide) (by decide), e 13 (by decide) (by decide) (by decide), e 14 (by decide) (by decide) (by decide), e 15 (by decide) (by decide) (by decide), e 17 (by decide) (by decide) (by decide), e (17 + 1) (by decide) (by decide) (by decide), e (17 + 2) (by decide) (by decide) (by decide), e (17 + 3) (by decide) (by decide) (by decide), e (17 + 4) (by decide) (by decide) (by decide), e 22 (by decide) (by decide) (by decide), e (22 + 1) (by decide) (by decide) (by decide), e (22 + 2) (by decide) (by decide) (by decide), e (22 + 3) (by decide) (by decide) (by decide), e (22 + 4) (by decide) (by decide) (by decide)]
  exact h
theorem mv_mX.ag (h : mv_mX G a) (e : ag_X a b) : mv_mX G b := by
  obtain ⟨e0, e⟩ := e
  unfold mv_mX mv_mB mv_mL mv_bkM mv_dyM at h ⊢
  rw [e0 0 (by decide), e0 1 (by decide), e0 2 (by decide), e0 3 (by decide), e0 4 (by decide), e 1 (by decide) (by decide) (by decide), e 2 (by decide) (by decide) (by decide), e 3 (by decide) (by decide) (by decide), e 4 (by decide) (by decide) (by decide), e 5 (by decide) (by decide) (by decide), e 6 (by decide) (by decide) (by decide), e 7 (by decide) (by decide) (by decide), e 8 (by decide) (by decide) (by decide), e 9 (by decide) (by decide) (by decide), e 10 (by decide) (by decide) (by decide), e 11 (by decide) (by decide) (by decide), e 12 (by decide) (by decide) (by decide), e 13 (by decide) (by decide) (by decide), e 14 (by decide) (by decide) (by decide), e 15 (by decide) (by decide) (by decide), e 17 (by decide) (by decide) (by decide), e (17 + 1) (by decide) (by decide) (by decide), e (17 + 2) (by decide) (by decide) (by decide), e (17 + 3) (by decide) (by decide) (by decide), e (17 + 4) (by decide) (by decide) (by decide), e 22 (by decide) (by decide) (by decide), e (22 + 1) (by decide) (by decide) (by decide), e (22 + 2) (by decide) (by decide) (by decide), e (22 + 3) (by decide) (by decide) (by decide), e (22 + 4) (by decide) (by decide) (by decide)]
  exact h
theorem mv_iB.ag (h : mv_iB a) (e0 : ∀ j, j < 4 → b 0 j = a 0 j) (e : ∀ o, 1 ≤ o → o ≤ 8 → b o = a o) : mv_iB b := by
  unfold mv_iB at h ⊢
  rw [e0 0 (by decide), e0 1 (by decide), e0 2 (by decide), e0 3 (by decide), e 1 (by decide) (by decide), e 2 (by decide) (by decide), e 3 (by decide) (by decide), e 4 (by decide) (by decide), e 5 (by decide) (by decide), e 6 (by decide) (by decide), e 7 (by decide) (by decide), e 8 (by decide) (by decide)]
  exact h
theorem mv_iX.ag (h : mv_iX a) (e : ag_X a b) : mv_iX b := by
  obtain ⟨e0, e⟩ := e
  refine ⟨h.1.ag (fun j hj => e0 j (by omega)) (fun o h1 h2 => e o h1 (by omega) (by omega)), ?_⟩
  have h := h.2
  unfold mv_iL mv_iD at h ⊢
  rw [e0 1 (by decide), e0 4 (by decide), e 13 (by decide) (by decide) (by decide), e 14 (by decide) (by decide) (by decide), e 15 (by decide) (by decide) (by decide), e 17 (by decide) (by decide) (by decide), e (17 + 1) (by decide) (by decide) (by decide), e (17 + 2) (by decide) (by decide) (by decide), e (17 + 3) (by decide) (by decide) (by decide), e (17 + 4) (by decide) (by decide) (by decide), e 22 (by decide) (by decide) (by decide), e (22 + 1) (by decide) (by decide) (by decide), e (22 + 2) (by decide) (by decide) (by decide), e (22 + 3) (by decide) (by decide) (by decide), e (22 + 4) (by decide) (by decide) (by decide)]
  exact h
theorem mv_unC.ag (h : mv_unC G a) (e : ag_U a b) (h6 : a 0 5 ≤ 6) : mv_unC G b := by
  obtain ⟨nx, h1, h2, h3, h4⟩ := h
  refine ⟨nx, h1, h2, by rw [e.1]; exact h3, fun r hr => ?_⟩
  rw [e.1] at hr ⊢
  rw [e.2 (30 + r) (by omega) (by omega), e.2 (40 + r) (by omega) (by omega), e.2 (50 + r) (by omega) (by omega)]
  exact h4 r hr
theorem mv_unM.ag (h : mv_unM G a) (e : ag_U a b) (h6 : a 0 5 ≤ 6) : mv_unM G b := by
  refine ⟨by rw [e.1]; exact h.1, fun r hr => ?_⟩
  rw [e.1] at hr
  rw [e.2 (30 + r) (by omega) (by omega), e.2 (40 + r) (by omega) (by omega), e.2 (50 + r) (by omega) (by omega)]
  exact h.2 r hr
theorem mv_tpC.ag (h : mv_tpC G a) (e : ag_T a b) : mv_tpC G b := by
  unfold mv_tpC at h ⊢
  rw [e.1, e.2.1, e.2.2.1, e.2.2.2]
  exact h
theorem mv_tpM.ag (h : mv_tpM G a) (e : ag_T a b) : mv_tpM G b := by
  unfold mv_tpM at h ⊢
  rw [e.1, e.2.1, e.2.2.1, e.2.2.2]
  exact h
theorem mv_im.ag (e : ag_I a b) : mv_im b = mv_im a := funext fun o => e.2 (100 + o) (by omega)
theorem mv_iT.ag (h : mv_iT a) (e : ag_T a b) : mv_iT b := by
  unfold mv_iT at h ⊢
  rw [e.1, e.2.2.2]
  exact h
theorem mv_un_0 {r : Nat} : mv_un a r 0 0 = a 0 0 ∧ mv_un a r 0 1 = a 0 1 ∧ mv_un a r 0 2 = a (30 + r) 0 ∧ mv_un a r 0 3 = a (30 + r) 1 := ⟨rfl, rfl, rfl, rfl⟩
theorem mv_un_2 {r : Nat} : mv_un a r 2 = fun j => if j < 60 then a (50 + r) j else a 2 j := rfl
theorem mv_un_3 {r : Nat} : mv_un a r 3 = fun j => if j < 10 then a (40 + r) j else a 3 j := rfl
theorem mv_un_o {r o : Nat} (h0 : o ≠ 0) (h2 : o ≠ 2) (h3 : o ≠ 3) : mv_un a r o = a o := funext fun j => by
  unfold mv_un
  rw [if_neg (fun h => h0 h.1), if_neg (fun h => h0 h.1), if_neg h2, if_neg h3]
/-- what can be undone, where the people and what is told agree -/
theorem mv_iU.ag (h : mv_iU a) (eu : ag_U a b) (e0 : b 0 0 = a 0 0 ∧ b 0 1 = a 0 1) (el : a 0 3 ≤ b 0 3) (e1 : ∀ o, o = 1 ∨ (4 ≤ o ∧ o ≤ 8) → b o = a o) : mv_iU b := by
  obtain ⟨⟨h1, h2⟩, h3⟩ := h
  refine ⟨by rw [eu.1]; exact ⟨h1, h2⟩, fun r hr => ?_⟩
  rw [eu.1] at hr
  obtain ⟨h4, h5, h6⟩ := h3 r hr
  rw [eu.2 (30 + r) (by omega) (by omega)]
  refine ⟨?_, by omega, fun r2 g1 g2 => by
    rw [eu.1] at g2
    rw [eu.2 (30 + r2) (by omega) (by omega)]
    exact h6 r2 g1 g2⟩
  have u30 := eu.2 (30 + r) (by omega) (by omega)
  have u40 := eu.2 (40 + r) (by omega) (by omega)
  have u50 := eu.2 (50 + r) (by omega) (by omega)
  obtain ⟨i1, i2, i3, i4, i5, i6, i7⟩ := h4
  have q0 : mv_un b r 0 0 = mv_un a r 0 0 := e0.1
  have q1 : mv_un b r 0 1 = mv_un a r 0 1 := e0.2
  have q2 : mv_un b r 0 2 = mv_un a r 0 2 := by show b (30 + r) 0 = a (30 + r) 0; rw [u30]
  have q3 : mv_un b r 0 3 = mv_un a r 0 3 := by show b (30 + r) 1 = a (30 + r) 1; rw [u30]
  have w1 : ∀ o, o = 1 ∨ (4 ≤ o ∧ o ≤ 8) → mv_un b r o = mv_un a r o := fun o ho => by
    rw [mv_un_o (by omega) (by omega) (by omega), mv_un_o (by omega) (by omega) (by omega)]
    exact e1 o ho
  have w2 : ∀ i, i < 60 → mv_un b r 2 i = mv_un a r 2 i := fun i hi => by
    rw [mv_un_2, mv_un_2]
    dsimp only
    rw [if_pos hi, if_pos hi, u50]
  have w3 : ∀ i, i < 10 → mv_un b r 3 i = mv_un a r 3 i := fun i hi => by
    rw [mv_un_3, mv_un_3]
    dsimp only
    rw [if_pos hi, if_pos hi, u40]
  have e11 := i1.2.2.2.1
  refine ⟨?_, ?_, fun i hi => ?_, fun i hi => ?_, ?_, fun p hp => ?_, fun p q hp hq => ?_⟩
  · rw [q0, q1, q2, q3]; exact i1
  · rw [w1 1 (by omega)]; exact i2
  · rw [w2 i hi]; exact i3 i hi
  · rw [w3 i hi]; exact i4 i hi
  · rw [q1, w1 4 (by omega), w1 5 (by omega), w1 6 (by omega), w1 7 (by omega), w1 8 (by omega)]; exact i5
  · rw [q1] at hp
    rw [q0, w1 1 (by omega), w1 4 (by omega), w1 6 (by omega), w3 p (by omega)]
    exact i6 p hp
  · rw [q1] at hp hq
    rw [w1 4 (by omega), w1 6 (by omega), w3 p (by omega), w3 q (by omega)]
    exact i7 p q hp hq
end AG
/-! feed and end -/
def st_set (a : mv_a) (o : Nat) (f : Nat → Int) : mv_a := fun q => bif Nat.beq q o then f else a q
theorem st_set_o {a : mv_a} {o q : Nat} {f : Nat → Int} (h : q ≠ o) : st_set a o f q = a q := by
  unfold st_set
  rw [show Nat.beq q o = false from Bool.eq_false_iff.mpr (fun e => h (Nat.eq_of_beq_eq_true e))]
  rfl
theorem st_set_e {a : mv_a} {o : Nat} {f : Nat → Int} : st_set a o f o = f := by
  unfold st_set
  rw [Nat.beq_refl]
  rfl
def st_fd (a : mv_a) (v1 v2 v3 v4 v5 : Int) : mv_a := if 380 < a 0 6 then a else st_s1 (st_set a 16 (mv_ty1 (mv_ty1 (mv_ty1 (mv_ty1 (mv_ty1 (a 16) (a 0 6).toNat v1) ((a 0 6).toNat + 4) v2) ((a 0 6).toNat + 8) v3) ((a 0 6).toNat + 12) v4) ((a 0 6).toNat + 16) v5)) 6 (a 0 6 + 20)
theorem ag_of {a b : mv_a} (e0 : ∀ j, j ≠ 6 → b 0 j = a 0 j) (e : ∀ o, o ≠ 0 → o ≠ 16 → b o = a o) : ag_X a b ∧ ag_U a b ∧ ag_I a b :=
  ⟨⟨fun j hj => e0 j (by omega), fun o h1 h2 h3 => e o (by omega) h3⟩, ⟨e0 5 (by decide), fun o h1 h2 => e o (by omega) (by omega)⟩, e0 9 (by decide), fun o h1 => e o (by omega) (by omega)⟩
theorem st_cW.tp {G G2 : mv_G} {a b : mv_a} (h : st_cW G a) (hi : st_iW a) (hc : mv_ch [63] [(52, 0)] G G2) (e0 : ∀ j, j ≠ 6 → b 0 j = a 0 j) (e : ∀ o, o ≠ 0 → o ≠ 16 → b o = a o) (h1 : G2 52 0 0 = b 0 6) (h2 : ∀ j : Nat, (j : Int) < b 0 6 → G2 63 0 j = b 16 j) : st_cW G2 b := by
  obtain ⟨g1, g2, g3, g4, g5⟩ := h
  obtain ⟨x, u, i⟩ := ag_of e0 e
  have ck : ∀ k, k ≠ 63 → k ≠ 52 → G2 k = G k := fun k h1 h2 => hc.cell k (by simp; omega)
  refine ⟨(g1.cg (fun k hk => ck k ?_ ?_)).ag x, ?_, ⟨h1, h2, ?_, ?_⟩, ?_, fun h9 => ?_⟩
  · intro e; subst e; revert hk; decide
  · intro e; subst e; revert hk; decide
  · have : mv_unC G2 a := by
      unfold mv_unC at g2 ⊢
      rw [ck 47 (by decide) (by decide), ck 48 (by decide) (by decide), ck 49 (by decide) (by decide), ck 50 (by decide) (by decide), ck 51 (by decide) (by decide)]
      exact g2
    exact this.ag u hi.2.1.1.2
  · rw [hc.slot 52 1 rfl, e0 7 (by decide)]; exact g3.2.2.1
  · rw [hc.slot 52 2 rfl, e0 8 (by decide)]; exact g3.2.2.2
  · rw [ck 0 (by decide) (by decide), i.1]; exact g4
  · rw [i.1] at h9
    rw [mv_im.ag i]
    refine (g5 h9).cg (fun k hk => ?_)
    have hl : ∀ k ∈ mv_cXl, k + 23 ≠ 63 ∧ k + 23 ≠ 52 := by decide
    exact ck (k + 23) (hl k hk).1 (hl k hk).2
theorem st_mW.tp {G G2 : mv_G} {a b : mv_a} (h : st_mW G a) (hi : st_iW a) (hc : mv_ch [111] [(100, 0), (100, 16)] G G2) (e0 : ∀ j, j ≠ 6 → b 0 j = a 0 j) (e : ∀ o, o ≠ 0 → o ≠ 16 → b o = a o) (h1 : G2 100 0 16 = b 0 6) (h2 : ∀ j : Nat, (j : Int) < b 0 6 → G2 111 0 j = b 16 j) : st_mW G2 b := by
  obtain ⟨g1, g2, g3, g4, g5, g6, g7⟩ := h
  obtain ⟨x, u, i⟩ := ag_of e0 e
  have ck : ∀ k, k ≠ 111 → k ≠ 100 → G2 k = G k := fun k h1 h2 => hc.cell k (by simp; omega)
  refine ⟨(g1.cg hi.1 (fun k j hr => ?_)).ag x, ?_, ⟨h1, h2, ?_, ?_⟩, ?_, fun h9 => ?_, ?_, ?_⟩
  · by_cases c : k = 100
    · subst c
      refine hc 100 0 j rfl ?_
      have : j ≠ 0 ∧ j ≠ 16 := by unfold mv_rel at hr; omega
      simp; omega
    · rw [ck k (by unfold mv_rel at hr; omega) c]
  · have : mv_unM G2 a := by
      unfold mv_unM at g2 ⊢
      rw [hc.slot 100 3 rfl, ck 102 (by decide) (by decide)]
      exact g2
    exact this.ag u hi.2.1.1.2
  · rw [hc.slot 100 35 rfl, e0 7 (by decide)]; exact g3.2.2.1
  · rw [hc.slot 100 36 rfl, e0 8 (by decide)]; exact g3.2.2.2
  · rw [hc.slot 100 68 rfl, i.1]; exact g4
  · rw [i.1] at h9
    rw [mv_im.ag i, ck 137 (by decide) (by decide)]
    exact g5 h9
  · rw [hc.slot 100 5 rfl]; exact g6
  · rw [ck 112 (by decide) (by decide)]; exact g7
theorem st_iW.tp {a b : mv_a} (h : st_iW a) (e0 : ∀ j, j ≠ 6 → b 0 j = a 0 j) (e : ∀ o, o ≠ 0 → o ≠ 16 → b o = a o) (ht : mv_iT b) : st_iW b := by
  obtain ⟨h1, h2, h3, h4, h5⟩ := h
  obtain ⟨x, u, i⟩ := ag_of e0 e
  refine ⟨h1.ag x, h2.ag u ⟨e0 0 (by decide), e0 1 (by decide)⟩ (by rw [e0 3 (by decide)]; exact Int.le_refl _) (fun o ho => e o (by omega) (by omega)), ht, by rw [i.1]; exact h4, fun h9 => ?_⟩
  rw [i.1] at h9
  rw [mv_im.ag i]
  exact h5 h9
theorem bx_end (x : Int) : st_bx (ff_X11_end [.inr (0, 0), .inl x]) (ff_X12_end [.inr (100, 0), .inl x]) := by
  refine st_bx_of (fun a => mv_b (0 ≤ x ∧ x ≤ a 0 6)) (fun a => if 0 ≤ x ∧ x ≤ a 0 6 then st_s1 a 6 x else a) (fun G a hc hi => ?_) (fun G a hm hi => ?_) (fun a hi => ?_)
  · refine mv_Kp.of (mv_JP.of (rg_X11_end_0 x G) ?_)
    rw [hc.2.2.1.1]
    refine mv_J.i (fun h => mv_J.r0 (Or.inl rfl) ⟨(mv_b0 (by omega)).symm, ?_, mv_fC.rf⟩) (fun h => mv_J.i (fun h2 => mv_J.r0 (Or.inl rfl) ⟨(mv_b0 (by omega)).symm, ?_, mv_fC.rf⟩) (fun h2 => mv_J.r0 (Or.inr rfl) ⟨(mv_b1 (by omega)).symm, ?_, mv_up_fC (by decide)⟩))
    · rw [if_neg (by omega)]; exact hc
    · rw [if_neg (by omega)]; exact hc
    · rw [if_pos (by omega)]
      refine hc.tp hi (mv_ch.rf.up rfl) (fun j hj => st_s1_j hj) (fun o h1 h2 => st_s1_o h1) ?_ (fun j hj => ?_)
      · rw [mv_ups_eq, st_s1_0]
      · rw [st_s1_0] at hj
        rw [mv_up_k (by decide), st_s1_o (by decide)]
        exact hc.2.2.1.2.1 j (by omega)
  · refine mv_Kp.of (mv_JP.of (rg_X12_end_0 x G) ?_)
    rw [mv_up_j (by decide), hm.2.2.1.1]
    have c0 : mv_ch [111] [(100, 0), (100, 16)] G (mv_up G 100 0 0 0) := mv_ch.rf.up rfl
    refine mv_J.ce (gx_isIn _ _ _ _) (mv_J.bt (fun h => mv_J.r0 (Or.inl rfl) ⟨(mv_b0 h).symm, ?_, mv_up_fM (by decide)⟩) (fun h => mv_J.r0 (Or.inr rfl) ⟨(mv_b1 h).symm, ?_, (mv_up_fM (by decide)).tr (mv_up_fM (by decide))⟩))
    · rw [if_neg h]
      refine hm.tp hi c0 (fun _ _ => rfl) (fun _ _ _ => rfl) ?_ (fun j hj => ?_)
      · rw [mv_up_j (by decide)]; exact hm.2.2.1.1
      · rw [mv_up_k (by decide)]; exact hm.2.2.1.2.1 j hj
    · rw [if_pos h]
      refine hm.tp hi (c0.up rfl) (fun j hj => st_s1_j hj) (fun o h1 h2 => st_s1_o h1) ?_ (fun j hj => ?_)
      · rw [mv_ups_eq, st_s1_0]
      · rw [st_s1_0] at hj
        rw [mv_up_k (by decide), mv_up_k (by decide), st_s1_o (by decide)]
        exact hm.2.2.1.2.1 j (by omega)
  · by_cases c : 0 ≤ x ∧ x ≤ a 0 6
    · rw [if_pos c]
      refine hi.tp (fun j hj => st_s1_j hj) (fun o h1 h2 => st_s1_o h1) ⟨?_, fun j hj => ?_⟩
      · have := hi.2.2.1.1
        rw [st_s1_0]
        omega
      · rw [st_s1_0] at hj
        rw [st_s1_o (by decide)]
        exact hi.2.2.1.2 j (by omega)
    · rw [if_neg c]; exact hi
theorem mv_ty1_b {t : Nat → Int} {s : Nat} {v : Int} (h : ∀ j, j < s → 0 ≤ t j ∧ t j ≤ 255) : ∀ j, j < s + 4 → 0 ≤ mv_ty1 t s v j ∧ mv_ty1 t s v j ≤ 255 := fun j hj => by
  unfold mv_ty1
  by_cases c : s ≤ j ∧ j < s + 4
  · rw [if_pos c]; exact mv_and_255 _
  · rw [if_neg c]; exact h j (by omega)
theorem mv_ty1_cg {t t2 : Nat → Int} {s : Nat} {v : Int} (h : ∀ j, j < s → t j = t2 j) : ∀ j, j < s + 4 → mv_ty1 t s v j = mv_ty1 t2 s v j := fun j hj => by
  unfold mv_ty1
  by_cases c : s ≤ j ∧ j < s + 4
  · rw [if_pos c, if_pos c]
  · rw [if_neg c, if_neg c]; exact h j (by omega)
theorem bx_feed (v1 v2 v3 v4 v5 : Int) : st_bx (ff_X11_feed [.inr (0, 0), .inl v1, .inl v2, .inl v3, .inl v4, .inl v5]) (ff_X12_feed [.inr (100, 0), .inl v1, .inl v2, .inl v3, .inl v4, .inl v5]) := by
  refine st_bx_of (fun a => if 380 < a 0 6 then -1 else a 0 6 + 20) (fun a => st_fd a v1 v2 v3 v4 v5) (fun G a hc hi => ?_) (fun G a hm hi => ?_) (fun a hi => ?_)
  · obtain ⟨⟨t1, t2⟩, t3⟩ := hi.2.2.1
    obtain ⟨s, hs⟩ : ∃ s : Nat, a 0 6 = s := ⟨(a 0 6).toNat, by omega⟩
    refine mv_Kp.of (mv_JP.of (rg_X11_feed_0 v1 v2 v3 v4 v5 G) ?_)
    unfold st_fd
    rw [hc.2.2.1.1, mv_ws (by omega)]
    refine mv_J.i (fun h => mv_J.ret ⟨(if_pos (by omega)).symm, by rw [if_pos (by omega)]; exact hc, mv_fC.rf⟩) (fun h => ?_)
    rw [if_neg (show ¬ 380 < a 0 6 by omega), if_neg (show ¬ 380 < a 0 6 by omega)]
    rw [hs, Int.toNat_natCast]
    refine mv_J.cn (fx_append s (by omega) (hc.2.2.1.1.trans hs) v1) (fun _ G1 ⟨p1, q1, c1⟩ => mv_J.cn (fx_append (s + 4) (by omega) p1 v2) (fun _ G2 ⟨p2, q2, c2⟩ => mv_J.cn (fx_append (s + 8) (by omega) p2 v3) (fun _ G3 ⟨p3, q3, c3⟩ => mv_J.cn (fx_append (s + 12) (by omega) p3 v4) (fun _ G4 ⟨p4, q4, c4⟩ => mv_J.cn (fx_append (s + 16) (by omega) p4 v5) (fun _ G5 ⟨p5, q5, c5⟩ => mv_J.ret ⟨by rw [p5]; omega, ?_, ?_⟩)))))
    · have cc := (((c1.tr c2).tr c3).tr c4).tr c5
      refine hc.tp hi cc (fun j hj => (st_s1_j hj).trans (congrFun (st_set_o (by decide)) j)) (fun o h1 h2 => (st_s1_o h1).trans (st_set_o h2)) ?_ (fun j hj => ?_)
      · rw [p5, st_s1_0]; omega
      · rw [st_s1_0] at hj
        rw [st_s1_o (by decide), st_set_e, q5 j]
        exact mv_ty1_cg (fun j hj => (q4 j).trans (mv_ty1_cg (fun j hj => (q3 j).trans (mv_ty1_cg (fun j hj => (q2 j).trans (mv_ty1_cg (fun j hj => (q1 j).trans (mv_ty1_cg (fun j hj => hc.2.2.1.2.1 j (by omega)) j hj)) j hj)) j hj)) j hj)) j (by omega)
    · exact ((((c1.tr c2).tr c3).tr c4).tr c5).fC rfl
  · obtain ⟨⟨t1, t2⟩, t3⟩ := hi.2.2.1
    obtain ⟨s, hs⟩ : ∃ s : Nat, a 0 6 = s := ⟨(a 0 6).toNat, by omega⟩
    refine mv_Kp.of (mv_JP.of (rg_X12_feed_0 v1 v2 v3 v4 v5 G) ?_)
    unfold st_fd
    have c0 : mv_ch [111] [(100, 0), (100, 16)] G (mv_up G 100 0 0 0) := mv_ch.rf.up rfl
    have p0 : (mv_up G 100 0 0 0) 100 0 16 = (s : Int) := by rw [mv_up_j (by decide)]; exact hm.2.2.1.1.trans hs
    have q0 : ∀ j : Nat, (j : Int) < a 0 6 → (mv_up G 100 0 0 0) 111 0 j = a 16 j := fun j hj => by rw [mv_up_k (by decide)]; exact hm.2.2.1.2.1 j hj
    generalize mv_up G 100 0 0 0 = G0 at c0 p0 q0
    rw [p0]
    refine mv_J.i (fun h => mv_J.ret ⟨(if_pos (by omega)).symm, ?_, c0.fM rfl⟩) (fun h => ?_)
    · rw [if_pos (by omega)]
      exact hm.tp hi c0 (fun _ _ => rfl) (fun _ _ _ => rfl) (p0.trans hs.symm) q0
    rw [if_neg (show ¬ 380 < a 0 6 by omega), if_neg (show ¬ 380 < a 0 6 by omega)]
    rw [hs, Int.toNat_natCast]
    refine mv_J.cn (gx_types s (by omega) p0 v1) (fun _ G1 ⟨p1, q1, c1⟩ => mv_J.cn (gx_types (s + 4) (by omega) p1 v2) (fun _ G2 ⟨p2, q2, c2⟩ => mv_J.cn (gx_types (s + 8) (by omega) p2 v3) (fun _ G3 ⟨p3, q3, c3⟩ => mv_J.cn (gx_types (s + 12) (by omega) p3 v4) (fun _ G4 ⟨p4, q4, c4⟩ => mv_J.cn (gx_types (s + 16) (by omega) p4 v5) (fun _ G5 ⟨p5, q5, c5⟩ => mv_J.ret ⟨by rw [p5]; omega, ?_, ?_⟩)))))
    · have cc : mv_ch [111] [(100, 0), (100, 16)] G G5 := c0.tr (((((c1.tr c2).tr c3).tr c4).tr c5).mono rfl rfl)
      refine hm.tp hi cc (fun j hj => (st_s1_j hj).trans (congrFun (st_set_o (by decide)) j)) (fun o h1 h2 => (st_s1_o h1).trans (st_set_o h2)) ?_ (fun j hj => ?_)
      · rw [p5, st_s1_0]; omega
      · rw [st_s1_0] at hj
        rw [st_s1_o (by decide), st_set_e, q5 j]
        exact mv_ty1_cg (fun j hj => (q4 j).trans (mv_ty1_cg (fun j hj => (q3 j).trans (mv_ty1_cg (fun j hj => (q2 j).trans (mv_ty1_cg (fun j hj => (q1 j).trans (mv_ty1_cg (fun j hj => q0 j (by omega)) j hj)) j hj)) j hj)) j hj)) j (by omega)
    · exact (c0.fM rfl).tr (((((c1.tr c2).tr c3).tr c4).tr c5).fM rfl)
  · obtain ⟨⟨t1, t2⟩, t3⟩ := hi.2.2.1
    obtain ⟨s, hs⟩ : ∃ s : Nat, a 0 6 = s := ⟨(a 0 6).toNat, by omega⟩
    unfold st_fd
    by_cases c : 380 < a 0 6
    · rw [if_pos c]; exact hi
    · rw [if_neg c, hs, Int.toNat_natCast]
      refine hi.tp (fun j hj => (st_s1_j hj).trans (congrFun (st_set_o (by decide)) j)) (fun o h1 h2 => (st_s1_o h1).trans (st_set_o h2)) ⟨?_, fun j hj => ?_⟩
      · rw [st_s1_0]; omega
      · rw [st_s1_0] at hj
        rw [st_s1_o (by decide), st_set_e]
        exact mv_ty1_b (mv_ty1_b (mv_ty1_b (mv_ty1_b (mv_ty1_b (fun j hj => t3 j (by omega)))))) j (by omega)
