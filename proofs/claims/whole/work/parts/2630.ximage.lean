/-! image answers alike. -/
def st_ti (a F : mv_a) : mv_a := fun o j => if o = 0 then (if j = 9 then 1 else a 0 j) else if 100 ≤ o then st_mx a F (o - 100) j else a o j
theorem st_ti_o {a F : mv_a} {o : Nat} (h0 : o ≠ 0) (h : o < 100) : st_ti a F o = a o := funext fun j => by
  unfold st_ti
  rw [if_neg h0, if_neg (by omega)]
theorem st_ti_0 {a F : mv_a} {j : Nat} (h : j ≠ 9) : st_ti a F 0 j = a 0 j := by
  unfold st_ti
  rw [if_pos rfl, if_neg h]
theorem st_ti_im {a F : mv_a} : mv_im (st_ti a F) = st_mx a F := funext fun o => funext fun j => by
  show st_ti a F (100 + o) j = _
  unfold st_ti
  rw [if_neg (by omega), if_pos (by omega), show 100 + o - 100 = o by omega]
theorem st_ti_X {a F : mv_a} : ag_X a (st_ti a F) ∧ ag_U a (st_ti a F) ∧ ag_T a (st_ti a F) := ⟨⟨fun j hj => st_ti_0 (by omega), fun o h1 h2 _ => st_ti_o (by omega) (by omega)⟩, ⟨st_ti_0 (by decide), fun o h1 h2 => st_ti_o (by omega) (by omega)⟩, st_ti_0 (by decide), st_ti_0 (by decide), st_ti_0 (by decide), st_ti_o (by decide) (by decide)⟩
def st_br (a : mv_a) : mv_a := fun o j => if o = 0 then (if j < 5 then a 100 j else if j = 5 then 0 else a 0 j) else if o ≤ 26 ∧ o ≠ 16 then st_mx (mv_im a) a o j else a o j
theorem st_br_X {a : mv_a} : ag_X (st_mx (mv_im a) a) (st_br a) := ⟨fun j hj => by
  unfold st_br
  rw [if_pos rfl, if_pos hj]; rfl, fun o h1 h2 h3 => funext fun j => by
  unfold st_br
  rw [if_neg (by omega), if_pos ⟨h2, h3⟩]⟩
theorem st_br_T {a : mv_a} : ag_T a (st_br a) ∧ ag_I a (st_br a) := ⟨⟨rfl, rfl, rfl, funext fun j => rfl⟩, rfl, fun o h => funext fun j => by
  unfold st_br
  rw [if_neg (by omega), if_neg (by omega)]⟩
theorem cp_P1 {G : mv_G} : cp_P G (mv_shC G) (mv_shC (cpW G 1 24)) := by
  have h := cpW_P (G := G) (s := 1) (t := 24) (by omega)
  have e1 : (fun k => G (1 - 1 + k)) = G := funext fun k => congrArg G (by omega)
  have e2 : (fun k => G (24 - 1 + k)) = mv_shC G := funext fun k => congrArg G (by omega)
  have e3 : (fun k => cpW G 1 24 (24 - 1 + k)) = mv_shC (cpW G 1 24) := funext fun k => congrArg (cpW G 1 24) (by omega)
  rw [e1, e2, e3] at h
  rcases h with h | h | h
  · exact h
  · omega
  · omega
theorem cp_P2 {G : mv_G} : cp_P (mv_shC G) G (cpW G 24 1) := by
  have h := cpW_P (G := G) (s := 24) (t := 1) (by omega)
  have e1 : (fun k => G (1 - 1 + k)) = G := funext fun k => congrArg G (by omega)
  have e2 : (fun k => G (24 - 1 + k)) = mv_shC G := funext fun k => congrArg G (by omega)
  have e3 : (fun k => cpW G 24 1 (1 - 1 + k)) = cpW G 24 1 := funext fun k => congrArg (cpW G 24 1) (by omega)
  rw [e1, e2, e3] at h
  rcases h with h | h | h
  · exact h
  · omega
  · omega
theorem bx_take : st_bx (ff_X11_image [.inr (0, 0), .inl 1]) (ff_X12_image [.inr (100, 0), .inl 1]) := by
  intro G a ⟨hc, hm, hi⟩
  obtain ⟨F, hF⟩ : ∃ F : mv_a, F = fun o => if o = 1 then G 25 0 else if o = 2 then G 27 0 else if o = 3 then G 29 0 else G 28 (o - 3) := ⟨_, rfl⟩
  obtain ⟨x1, x2, x3⟩ := st_ti_X (a := a) (F := F)
  have h9 : st_ti a F 0 9 = 1 := rfl
  have e1 : ff_X11_image [.inr (0, 0), .inl 1] G = some (1, mv_up (cpW G 1 24) 0 0 10 1) := mv_Kp.eq (mv_Kp.of (mv_JP.of (rg_X11_image_0 1 G) (mv_J.f (by decide) (mv_J.ce fx_bc_24_1 (mv_J.ck (by decide) (mv_J.r0 (Or.inr rfl) ⟨rfl, rfl⟩))))))
  have k1 : ∀ k, k ≠ 0 → k < 24 ∨ 46 < k → (mv_up (cpW G 1 24) 0 0 10 1) k = G k := fun k h0 h => by rw [mv_up_k h0, cpW_o (by omega)]
  have k0 : (mv_up (cpW G 1 24) 0 0 10 1) 0 0 10 = 1 := mv_ups_eq
  have ks : ∀ k, 24 ≤ k → (mv_up (cpW G 1 24) 0 0 10 1) k = cpW G 1 24 k := fun k h => mv_up_k (by omega)
  obtain ⟨G1, hG1⟩ : ∃ G1, mv_up (cpW G 1 24) 0 0 10 1 = G1 := ⟨_, rfl⟩
  rw [hG1] at e1 k1 k0 ks
  have fC : mv_fC G G1 := fun k hk => k1 k (by omega) (by omega)
  have c1 : st_cW G1 (st_ti a F) := by
    refine ⟨(hc.1.cg (fun k hk => k1 k ?_ ?_)).ag x1, ?_, ?_, k0.trans h9.symm, fun _ => ?_⟩
    · intro e; subst e; revert hk; decide
    · have : ∀ k ∈ mv_cXl, k < 24 := by decide
      exact Or.inl (this k hk)
    · have : mv_unC G1 a := by
        have u := hc.2.1
        unfold mv_unC at u ⊢
        rw [k1 47 (by decide) (by decide), k1 48 (by decide) (by decide), k1 49 (by decide) (by decide), k1 50 (by decide) (by decide), k1 51 (by decide) (by decide)]
        exact u
      exact this.ag x2 hi.2.1.1.2
    · have : mv_tpC G1 a := by
        have u := hc.2.2.1
        unfold mv_tpC at u ⊢
        rw [k1 52 (by decide) (by decide), k1 63 (by decide) (by decide)]
        exact u
      exact this.ag x3
    · rw [st_ti_im]
      refine (cp_X cp_P1 hc.1 hi.1 (F := F) (by subst hF; exact ⟨rfl, rfl, rfl, rfl, rfl, rfl, rfl, rfl⟩)).cg (fun k hk => ?_)
      have : ∀ k ∈ mv_cXl, 1 ≤ k := by decide
      have := this k hk
      exact ks (k + 23) (by omega)
  have m1 := hm.fC hi.1 fC
  have b1 := hi.1.1.1
  -- the reference
  have k67 : (mv_up (mv_up (mv_up (mv_up G1 100 0 0 0) 100 0 67 1) 100 0 68 1) 100 0 69 0) 100 0 67 = 1 := by rw [mv_up_j (by decide), mv_up_j (by decide), mv_ups_eq]
  have k68 : (mv_up (mv_up (mv_up (mv_up G1 100 0 0 0) 100 0 67 1) 100 0 68 1) 100 0 69 0) 100 0 68 = 1 := by rw [mv_up_j (by decide), mv_ups_eq]
  have k69 : (mv_up (mv_up (mv_up (mv_up G1 100 0 0 0) 100 0 67 1) 100 0 68 1) 100 0 69 0) 100 0 69 = 0 := mv_ups_eq
  have kc : mv_ch [] [(100, 0), (100, 67), (100, 68), (100, 69)] G1 (mv_up (mv_up (mv_up (mv_up G1 100 0 0 0) 100 0 67 1) 100 0 68 1) 100 0 69 0) := (((mv_ch.rf.up rfl).up rfl).up rfl).up rfl
  obtain ⟨G0, hG0⟩ : ∃ G0, mv_up (mv_up (mv_up (mv_up G1 100 0 0 0) 100 0 67 1) 100 0 68 1) 100 0 69 0 = G0 := ⟨_, rfl⟩
  rw [hG0] at k67 k68 k69 kc
  have r0 : ∀ k j, mv_rel k j → G0 k 0 j = G1 k 0 j := fun k j h => kc k 0 j rfl (by unfold mv_rel at h; simp; omega)
  have hr : mv_Kp (ff_X12_image [.inr (100, 0), .inl 1] G1) (fun v G2 => v = 1 ∧ kp_I 1 G0 2556 G2) := by
    refine mv_Kp.of (mv_JP.of (rg_X12_image_0 1 G1) (mv_J.f (by decide) (mv_J.ck (by decide) (mv_J.ck (by decide) ?_))))
    rw [hG0]
    refine mv_J.cut (gx_image1 (t := 1) (fun _ j hj => ?_) (fun h => absurd h (by decide)) ⟨k67, k69, fun _ _ => rfl, fun _ _ _ _ => rfl, fun _ _ _ h => absurd h (Nat.not_lt_zero _), mv_ch.rf⟩ (fun G2 h => ?_))
    · have e := m1.1.1.2.1 j hj
      have i2 := hi.1.1.2.1 j hj
      rw [r0 104 j (by unfold mv_rel; omega), e]
      exact i2
    · rw [if_neg (by decide)]
      exact ⟨rfl, h⟩
  obtain ⟨v, G2, e2, rfl, hI⟩ := hr
  obtain ⟨i1, i2, i3, i4, i5, i6⟩ := hI
  have fM : mv_fM G1 G2 := fun k hk => by rw [i6.cell k (by simp; omega), kc.cell k (by simp; omega)]
  have rr : ∀ k j, mv_rel k j → G2 k 0 j = G1 k 0 j := fun k j h => (i4 (by decide) k j h).trans (r0 k j h)
  have sl : ∀ j, j ≠ 0 → j ≠ 6 → j ≠ 8 → j ≠ 37 → j ≠ 67 → j ≠ 68 → j ≠ 69 → G2 100 0 j = G1 100 0 j := fun j q1 q2 q3 q4 q5 q6 q7 => by
    rw [i6 100 0 j rfl (by simp; omega), kc 100 0 j rfl (by simp; omega)]
  have ce : ∀ k, k = 102 ∨ k = 111 ∨ k = 112 → G2 k = G1 k := fun k hk => by
    rcases hk with rfl | rfl | rfl
    · rw [i6.cell 102 rfl, kc.cell 102 rfl]
    · rw [i6.cell 111 rfl, kc.cell 111 rfl]
    · rw [i6.cell 112 rfl, kc.cell 112 rfl]
  have mx := m1.1.cg hi.1 rr
  have m2 : st_mW G2 (st_ti a F) := by
    refine ⟨mx.ag x1, ?_, ?_, ?_, fun _ => ?_, ?_, ?_⟩
    · have : mv_unM G2 a := by
        have u := m1.2.1
        unfold mv_unM at u ⊢
        rw [sl 3 (by decide) (by decide) (by decide) (by decide) (by decide) (by decide) (by decide), ce 102 (by decide)]
        exact u
      exact this.ag x2 hi.2.1.1.2
    · have : mv_tpM G2 a := by
        have u := m1.2.2.1
        unfold mv_tpM at u ⊢
        rw [sl 16 (by decide) (by decide) (by decide) (by decide) (by decide) (by decide) (by decide), sl 35 (by decide) (by decide) (by decide) (by decide) (by decide) (by decide) (by decide), sl 36 (by decide) (by decide) (by decide) (by decide) (by decide) (by decide) (by decide), ce 111 (by decide)]
        exact u
      exact this.ag x3
    · rw [h9, i6.slot 100 68 rfl]; exact k68
    · rw [st_ti_im]
      refine st_mx_m (mx.cg hi.1 (fun k j h => ?_))
      rw [mv_vh_pos]
      exact (i5 k j h (kp_r h).1).symm
    · rw [sl 5 (by decide) (by decide) (by decide) (by decide) (by decide) (by decide) (by decide)]; exact m1.2.2.2.2.2.1
    · rw [ce 112 (by decide)]; exact m1.2.2.2.2.2.2
  have i2 : st_iW (st_ti a F) := by
    refine ⟨hi.1.ag x1, hi.2.1.ag x2 ⟨st_ti_0 (by decide), st_ti_0 (by decide)⟩ (by rw [st_ti_0 (by decide)]; exact Int.le_refl _) (fun o ho => st_ti_o (by omega) (by omega)), hi.2.2.1.ag x3, Or.inr h9, fun _ => ?_⟩
    rw [st_ti_im]
    exact st_mx_i hi.1
  exact ⟨1, G1, G2, st_ti a F, e1, e2, c1.fM fM, m2, i2⟩
theorem bx_bring : st_bx (ff_X11_image [.inr (0, 0), .inl 0]) (ff_X12_image [.inr (100, 0), .inl 0]) := by
  intro G a ⟨hc, hm, hi⟩
  by_cases h9 : a 0 9 = 0
  · have e1 : ff_X11_image [.inr (0, 0), .inl 0] G = some (0, G) := mv_Kp.eq (mv_Kp.of (mv_JP.of (rg_X11_image_0 0 G) (mv_J.t rfl (mv_J.t (by rw [hc.2.2.2.1]; exact h9) (mv_J.r0 (Or.inl rfl) ⟨rfl, rfl⟩)))))
    have e2 : ff_X12_image [.inr (100, 0), .inl 0] G = some (0, mv_up G 100 0 0 0) := mv_Kp.eq (mv_Kp.of (mv_JP.of (rg_X12_image_0 0 G) (mv_J.t rfl (mv_J.t (by rw [mv_up_j (by decide), hm.2.2.2.1]; exact h9) (mv_J.r0 (Or.inl rfl) ⟨rfl, rfl⟩)))))
    have c0 : mv_ch [] [(100, 0)] G (mv_up G 100 0 0 0) := mv_ch.rf.up rfl
    exact ⟨0, G, _, a, e1, e2, hc.fM (c0.fM rfl), hm.ch hi.1 c0 (by decide) (by decide), hi⟩
  have h91 : a 0 9 = 1 := hi.2.2.2.1.resolve_left h9
  have iI := hi.2.2.2.2 h9
  have e1 : ff_X11_image [.inr (0, 0), .inl 0] G = some (1, mv_up (cpW G 24 1) 47 0 0 0) := mv_Kp.eq (mv_Kp.of (mv_JP.of (rg_X11_image_0 0 G) (mv_J.t rfl (mv_J.f (by rw [hc.2.2.2.1]; exact h9) (mv_J.ce fx_bc_1_24 (mv_J.ce fx_forget (mv_J.r0 (Or.inr rfl) ⟨rfl, rfl⟩)))))))
  have k1 : ∀ k, k ≠ 47 → k = 0 ∨ 23 < k → (mv_up (cpW G 24 1) 47 0 0 0) k = G k := fun k h0 h => by rw [mv_up_k h0, cpW_o (by omega)]
  have k47 : (mv_up (cpW G 24 1) 47 0 0 0) 47 0 0 = 0 ∧ (mv_up (cpW G 24 1) 47 0 0 0) 47 0 1 = G 47 0 1 := ⟨mv_ups_eq, by rw [mv_up_j (by decide), cpW_o (by omega)]⟩
  have ks : ∀ k, k < 24 → (mv_up (cpW G 24 1) 47 0 0 0) k = cpW G 24 1 k := fun k h => mv_up_k (by omega)
  obtain ⟨G1, hG1⟩ : ∃ G1, mv_up (cpW G 24 1) 47 0 0 0 = G1 := ⟨_, rfl⟩
  rw [hG1] at e1 k1 k47 ks
  have fC : mv_fC G G1 := fun k hk => k1 k (by omega) (by omega)
  have h5 : st_br a 0 5 = 0 := rfl
  have c1 : st_cW G1 (st_br a) := by
    have hX := hc.1.1
    refine hc.bn (((cp_X cp_P2 (hc.2.2.2.2 h9) iI (F := a) ⟨hX.2.1.symm, hX.2.2.1.symm, hX.2.2.2.1.symm, hX.2.2.2.2.1.symm, hX.2.2.2.2.2.1.symm, hX.2.2.2.2.2.2.1.symm, hX.2.2.2.2.2.2.2.1.symm, hX.2.2.2.2.2.2.2.2.1.symm⟩).cg (fun k hk => ks k ?_)).ag st_br_X) (hc.2.1.z k47.2 k47.1 h5) (fun k hk => k1 k (by omega) (by omega)) (by rw [k1 0 (by decide) (by decide)]) (fun j _ => by rw [k1 52 (by decide) (by decide)]) st_br_T.1 st_br_T.2
    have : ∀ k ∈ mv_cXl, k < 24 := by decide
    exact this k hk
  have m1 := hm.fC hi.1 fC
  have mI := m1.2.2.2.2.1 h9
  have k67 : (mv_up (mv_up (mv_up (mv_up G1 100 0 0 0) 100 0 67 0) 100 0 68 1) 100 0 69 0) 100 0 67 = 0 := by rw [mv_up_j (by decide), mv_up_j (by decide), mv_ups_eq]
  have k68 : (mv_up (mv_up (mv_up (mv_up G1 100 0 0 0) 100 0 67 0) 100 0 68 1) 100 0 69 0) 100 0 68 = 1 := by rw [mv_up_j (by decide), mv_ups_eq]
  have k69 : (mv_up (mv_up (mv_up (mv_up G1 100 0 0 0) 100 0 67 0) 100 0 68 1) 100 0 69 0) 100 0 69 = 0 := mv_ups_eq
  have kc : mv_ch [] [(100, 0), (100, 67), (100, 68), (100, 69)] G1 (mv_up (mv_up (mv_up (mv_up G1 100 0 0 0) 100 0 67 0) 100 0 68 1) 100 0 69 0) := (((mv_ch.rf.up rfl).up rfl).up rfl).up rfl
  obtain ⟨G0, hG0⟩ : ∃ G0, mv_up (mv_up (mv_up (mv_up G1 100 0 0 0) 100 0 67 0) 100 0 68 1) 100 0 69 0 = G0 := ⟨_, rfl⟩
  rw [hG0] at k67 k68 k69 kc
  have hr : mv_Kp (ff_X12_image [.inr (100, 0), .inl 0] G1) (fun v G2 => v = 1 ∧ ∃ G3, G2 = mv_up G3 100 0 3 0 ∧ kp_I 0 G0 2556 G3) := by
    refine mv_Kp.of (mv_JP.of (rg_X12_image_0 0 G1) (mv_J.t rfl (mv_J.f (by rw [mv_up_j (by decide), m1.2.2.2.1]; exact h9) (mv_J.ck (by decide) (mv_J.ck (by decide) ?_)))))
    rw [hG0]
    refine mv_J.cut (gx_image1 (t := 0) (fun h => absurd rfl h) (fun _ j hj => ?_) ⟨k67, k69, fun _ _ => rfl, fun _ _ _ _ => rfl, fun _ _ _ h => absurd h (Nat.not_lt_zero _), mv_ch.rf⟩ (fun G2 h => ?_))
    · have e := mI.1.2.1 j hj
      rw [mv_vh_pos] at e
      have e : G1 137 0 (73 + j) = mv_im a 1 j := e
      rw [kc.cell 137 rfl, e]
      exact iI.1.2.1 j hj
    · rw [if_pos rfl]
      exact ⟨rfl, G2, rfl, h⟩
  obtain ⟨v, G2, e2, rfl, G3, rfl, hI⟩ := hr
  obtain ⟨i1, i2, i3, i4, i5, i6⟩ := hI
  have u3 : (mv_up G3 100 0 3 0) 100 0 3 = 0 := mv_ups_eq
  have ucell : ∀ k, k ≠ 100 → (mv_up G3 100 0 3 0) k = G3 k := fun k h => mv_up_k h
  have uslot : ∀ j, j ≠ 3 → (mv_up G3 100 0 3 0) 100 0 j = G3 100 0 j := fun j h => mv_up_j h
  obtain ⟨G2, hG2⟩ : ∃ G2, mv_up G3 100 0 3 0 = G2 := ⟨_, rfl⟩
  rw [hG2] at e2 u3 ucell uslot
  have fM : mv_fM G1 G2 := fun k hk => by rw [ucell k (by omega), i6.cell k (by simp; omega), kc.cell k (by simp; omega)]
  have sl : ∀ j, j = 5 ∨ j = 16 ∨ j = 35 ∨ j = 36 → G2 100 0 j = G1 100 0 j := fun j hj => by
    rw [uslot j (by omega), i6 100 0 j rfl (by simp; omega), kc 100 0 j rfl (by simp; omega)]
  have m2 : st_mW G2 (st_br a) := by
    refine ⟨(st_mx_m (mI.cg iI (fun k j h => ?_))).ag st_br_X, mv_unM.z u3 h5, ?_, ?_, fun _ => ?_, ?_, ?_⟩
    · rw [mv_vh_pos]
      have e : G2 k 0 j = G3 k 0 j := by
        by_cases c : k = 100
        · subst c; exact uslot j (by unfold mv_rel at h; omega)
        · rw [ucell k c]
      rw [e, i5 k j h (kp_r h).1, i3 rfl, kc.cell 137 rfl]
    · have : mv_tpM G2 a := by
        have u := m1.2.2.1
        unfold mv_tpM at u ⊢
        rw [sl 16 (by decide), sl 35 (by decide), sl 36 (by decide), ucell 111 (by decide), i6.cell 111 rfl, kc.cell 111 rfl]
        exact u
      exact this.ag st_br_T.1
    · rw [uslot 68 (by decide), i6.slot 100 68 rfl, k68]; exact h91.symm
    · rw [mv_im.ag st_br_T.2]
      have e : G2 137 0 = G1 137 0 := funext fun j => by rw [ucell 137 (by decide), i3 rfl, kc.cell 137 rfl]
      rw [e]
      exact mI
    · rw [sl 5 (by decide)]; exact m1.2.2.2.2.2.1
    · rw [ucell 112 (by decide), i6.cell 112 rfl, kc.cell 112 rfl]; exact m1.2.2.2.2.2.2
  exact ⟨1, G1, G2, st_br a, e1, e2, c1.fM fM, m2, hi.bn ((st_mx_i iI).ag st_br_X) (mv_iU.z h5) st_br_T.1 st_br_T.2⟩
theorem bx_image (t : Int) (ht : t = 0 ∨ t = 1) : st_bx (ff_X11_image [.inr (0, 0), .inl t]) (ff_X12_image [.inr (100, 0), .inl t]) := by
  rcases ht with rfl | rfl
  · exact bx_bring
  · exact bx_take
