/-! TEXT, the reference. -/
section MX
variable {G G2 : mv_G} {a b : mv_a}
theorem tx_T_k {m : Nat} (h : tx_T a m) : ∀ k, m ≤ k → pr_I (a 16) (a 0 6).toNat k = -2 := by
  have e : ∀ d, mv_tbg (a 16) (a 0 6).toNat (m + d) = (a 0 6).toNat := by
    intro d
    induction d with
    | zero => exact h.2
    | succ d ih =>
      show (if mv_tbg (a 16) (a 0 6).toNat (m + d) < (a 0 6).toNat then _ else mv_tbg (a 16) (a 0 6).toNat (m + d)) = _
      rw [ih, if_neg (Nat.lt_irrefl _)]
  intro k hk
  unfold pr_I
  rw [show k = m + (k - m) by omega, e]
  exact if_pos (Nat.le_refl _)
/-- the frame of a reading -/
def tx_M (G G2 : mv_G) : Prop := mv_ch [114, 115, 116, 117, 118, 119, 120] [(100, 0), (100, 16), (100, 17), (100, 18), (100, 19), (100, 20), (100, 28), (100, 29), (100, 30), (100, 32), (100, 33), (100, 34), (100, 35), (100, 36)] G G2 ∧ (∀ j, j < 800 → G2 117 0 j = G 117 0 j ∧ G2 118 0 j = G 118 0 j) ∧ (∀ j, j < 32 → G2 114 0 j = G 114 0 j ∧ G2 115 0 j = G 115 0 j ∧ G2 116 0 j = G 116 0 j) ∧ ∀ j, j < 72 → G2 120 0 j = G 120 0 j
theorem tx_M.tr {G3 : mv_G} (h : tx_M G G2) (h2 : tx_M G2 G3) : tx_M G G3 := ⟨h.1.tr h2.1, fun j hj => ⟨(h2.2.1 j hj).1.trans (h.2.1 j hj).1, (h2.2.1 j hj).2.trans (h.2.1 j hj).2⟩, fun j hj => ⟨(h2.2.2.1 j hj).1.trans (h.2.2.1 j hj).1, (h2.2.2.1 j hj).2.1.trans (h.2.2.1 j hj).2.1, (h2.2.2.1 j hj).2.2.trans (h.2.2.1 j hj).2.2⟩, fun j hj => (h2.2.2.2 j hj).trans (h.2.2.2 j hj)⟩
theorem tx_M.of {T : List (Nat × Nat)} (h : mv_ch [] T G G2) (hT : (T.all fun q => [(100, 0), (100, 16), (100, 17), (100, 18), (100, 19), (100, 20), (100, 28), (100, 29), (100, 30), (100, 32), (100, 33), (100, 34), (100, 35), (100, 36)].contains q) = true) : tx_M G G2 := by
  have hm : mv_ch [114, 115, 116, 117, 118, 119, 120] [(100, 0), (100, 16), (100, 17), (100, 18), (100, 19), (100, 20), (100, 28), (100, 29), (100, 30), (100, 32), (100, 33), (100, 34), (100, 35), (100, 36)] G G2 := h.mono rfl (by
    rw [List.all_eq_true] at hT ⊢
    intro q hq
    rw [hT q hq]
    exact Bool.or_true _)
  have c : ∀ k, k ≠ 100 → G2 k = G k := fun k hk => h.cell k (by
    rw [Bool.or_eq_false_iff]
    refine ⟨rfl, ?_⟩
    rw [List.any_eq_false]
    intro q hq e
    rw [List.all_eq_true] at hT
    have hl : ∀ q ∈ [(100, 0), (100, 16), (100, 17), (100, 18), (100, 19), (100, 20), (100, 28), (100, 29), (100, 30), (100, 32), (100, 33), (100, 34), (100, 35), (100, 36)], q.1 = 100 := by decide
    have h1 := hl q (List.contains_iff_mem.mp (hT q hq))
    have h2 : q.1 = k := by simpa using e
    omega)
  exact ⟨hm, fun j _ => by rw [c 117 (by decide), c 118 (by decide)]; exact ⟨rfl, rfl⟩, fun j _ => by rw [c 114 (by decide), c 115 (by decide), c 116 (by decide)]; exact ⟨rfl, rfl, rfl⟩, fun j _ => by rw [c 120 (by decide)]⟩
theorem pr_md.M (h : pr_md G G2) : tx_M G G2 := ⟨h.1.mono rfl rfl, h.2.1, h.2.2, fun j _ => by rw [h.1.cell 120 rfl]⟩
theorem pr_zc.M (h : pr_zc G G2) : tx_M G G2 := ⟨h.1.mono rfl rfl, fun j _ => by rw [h.1.cell 117 rfl, h.1.cell 118 rfl]; exact ⟨rfl, rfl⟩, fun j _ => by rw [h.1.cell 114 rfl, h.1.cell 115 rfl, h.1.cell 116 rfl]; exact ⟨rfl, rfl, rfl⟩, h.2⟩
theorem tx_M.fM (h : tx_M G G2) : mv_fM G G2 := mv_ch.fM h.1 rfl
theorem tx_mL {w o : Nat} (hw : w ≤ 1) (h : mv_mL G w a o) (hi : a o 0 ≤ 16 ∧ a o 1 ≤ 400) (h113 : G2 113 0 w = G 113 0 w) (h1 : ∀ j, 400 * w ≤ j → j < 400 * w + 400 → G2 117 0 j = G 117 0 j ∧ G2 118 0 j = G 118 0 j) (h2 : ∀ j, 16 * w ≤ j → j < 16 * w + 16 → G2 114 0 j = G 114 0 j ∧ G2 115 0 j = G 115 0 j ∧ G2 116 0 j = G 116 0 j) (e : ∀ q, o ≤ q → q ≤ o + 4 → b q = a q) : mv_mL G2 w b o := by
  unfold mv_mL at h ⊢
  rw [e o (by omega) (by omega), e (o + 1) (by omega) (by omega), e (o + 2) (by omega) (by omega), e (o + 3) (by omega) (by omega), e (o + 4) (by omega) (by omega), h113]
  refine ⟨h.1, fun j hj => ?_, fun l hl => ?_⟩
  · obtain ⟨g1, g2⟩ := h1 (400 * w + j) (by omega) (by omega)
    rw [g1, g2]; exact h.2.1 j hj
  · obtain ⟨g1, g2, g3⟩ := h2 (16 * w + l) (by omega) (by omega)
    rw [g1, g2, g3]; exact h.2.2 l hl
theorem tx_mW (h : st_mW G a) (hk : ∀ k, (101 ≤ k ∧ k ≤ 110) ∨ k = 112 ∨ k = 137 → G2 k = G k) (hs : ∀ j, j = 5 ∨ j = 6 ∨ j = 8 ∨ j = 68 → G2 100 0 j = G 100 0 j) (e0 : ∀ j, j < 4 → b 0 j = a 0 j) (e : ∀ o, 1 ≤ o → o ≤ 12 → b o = a o) (l1 : mv_mL G2 0 b 17) (l2 : mv_mL G2 1 b 22) (dy : mv_dyM G2 b) (hu : mv_unM G2 b) (tp : mv_tpM G2 b) (eI : ag_I a b) : st_mW G2 b :=
  h.tx (tx_mX h.1 (fun k h1 h2 => hk k (by omega)) ⟨hs 6 (by omega), hs 8 (by omega)⟩ e0 e l1 l2 dy) hu tp (fun k h1 => hk k (by omega)) (fun j hj => hs j (by omega)) eI
theorem tx_zm {f p : Int} (h : st_mW G a) (hi : st_iW a) (hf : tx_M G G2) (e0 : G2 100 0 16 = 0) (e1 : G2 100 0 35 = f) (e2 : G2 100 0 36 = p) : st_mW G2 (st_z a f p) := by
  obtain ⟨x1, x2, x3⟩ := st_z_X (a := a) (f := f) (p := p)
  obtain ⟨⟨⟨j1, j2, j3, j4⟩, -⟩, ⟨⟨m1, m2, m3, m4⟩, -⟩, ⟨q1, q2⟩, -⟩ := hi.1.2
  refine h.tx ((h.1.cg hi.1 (fun k j hr => ?_)).ag x1) ?_ ⟨e0, fun j hj => ?_, e1, e2⟩ (fun k hk => hf.1.cell k (by simp; omega)) (fun j hj => hf.1 100 0 j rfl (by simp; omega)) x3
  · by_cases c : k = 100
    · subst c
      exact hf.1 100 0 j rfl (by unfold mv_rel at hr; simp; omega)
    · by_cases c2 : (101 ≤ k ∧ k ≤ 110) ∨ k = 113
      · rw [hf.1.cell k (by simp; omega)]
      · have hr2 : (k = 120 ∧ j < 72) ∨ (114 ≤ k ∧ k ≤ 116 ∧ j < 32) ∨ (117 ≤ k ∧ k ≤ 118 ∧ j < 800) := by unfold mv_rel at hr; omega
        rcases hr2 with ⟨rfl, hj⟩ | ⟨k1, k2, hj⟩ | ⟨k1, k2, hj⟩
        · exact hf.2.2.2 j hj
        · obtain ⟨g1, g2, g3⟩ := hf.2.2.1 j hj
          have : k = 114 ∨ k = 115 ∨ k = 116 := by omega
          rcases this with rfl | rfl | rfl
          · exact g1
          · exact g2
          · exact g3
        · obtain ⟨g1, g2⟩ := hf.2.1 j hj
          have : k = 117 ∨ k = 118 := by omega
          rcases this with rfl | rfl
          · exact g1
          · exact g2
  · have : mv_unM G2 a := by
      have u := h.2.1
      unfold mv_unM at u ⊢
      rw [hf.1.slot 100 3 rfl, hf.1.cell 102 rfl]
      exact u
    exact this.ag x2 hi.2.1.1.2
  · have hj : (j : Int) < 0 := hj
    omega
set_option maxHeartbeats 1000000 in
theorem gx_text {m : Nat} (hm : tx_T a m) (h : st_mW G a) (hi : st_iW a) (k : Int) : mv_Kp (ff_X12_text [.inr (100, 0), .inl k] G) (fun v G' => v = (tx_o a k).1 ∧ st_mW G' (tx_o a k).2 ∧ mv_fM G G') := by
  have b1 := hi.1.1.1
  obtain ⟨⟨t1, t2⟩, t3⟩ := hi.2.2.1
  obtain ⟨n, hn⟩ : ∃ n : Nat, a 0 6 = n := ⟨(a 0 6).toNat, by omega⟩
  have hnn : (a 0 6).toNat = n := by omega
  have hn400 : n ≤ 400 := by omega
  have p1 : G 100 0 16 = n := h.2.2.1.1.trans hn
  have p2 : ∀ j, j < n → G 111 0 j = a 16 j := fun j hj => h.2.2.1.2.1 j (by omega)
  have p3 : ∀ j, j < n → 0 ≤ a 16 j ∧ a 16 j ≤ 255 := fun j hj => t3 j (by omega)
  have p4 := h.2.2.2.2.2.2
  have hmn : m ≤ n := by have := hm.1; omega
  refine mv_Kp.of (mv_JP.of (rg_X12_text_0 k G) (mv_J.ce (gx_isIn _ k 0 2) ?_))
  have z35 : (mv_up (mv_up (mv_up (mv_up (mv_up (mv_up (mv_up G 100 0 0 0) 100 0 35 0) 100 0 36 (-1)) 100 0 17 0) 100 0 29 0) 100 0 30 0) 100 0 28 k) 100 0 35 = 0 := by rw [mv_up_j (by decide), mv_up_j (by decide), mv_up_j (by decide), mv_up_j (by decide), mv_up_j (by decide), mv_ups_eq]
  have z36 : (mv_up (mv_up (mv_up (mv_up (mv_up (mv_up (mv_up G 100 0 0 0) 100 0 35 0) 100 0 36 (-1)) 100 0 17 0) 100 0 29 0) 100 0 30 0) 100 0 28 k) 100 0 36 = -1 := by rw [mv_up_j (by decide), mv_up_j (by decide), mv_up_j (by decide), mv_up_j (by decide), mv_ups_eq]
  have z17 : (mv_up (mv_up (mv_up (mv_up (mv_up (mv_up (mv_up G 100 0 0 0) 100 0 35 0) 100 0 36 (-1)) 100 0 17 0) 100 0 29 0) 100 0 30 0) 100 0 28 k) 100 0 17 = 0 := by rw [mv_up_j (by decide), mv_up_j (by decide), mv_up_j (by decide), mv_ups_eq]
  have z29 : (mv_up (mv_up (mv_up (mv_up (mv_up (mv_up (mv_up G 100 0 0 0) 100 0 35 0) 100 0 36 (-1)) 100 0 17 0) 100 0 29 0) 100 0 30 0) 100 0 28 k) 100 0 29 = 0 := by rw [mv_up_j (by decide), mv_up_j (by decide), mv_ups_eq]
  have z30 : (mv_up (mv_up (mv_up (mv_up (mv_up (mv_up (mv_up G 100 0 0 0) 100 0 35 0) 100 0 36 (-1)) 100 0 17 0) 100 0 29 0) 100 0 30 0) 100 0 28 k) 100 0 30 = 0 := by rw [mv_up_j (by decide), mv_ups_eq]
  have z28 : (mv_up (mv_up (mv_up (mv_up (mv_up (mv_up (mv_up G 100 0 0 0) 100 0 35 0) 100 0 36 (-1)) 100 0 17 0) 100 0 29 0) 100 0 30 0) 100 0 28 k) 100 0 28 = k := mv_ups_eq
  have zc : mv_ch [] [(100, 0), (100, 35), (100, 36), (100, 17), (100, 29), (100, 30), (100, 28)] G (mv_up (mv_up (mv_up (mv_up (mv_up (mv_up (mv_up G 100 0 0 0) 100 0 35 0) 100 0 36 (-1)) 100 0 17 0) 100 0 29 0) 100 0 30 0) 100 0 28 k) := ((((((mv_ch.rf.up rfl).up rfl).up rfl).up rfl).up rfl).up rfl).up rfl
  generalize mv_up (mv_up (mv_up (mv_up (mv_up (mv_up (mv_up G 100 0 0 0) 100 0 35 0) 100 0 36 (-1)) 100 0 17 0) 100 0 29 0) 100 0 30 0) 100 0 28 k = G0 at z35 z36 z17 z29 z30 z28 zc
  have zM : tx_M G G0 := tx_M.of zc (by decide)
  have p1' : G0 100 0 16 = n := (zc.slot 100 16 rfl).trans p1
  have p2' : ∀ j, j < n → G0 111 0 j = a 16 j := fun j hj => by rw [zc.cell 111 rfl]; exact p2 j hj
  have p4' : ∀ j, G0 112 0 j = mv_wo.getD j 0 := fun j => by rw [zc.cell 112 rfl]; exact p4 j
  -- an error
  have err : ∀ (G2 : mv_G) (f p : Int), tx_M G G2 → G2 100 0 33 = f → G2 100 0 34 = p → st_mW (mv_up (mv_up (mv_up G2 100 0 35 (G2 100 0 33)) 100 0 36 ((mv_up G2 100 0 35 (G2 100 0 33)) 100 0 34)) 100 0 16 0) (st_z a f p) ∧ mv_fM G (mv_up (mv_up (mv_up G2 100 0 35 (G2 100 0 33)) 100 0 36 ((mv_up G2 100 0 35 (G2 100 0 33)) 100 0 34)) 100 0 16 0) := fun G2 f p hM h33 h34 => by
    have hc : mv_ch [] [(100, 35), (100, 36), (100, 16)] G2 (mv_up (mv_up (mv_up G2 100 0 35 (G2 100 0 33)) 100 0 36 ((mv_up G2 100 0 35 (G2 100 0 33)) 100 0 34)) 100 0 16 0) := ((mv_ch.rf.up rfl).up rfl).up rfl
    have hM2 := hM.tr (tx_M.of hc (by decide))
    refine ⟨tx_zm h hi hM2 mv_ups_eq ?_ ?_, hM2.fM⟩
    · rw [mv_up_j (by decide), mv_up_j (by decide), mv_ups_eq, h33]
    · rw [mv_up_j (by decide), mv_ups_eq, mv_up_j (by decide), h34]
  -- taken: the tape is told away
  have c16 : ∀ (G2 : mv_G), tx_M G G2 → tx_M G (mv_up G2 100 0 16 0) := fun G2 hM => hM.tr (tx_M.of (mv_ch.rf.up (T := [(100, 16)]) rfl) (by decide))
  refine mv_J.bt (fun hk => ?_) (fun hk => ?_)
  · have eo : tx_o a k = (-1, st_z a 0 (-1)) := by
      unfold tx_o
      rw [if_neg (by omega), if_neg (by omega)]
    rw [eo]
    refine mv_J.t rfl (mv_J.ret ⟨rfl, tx_zm h hi (c16 G0 zM) mv_ups_eq ?_ ?_, (c16 G0 zM).fM⟩)
    · rw [mv_up_j (by decide)]; exact z35
    · rw [mv_up_j (by decide)]; exact z36
  refine mv_J.cn (gx_reads0 hn400 p1' p2' p3 p4' 0 0 z17 (Nat.zero_le _) rfl) (fun _ G1 h1 => ?_)
  obtain ⟨hT, hc1⟩ := h1
  have hM1 : tx_M G G1 := zM.tr (tx_M.of hc1 (by decide))
  have q16 : G1 100 0 16 = n := (hc1.slot 100 16 rfl).trans p1'
  have q111 : ∀ j, j < n → G1 111 0 j = a 16 j := fun j hj => by rw [hc1.cell 111 rfl]; exact p2' j hj
  have q112 : ∀ j, G1 112 0 j = mv_wo.getD j 0 := fun j => by rw [hc1.cell 112 rfl]; exact p4' j
  have hIk : ∀ k, m ≤ k → pr_I (a 16) n k = -2 := by rw [← hnn]; exact tx_T_k hm
  obtain ⟨⟨j1, j2, j3, j4⟩, -⟩ := hi.1.2.1
  obtain ⟨⟨m1, m2, m3, m4⟩, -⟩ := hi.1.2.2.1
  have dd := hi.1.2.2.2.1
  refine mv_J.i (fun e => ?_) (fun e => ?_)
  · subst e
    have eo : tx_o a 2 = tx_dy a (tx_dR a) := if_pos rfl
    rw [eo]
    refine mv_J.cn (gx_readDay (pp := a 0 1) (m := m) hn400 p3 ⟨q16, q111, q112, ?_⟩ (by omega) hIk hmn hT) (fun r G2 h2 => ?_)
    · rw [hc1.slot 100 8 rfl, zc.slot 100 8 rfl]; exact h.1.1.1.2.1
    obtain ⟨hV, hz⟩ := h2
    have hM2 := hM1.tr hz.M
    have hV : pr_zV (a 16) n (tx_dR a) r G2 := by unfold tx_dR; rw [hnn]; exact hV
    cases hR : tx_dR a with
    | inr e =>
      rw [hR] at hV
      obtain ⟨v1, v2, v3⟩ := hV
      obtain ⟨f1, f2⟩ := err G2 e.1 ((mv_tbg (a 16) (a 0 6).toNat e.2 : Nat) : Int) hM2 v2 (by rw [hnn]; exact v3)
      exact mv_J.t v1 (mv_J.t v1 (mv_J.ret ⟨rfl, f1, f2⟩))
    | inl u =>
      obtain ⟨j, A, W, H⟩ := u
      rw [hR] at hV
      obtain ⟨v1, v2⟩ := hV
      obtain ⟨j24, -⟩ := tx_d_ok hR
      have hM3 := c16 G2 hM2
      have e16 : (mv_up G2 100 0 16 0) 100 0 16 = 0 := mv_ups_eq
      have e35 : (mv_up G2 100 0 16 0) 100 0 35 = 0 := by rw [mv_up_j (by decide), hz.1.slot 100 35 rfl, hc1.slot 100 35 rfl]; exact z35
      have e36 : (mv_up G2 100 0 16 0) 100 0 36 = -1 := by rw [mv_up_j (by decide), hz.1.slot 100 36 rfl, hc1.slot 100 36 rfl]; exact z36
      have eN : ∀ l, l < j → (mv_up G2 100 0 16 0) 120 0 (72 + 3 * l) = A l ∧ (mv_up G2 100 0 16 0) 120 0 (72 + 3 * l + 1) = W l ∧ (mv_up G2 100 0 16 0) 120 0 (72 + 3 * l + 2) = H l := fun l hl => by rw [mv_up_k (by decide)]; exact v2 l hl
      rw [v1]
      refine mv_J.f (by omega) (mv_J.f (by omega) (mv_J.t rfl ?_))
      generalize mv_up G2 100 0 16 0 = G3 at hM3 e16 e35 e36 eN
      refine mv_J.cn (gx_takesDay j j24) (fun _ G4 h4 => ?_)
      obtain ⟨tk, k37, k3, kc⟩ := h4
      obtain ⟨d1, d2, d3, d4, d5⟩ := st_dd_e (a := st_z a 0 (-1)) (j := (j : Int)) (A := A) (W := W) (H := H)
      have o0 : ∀ q, q ≠ 0 → (q < 13 ∨ 15 < q) → st_dd (st_z a 0 (-1)) j A W H q = a q := fun q h1 h2 => (st_dd_o h1 h2).trans (st_z_o h1)
      have oj : ∀ q, q ≠ 4 ∧ q ≠ 5 → (q < 6 ∨ 8 < q) → st_dd (st_z a 0 (-1)) j A W H 0 q = a 0 q := fun q h1 h2 => (st_dd_0 h1).trans (st_z_0 h2)
      have ck : ∀ k2, (101 ≤ k2 ∧ k2 ≤ 110) ∨ k2 = 112 ∨ k2 = 113 ∨ k2 = 137 → G4 k2 = G k2 := fun k2 hk2 => by rw [kc.cell k2 (by simp; omega), hM3.1.cell k2 (by simp; omega)]
      have cl : ∀ w o, w ≤ 1 → 16 < o → mv_mL G w a o → a o 0 ≤ 16 ∧ a o 1 ≤ 400 → mv_mL G4 w (st_dd (st_z a 0 (-1)) j A W H) o := fun w o hw ho hl hb => tx_mL hw hl hb (by rw [ck 113 (by omega)]) (fun q _ hq => by rw [kc.cell 117 rfl, kc.cell 118 rfl]; exact hM3.2.1 q (by omega)) (fun q _ hq => by rw [kc.cell 114 rfl, kc.cell 115 rfl, kc.cell 116 rfl]; exact hM3.2.2.1 q (by omega)) (fun q h1 h2 => o0 q (by omega) (by omega))
      refine mv_J.ret ⟨rfl, ?_, hM3.fM.tr (mv_ch.fM kc rfl)⟩
      show st_mW G4 (st_dd (st_z a 0 (-1)) j A W H)
      refine tx_mW h (fun k2 hk2 => ck k2 (by omega)) (fun q hq => ?_) (fun q hq => oj q (by omega) (by omega)) (fun o h1 h2 => o0 o (by omega) (by omega)) (cl 0 17 (by decide) (by decide) h.1.2.1 ⟨j2, j4⟩) (cl 1 22 (by decide) (by decide) h.1.2.2.1 ⟨m2, m4⟩) ⟨by rw [k37, d1], fun l hl => ?_⟩ (mv_unM.z k3 d2) ⟨?_, fun q hq => ?_, ?_, ?_⟩ ⟨oj 9 (by decide) (by decide), fun o ho => o0 o (by omega) (by omega)⟩
      · rw [kc 100 0 q rfl (by simp; omega), hM3.1 100 0 q rfl (by simp; omega)]
      · rw [d1] at hl
        rw [d3, d4, d5]
        obtain ⟨w1, w2, w3⟩ := eN l (by omega)
        rw [tk (3 * l), tk (3 * l + 1), tk (3 * l + 2), if_pos (by omega), if_pos (by omega), if_pos (by omega), show 3 * l - 0 + 72 = 72 + 3 * l by omega, show 3 * l + 1 - 0 + 72 = 72 + 3 * l + 1 by omega, show 3 * l + 2 - 0 + 72 = 72 + 3 * l + 2 by omega]
        exact ⟨w1, w2, w3⟩
      · rw [kc.slot 100 16 rfl, e16]; rfl
      · have hq : (q : Int) < 0 := hq
        omega
      · rw [kc.slot 100 35 rfl, e35]; rfl
      · rw [kc.slot 100 36 rfl, e36]; rfl
  · obtain ⟨kd, hkd⟩ : ∃ kd : Nat, k = kd := ⟨k.toNat, by omega⟩
    subst hkd
    have hkd : kd ≤ 1 := by omega
    have eo : tx_o a kd = tx_ly a kd (tx_lR a kd) := by
      unfold tx_o
      rw [if_neg e, if_pos (by omega), Int.toNat_natCast]
    rw [eo]
    refine mv_J.cn (gx_readLaw (kd := kd) (m := m) hn400 p3 ⟨q16, q111, q112, ?_⟩ hkd (hIk m (Nat.le_refl _)) hmn ⟨hT, ?_, fun j hj => absurd hj (Nat.not_lt_zero j)⟩ ?_) (fun r G2 h2 => ?_)
    · rw [hc1.slot 100 28 rfl]; exact z28
    · rw [hc1.slot 100 29 rfl]; exact z29
    · rw [hc1.slot 100 30 rfl]; exact z30
    obtain ⟨hV, hz⟩ := h2
    have hM2 := hM1.tr hz.M
    have hV : pr_mV (a 16) n (tx_lR a kd) r G2 := by unfold tx_lR; rw [hnn]; exact hV
    cases hR : tx_lR a kd with
    | inr e =>
      rw [hR] at hV
      obtain ⟨v1, v2, v3⟩ := hV
      obtain ⟨f1, f2⟩ := err G2 e.1 ((mv_tbg (a 16) (a 0 6).toNat e.2 : Nat) : Int) hM2 v2 (by rw [hnn]; exact v3)
      exact mv_J.t v1 (mv_J.t v1 (mv_J.ret ⟨rfl, f1, f2⟩))
    | inl u =>
      obtain ⟨j, S, F, W, T⟩ := u
      obtain ⟨j16, s400, -⟩ := tx_l_ok hm (by omega) hkd hR
      rw [hR] at hV
      obtain ⟨v1, ⟨-, v2, v3⟩, v4⟩ := hV
      have hM3 := c16 G2 hM2
      have e16 : (mv_up G2 100 0 16 0) 100 0 16 = 0 := mv_ups_eq
      have e35 : (mv_up G2 100 0 16 0) 100 0 35 = 0 := by rw [mv_up_j (by decide), hz.1.slot 100 35 rfl, hc1.slot 100 35 rfl]; exact z35
      have e36 : (mv_up G2 100 0 16 0) 100 0 36 = -1 := by rw [mv_up_j (by decide), hz.1.slot 100 36 rfl, hc1.slot 100 36 rfl]; exact z36
      have e28 : (mv_up G2 100 0 16 0) 100 0 28 = kd := by rw [mv_up_j (by decide), hz.1.slot 100 28 rfl, hc1.slot 100 28 rfl]; exact z28
      have e29 : (mv_up G2 100 0 16 0) 100 0 29 = (S.2.1 : Int) := by rw [mv_up_j (by decide)]; exact v2
      have eC : ∀ c, c < S.2.1 → (mv_up G2 100 0 16 0) 117 0 (800 + c) = mv_opk (S.2.2 c) ∧ (mv_up G2 100 0 16 0) 118 0 (800 + c) = mv_ark (S.2.2 c) := fun c hc => by rw [mv_up_k (by decide), mv_up_k (by decide)]; exact v3 c hc
      have eN : ∀ l, l < j → (mv_up G2 100 0 16 0) 114 0 (32 + l) = F l ∧ (mv_up G2 100 0 16 0) 115 0 (32 + l) = W l ∧ (mv_up G2 100 0 16 0) 116 0 (32 + l) = T l := fun l hl => by rw [mv_up_k (by decide), mv_up_k (by decide), mv_up_k (by decide)]; exact v4 l hl
      rw [v1]
      refine mv_J.f (by omega) (mv_J.f (by omega) (mv_J.f e ?_))
      generalize mv_up G2 100 0 16 0 = G3 at hM3 e16 e35 e36 e28 e29 eC eN
      refine mv_J.cn (gx_takesLaw kd j S.2.1 hkd j16 s400 e28 e29) (fun _ G4 h4 => ?_)
      obtain ⟨r1, r2, r3, r4, r5, r6, kc⟩ := h4
      obtain ⟨d1, d2, d3, d4, d5, d6⟩ := st_lw_e (a := st_z a 0 (-1)) (o := 17 + 5 * kd) (j := (j : Int)) (sz := (S.2.1 : Int)) (F := F) (W := W) (T := T) (code := S.2.2)
      have o0 : ∀ q, q ≠ 0 → (q < 17 + 5 * kd ∨ 17 + 5 * kd + 4 < q) → st_lw (st_z a 0 (-1)) (17 + 5 * kd) j S.2.1 F W T S.2.2 q = a q := fun q h1 h2 => (st_lw_o h2).trans (st_z_o h1)
      have oz : st_lw (st_z a 0 (-1)) (17 + 5 * kd) j S.2.1 F W T S.2.2 0 = st_z a 0 (-1) 0 := st_lw_o (Or.inl (by omega))
      have oj : ∀ q, (q < 6 ∨ 8 < q) → st_lw (st_z a 0 (-1)) (17 + 5 * kd) j S.2.1 F W T S.2.2 0 q = a 0 q := fun q h2 => by rw [oz]; exact st_z_0 h2
      have ck : ∀ k2, (101 ≤ k2 ∧ k2 ≤ 110) ∨ k2 = 112 ∨ k2 = 137 → G4 k2 = G k2 := fun k2 hk2 => by rw [kc.cell k2 (by simp; omega), hM3.1.cell k2 (by simp; omega)]
      have nl : mv_mL G4 kd (st_lw (st_z a 0 (-1)) (17 + 5 * kd) j S.2.1 F W T S.2.2) (17 + 5 * kd) := by
        unfold mv_mL
        rw [d1, d2, d3, d4, d5, d6]
        refine ⟨by rw [r6, if_pos rfl], fun c hc => ?_, fun l hl => ?_⟩
        · obtain ⟨w1, w2⟩ := eC c (by omega)
          rw [r4, r5, if_pos (by omega), if_pos (by omega), show 400 * kd + c - 400 * kd + 800 = 800 + c by omega]
          exact ⟨w1, w2⟩
        · obtain ⟨w1, w2, w3⟩ := eN l (by omega)
          rw [r1, r2, r3, if_pos (by omega), if_pos (by omega), if_pos (by omega), show 16 * kd + l - 16 * kd + 32 = 32 + l by omega]
          exact ⟨w1, w2, w3⟩
      have ol : ∀ w o, w ≤ 1 → w ≠ kd → o = 17 + 5 * w → mv_mL G w a o → a o 0 ≤ 16 ∧ a o 1 ≤ 400 → mv_mL G4 w (st_lw (st_z a 0 (-1)) (17 + 5 * kd) j S.2.1 F W T S.2.2) o := fun w o hw hne ho hl hb => tx_mL hw hl hb (by rw [r6, if_neg hne, hM3.1.cell 113 rfl]) (fun q h1 h2 => by rw [r4, r5, if_neg (by omega), if_neg (by omega)]; exact hM3.2.1 q (by omega)) (fun q h1 h2 => by rw [r1, r2, r3, if_neg (by omega), if_neg (by omega), if_neg (by omega)]; exact hM3.2.2.1 q (by omega)) (fun q h1 h2 => o0 q (by omega) (by omega))
      have ud : mv_dyM G4 (st_lw (st_z a 0 (-1)) (17 + 5 * kd) j S.2.1 F W T S.2.2) := by
        have dy := h.1.2.2.2.2
        refine ⟨by rw [kc.slot 100 37 rfl, hM3.1.slot 100 37 rfl, oj 4 (by omega)]; exact dy.1, fun l hl => ?_⟩
        rw [oj 4 (by omega)] at hl
        rw [kc.cell 120 rfl, hM3.2.2.2 _ (by omega), hM3.2.2.2 _ (by omega), hM3.2.2.2 _ (by omega), o0 13 (by omega) (by omega), o0 14 (by omega) (by omega), o0 15 (by omega) (by omega)]
        exact dy.2 l hl
      have uu : mv_unM G4 (st_lw (st_z a 0 (-1)) (17 + 5 * kd) j S.2.1 F W T S.2.2) := by
        have : mv_unM G4 a := by
          have u := h.2.1
          unfold mv_unM at u ⊢
          rw [kc.slot 100 3 rfl, hM3.1.slot 100 3 rfl, ck 102 (by omega)]
          exact u
        exact this.ag ⟨oj 5 (by omega), fun o h1 h2 => o0 o (by omega) (by omega)⟩ hi.2.1.1.2
      have ut : mv_tpM G4 (st_lw (st_z a 0 (-1)) (17 + 5 * kd) j S.2.1 F W T S.2.2) := by
        unfold mv_tpM
        rw [oz, kc.slot 100 16 rfl, kc.slot 100 35 rfl, kc.slot 100 36 rfl]
        refine ⟨e16, fun q hq => ?_, e35, e36⟩
        have hq : (q : Int) < 0 := hq
        omega
      have uI : ag_I a (st_lw (st_z a 0 (-1)) (17 + 5 * kd) j S.2.1 F W T S.2.2) := ⟨oj 9 (by omega), fun o ho => o0 o (by omega) (by omega)⟩
      refine mv_J.ret ⟨rfl, ?_, hM3.fM.tr (mv_ch.fM kc rfl)⟩
      show st_mW G4 (st_lw (st_z a 0 (-1)) (17 + 5 * kd) j S.2.1 F W T S.2.2)
      have sl : ∀ q, q = 5 ∨ q = 6 ∨ q = 8 ∨ q = 68 → G4 100 0 q = G 100 0 q := fun q hq => by rw [kc.cell 100 rfl, hM3.1 100 0 q rfl (by simp; omega)]
      have hkk : kd = 0 ∨ kd = 1 := by omega
      rcases hkk with rfl | rfl
      · exact tx_mW h ck sl (fun q hq => oj q (by omega)) (fun o h1 h2 => o0 o (by omega) (by omega)) nl (ol 1 22 (by decide) (by decide) rfl h.1.2.2.1 ⟨m2, m4⟩) ud uu ut uI
      · exact tx_mW h ck sl (fun q hq => oj q (by omega)) (fun o h1 h2 => o0 o (by omega) (by omega)) (ol 0 17 (by decide) (by decide) rfl h.1.2.1 ⟨j2, j4⟩) nl ud uu ut uI
theorem tx_i {m : Nat} (hm : tx_T a m) (hi : st_iW a) (k : Int) : st_iW (tx_o a k).2 := by
  have hn : a 0 6 ≤ 400 := hi.2.2.1.1.2
  have zz : ∀ f p, st_iW (st_z a f p) := fun f p => by
    obtain ⟨x1, x2, x3⟩ := st_z_X (a := a) (f := f) (p := p)
    exact hi.tx (hi.1.ag x1) (hi.2.1.ag x2 ⟨st_z_0 (by decide), st_z_0 (by decide)⟩ (by rw [st_z_0 (by decide)]; exact Int.le_refl _) (fun o ho => st_z_o (by omega))) rfl x3
  unfold tx_o
  by_cases k2 : k = 2
  · rw [if_pos k2]
    cases hR : tx_dR a with
    | inr e => exact zz _ _
    | inl u =>
      obtain ⟨j, A, W, H⟩ := u
      obtain ⟨j24, hG⟩ := tx_d_ok hR
      obtain ⟨d1, d2, d3, d4, d5⟩ := st_dd_e (a := st_z a 0 (-1)) (j := (j : Int)) (A := A) (W := W) (H := H)
      have o0 : ∀ q, q ≠ 0 → (q < 13 ∨ 15 < q) → st_dd (st_z a 0 (-1)) j A W H q = a q := fun q h1 h2 => (st_dd_o h1 h2).trans (st_z_o h1)
      have oj : ∀ q, q ≠ 4 ∧ q ≠ 5 → (q < 6 ∨ 8 < q) → st_dd (st_z a 0 (-1)) j A W H 0 q = a 0 q := fun q h1 h2 => (st_dd_0 h1).trans (st_z_0 h2)
      show st_iW (st_dd (st_z a 0 (-1)) j A W H)
      refine hi.tx (tx_iX hi.1 (fun q hq => oj q (by omega) (by omega)) (fun o h1 h2 => o0 o (by omega) (by omega)) ?_ ?_ ⟨by rw [d1]; omega, fun l hl => ?_⟩) (mv_iU.z d2) rfl ⟨oj 9 (by decide) (by decide), fun o ho => o0 o (by omega) (by omega)⟩
      · have l1 := hi.1.2.1
        unfold mv_iL at l1 ⊢
        rw [o0 17 (by decide) (by decide), o0 (17 + 1) (by decide) (by decide), o0 (17 + 2) (by decide) (by decide), o0 (17 + 3) (by decide) (by decide), o0 (17 + 4) (by decide) (by decide)]
        exact l1
      · have l1 := hi.1.2.2.1
        unfold mv_iL at l1 ⊢
        rw [o0 22 (by decide) (by decide), o0 (22 + 1) (by decide) (by decide), o0 (22 + 2) (by decide) (by decide), o0 (22 + 3) (by decide) (by decide), o0 (22 + 4) (by decide) (by decide)]
        exact l1
      · rw [d1] at hl
        rw [d3, d4, d5, oj 1 (by decide) (by decide)]
        exact hG l (by omega)
  rw [if_neg k2]
  by_cases k01 : k = 0 ∨ k = 1
  · rw [if_pos k01]
    obtain ⟨kd, hkd⟩ : ∃ kd : Nat, k.toNat = kd := ⟨_, rfl⟩
    rw [hkd]
    have hk1 : kd ≤ 1 := by omega
    cases hR : tx_lR a kd with
    | inr e => exact zz _ _
    | inl u =>
      obtain ⟨j, S, F, W, T⟩ := u
      obtain ⟨j16, s400, hG⟩ := tx_l_ok hm hn hk1 hR
      obtain ⟨d1, d2, d3, d4, d5, d6⟩ := st_lw_e (a := st_z a 0 (-1)) (o := 17 + 5 * kd) (j := (j : Int)) (sz := (S.2.1 : Int)) (F := F) (W := W) (T := T) (code := S.2.2)
      have o0 : ∀ q, q ≠ 0 → (q < 17 + 5 * kd ∨ 17 + 5 * kd + 4 < q) → st_lw (st_z a 0 (-1)) (17 + 5 * kd) j S.2.1 F W T S.2.2 q = a q := fun q h1 h2 => (st_lw_o h2).trans (st_z_o h1)
      have oz : st_lw (st_z a 0 (-1)) (17 + 5 * kd) j S.2.1 F W T S.2.2 0 = st_z a 0 (-1) 0 := st_lw_o (Or.inl (by omega))
      have oj : ∀ q, (q < 6 ∨ 8 < q) → st_lw (st_z a 0 (-1)) (17 + 5 * kd) j S.2.1 F W T S.2.2 0 q = a 0 q := fun q h2 => by rw [oz]; exact st_z_0 h2
      show st_iW (st_lw (st_z a 0 (-1)) (17 + 5 * kd) j S.2.1 F W T S.2.2)
      have nl : mv_iL (tx_q kd) (st_lw (st_z a 0 (-1)) (17 + 5 * kd) j S.2.1 F W T S.2.2) (17 + 5 * kd) := by
        unfold mv_iL
        rw [d1, d2, d3, d4, d5, d6]
        exact ⟨by omega, fun l hl => hG l (by omega)⟩
      have ud : mv_iD (st_lw (st_z a 0 (-1)) (17 + 5 * kd) j S.2.1 F W T S.2.2) := by
        have dy := hi.1.2.2.2
        unfold mv_iD at dy ⊢
        rw [oj 4 (by omega), oj 1 (by omega), o0 13 (by omega) (by omega), o0 14 (by omega) (by omega), o0 15 (by omega) (by omega)]
        exact dy
      have uU : mv_iU (st_lw (st_z a 0 (-1)) (17 + 5 * kd) j S.2.1 F W T S.2.2) := hi.2.1.ag ⟨oj 5 (by omega), fun o h1 h2 => o0 o (by omega) (by omega)⟩ ⟨oj 0 (by omega), oj 1 (by omega)⟩ (by rw [oj 3 (by omega)]; exact Int.le_refl _) (fun o ho => o0 o (by omega) (by omega))
      have uI : ag_I a (st_lw (st_z a 0 (-1)) (17 + 5 * kd) j S.2.1 F W T S.2.2) := ⟨oj 9 (by omega), fun o ho => o0 o (by omega) (by omega)⟩
      have u6 : st_lw (st_z a 0 (-1)) (17 + 5 * kd) j S.2.1 F W T S.2.2 0 6 = 0 := by rw [oz]; rfl
      have hkk : kd = 0 ∨ kd = 1 := by omega
      rcases hkk with rfl | rfl
      · refine hi.tx (tx_iX hi.1 (fun q hq => oj q (by omega)) (fun o h1 h2 => o0 o (by omega) (by omega)) nl ?_ ud) uU u6 uI
        have l1 := hi.1.2.2.1
        unfold mv_iL at l1 ⊢
        rw [o0 22 (by decide) (by decide), o0 (22 + 1) (by decide) (by decide), o0 (22 + 2) (by decide) (by decide), o0 (22 + 3) (by decide) (by decide), o0 (22 + 4) (by decide) (by decide)]
        exact l1
      · refine hi.tx (tx_iX hi.1 (fun q hq => oj q (by omega)) (fun o h1 h2 => o0 o (by omega) (by omega)) ?_ nl ud) uU u6 uI
        have l1 := hi.1.2.1
        unfold mv_iL at l1 ⊢
        rw [o0 17 (by decide) (by decide), o0 (17 + 1) (by decide) (by decide), o0 (17 + 2) (by decide) (by decide), o0 (17 + 3) (by decide) (by decide), o0 (17 + 4) (by decide) (by decide)]
        exact l1
  · rw [if_neg k01]
    exact zz _ _
end MX
theorem bx_text (k : Int) : st_bx (ff_X11_text [.inr (0, 0), .inl k]) (ff_X12_text [.inr (100, 0), .inl k]) := by
  intro G a ⟨hc, hm, hi⟩
  obtain ⟨v, G1, e1, ⟨m, hT⟩, rfl, c1, f1⟩ := fx_text hc hi k
  obtain ⟨v2, G2, e2, rfl, m2, f2⟩ := gx_text hT (hm.fC hi.1 f1) hi k
  exact ⟨_, G1, G2, _, e1, e2, c1.fM f2, m2, tx_i hT hi k⟩
