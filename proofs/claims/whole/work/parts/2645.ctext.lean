/-! TEXT, the class. -/
section CX
variable {G G2 : mv_G} {a b : mv_a} {t : Nat → Int} {n : Nat}
theorem tx_spl (hn : n ≤ 400) (hs : G 52 0 0 = n) (hT : ∀ j, j < n → G 63 0 j = t j) (hb : ∀ j, j < n → 0 ≤ t j ∧ t j ≤ 255) (k : Int) : mv_Kp (ff_X7_split [.inr (52, 0)] (mv_up (mv_up (mv_up (mv_up G 52 0 1 0) 52 0 2 (-1)) 52 0 5 k) 52 0 7 0)) (fun _ G' => ∃ m, mv_cT (mv_up G' 52 0 0 0) t n m ∧ (mv_up G' 52 0 0 0) 52 0 0 = 0 ∧ (mv_up G' 52 0 0 0) 52 0 1 = 0 ∧ (mv_up G' 52 0 0 0) 52 0 2 = -1 ∧ (mv_up G' 52 0 0 0) 52 0 5 = k ∧ (mv_up G' 52 0 0 0) 52 0 7 = 0 ∧ mv_ch [64, 65] [(52, 0), (52, 1), (52, 2), (52, 5), (52, 6), (52, 7)] G (mv_up G' 52 0 0 0)) := by
  have e1 : (mv_up (mv_up (mv_up (mv_up G 52 0 1 0) 52 0 2 (-1)) 52 0 5 k) 52 0 7 0) 52 0 1 = 0 := by rw [mv_up_j (by decide), mv_up_j (by decide), mv_up_j (by decide), mv_ups_eq]
  have e2 : (mv_up (mv_up (mv_up (mv_up G 52 0 1 0) 52 0 2 (-1)) 52 0 5 k) 52 0 7 0) 52 0 2 = -1 := by rw [mv_up_j (by decide), mv_up_j (by decide), mv_ups_eq]
  have e5 : (mv_up (mv_up (mv_up (mv_up G 52 0 1 0) 52 0 2 (-1)) 52 0 5 k) 52 0 7 0) 52 0 5 = k := by rw [mv_up_j (by decide), mv_ups_eq]
  have e7 : (mv_up (mv_up (mv_up (mv_up G 52 0 1 0) 52 0 2 (-1)) 52 0 5 k) 52 0 7 0) 52 0 7 = 0 := mv_ups_eq
  have c0 : mv_ch [] [(52, 1), (52, 2), (52, 5), (52, 7)] G (mv_up (mv_up (mv_up (mv_up G 52 0 1 0) 52 0 2 (-1)) 52 0 5 k) 52 0 7 0) := (((mv_ch.rf.up rfl).up rfl).up rfl).up rfl
  generalize mv_up (mv_up (mv_up (mv_up G 52 0 1 0) 52 0 2 (-1)) 52 0 5 k) 52 0 7 0 = G0 at e1 e2 e5 e7 c0
  refine mv_Kp.mono (fx_split hn ((c0.slot 52 0 rfl).trans hs) (fun j hj => by rw [c0.cell 63 rfl]; exact hT j hj) hb) (fun _ G1 h => ?_)
  obtain ⟨⟨m, h1⟩, h2⟩ := h
  have cu : mv_ch [] [(52, 0)] G1 (mv_up G1 52 0 0 0) := mv_ch.rf.up rfl
  refine ⟨m, h1.ch cu (by decide) (by decide), mv_ups_eq, ?_, ?_, ?_, ?_, ((c0.mono rfl rfl).tr (h2.mono rfl rfl)).tr (cu.mono rfl rfl)⟩
  · rw [cu.slot 52 1 rfl, h2.slot 52 1 rfl]; exact e1
  · rw [cu.slot 52 2 rfl, h2.slot 52 2 rfl]; exact e2
  · rw [cu.slot 52 5 rfl, h2.slot 52 5 rfl]; exact e5
  · rw [cu.slot 52 7 rfl, h2.slot 52 7 rfl]; exact e7
def tx_F (G G2 : mv_G) : Prop := mv_ch [54, 55, 56, 57, 60, 61, 62, 64, 65] [(52, 0), (52, 1), (52, 2), (52, 5), (52, 6), (52, 7), (53, 0), (53, 1), (59, 0)] G G2
theorem fx_reads2 (hn : n ≤ 400) (hs : G 52 0 0 = n) (hT : ∀ j, j < n → G 63 0 j = t j) (hb : ∀ j, j < n → 0 ≤ t j ∧ t j ≤ 255) (pp : Int) (hpp : 0 ≤ pp ∧ pp ≤ 10) : mv_Kp (ff_X7_reads [.inr (52, 0), .inl 2, .inl pp] G) (fun r G' => (∃ m, m ≤ n ∧ mv_tbg t n m = n) ∧ G' 52 0 0 = 0 ∧ tx_F G G' ∧ pr_yV t n (pr_dy (pr_I t n) pp 500 0 0 (fun _ => 0) (fun _ => 0) (fun _ => 0)) G' ∧ r = if G' 52 0 1 = 0 then 1 else 0) := by
  refine mv_Kp.of (mv_JP.of (rg_X7_reads_0 2 pp G) (mv_J.cn (tx_spl hn hs hT hb 2) (fun _ G1 h1 => mv_J.t rfl ?_)))
  obtain ⟨m, q1, q2, q3, q4, q5, q6, q7⟩ := h1
  refine mv_J.cn (fx_readDay hn hb q1 pp hpp q3 q4 q6) (fun _ G3 h3 => ?_)
  have f : tx_F G G3 := (q7.mono rfl rfl).tr (h3.2.mono rfl rfl)
  have z : G3 52 0 0 = 0 := by rw [h3.2.slot 52 0 rfl]; exact q2
  refine mv_J.i (fun e => mv_J.r0 (Or.inr rfl) ⟨⟨m, q1.2.1, q1.2.2.1⟩, z, f, h3.1, (if_pos e).symm⟩) (fun e => mv_J.r0 (Or.inl rfl) ⟨⟨m, q1.2.1, q1.2.2.1⟩, z, f, h3.1, (if_neg e).symm⟩)
theorem fx_reads1 (hn : n ≤ 400) (hs : G 52 0 0 = n) (hT : ∀ j, j < n → G 63 0 j = t j) (hb : ∀ j, j < n → 0 ≤ t j ∧ t j ≤ 255) (kd : Nat) (hkd : kd ≤ 1) (pp : Int) : mv_Kp (ff_X7_reads [.inr (52, 0), .inl kd, .inl pp] G) (fun r G' => (∃ m, m ≤ n ∧ mv_tbg t n m = n) ∧ G' 52 0 0 = 0 ∧ tx_F G G' ∧ pr_cV t n (pr_lw (pr_I t n) kd 500 0 (0, 0, fun _ => 0) (fun _ => 0) (fun _ => 0) (fun _ => 0)) G' ∧ r = if G' 52 0 1 = 0 then 1 else 0) := by
  refine mv_Kp.of (mv_JP.of (rg_X7_reads_0 kd pp G) (mv_J.cn (tx_spl hn hs hT hb kd) (fun _ G1 h1 => mv_J.f (by omega) ?_)))
  obtain ⟨m, q1, q2, q3, q4, q5, q6, q7⟩ := h1
  have k : mv_J mm_X7_reads (fun r G' => (∃ m, m ≤ n ∧ mv_tbg t n m = n) ∧ G' 52 0 0 = 0 ∧ tx_F G G' ∧ pr_cV t n (pr_lw (pr_I t n) kd 500 0 (0, 0, fun _ => 0) (fun _ => 0) (fun _ => 0) (fun _ => 0)) G' ∧ r = if G' 52 0 1 = 0 then 1 else 0) (mv_cn (ff_X7_readLaw [.inr (52, 0)] (mv_up G1 52 0 0 0)) fun r1 G1 => if G1 52 0 1 = 0 then mv_rzc 0 1 1 (some (.inl (1, G1))) else mv_rzc 0 1 0 (some (.inl (0, G1)))) := by
    refine mv_J.cn (fx_readLaw hn hb q1 q5 hkd q3 q4 q6) (fun _ G3 h3 => ?_)
    have f : tx_F G G3 := (q7.mono rfl rfl).tr (h3.2.mono rfl rfl)
    have z : G3 52 0 0 = 0 := by rw [h3.2.slot 52 0 rfl]; exact q2
    exact mv_J.i (fun e => mv_J.r0 (Or.inr rfl) ⟨⟨m, q1.2.1, q1.2.2.1⟩, z, f, h3.1, (if_pos e).symm⟩) (fun e => mv_J.r0 (Or.inl rfl) ⟨⟨m, q1.2.1, q1.2.2.1⟩, z, f, h3.1, (if_neg e).symm⟩)
  exact mv_J.i (fun _ => k) (fun _ => mv_J.t (by omega) k)
theorem fx_readsx (hn : n ≤ 400) (hs : G 52 0 0 = n) (hT : ∀ j, j < n → G 63 0 j = t j) (hb : ∀ j, j < n → 0 ≤ t j ∧ t j ≤ 255) (k : Int) (hk : k ≠ 0 ∧ k ≠ 1 ∧ k ≠ 2) (pp : Int) : mv_Kp (ff_X7_reads [.inr (52, 0), .inl k, .inl pp] G) (fun r G' => (∃ m, m ≤ n ∧ mv_tbg t n m = n) ∧ G' 52 0 0 = 0 ∧ tx_F G G' ∧ G' 52 0 1 = 0 ∧ G' 52 0 2 = -1 ∧ r = 0) := by
  refine mv_Kp.of (mv_JP.of (rg_X7_reads_0 k pp G) (mv_J.cn (tx_spl hn hs hT hb k) (fun _ G1 h1 => mv_J.f hk.2.2 (mv_J.f hk.1 (mv_J.f hk.2.1 (mv_J.r0 (Or.inl rfl) ?_))))))
  obtain ⟨m, q1, q2, q3, q4, q5, q6, q7⟩ := h1
  exact ⟨⟨m, q1.2.1, q1.2.2.1⟩, q2, q7.mono rfl rfl, q3, q4, rfl⟩
/-- what comes of TEXT -/
def tx_ly (a : mv_a) (kd : Nat) (R : pr_L) : Int × mv_a := match R with
  | .inl (j, S, F, W, T) => ((j : Int), st_lw (st_z a 0 (-1)) (17 + 5 * kd) j S.2.1 F W T S.2.2)
  | .inr e => (-1, st_z a e.1 ((mv_tbg (a 16) (a 0 6).toNat e.2 : Nat) : Int))
def tx_dy (a : mv_a) (R : pr_Y) : Int × mv_a := match R with
  | .inl (j, A, W, H) => ((j : Int), st_dd (st_z a 0 (-1)) j A W H)
  | .inr e => (-1, st_z a e.1 ((mv_tbg (a 16) (a 0 6).toNat e.2 : Nat) : Int))
noncomputable def tx_lR (a : mv_a) (kd : Nat) : pr_L := pr_lw (pr_I (a 16) (a 0 6).toNat) kd 500 0 (0, 0, fun _ => 0) (fun _ => 0) (fun _ => 0) (fun _ => 0)
noncomputable def tx_dR (a : mv_a) : pr_Y := pr_dy (pr_I (a 16) (a 0 6).toNat) (a 0 1) 500 0 0 (fun _ => 0) (fun _ => 0) (fun _ => 0)
noncomputable def tx_o (a : mv_a) (k : Int) : Int × mv_a := if k = 2 then tx_dy a (tx_dR a) else if k = 0 ∨ k = 1 then tx_ly a k.toNat (tx_lR a k.toNat) else (-1, st_z a 0 (-1))
def tx_T (a : mv_a) (m : Nat) : Prop := m ≤ (a 0 6).toNat ∧ mv_tbg (a 16) (a 0 6).toNat m = (a 0 6).toNat
theorem tx_T_I {m : Nat} (h : tx_T a m) : pr_I (a 16) (a 0 6).toNat m = -2 := by
  unfold pr_I
  rw [h.2]
  exact if_pos (Nat.le_refl _)
def tx_q (kd : Nat) : Nat → Bool := if kd = 0 then mv_qs else mv_qm
theorem tx_l_ok {m kd j : Nat} {S : pr_S} {F W T : Nat → Int} (h : tx_T a m) (hn : a 0 6 ≤ 400) (hkd : kd ≤ 1) (hR : tx_lR a kd = .inl (j, S, F, W, T)) : j ≤ 16 ∧ S.2.1 ≤ 400 ∧ pr_G (tx_q kd) j S F W T := by
  have := pr_lw_w (I := pr_I (a 16) (a 0 6).toNat) (kd := kd) (q := tx_q kd) (tx_T_I h) (fun v hv => ?_) 500 0 (0, 0, fun _ => 0) (fun _ => 0) (fun _ => 0) (fun _ => 0) j S F W T hR (Nat.zero_le _) (Nat.le_refl _) (Nat.zero_le _) (fun l hl => absurd hl (Nat.not_lt_zero l))
  · have h1 := h.1
    exact ⟨this.1, by have := this.2.1; omega, this.2.2⟩
  · obtain ⟨v1, v2, v3⟩ := hv
    unfold tx_q
    by_cases e : kd = 0
    · rw [if_pos e]
      have : (v - 20009).toNat ≠ 11 := by omega
      unfold mv_qs
      rw [show Nat.beq (v - 20009).toNat 11 = false from Bool.eq_false_iff.mpr (fun e => this (Nat.eq_of_beq_eq_true e))]
      rfl
    · rw [if_neg e]
      unfold mv_qm
      by_cases c : v ≤ 20013
      · rw [show Nat.ble (v - 20009).toNat 4 = true from Nat.ble_eq.mpr (by omega)]
        rfl
      · have : (v - 20009).toNat = 11 := by omega
        rw [this]
        rfl
theorem tx_d_ok {j : Nat} {A W H : Nat → Int} (hR : tx_dR a = .inl (j, A, W, H)) : j ≤ 24 ∧ pr_yG (a 0 1) j A W H := pr_dy_w 500 0 0 _ _ _ j A W H hR (Nat.zero_le _) (fun l hl => absurd hl (Nat.not_lt_zero l))
theorem tx_cW (h : st_cW G a) (hi : st_iW a) (hk : ∀ k, (1 ≤ k ∧ k ≤ 7) ∨ (24 ≤ k ∧ k ≤ 46) ∨ k = 0 → G2 k = G k) (e0 : ∀ j, j < 4 → b 0 j = a 0 j) (e : ∀ o, 1 ≤ o → o ≤ 12 → b o = a o) (l1 : mv_cL G2 8 b 17) (l2 : mv_cL G2 14 b 22) (dy : mv_dyC G2 b) (hu : mv_unC G2 b) (tp : mv_tpC G2 b) (eI : ag_I a b) : st_cW G2 b :=
  h.tx (tx_cX h.1 (fun k h1 h2 => hk k (by omega)) e0 e l1 l2 dy) hu tp (fun k h1 h2 => hk k (by omega)) (by rw [hk 0 (by omega)]) eI
theorem tx_z {f p : Int} (h : st_cW G a) (hi : st_iW a) (hf : tx_F G G2) (e0 : G2 52 0 0 = 0) (e1 : G2 52 0 1 = f) (e2 : G2 52 0 2 = p) : st_cW G2 (st_z a f p) := by
  obtain ⟨x1, x2, x3⟩ := st_z_X (a := a) (f := f) (p := p)
  have hk : ∀ k, k ≤ 51 → G2 k = G k := fun k hk => hf.cell k (by simp; omega)
  refine h.tx ((h.1.cg (fun k hk2 => hk k ?_)).ag x1) ?_ ⟨e0, fun j hj => ?_, e1, e2⟩ (fun k h1 h2 => hk k (by omega)) (by rw [hk 0 (by omega)]) x3
  · have : ∀ k ∈ mv_cXl, k ≤ 51 := by decide
    exact this k hk2
  · have : mv_unC G2 a := by
      have u := h.2.1
      unfold mv_unC at u ⊢
      rw [hk 47 (by omega), hk 48 (by omega), hk 49 (by omega), hk 50 (by omega), hk 51 (by omega)]
      exact u
    exact this.ag x2 hi.2.1.1.2
  · have hj : (j : Int) < 0 := hj
    omega
theorem fx_text (h : st_cW G a) (hi : st_iW a) (k : Int) : mv_Kp (ff_X11_text [.inr (0, 0), .inl k] G) (fun v G' => (∃ m, tx_T a m) ∧ v = (tx_o a k).1 ∧ st_cW G' (tx_o a k).2 ∧ mv_fC G G') := by
  have b1 := hi.1.1.1
  obtain ⟨⟨t1, t2⟩, t3⟩ := hi.2.2.1
  obtain ⟨n, hn⟩ : ∃ n : Nat, a 0 6 = n := ⟨(a 0 6).toNat, by omega⟩
  have hnn : (a 0 6).toNat = n := by omega
  have p1 : G 52 0 0 = n := h.2.2.1.1.trans hn
  have p2 : ∀ j, j < n → G 63 0 j = a 16 j := fun j hj => h.2.2.1.2.1 j (by omega)
  have p3 : ∀ j, j < n → 0 ≤ a 16 j ∧ a 16 j ≤ 255 := fun j hj => t3 j (by omega)
  have fC : ∀ {G2 : mv_G}, tx_F G G2 → mv_fC G G2 := fun h => mv_ch.fC h rfl
  refine mv_Kp.of (mv_JP.of (rg_X11_text_0 k G) ?_)
  rw [h.1.1.1.2.1]
  by_cases k2 : k = 2
  · subst k2
    have eo : tx_o a 2 = tx_dy a (tx_dR a) := if_pos rfl
    refine mv_J.cn (fx_reads2 (by omega) p1 p2 p3 (a 0 1) (by omega)) (fun r G1 h1 => ?_)
    obtain ⟨⟨m, hm⟩, z, f, hV, hr⟩ := h1
    have hm : tx_T a m := by unfold tx_T; rw [hnn]; exact hm
    have hV : pr_yV (a 16) n (tx_dR a) G1 := by unfold tx_dR; rw [hnn]; exact hV
    rw [eo]
    cases hR : tx_dR a with
    | inr e =>
      rw [hR] at hV
      obtain ⟨v1, v2, v3⟩ := hV
      rw [if_neg (by rw [v1]; exact v2)] at hr
      refine mv_J.t hr (mv_J.ret ⟨⟨m, hm⟩, rfl, tx_z h hi f z v1 ?_, fC f⟩)
      rw [hnn]; exact v3
    | inl u =>
      obtain ⟨j, A, W, H⟩ := u
      rw [hR] at hV
      obtain ⟨v1, v2, v3, v4⟩ := hV
      rw [if_pos v1] at hr
      obtain ⟨j24, -⟩ := tx_d_ok hR
      refine mv_J.f (by omega) (mv_J.t rfl (mv_J.ce fx_dc_20_59 (mv_J.ce fx_forget ?_)))
      have hk : ∀ q, q ≠ 47 → (q < 20 ∨ 23 < q) → (mv_up (cpD G1 59 20) 47 0 0 0) q = G1 q := fun q h1 h2 => by rw [mv_up_k h1, cpD_o (by omega)]
      have h47 : (mv_up (cpD G1 59 20) 47 0 0 0) 47 0 0 = 0 ∧ (mv_up (cpD G1 59 20) 47 0 0 0) 47 0 1 = G1 47 0 1 := ⟨mv_ups_eq, by rw [mv_up_j (by decide), cpD_o (by omega)]⟩
      have h20 : (mv_up (cpD G1 59 20) 47 0 0 0) 20 0 0 = j := by rw [mv_up_k (by decide), cpD_h]; exact v3
      have hl : ∀ l, l < j → (mv_up (cpD G1 59 20) 47 0 0 0) 21 0 l = A l ∧ (mv_up (cpD G1 59 20) 47 0 0 0) 22 0 l = W l ∧ (mv_up (cpD G1 59 20) 47 0 0 0) 23 0 l = H l := fun l hl => by
        obtain ⟨g1, g2, g3⟩ := cpD_l (G := G1) (s := 59) (t := 20) (j := l) (by omega) (by omega)
        rw [mv_up_k (by decide), mv_up_k (by decide), mv_up_k (by decide)]
        obtain ⟨w1, w2, w3⟩ := v4 l hl
        exact ⟨g1.trans w1, g2.trans w2, g3.trans w3⟩
      generalize mv_up (cpD G1 59 20) 47 0 0 0 = G3 at hk h47 h20 hl
      have gk : ∀ q, q ≠ 47 → (q < 20 ∨ (23 < q ∧ q ≤ 51)) → G3 q = G q := fun q h1 h2 => (hk q h1 (by omega)).trans (f.cell q (by simp; omega))
      obtain ⟨d1, d2, d3, d4, d5⟩ := st_dd_e (a := st_z a 0 (-1)) (j := (j : Int)) (A := A) (W := W) (H := H)
      have o0 : ∀ q, q ≠ 0 → (q < 13 ∨ 15 < q) → st_dd (st_z a 0 (-1)) j A W H q = a q := fun q h1 h2 => (st_dd_o h1 h2).trans (st_z_o h1)
      have oj : ∀ q, q ≠ 4 ∧ q ≠ 5 → (q < 6 ∨ 8 < q) → st_dd (st_z a 0 (-1)) j A W H 0 q = a 0 q := fun q h1 h2 => (st_dd_0 h1).trans (st_z_0 h2)
      have l1 := h.1.2.1
      have l2 := h.1.2.2.1
      unfold mv_cL at l1 l2
      refine mv_J.ret ⟨⟨m, hm⟩, h20, ?_, fun q hq => (hk q (by omega) (by omega)).trans (fC f q hq)⟩
      show st_cW G3 (st_dd (st_z a 0 (-1)) j A W H)
      refine tx_cW h hi (fun q hq => gk q (by omega) (by omega)) (fun q hq => oj q (by omega) (by omega)) (fun o h1 h2 => o0 o (by omega) (by omega)) ?_ ?_ ⟨?_, fun i hi2 => ?_⟩ (h.2.1.z ?_ h47.1 d2) ⟨?_, fun q hq => ?_, ?_, ?_⟩ ⟨oj 9 (by decide) (by decide), fun o ho => o0 o (by omega) (by omega)⟩
      · unfold mv_cL
        rw [gk 8 (by decide) (by decide), gk (8 + 1) (by decide) (by decide), gk (8 + 2) (by decide) (by decide), gk (8 + 3) (by decide) (by decide), gk (8 + 4) (by decide) (by decide), o0 17 (by decide) (by decide), o0 (17 + 1) (by decide) (by decide), o0 (17 + 2) (by decide) (by decide), o0 (17 + 3) (by decide) (by decide), o0 (17 + 4) (by decide) (by decide)]
        exact l1
      · unfold mv_cL
        rw [gk 14 (by decide) (by decide), gk (14 + 1) (by decide) (by decide), gk (14 + 2) (by decide) (by decide), gk (14 + 3) (by decide) (by decide), gk (14 + 4) (by decide) (by decide), o0 22 (by decide) (by decide), o0 (22 + 1) (by decide) (by decide), o0 (22 + 2) (by decide) (by decide), o0 (22 + 3) (by decide) (by decide), o0 (22 + 4) (by decide) (by decide)]
        exact l2
      · rw [h20, d1]
      · rw [d1] at hi2
        rw [d3, d4, d5]
        exact hl i (by omega)
      · rw [h47.2, f.cell 47 rfl]
      · rw [hk 52 (by decide) (by decide), z]; rfl
      · have hq : (q : Int) < 0 := hq
        omega
      · rw [hk 52 (by decide) (by decide), v1]; rfl
      · rw [hk 52 (by decide) (by decide), v2]; rfl
  · by_cases k01 : k = 0 ∨ k = 1
    · obtain ⟨kd, hkd⟩ : ∃ kd : Nat, k = kd := ⟨k.toNat, by omega⟩
      subst hkd
      have hkd : kd ≤ 1 := by omega
      have eo : tx_o a kd = tx_ly a kd (tx_lR a kd) := by
        unfold tx_o
        rw [if_neg k2, if_pos k01, Int.toNat_natCast]
      refine mv_J.cn (fx_reads1 (by omega) p1 p2 p3 kd hkd (a 0 1)) (fun r G1 h1 => ?_)
      obtain ⟨⟨m, hm⟩, z, f, hV, hr⟩ := h1
      have hm : tx_T a m := by unfold tx_T; rw [hnn]; exact hm
      have hV : pr_cV (a 16) n (tx_lR a kd) G1 := by unfold tx_lR; rw [hnn]; exact hV
      rw [eo]
      cases hR : tx_lR a kd with
      | inr e =>
        rw [hR] at hV
        obtain ⟨v1, v2, v3⟩ := hV
        rw [if_neg (by rw [v1]; exact v2)] at hr
        refine mv_J.t hr (mv_J.ret ⟨⟨m, hm⟩, rfl, tx_z h hi f z v1 ?_, fC f⟩)
        rw [hnn]; exact v3
      | inl u =>
        obtain ⟨j, S, F, W, T⟩ := u
        obtain ⟨j16, s400, -⟩ := tx_l_ok hm (by omega) hkd hR
        rw [hR] at hV
        obtain ⟨⟨v1, v2, v3, v4, v5⟩, v6, v7⟩ := hV
        rw [if_pos v1] at hr
        obtain ⟨d1, d2, d3, d4, d5, d6⟩ := st_lw_e (a := st_z a 0 (-1)) (o := 17 + 5 * kd) (j := (j : Int)) (sz := (S.2.1 : Int)) (F := F) (W := W) (T := T) (code := S.2.2)
        have o0 : ∀ q, q ≠ 0 → (q < 17 + 5 * kd ∨ 17 + 5 * kd + 4 < q) → st_lw (st_z a 0 (-1)) (17 + 5 * kd) j S.2.1 F W T S.2.2 q = a q := fun q h1 h2 => (st_lw_o h2).trans (st_z_o h1)
        have oz : st_lw (st_z a 0 (-1)) (17 + 5 * kd) j S.2.1 F W T S.2.2 0 = st_z a 0 (-1) 0 := st_lw_o (Or.inl (by omega))
        have oj : ∀ q, (q < 6 ∨ 8 < q) → st_lw (st_z a 0 (-1)) (17 + 5 * kd) j S.2.1 F W T S.2.2 0 q = a 0 q := fun q h2 => by rw [oz]; exact st_z_0 h2
        have l1 := h.1.2.1
        have l2 := h.1.2.2.1
        have dy := h.1.2.2.2.2
        have un := h.2.1
        unfold mv_cL at l1 l2
        unfold mv_dyC at dy
        -- what the copy leaves
        have fin : ∀ tt : Nat, (tt = 8 + 6 * kd) → st_cW (cpL G1 53 tt) (st_lw (st_z a 0 (-1)) (17 + 5 * kd) j S.2.1 F W T S.2.2) ∧ mv_fC G (cpL G1 53 tt) := fun tt htt => by
          have hk : ∀ q, (q < tt ∨ tt + 4 < q) → cpL G1 53 tt q = G1 q := fun q h1 => cpL_o h1
          have gk : ∀ q, (q < tt ∨ tt + 4 < q) → q ≤ 51 → cpL G1 53 tt q = G q := fun q h1 h2 => (hk q h1).trans (f.cell q (by simp; omega))
          have nl : mv_cL (cpL G1 53 tt) tt (st_lw (st_z a 0 (-1)) (17 + 5 * kd) j S.2.1 F W T S.2.2) (17 + 5 * kd) := by
            obtain ⟨g1, g2⟩ := cpL_h (G := G1) (s := 53) (t := tt) (by omega)
            unfold mv_cL
            rw [d1, d2, d3, d4, d5, d6, g1, g2]
            refine ⟨v6, v3, fun c hc => ?_, fun l hl => ?_⟩
            · rw [cpL_c (by omega) (by omega)]; exact v4 c (by omega)
            · obtain ⟨w1, w2, w3⟩ := cpL_l (G := G1) (s := 53) (t := tt) (j := l) (by omega) (by omega)
              rw [w1, w2, w3]; exact v7 l (by omega)
          have ud : mv_dyC (cpL G1 53 tt) (st_lw (st_z a 0 (-1)) (17 + 5 * kd) j S.2.1 F W T S.2.2) := by
            unfold mv_dyC
            rw [gk 20 (by omega) (by omega), gk 21 (by omega) (by omega), gk 22 (by omega) (by omega), gk 23 (by omega) (by omega), oj 4 (by omega), o0 13 (by omega) (by omega), o0 14 (by omega) (by omega), o0 15 (by omega) (by omega)]
            exact dy
          have uu : mv_unC (cpL G1 53 tt) (st_lw (st_z a 0 (-1)) (17 + 5 * kd) j S.2.1 F W T S.2.2) := by
            have : mv_unC (cpL G1 53 tt) a := by
              unfold mv_unC at un ⊢
              rw [gk 47 (by omega) (by omega), gk 48 (by omega) (by omega), gk 49 (by omega) (by omega), gk 50 (by omega) (by omega), gk 51 (by omega) (by omega)]
              exact un
            exact this.ag ⟨oj 5 (by omega), fun o h1 h2 => o0 o (by omega) (by omega)⟩ hi.2.1.1.2
          have ut : mv_tpC (cpL G1 53 tt) (st_lw (st_z a 0 (-1)) (17 + 5 * kd) j S.2.1 F W T S.2.2) := by
            unfold mv_tpC
            rw [oz, hk 52 (by omega)]
            refine ⟨z, fun q hq => ?_, v1, v5⟩
            have hq : (q : Int) < 0 := hq
            omega
          have uI : ag_I a (st_lw (st_z a 0 (-1)) (17 + 5 * kd) j S.2.1 F W T S.2.2) := ⟨oj 9 (by omega), fun o ho => o0 o (by omega) (by omega)⟩
          refine ⟨?_, fun q hq => (hk q (by omega)).trans (fC f q hq)⟩
          by_cases e : kd = 0
          · subst e
            have htt : tt = 8 := htt
            subst htt
            refine tx_cW h hi (fun q hq => gk q (by omega) (by omega)) (fun q hq => oj q (by omega)) (fun o h1 h2 => o0 o (by omega) (by omega)) nl ?_ ud uu ut uI
            unfold mv_cL
            rw [gk 14 (by decide) (by decide), gk (14 + 1) (by decide) (by decide), gk (14 + 2) (by decide) (by decide), gk (14 + 3) (by decide) (by decide), gk (14 + 4) (by decide) (by decide), o0 22 (by decide) (by decide), o0 (22 + 1) (by decide) (by decide), o0 (22 + 2) (by decide) (by decide), o0 (22 + 3) (by decide) (by decide), o0 (22 + 4) (by decide) (by decide)]
            exact l2
          · have e : kd = 1 := by omega
            subst e
            have htt : tt = 14 := htt
            subst htt
            refine tx_cW h hi (fun q hq => gk q (by omega) (by omega)) (fun q hq => oj q (by omega)) (fun o h1 h2 => o0 o (by omega) (by omega)) ?_ nl ud uu ut uI
            unfold mv_cL
            rw [gk 8 (by decide) (by decide), gk (8 + 1) (by decide) (by decide), gk (8 + 2) (by decide) (by decide), gk (8 + 3) (by decide) (by decide), gk (8 + 4) (by decide) (by decide), o0 17 (by decide) (by decide), o0 (17 + 1) (by decide) (by decide), o0 (17 + 2) (by decide) (by decide), o0 (17 + 3) (by decide) (by decide), o0 (17 + 4) (by decide) (by decide)]
            exact l1
        refine mv_J.f (by omega) (mv_J.f k2 (mv_J.i (fun e => ?_) (fun e => ?_)))
        · obtain ⟨f1, f2⟩ := fin 8 (by omega)
          exact mv_J.ce fx_lc_8_53 (mv_J.ret ⟨⟨m, hm⟩, by rw [(cpL_h (G := G1) (s := 53) (t := 8) (by omega)).1]; exact v6, f1, f2⟩)
        · obtain ⟨f1, f2⟩ := fin 14 (by omega)
          exact mv_J.ce fx_lc_14_53 (mv_J.ret ⟨⟨m, hm⟩, by rw [(cpL_h (G := G1) (s := 53) (t := 14) (by omega)).1]; exact v6, f1, f2⟩)
    · have eo : tx_o a k = (-1, st_z a 0 (-1)) := by
        unfold tx_o
        rw [if_neg k2, if_neg k01]
      refine mv_J.cn (fx_readsx (by omega) p1 p2 p3 k (by omega) (a 0 1)) (fun r G1 h1 => ?_)
      obtain ⟨⟨m, hm⟩, z, f, v1, v2, hr⟩ := h1
      have hm : tx_T a m := by unfold tx_T; rw [hnn]; exact hm
      rw [eo]
      exact mv_J.t hr (mv_J.ret ⟨⟨m, hm⟩, rfl, tx_z h hi f z v1 v2, fC f⟩)
end CX
