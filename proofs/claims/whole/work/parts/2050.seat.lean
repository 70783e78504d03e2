/-! Where one can sit, what the law says of it, and the best of it. -/
def mv_lo (f : Nat → Int) (x : Int) : Nat → Nat → Nat
  | 0, i => i
  | k + 1, i => if f i < x then mv_lo f x k (i + 1) else i
def mv_gp (r : mv_a) (n : Nat) (x : Int) : Nat := mv_lo (r 0) x n 0
theorem mv_lo_eq {f : Nat → Int} {x : Int} {g : Nat} : ∀ k i, i ≤ g → g ≤ i + k → (∀ j, i ≤ j → j < g → f j < x) → (g < i + k → ¬ f g < x) → mv_lo f x k i = g
  | 0, i, h1, h2, h3, h4 => by simp only [mv_lo]; omega
  | k + 1, i, h1, h2, h3, h4 => by
    unfold mv_lo
    by_cases e : i = g
    · subst e
      rw [if_neg (h4 (by omega))]
    · rw [if_pos (h3 i (Nat.le_refl _) (by omega))]
      exact mv_lo_eq k (i + 1) (by omega) (by omega) (fun j h5 h6 => h3 j (by omega) h6) (fun h5 => h4 (by omega))
theorem mv_lo_sp {f : Nat → Int} {x : Int} : ∀ k i, i ≤ mv_lo f x k i ∧ mv_lo f x k i ≤ i + k ∧ (∀ j, i ≤ j → j < mv_lo f x k i → f j < x) ∧ (mv_lo f x k i < i + k → ¬ f (mv_lo f x k i) < x)
  | 0, i => ⟨Nat.le_refl _, Nat.le_refl _, fun j h1 h2 => by simp only [mv_lo] at h2; omega, fun h => by simp only [mv_lo] at h; omega⟩
  | k + 1, i => by
    unfold mv_lo
    split
    · next h =>
      obtain ⟨h1, h2, h3, h4⟩ := mv_lo_sp (f := f) (x := x) k (i + 1)
      refine ⟨by omega, by omega, fun j h5 h6 => ?_, fun h5 => h4 (by omega)⟩
      by_cases e : j = i
      · subst e; exact h
      · exact h3 j (by omega) h6
    · next h => exact ⟨Nat.le_refl _, by omega, fun j h1 h2 => by omega, fun _ => h⟩
/-- a good row, on a bench of L inches -/
def mv_rok (L : Int) (n : Nat) (r : mv_a) : Prop := n ≤ 60 ∧ ∀ i, i < n → (0 ≤ r 0 i ∧ r 0 i < r 1 i ∧ r 1 i ≤ L) ∧ (0 ≤ r 2 i ∧ r 2 i ≤ 15) ∧ (0 ≤ r 3 i ∧ r 3 i ≤ 9) ∧ ∀ j, i < j → j < n → r 1 i ≤ r 0 j
/-- a good asker -/
def mv_aok (w k b g : Int) : Prop := (1 ≤ w ∧ w ≤ 20) ∧ (0 ≤ k ∧ k ≤ 15) ∧ (0 ≤ b ∧ b ≤ 10) ∧ (0 ≤ g ∧ g ≤ 9)
def mv_cA (G : mv_G) (w k b g : Int) : Prop := G 66 0 6 = w ∧ G 66 0 7 = k ∧ G 66 0 8 = b ∧ G 66 0 9 = g
def mv_mA (G : mv_G) (w k b g : Int) : Prop := G 100 0 47 = w ∧ G 100 0 48 = k ∧ G 100 0 49 = b ∧ G 100 0 50 = g
theorem mv_ap_b {k1 g1 k2 g2 : Int} (h1 : 0 ≤ k1 ∧ k1 ≤ 15) (h2 : 0 ≤ k2 ∧ k2 ≤ 15) : 0 ≤ mv_ap k1 g1 k2 g2 ∧ mv_ap k1 g1 k2 g2 ≤ 15 := by
  unfold mv_ap
  split
  · omega
  · split <;> omega
def mv_lw (k g : Int) (r : mv_a) (gp : Nat) : Int := if 0 < gp then r 1 (gp - 1) + mv_ap k g (r 2 (gp - 1)) (r 3 (gp - 1)) else 0
def mv_hg (L : Int) (n : Nat) (r : mv_a) (w k b g : Int) (gp : Nat) : Int := (if gp < n then r 0 gp - mv_ap k g (r 2 gp) (r 3 gp) else L) - w - b
/-- one can sit there -/
def mv_pl (a : mv_a) (n : Nat) (r : mv_a) (w k b g : Int) (x : Int) : Prop := mv_clr a x w ∧ mv_lw k g r (mv_gp r n x) ≤ x ∧ x ≤ mv_hg (a 0 0) n r w k b g (mv_gp r n x)
def mv_wn (a : mv_a) : Nat → Nat → Int
  | 0, _ => 0
  | k + 1, i => (if a 2 i ≠ -1 ∧ a 0 2 - a 2 i ≤ 9 then 1 else 0) + mv_wn a k (i + 1)
theorem mv_wn_b {a : mv_a} : ∀ k i, 0 ≤ mv_wn a k i ∧ mv_wn a k i ≤ k
  | 0, _ => ⟨by simp [mv_wn], by simp [mv_wn]⟩
  | k + 1, i => by
    have h := mv_wn_b (a := a) k (i + 1)
    unfold mv_wn
    split <;> omega
def mv_gst (r : mv_a) (gp : Nat) : Int := if 0 < gp then r 1 (gp - 1) else 0
def mv_gen (L : Int) (n : Nat) (r : mv_a) (gp : Nat) : Int := if gp < n then r 0 gp else L
def mv_fr1 (g : Int) (r : mv_a) (i : Nat) : Int := if 0 < g ∧ r 3 i = g then 1 else 0
def mv_frs (g : Int) (n : Nat) (r : mv_a) (gp : Nat) : Int := (if 0 < gp then mv_fr1 g r (gp - 1) else 0) + (if gp < n then mv_fr1 g r gp else 0)
/-- what the law of sitting may ask -/
def mv_tm (a : mv_a) (n : Nat) (r : mv_a) (w k b g : Int) (x : Int) : Nat → Int := fun t => match t with
  | 0 => w
  | 1 => k
  | 2 => b
  | 3 => g
  | 4 => a 0 2
  | 5 => x
  | 6 => x - mv_gst r (mv_gp r n x)
  | 7 => mv_gen (a 0 0) n r (mv_gp r n x) - x - w - b
  | 8 => mv_wn a w.toNat x.toNat
  | 9 => mv_frs g n r (mv_gp r n x)
  | 10 => n
  | _ => 0
def mv_qs : Nat → Bool := fun j => !Nat.beq j 11
/-- what the law of sitting says of an inch -/
def mv_vs (a : mv_a) (n : Nat) (r : mv_a) (w k b g : Int) (x : Int) : Int := mv_lv a 17 (mv_tm a n r w k b g x) 0
theorem mv_fr1_b {g : Int} {r : mv_a} {i : Nat} : 0 ≤ mv_fr1 g r i ∧ mv_fr1 g r i ≤ 1 := by
  unfold mv_fr1
  split <;> omega
theorem mv_gp_le {r : mv_a} {n : Nat} {x : Int} : mv_gp r n x ≤ n := by
  have := (mv_lo_sp (f := r 0) (x := x) n 0).2.1
  unfold mv_gp
  omega
theorem mv_gst_b {L : Int} {n : Nat} {r : mv_a} {gp : Nat} (h : mv_rok L n r) (hL : 0 ≤ L ∧ L ≤ 60) (hg : gp ≤ n) : 0 ≤ mv_gst r gp ∧ mv_gst r gp ≤ 60 := by
  unfold mv_gst
  split
  · have := (h.2 (gp - 1) (by omega)).1
    omega
  · omega
theorem mv_gen_b {L : Int} {n : Nat} {r : mv_a} {gp : Nat} (h : mv_rok L n r) (hL : 0 ≤ L ∧ L ≤ 60) : 0 ≤ mv_gen L n r gp ∧ mv_gen L n r gp ≤ 60 := by
  unfold mv_gen
  split
  · next h2 =>
    have := (h.2 gp h2).1
    omega
  · omega
theorem mv_frs_b {g : Int} {n : Nat} {r : mv_a} {gp : Nat} : 0 ≤ mv_frs g n r gp ∧ mv_frs g n r gp ≤ 2 := by
  have h1 := mv_fr1_b (g := g) (r := r) (i := gp - 1)
  have h2 := mv_fr1_b (g := g) (r := r) (i := gp)
  unfold mv_frs
  split <;> split <;> omega
theorem mv_tm_in {a : mv_a} {n : Nat} {r : mv_a} {w k b g x : Int} (hi : mv_iB a) (hr : mv_rok (a 0 0) n r) (ha : mv_aok w k b g) (hx : 0 ≤ x ∧ x ≤ 60) : ∀ j, j < 12 → mv_in (mv_tm a n r w k b g x j) := by
  have b1 := hi.1
  have b2 := hr.1
  obtain ⟨a1, a2, a3, a4⟩ := ha
  have g1 := mv_gst_b hr (by omega) (mv_gp_le (r := r) (n := n) (x := x))
  have g2 := mv_gen_b (gp := mv_gp r n x) hr (by omega)
  have g3 := mv_frs_b (g := g) (n := n) (r := r) (gp := mv_gp r n x)
  have g4 := mv_wn_b (a := a) w.toNat x.toNat
  intro j hj
  unfold mv_in
  match j, hj with
  | 0, _ => show -2147483648 ≤ w ∧ w < 2147483648; omega
  | 1, _ => show -2147483648 ≤ k ∧ k < 2147483648; omega
  | 2, _ => show -2147483648 ≤ b ∧ b < 2147483648; omega
  | 3, _ => show -2147483648 ≤ g ∧ g < 2147483648; omega
  | 4, _ => show -2147483648 ≤ a 0 2 ∧ a 0 2 < 2147483648; omega
  | 5, _ => show -2147483648 ≤ x ∧ x < 2147483648; omega
  | 6, _ => show -2147483648 ≤ x - mv_gst r (mv_gp r n x) ∧ x - mv_gst r (mv_gp r n x) < 2147483648; omega
  | 7, _ => show -2147483648 ≤ mv_gen (a 0 0) n r (mv_gp r n x) - x - w - b ∧ mv_gen (a 0 0) n r (mv_gp r n x) - x - w - b < 2147483648; omega
  | 8, _ => show -2147483648 ≤ mv_wn a w.toNat x.toNat ∧ mv_wn a w.toNat x.toNat < 2147483648; omega
  | 9, _ => show -2147483648 ≤ mv_frs g n r (mv_gp r n x) ∧ mv_frs g n r (mv_gp r n x) < 2147483648; omega
  | 10, _ => show -2147483648 ≤ (n : Int) ∧ (n : Int) < 2147483648; omega
  | 11, _ => show -2147483648 ≤ (0 : Int) ∧ (0 : Int) < 2147483648; omega
section ST
variable {G : mv_G} {a : mv_a} {n : Nat} {r : mv_a} {w k b g : Int}
theorem mv_cR.ch {S : List Nat} {T : List (Nat × Nat)} {G2 : mv_G} (h : mv_cR G n r) (hc : mv_ch S T G G2) (hS : ([67, 68, 69, 70, 71].any fun k => S.contains k || T.any fun q => q.1 == k) = false) (h0 : (S.contains 66 || T.contains (66, 0)) = false) : mv_cR G2 n r := by
  refine ⟨by rw [hc.slot 66 0 h0]; exact h.1, ?_⟩
  have hk : ∀ k, k ∈ [67, 68, 69, 70, 71] → G2 k = G k := fun k hk => hc.cell k (Bool.eq_false_iff.mpr (List.any_eq_false.mp hS k hk))
  have e := h.2
  refine mv_t5 ?_ ?_ ?_ ?_ ?_
  · rw [hk (67 + 0) (by decide)]; exact e 0 (by decide)
  · rw [hk (67 + 1) (by decide)]; exact e 1 (by decide)
  · rw [hk (67 + 2) (by decide)]; exact e 2 (by decide)
  · rw [hk (67 + 3) (by decide)]; exact e 3 (by decide)
  · rw [hk (67 + 4) (by decide)]; exact e 4 (by decide)
theorem mv_mR.ch {S : List Nat} {T : List (Nat × Nat)} {G2 : mv_G} (h : mv_mR G n r) (hc : mv_ch S T G G2) (hS : ([123, 124, 125, 126, 127].any fun k => S.contains k || T.any fun q => q.1 == k) = false) (h0 : (S.contains 100 || T.contains (100, 46)) = false) : mv_mR G2 n r := by
  refine ⟨by rw [hc.slot 100 46 h0]; exact h.1, ?_⟩
  have hk : ∀ k, k ∈ [123, 124, 125, 126, 127] → G2 k = G k := fun k hk => hc.cell k (Bool.eq_false_iff.mpr (List.any_eq_false.mp hS k hk))
  have e := h.2
  refine mv_t5 ?_ ?_ ?_ ?_ ?_
  · rw [hk (123 + 0) (by decide)]; exact e 0 (by decide)
  · rw [hk (123 + 1) (by decide)]; exact e 1 (by decide)
  · rw [hk (123 + 2) (by decide)]; exact e 2 (by decide)
  · rw [hk (123 + 3) (by decide)]; exact e 3 (by decide)
  · rw [hk (123 + 4) (by decide)]; exact e 4 (by decide)
theorem mv_cA.ch {S : List Nat} {T : List (Nat × Nat)} {G2 : mv_G} (h : mv_cA G w k b g) (hc : mv_ch S T G G2) (h0 : (S.contains 66 || (T.contains (66, 6) || (T.contains (66, 7) || (T.contains (66, 8) || T.contains (66, 9))))) = false) : mv_cA G2 w k b g := by
  simp only [Bool.or_eq_false_iff] at h0
  obtain ⟨h0, h6, h7, h8, h9⟩ := h0
  unfold mv_cA
  rw [hc 66 0 6 h0 h6, hc 66 0 7 h0 h7, hc 66 0 8 h0 h8, hc 66 0 9 h0 h9]
  exact h
theorem mv_mA.ch {S : List Nat} {T : List (Nat × Nat)} {G2 : mv_G} (h : mv_mA G w k b g) (hc : mv_ch S T G G2) (h0 : (S.contains 100 || (T.contains (100, 47) || (T.contains (100, 48) || (T.contains (100, 49) || T.contains (100, 50))))) = false) : mv_mA G2 w k b g := by
  simp only [Bool.or_eq_false_iff] at h0
  obtain ⟨h0, h6, h7, h8, h9⟩ := h0
  unfold mv_mA
  rw [hc 100 0 47 h0 h6, hc 100 0 48 h0 h7, hc 100 0 49 h0 h8, hc 100 0 50 h0 h9]
  exact h
theorem mv_cL.ch {S : List Nat} {T : List (Nat × Nat)} {G2 : mv_G} {o : Nat} (h : mv_cL G 8 a o) (hc : mv_ch S T G G2) (hS : ([8, 9, 10, 11, 12].any fun k => S.contains k || T.any fun q => q.1 == k) = false) : mv_cL G2 8 a o := by
  have hk : ∀ k, k ∈ [8, 9, 10, 11, 12] → G2 k = G k := fun k hk => hc.cell k (Bool.eq_false_iff.mpr (List.any_eq_false.mp hS k hk))
  unfold mv_cL
  rw [hk 8 (by decide), hk (8 + 1) (by decide), hk (8 + 2) (by decide), hk (8 + 3) (by decide), hk (8 + 4) (by decide)]
  exact h
/-! the class's small questions of a row -/
theorem fx_isFriend (h : mv_cR G n r) (hA : mv_cA G w k b g) (hn : n ≤ 60) (i : Int) : ff_X9_isFriend [.inr (66, 0), .inl i] G = some (mv_b (0 ≤ i ∧ i < n ∧ 0 < g ∧ r 3 i.toNat = g), G) := by
  refine mv_Kp.eq (mv_Kp.of (mv_JP.of (rg_X9_isFriend_0 i G) ?_))
  rw [h.1, hA.2.2.2]
  refine mv_J.i (fun h1 => mv_J.r0 (Or.inl rfl) ⟨(mv_b0 (by omega)).symm, rfl⟩) (fun h1 => mv_J.i (fun h2 => mv_J.i (fun h3 => mv_J.ck (by omega) ?_) (fun h3 => mv_J.r0 (Or.inl rfl) ⟨(mv_b0 (by omega)).symm, rfl⟩)) (fun h2 => mv_J.r0 (Or.inl rfl) ⟨(mv_b0 (by omega)).symm, rfl⟩))
  have e : G 70 0 i.toNat = r 3 i.toNat := h.2 3 (by decide) i.toNat (by omega)
  rw [e]
  exact mv_J.i (fun h4 => mv_J.r0 (Or.inr rfl) ⟨(mv_b1 ⟨by omega, h2, h3, h4⟩).symm, rfl⟩) (fun h4 => mv_J.r0 (Or.inl rfl) ⟨(mv_b0 (fun h5 => h4 h5.2.2.2)).symm, rfl⟩)
theorem fx_apart9 (h : mv_cR G n r) (hA : mv_cA G w k b g) (hn : n ≤ 60) (i : Nat) (hi : i < n) : ff_X9_apart [.inr (66, 0), .inl i] G = some (mv_ap k g (r 2 i) (r 3 i), G) := by
  refine mv_Kp.eq (mv_Kp.of (mv_JP.of (rg_X9_apart_0 i G) (mv_J.ce (fx_isFriend h hA hn i) (mv_J.bt (fun h1 => mv_J.ck (by omega) ?_) (fun h1 => mv_J.ret ⟨?_, rfl⟩)))))
  · rw [Int.toNat_natCast] at h1 ⊢
    have e : G 69 0 i = r 2 i := h.2 2 (by decide) i hi
    rw [e, hA.2.1]
    refine mv_J.ce (mv_max_eq _ _ _) (mv_J.ret ⟨?_, rfl⟩)
    unfold mv_ap
    rw [if_neg (c := 0 < g ∧ g = r 3 i) (fun h2 => h1 ⟨by omega, by omega, h2.1, h2.2.symm⟩)]
    split <;> split <;> omega
  · rw [Int.toNat_natCast] at h1
    unfold mv_ap
    rw [if_pos ⟨h1.2.2.1, h1.2.2.2.symm⟩]
theorem fx_gapStart (h : mv_cR G n r) (hn : n ≤ 60) (gp : Nat) (hg : gp ≤ n) : ff_X9_gapStart [.inr (66, 0), .inl gp] G = some (mv_gst r gp, G) := by
  refine mv_Kp.eq (mv_Kp.of (mv_JP.of (rg_X9_gapStart_0 gp G) ?_))
  rw [h.1]
  unfold mv_gst
  refine mv_J.i (fun h1 => mv_J.f (by omega) ?_) (fun h1 => mv_J.ret ⟨by rw [if_neg (by omega)], rfl⟩)
  rw [mv_ws (by omega)]
  refine mv_J.ck (by omega) (mv_J.ret ⟨?_, rfl⟩)
  rw [if_pos (by omega), show ((gp : Int) - 1).toNat = gp - 1 by omega]
  exact h.2 1 (by decide) (gp - 1) (by omega)
theorem fx_gapEnd (h : mv_cR G n r) (hn : n ≤ 60) (gp : Nat) (hg : gp ≤ n) (L : Int) : ff_X9_gapEnd [.inr (66, 0), .inl gp, .inl L] G = some (mv_gen L n r gp, G) := by
  refine mv_Kp.eq (mv_Kp.of (mv_JP.of (rg_X9_gapEnd_0 gp L G) (mv_J.f (by omega) ?_)))
  rw [h.1]
  unfold mv_gen
  refine mv_J.i (fun h1 => mv_J.ck (by omega) (mv_J.ret ⟨?_, rfl⟩)) (fun h1 => mv_J.ret ⟨by rw [if_neg (by omega)], rfl⟩)
  rw [if_pos (by omega), Int.toNat_natCast]
  exact h.2 0 (by decide) gp (by omega)
theorem fx_lowest (h : mv_cR G n r) (hA : mv_cA G w k b g) (hr : mv_rok (a 0 0) n r) (hi : mv_iB a) (ha : mv_aok w k b g) (gp : Nat) (hg : gp ≤ n) : ff_X9_lowest [.inr (66, 0), .inl gp] G = some (mv_lw k g r gp, G) := by
  have hn := hr.1
  have b1 := hi.1
  refine mv_Kp.eq (mv_Kp.of (mv_JP.of (rg_X9_lowest_0 gp G) ?_))
  rw [h.1]
  unfold mv_lw
  refine mv_J.i (fun h1 => mv_J.f (by omega) ?_) (fun h1 => mv_J.ret ⟨by rw [if_neg (by omega)], rfl⟩)
  have e0 : (gp : Int) - 1 = ((gp - 1 : Nat) : Int) := by omega
  rw [mv_ws (x := (gp : Int) - 1) (by omega), e0, Int.toNat_natCast]
  refine mv_J.ck (by omega) (mv_J.ce (fx_apart9 h hA hn (gp - 1) (by omega)) (mv_J.ret ⟨?_, rfl⟩))
  obtain ⟨r1, r2, r3, r4⟩ := hr.2 (gp - 1) (by omega)
  have ab := mv_ap_b (g1 := g) (g2 := r 3 (gp - 1)) ha.2.1 r2
  have e : G 68 0 (gp - 1) = r 1 (gp - 1) := h.2 1 (by decide) (gp - 1) (by omega)
  rw [if_pos (by omega), e, mv_ws (by omega)]
theorem fx_highest (h : mv_cR G n r) (hA : mv_cA G w k b g) (hr : mv_rok (a 0 0) n r) (hi : mv_iB a) (ha : mv_aok w k b g) (gp : Nat) (hg : gp ≤ n) : ff_X9_highest [.inr (66, 0), .inl gp, .inl (a 0 0)] G = some (mv_hg (a 0 0) n r w k b g gp, G) := by
  have hn := hr.1
  have b1 := hi.1
  obtain ⟨a1, a2, a3, a4⟩ := ha
  refine mv_Kp.eq (mv_Kp.of (mv_JP.of (rg_X9_highest_0 gp (a 0 0) G) (mv_J.f (by omega) ?_)))
  rw [h.1, hA.1, hA.2.2.1]
  unfold mv_hg
  refine mv_J.i (fun h1 => mv_J.ck (by omega) (mv_J.ce (fx_apart9 h hA hn gp (by omega)) (mv_J.ret ⟨?_, rfl⟩))) (fun h1 => mv_J.ret ⟨?_, rfl⟩)
  · obtain ⟨r1, r2, r3, r4⟩ := hr.2 gp (by omega)
    have ab := mv_ap_b (g1 := g) (g2 := r 3 gp) a2 r2
    have e : G 67 0 gp = r 0 gp := h.2 0 (by decide) gp (by omega)
    rw [if_pos (by omega), Int.toNat_natCast, e, hA.1, hA.2.2.1, mv_ws (x := r 0 gp - mv_ap k g (r 2 gp) (r 3 gp)) (by omega), mv_ws (x := r 0 gp - mv_ap k g (r 2 gp) (r 3 gp) - w) (by omega), mv_ws (by omega)]
  · rw [if_neg (by omega), mv_ws (x := a 0 0 - w) (by omega), mv_ws (by omega)]
/-- in a good row the entries behind the gap are not left of the inch -/
theorem mv_gp_sp {L : Int} (hr : mv_rok L n r) (x : Int) : (∀ j, j < mv_gp r n x → r 0 j < x) ∧ ∀ j, mv_gp r n x ≤ j → j < n → x ≤ r 0 j := by
  obtain ⟨-, h2, h3, h4⟩ := mv_lo_sp (f := r 0) (x := x) n 0
  refine ⟨fun j hj => h3 j (Nat.zero_le _) hj, fun j h5 h6 => ?_⟩
  have h7 := h4 (by unfold mv_gp at h5; omega)
  have h5' : mv_lo (r 0) x n 0 ≤ j := h5
  rcases Nat.lt_or_ge (mv_lo (r 0) x n 0) j with h8 | h8
  · have h9 := (hr.2 _ (Nat.lt_trans h8 h6)).2.2.2 j h8 h6
    have h10 := (hr.2 _ (Nat.lt_trans h8 h6)).1
    omega
  · rw [show j = mv_lo (r 0) x n 0 by omega]
    omega
theorem fx_gapOf (h : mv_cR G n r) {L : Int} (hr : mv_rok L n r) (x : Int) : ff_X9_gapOf [.inr (66, 0), .inl x] G = some (((mv_gp r n x : Nat) : Int), G) := by
  have hn := hr.1
  obtain ⟨s1, s2⟩ := mv_gp_sp hr x
  have hle := mv_gp_le (r := r) (n := n) (x := x)
  refine mv_Kp.eq (mv_Kp.of (mv_JP.of (rg_X9_gapOf_0 x G) (mv_J.cut ?_)))
  generalize mv_gp r n x = gp at s1 s2 hle
  have key : ∀ q i : Nat, i + q = n → mv_JP mm_X9_gapOf (fun r G' => r = (gp : Int) ∧ G' = G) 4 [some (.inr (66, 0)), some (.inl x), some (.inl ((min i gp : Nat) : Int)), some (.inl (i : Int))] G := by
    intro q
    induction q with
    | zero =>
      intro i hq
      refine mv_JP.of (rg_X9_gapOf_4 x _ i G) ?_
      rw [h.1]
      exact mv_J.f (by omega) (mv_J.ret ⟨by omega, rfl⟩)
    | succ q ih =>
      intro i hq
      refine mv_JP.of (rg_X9_gapOf_4 x _ i G) ?_
      have e : G 67 0 i = r 0 i := h.2 0 (by decide) i (by omega)
      rw [h.1, Int.toNat_natCast, e, mv_ws (by omega)]
      refine mv_J.t (by omega) (mv_J.ck (by omega) (mv_J.i (fun h1 => mv_J.cut ?_) (fun h1 => mv_J.cut ?_)))
      · have h2 : i < gp := by
          rcases Nat.lt_or_ge i gp with h2 | h2
          · exact h2
          · have := s2 i h2 (by omega); omega
        have := ih (i + 1) (by omega)
        rw [show ((min (i + 1) gp : Nat) : Int) = (i : Int) + 1 by omega] at this
        exact this
      · have h2 : gp ≤ i := by
          rcases Nat.lt_or_ge i gp with h2 | h2
          · exact absurd (s1 i h2) h1
          · exact h2
        have := ih (i + 1) (by omega)
        rw [show min (i + 1) gp = min i gp by omega] at this
        exact this
  have := key n 0 (by omega)
  rw [show ((min 0 gp : Nat) : Int) = 0 by omega] at this
  exact this
theorem fx_isPlace (hB : mv_cB G a) (hi : mv_iB a) (h : mv_cR G n r) (hA : mv_cA G w k b g) (hr : mv_rok (a 0 0) n r) (ha : mv_aok w k b g) (x : Int) : ff_X10_isPlace [.inr (72, 0), .inl x] G = some (mv_b (mv_pl a n r w k b g x), G) := by
  have hle := mv_gp_le (r := r) (n := n) (x := x)
  refine mv_Kp.eq (mv_Kp.of (mv_JP.of (rg_X10_isPlace_0 x G) (mv_J.ce (fx_gapOf h hr x) (mv_J.ce (fx_lowest h hA hr hi ha _ hle) ?_))))
  rw [hB.1.1]
  refine mv_J.i (fun h1 => mv_J.r0 (Or.inl rfl) ⟨(mv_b0 (fun h2 => by have := h2.2.1; omega)).symm, rfl⟩) (fun h1 => mv_J.ce (fx_highest h hA hr hi ha _ hle) ?_)
  rw [hA.1]
  exact (mv_J.i (fun h2 => mv_J.r0 (Or.inl rfl) ⟨(mv_b0 (fun h3 => by have := h3.2.2; omega)).symm, rfl⟩) (fun h2 => mv_J.ce (fx_isClear hB hi x w (by have := ha.1; omega)) (mv_J.bt (fun h3 => mv_J.r0 (Or.inl rfl) ⟨(mv_b0 (fun h4 => h3 h4.1)).symm, rfl⟩) (fun h3 => mv_J.r0 (Or.inr rfl) ⟨(mv_b1 ⟨h3, by omega, by omega⟩).symm, rfl⟩))))
theorem fx_warmInches (hB : mv_cB G a) (hi : mv_iB a) (hA : mv_cA G w k b g) (ha : mv_aok w k b g) (x : Nat) (hx : (x : Int) + w ≤ a 0 0) : ff_X10_warmInches [.inr (72, 0), .inl x] G = some (mv_wn a w.toNat x, G) := by
  have b1 := hi.1
  have a1 := ha.1
  refine mv_Kp.eq (mv_Kp.of (mv_JP.of (rg_X10_warmInches_0 x G) ?_))
  rw [hA.1, hB.1.1, mv_ws (by omega)]
  refine mv_J.ce (mv_min_eq _ _ _) (mv_J.ce (mv_max_eq _ _ _) (mv_J.cut ?_))
  rw [if_neg (by omega), if_neg (by omega)]
  have key : ∀ (q i : Nat) (c : Int), (i : Int) + q = x + w → 0 ≤ c ∧ c ≤ (i : Int) - x → mv_JP mm_X10_warmInches (fun r G' => r = c + mv_wn a q i ∧ G' = G) 29 [some (.inr (72, 0)), none, some (.inl c), some (.inl ((x : Int) + w)), some (.inl (i : Int))] G := by
    intro q
    induction q with
    | zero =>
      intro i c hq hc
      refine mv_JP.of (rg_X10_warmInches_29 c _ i G) (mv_J.f (by omega) (mv_J.ret ⟨?_, rfl⟩))
      unfold mv_wn
      omega
    | succ q ih =>
      intro i c hq hc
      have v := hi.2.2.1 i (by omega)
      refine mv_JP.of (rg_X10_warmInches_29 c _ i G) ?_
      rw [hB.1.2.2.1, hB.2.2.1, Int.toNat_natCast, mv_ws (x := (i : Int) + 1) (by omega), mv_ws (x := c + 1) (by omega), mv_ws (x := a 0 2 - a 2 i) (by omega)]
      have e : ∀ c2 : Int, 0 ≤ c2 ∧ c2 ≤ (i : Int) + 1 - x → c2 = c + (if a 2 i ≠ -1 ∧ a 0 2 - a 2 i ≤ 9 then 1 else 0) → mv_JP mm_X10_warmInches (fun r G' => r = c + mv_wn a (q + 1) i ∧ G' = G) 29 [some (.inr (72, 0)), none, some (.inl c2), some (.inl ((x : Int) + w)), some (.inl ((i : Int) + 1))] G := fun c2 h1 h2 => by
        have := ih (i + 1) c2 (by omega) (by omega)
        refine mv_JP.mono this (fun r G' h3 => ⟨?_, h3.2⟩)
        rw [h3.1, h2]
        exact Int.add_assoc _ _ _
      exact mv_J.t (by omega) (mv_J.ck (by omega) (mv_J.i (fun h1 => mv_J.cut (e c (by omega) (by rw [if_neg (fun h2 => h2.1 h1)]; omega))) (fun h1 => mv_J.ck (by omega) (mv_J.i (fun h2 => mv_J.cut (e c (by omega) (by rw [if_neg (fun h3 => by have := h3.2; omega)]; omega))) (fun h2 => mv_J.cut (e (c + 1) (by omega) (by rw [if_pos ⟨h1, by omega⟩])))))))
  have := key w.toNat x 0 (by omega) (by omega)
  rw [Int.zero_add] at this
  exact this
end ST
