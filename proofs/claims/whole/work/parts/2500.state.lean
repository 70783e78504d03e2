/-! The whole state, abstractly. Attributes more: 0 4 lines of the day, 0 5 what can be undone, 0 6 the tape's size, 0 7 and 0 8 the fault, 0 9 an image; 9 .. 12 the book; 13 .. 15 the day; 16 the tape; 17 .. 21, 22 .. 26 the laws; 30, 40, 50 + r what can be undone; 100 + t the image. -/
def mv_bkC (G : mv_G) (a : mv_a) : Prop := G 1 0 3 = a 0 3 ∧ ∀ i : Nat, (i : Int) < a 0 3 → G 7 1 i = a 9 i ∧ G 7 2 i = a 10 i ∧ G 7 3 i = a 11 i ∧ G 7 4 i = a 12 i
def mv_dyC (G : mv_G) (a : mv_a) : Prop := G 20 0 0 = a 0 4 ∧ ∀ i : Nat, (i : Int) < a 0 4 → G 21 0 i = a 13 i ∧ G 22 0 i = a 14 i ∧ G 23 0 i = a 15 i
def mv_cX (G : mv_G) (a : mv_a) : Prop := mv_cB G a ∧ mv_cL G 8 a 17 ∧ mv_cL G 14 a 22 ∧ mv_bkC G a ∧ mv_dyC G a
def mv_im (a : mv_a) : mv_a := fun o => a (100 + o)
def mv_shC (G : mv_G) : mv_G := fun k => G (k + 23)
def mv_slt (nx c r : Nat) : Nat := (nx + 6 - c + r) % 6
def mv_unC (G : mv_G) (a : mv_a) : Prop := ∃ nx : Nat, nx < 6 ∧ G 47 0 1 = (nx : Int) ∧ G 47 0 0 = a 0 5 ∧ ∀ r : Nat, (r : Int) < a 0 5 → (∀ p, p < 10 → G 48 (mv_slt nx (a 0 5).toNat r + 1) p = a (40 + r) p) ∧ (∀ i, i < 60 → G 49 (mv_slt nx (a 0 5).toNat r + 1) i = a (50 + r) i) ∧ G 50 0 (mv_slt nx (a 0 5).toNat r) = a (30 + r) 0 ∧ G 51 0 (mv_slt nx (a 0 5).toNat r) = a (30 + r) 1
def mv_tpC (G : mv_G) (a : mv_a) : Prop := G 52 0 0 = a 0 6 ∧ (∀ j : Nat, (j : Int) < a 0 6 → G 63 0 j = a 16 j) ∧ G 52 0 1 = a 0 7 ∧ G 52 0 2 = a 0 8
def st_cW (G : mv_G) (a : mv_a) : Prop := mv_cX G a ∧ mv_unC G a ∧ mv_tpC G a ∧ G 0 0 10 = a 0 9 ∧ (a 0 9 ≠ 0 → mv_cX (mv_shC G) (mv_im a))
def mv_bkM (G : mv_G) (a : mv_a) : Prop := G 101 0 1 = a 0 3 ∧ ∀ i : Nat, (i : Int) < a 0 3 → G 110 0 (4 * i) = a 9 i ∧ G 110 0 (4 * i + 1) = a 10 i ∧ G 110 0 (4 * i + 2) = a 11 i ∧ G 110 0 (4 * i + 3) = a 12 i
def mv_dyM (G : mv_G) (a : mv_a) : Prop := G 100 0 37 = a 0 4 ∧ ∀ i : Nat, (i : Int) < a 0 4 → G 120 0 (3 * i) = a 13 i ∧ G 120 0 (3 * i + 1) = a 14 i ∧ G 120 0 (3 * i + 2) = a 15 i
def mv_mX (G : mv_G) (a : mv_a) : Prop := mv_mB G a ∧ mv_mL G 0 a 17 ∧ mv_mL G 1 a 22 ∧ mv_bkM G a ∧ mv_dyM G a
/-- the reference's image as a heap -/
def mv_vh (f : Nat → Int) : mv_G := fun k _ j => if k = 101 then f j else if k = 100 then (if j = 6 then f 72 else if j = 8 then f 134 else f 185) else if k = 104 then f (73 + j) else if k = 120 then f (186 + j) else if k = 110 then f (258 + j) else if k = 113 then f (858 + 849 * j) else if k ≤ 109 then f (135 + 5 * j + (k - 105)) else if k ≤ 116 then f (859 + 849 * (j / 16) + 3 * (j % 16) + (k - 114)) else f (907 + 849 * (j / 400) + 2 * (j % 400) + (k - 117))
def mv_unM (G : mv_G) (a : mv_a) : Prop := G 100 0 3 = a 0 5 ∧ ∀ r : Nat, (r : Int) < a 0 5 → G 102 0 (72 * r) = a (30 + r) 0 ∧ G 102 0 (72 * r + 1) = a (30 + r) 1 ∧ (∀ p, p < 10 → G 102 0 (72 * r + (2 + p)) = a (40 + r) p + 1) ∧ ∀ i, i < 60 → G 102 0 (72 * r + (12 + i)) = a (50 + r) i + 1
def mv_tpM (G : mv_G) (a : mv_a) : Prop := G 100 0 16 = a 0 6 ∧ (∀ j : Nat, (j : Int) < a 0 6 → G 111 0 j = a 16 j) ∧ G 100 0 35 = a 0 7 ∧ G 100 0 36 = a 0 8
def st_mW (G : mv_G) (a : mv_a) : Prop := mv_mX G a ∧ mv_unM G a ∧ mv_tpM G a ∧ G 100 0 68 = a 0 9 ∧ (a 0 9 ≠ 0 → mv_mX (mv_vh (G 137 0)) (mv_im a)) ∧ G 100 0 5 = 0 ∧ ∀ j, G 112 0 j = mv_wo.getD j 0
/-- what is true of the numbers -/
def mv_iD (a : mv_a) : Prop := (0 ≤ a 0 4 ∧ a 0 4 ≤ 24) ∧ ∀ i : Nat, (i : Int) < a 0 4 → (0 ≤ a 13 i ∧ a 13 i ≤ 2) ∧ (0 ≤ a 14 i ∧ a 14 i < a 0 1) ∧ 0 ≤ a 15 i ∧ a 15 i ≤ 999
def mv_iX (a : mv_a) : Prop := mv_iB a ∧ mv_iL mv_qs a 17 ∧ mv_iL mv_qm a 22 ∧ mv_iD a
/-- as it was -/
def mv_un (a : mv_a) (r : Nat) : mv_a := fun o j => if o = 0 ∧ j = 2 then a (30 + r) 0 else if o = 0 ∧ j = 3 then a (30 + r) 1 else if o = 2 then (if j < 60 then a (50 + r) j else a 2 j) else if o = 3 then (if j < 10 then a (40 + r) j else a 3 j) else a o j
def mv_iU (a : mv_a) : Prop := (0 ≤ a 0 5 ∧ a 0 5 ≤ 6) ∧ ∀ r : Nat, (r : Int) < a 0 5 → mv_iB (mv_un a r) ∧ a (30 + r) 1 ≤ a 0 3 ∧ ∀ r2 : Nat, r < r2 → (r2 : Int) < a 0 5 → a (30 + r) 1 ≤ a (30 + r2) 1
def mv_iT (a : mv_a) : Prop := (0 ≤ a 0 6 ∧ a 0 6 ≤ 400) ∧ ∀ j : Nat, (j : Int) < a 0 6 → 0 ≤ a 16 j ∧ a 16 j ≤ 255
def st_iW (a : mv_a) : Prop := mv_iX a ∧ mv_iU a ∧ mv_iT a ∧ (a 0 9 = 0 ∨ a 0 9 = 1) ∧ (a 0 9 ≠ 0 → mv_iX (mv_im a))
/-! frames -/
def mv_fC (G G2 : mv_G) : Prop := ∀ k, 100 ≤ k → G2 k = G k
def mv_fM (G G2 : mv_G) : Prop := ∀ k, k < 100 → G2 k = G k
theorem mv_fC.rf {G : mv_G} : mv_fC G G := fun _ _ => rfl
theorem mv_fM.rf {G : mv_G} : mv_fM G G := fun _ _ => rfl
theorem mv_fC.tr {G G2 G3 : mv_G} (h : mv_fC G G2) (h2 : mv_fC G2 G3) : mv_fC G G3 := fun k hk => (h2 k hk).trans (h k hk)
theorem mv_fM.tr {G G2 G3 : mv_G} (h : mv_fM G G2) (h2 : mv_fM G2 G3) : mv_fM G G3 := fun k hk => (h2 k hk).trans (h k hk)
theorem mv_ch.fC {S : List Nat} {T : List (Nat × Nat)} {G G2 : mv_G} (h : mv_ch S T G G2) (hS : (S.all (fun k => Nat.blt k 100) && T.all (fun q => Nat.blt q.1 100)) = true) : mv_fC G G2 := fun k hk => by
  rw [Bool.and_eq_true, List.all_eq_true, List.all_eq_true] at hS
  refine h.cell k ?_
  rw [Bool.or_eq_false_iff]
  constructor
  · cases hc : S.contains k with
    | false => rfl
    | true =>
      have := hS.1 k (List.contains_iff_mem.mp hc)
      have : k < 100 := by simpa [Nat.blt_eq] using this
      omega
  · rw [List.any_eq_false]
    intro q hq e
    have := hS.2 q hq
    have h1 : q.1 < 100 := by simpa [Nat.blt_eq] using this
    have h2 : q.1 = k := by simpa using e
    omega
theorem mv_ch.fM {S : List Nat} {T : List (Nat × Nat)} {G G2 : mv_G} (h : mv_ch S T G G2) (hS : (S.all (fun k => Nat.ble 100 k) && T.all (fun q => Nat.ble 100 q.1)) = true) : mv_fM G G2 := fun k hk => by
  rw [Bool.and_eq_true, List.all_eq_true, List.all_eq_true] at hS
  refine h.cell k ?_
  rw [Bool.or_eq_false_iff]
  constructor
  · cases hc : S.contains k with
    | false => rfl
    | true =>
      have := hS.1 k (List.contains_iff_mem.mp hc)
      have : 100 ≤ k := by simpa [Nat.ble_eq] using this
      omega
  · rw [List.any_eq_false]
    intro q hq e
    have := hS.2 q hq
    have h1 : 100 ≤ q.1 := by simpa [Nat.ble_eq] using this
    have h2 : q.1 = k := by simpa using e
    omega
theorem mv_up_fC {G : mv_G} {k i j : Nat} {v : Int} (h : k < 100) : mv_fC G (mv_up G k i j v) := fun q hq => mv_up_k (by omega)
theorem mv_up_fM {G : mv_G} {k i j : Nat} {v : Int} (h : 100 ≤ k) : mv_fM G (mv_up G k i j v) := fun q hq => mv_up_k (by omega)
def mv_cXl : List Nat := [1, 2, 3, 4, 5, 6, 7, 8, 9, 10, 11, 12, 14, 15, 16, 17, 18, 20, 21, 22, 23]
theorem mv_cX.cg {G G2 : mv_G} {a : mv_a} (h : mv_cX G a) (hk : ∀ k, k ∈ mv_cXl → G2 k = G k) : mv_cX G2 a := by
  unfold mv_cX mv_cB mv_cL mv_bkC mv_dyC at h ⊢
  rw [hk 1 (by decide), hk 2 (by decide), hk 3 (by decide), hk 4 (by decide), hk 5 (by decide), hk 6 (by decide), hk 7 (by decide), hk 8 (by decide), hk (8 + 1) (by decide), hk (8 + 2) (by decide), hk (8 + 3) (by decide), hk (8 + 4) (by decide), hk 14 (by decide), hk (14 + 1) (by decide), hk (14 + 2) (by decide), hk (14 + 3) (by decide), hk (14 + 4) (by decide), hk 20 (by decide), hk 21 (by decide), hk 22 (by decide), hk 23 (by decide)]
  exact h
def mv_cWl : List Nat := mv_cXl ++ mv_cXl.map (· + 23) ++ [47, 48, 49, 50, 51, 63]
theorem st_cW.cg {G G2 : mv_G} {a : mv_a} (h : st_cW G a) (hk : ∀ k, k ∈ mv_cWl → G2 k = G k) (h10 : G2 0 0 10 = G 0 0 10) (h52 : ∀ j, j < 3 → G2 52 0 j = G 52 0 j) : st_cW G2 a := by
  obtain ⟨h1, h2, h3, h4, h5⟩ := h
  refine ⟨h1.cg (fun k h => hk k (List.mem_append_left _ (List.mem_append_left _ h))), ?_, ?_, h10.trans h4, fun h => (h5 h).cg (fun k hm => hk (k + 23) (List.mem_append_left _ (List.mem_append_right _ (List.mem_map_of_mem hm))))⟩
  · unfold mv_unC at h2 ⊢
    rw [hk 47 (by decide), hk 48 (by decide), hk 49 (by decide), hk 50 (by decide), hk 51 (by decide)]
    exact h2
  · unfold mv_tpC at h3 ⊢
    rw [hk 63 (by decide), h52 0 (by decide), h52 1 (by decide), h52 2 (by decide)]
    exact h3
theorem st_cW.ch {S : List Nat} {T : List (Nat × Nat)} {G G2 : mv_G} {a : mv_a} (h : st_cW G a) (hc : mv_ch S T G G2) (hS : (mv_cWl.any fun k => S.contains k || T.any fun q => q.1 == k) = false) (h0 : ((S.contains 0 || S.contains 52) || (T.contains (0, 10) || T.contains (52, 0) || T.contains (52, 1) || T.contains (52, 2))) = false) : st_cW G2 a := by
  rw [Bool.or_eq_false_iff, Bool.or_eq_false_iff, Bool.or_eq_false_iff, Bool.or_eq_false_iff, Bool.or_eq_false_iff] at h0
  obtain ⟨⟨s0, s52⟩, ⟨⟨t0, t1⟩, t2⟩, t3⟩ := h0
  refine h.cg (fun k hk => hc.cell k (Bool.eq_false_iff.mpr (List.any_eq_false.mp hS k hk))) (hc.slot 0 10 (by rw [s0, t0]; rfl)) (fun j hj => ?_)
  have : j = 0 ∨ j = 1 ∨ j = 2 := by omega
  rcases this with rfl | rfl | rfl
  · exact hc.slot 52 0 (by rw [s52, t1]; rfl)
  · exact hc.slot 52 1 (by rw [s52, t2]; rfl)
  · exact hc.slot 52 2 (by rw [s52, t3]; rfl)
theorem st_cW.fM {G G2 : mv_G} {a : mv_a} (h : st_cW G a) (hf : mv_fM G G2) : st_cW G2 a := h.cg (fun k hk => hf k (by
  have : ∀ k ∈ mv_cWl, k < 100 := by decide
  exact this k hk)) (by rw [hf 0 (by decide)]) (fun j _ => by rw [hf 52 (by decide)])
/-- the reference's places that count -/
def mv_rel (k j : Nat) : Prop := (k = 101 ∧ j < 72) ∨ (k = 100 ∧ (j = 6 ∨ j = 8 ∨ j = 37)) ∨ (k = 104 ∧ j < 60) ∨ (105 ≤ k ∧ k ≤ 109 ∧ j < 10) ∨ (k = 120 ∧ j < 72) ∨ (k = 110 ∧ j < 600) ∨ (k = 113 ∧ j < 2) ∨ (114 ≤ k ∧ k ≤ 116 ∧ j < 32) ∨ (117 ≤ k ∧ k ≤ 118 ∧ j < 800)
theorem mv_mX.cg {G G2 : mv_G} {a : mv_a} (h : mv_mX G a) (hi : mv_iX a) (hk : ∀ k j, mv_rel k j → G2 k 0 j = G k 0 j) : mv_mX G2 a := by
  obtain ⟨⟨⟨b1, b2, b3, -⟩, b4, b5, b6, b7, b8, b9, b10, b11⟩, ⟨l1, l2, l3⟩, ⟨n1, n2, n3⟩, ⟨k1, k2⟩, d1, d2⟩ := h
  obtain ⟨i1, ⟨⟨j1, j2, j3, j4⟩, -⟩, ⟨⟨m1, m2, m3, m4⟩, -⟩, ⟨p1, p2⟩, -⟩ := hi
  have q := i1.1
  refine ⟨⟨⟨?_, ?_, ?_, True.intro⟩, fun i hi => ?_, fun i hi => ?_, fun i hi => ?_, fun i hi => ?_, fun i hi => ?_, fun i hi => ?_, fun i hi => ?_, fun i hi => ?_⟩, ⟨?_, fun j hj => ?_, fun l hl => ?_⟩, ⟨?_, fun j hj => ?_, fun l hl => ?_⟩, ⟨?_, fun i hi => ?_⟩, ?_, fun i hi => ?_⟩
  · rw [hk 100 6 (by unfold mv_rel; omega)]; exact b1
  · rw [hk 100 8 (by unfold mv_rel; omega)]; exact b2
  · rw [hk 101 0 (by unfold mv_rel; omega)]; exact b3
  · rw [hk 104 i (by unfold mv_rel; omega)]; exact b4 i hi
  · rw [hk 101 (12 + i) (by unfold mv_rel; omega)]; exact b5 i hi
  · rw [hk 101 (2 + i) (by unfold mv_rel; omega)]; exact b6 i hi
  · rw [hk 105 i (by unfold mv_rel; omega)]; exact b7 i hi
  · rw [hk 106 i (by unfold mv_rel; omega)]; exact b8 i hi
  · rw [hk 107 i (by unfold mv_rel; omega)]; exact b9 i hi
  · rw [hk 108 i (by unfold mv_rel; omega)]; exact b10 i hi
  · rw [hk 109 i (by unfold mv_rel; omega)]; exact b11 i hi
  · rw [hk 113 0 (by unfold mv_rel; omega)]; exact l1
  · rw [hk 117 _ (by unfold mv_rel; omega), hk 118 _ (by unfold mv_rel; omega)]; exact l2 j hj
  · rw [hk 114 _ (by unfold mv_rel; omega), hk 115 _ (by unfold mv_rel; omega), hk 116 _ (by unfold mv_rel; omega)]; exact l3 l hl
  · rw [hk 113 1 (by unfold mv_rel; omega)]; exact n1
  · rw [hk 117 _ (by unfold mv_rel; omega), hk 118 _ (by unfold mv_rel; omega)]; exact n2 j hj
  · rw [hk 114 _ (by unfold mv_rel; omega), hk 115 _ (by unfold mv_rel; omega), hk 116 _ (by unfold mv_rel; omega)]; exact n3 l hl
  · rw [hk 101 1 (by unfold mv_rel; omega)]; exact k1
  · rw [hk 110 _ (by unfold mv_rel; omega), hk 110 _ (by unfold mv_rel; omega), hk 110 _ (by unfold mv_rel; omega), hk 110 _ (by unfold mv_rel; omega)]; exact k2 i hi
  · rw [hk 100 37 (by unfold mv_rel; omega)]; exact d1
  · rw [hk 120 _ (by unfold mv_rel; omega), hk 120 _ (by unfold mv_rel; omega), hk 120 _ (by unfold mv_rel; omega)]; exact d2 i hi
/-- those that the rest counts on -/
def mv_rel2 (k j : Nat) : Prop := mv_rel k j ∨ (k = 100 ∧ (j = 3 ∨ j = 5 ∨ j = 16 ∨ j = 35 ∨ j = 36 ∨ j = 68)) ∨ k = 102 ∨ k = 111 ∨ k = 112 ∨ k = 137
theorem st_mW.cg {G G2 : mv_G} {a : mv_a} (h : st_mW G a) (hi : mv_iX a) (hk : ∀ k j, mv_rel2 k j → G2 k 0 j = G k 0 j) : st_mW G2 a := by
  obtain ⟨h1, h2, h3, h4, h5, h6, h7⟩ := h
  have s : ∀ j, (j = 3 ∨ j = 5 ∨ j = 16 ∨ j = 35 ∨ j = 36 ∨ j = 68) → G2 100 0 j = G 100 0 j := fun j hj => hk 100 j (Or.inr (Or.inl ⟨rfl, hj⟩))
  have c : ∀ k, k = 102 ∨ k = 111 ∨ k = 112 ∨ k = 137 → G2 k 0 = G k 0 := fun k h => funext fun j => hk k j (Or.inr (Or.inr h))
  refine ⟨h1.cg hi (fun k j h => hk k j (Or.inl h)), ?_, ?_, ?_, ?_, ?_, ?_⟩
  · unfold mv_unM at h2 ⊢
    rw [s 3 (by omega), c 102 (by omega)]
    exact h2
  · unfold mv_tpM at h3 ⊢
    rw [s 16 (by omega), s 35 (by omega), s 36 (by omega), c 111 (by omega)]
    exact h3
  · rw [s 68 (by omega)]; exact h4
  · rw [c 137 (by omega)]; exact h5
  · rw [s 5 (by omega)]; exact h6
  · rw [c 112 (by omega)]; exact h7
def mv_mWl : List Nat := [101, 102, 104, 105, 106, 107, 108, 109, 110, 111, 112, 113, 114, 115, 116, 117, 118, 120, 137]
theorem st_mW.ch {S : List Nat} {T : List (Nat × Nat)} {G G2 : mv_G} {a : mv_a} (h : st_mW G a) (hi : mv_iX a) (hc : mv_ch S T G G2) (hS : (mv_mWl.any fun k => S.contains k || T.any fun q => q.1 == k) = false) (h0 : (S.contains 100 || [3, 5, 6, 8, 16, 35, 36, 37, 68].any fun j => T.contains (100, j)) = false) : st_mW G2 a := by
  have hk : ∀ k, k ∈ mv_mWl → G2 k = G k := fun k hk => hc.cell k (Bool.eq_false_iff.mpr (List.any_eq_false.mp hS k hk))
  rw [Bool.or_eq_false_iff] at h0
  have hs : ∀ j, j ∈ [3, 5, 6, 8, 16, 35, 36, 37, 68] → G2 100 0 j = G 100 0 j := fun j hj => hc.slot 100 j (by
    rw [h0.1]
    exact Bool.eq_false_iff.mpr (List.any_eq_false.mp h0.2 j hj))
  refine h.cg hi (fun k j hr => ?_)
  by_cases e : k = 100
  · subst e
    refine hs j ?_
    have : j = 3 ∨ j = 5 ∨ j = 6 ∨ j = 8 ∨ j = 16 ∨ j = 35 ∨ j = 36 ∨ j = 37 ∨ j = 68 := by unfold mv_rel2 mv_rel at hr; omega
    rcases this with rfl | rfl | rfl | rfl | rfl | rfl | rfl | rfl | rfl <;> decide
  · rw [hk k]
    have : k = 101 ∨ k = 102 ∨ k = 104 ∨ k = 105 ∨ k = 106 ∨ k = 107 ∨ k = 108 ∨ k = 109 ∨ k = 110 ∨ k = 111 ∨ k = 112 ∨ k = 113 ∨ k = 114 ∨ k = 115 ∨ k = 116 ∨ k = 117 ∨ k = 118 ∨ k = 120 ∨ k = 137 := by unfold mv_rel2 mv_rel at hr; omega
    rcases this with rfl | rfl | rfl | rfl | rfl | rfl | rfl | rfl | rfl | rfl | rfl | rfl | rfl | rfl | rfl | rfl | rfl | rfl | rfl <;> decide
theorem st_mW.fC {G G2 : mv_G} {a : mv_a} (h : st_mW G a) (hi : mv_iX a) (hf : mv_fC G G2) : st_mW G2 a := h.cg hi (fun k j hr => by
  rw [hf k]
  unfold mv_rel2 mv_rel at hr
  omega)
