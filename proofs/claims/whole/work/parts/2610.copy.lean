/-! Copies, the class. -/
section CP
variable {G : mv_G} {a b F : mv_a}
def st_mx (a F : mv_a) : mv_a := fun o j => if ((o = 1 ∨ o = 2) ∧ 60 ≤ j) ∨ ((3 ≤ o ∧ o ≤ 8) ∧ 10 ≤ j) then F o j else a o j
theorem st_mx_o {o : Nat} (h : o = 0 ∨ 8 < o) : st_mx a F o = a o := funext fun j => if_neg (by omega)
theorem st_mx_6 {o j : Nat} (h : o = 1 ∨ o = 2) (hj : j < 60) : st_mx a F o j = a o j := if_neg (by omega)
theorem st_mx_1 {o j : Nat} (h : 3 ≤ o ∧ o ≤ 8) (hj : j < 10) : st_mx a F o j = a o j := if_neg (by omega)
theorem st_mx_i (h : mv_iX a) : mv_iX (st_mx a F) := by
  obtain ⟨⟨i1, i2, i3, i4, i5, i6, i7⟩, l1, l2, dy⟩ := h
  refine ⟨⟨i1, fun i hi => ?_, fun i hi => ?_, fun p hp => ?_, fun p hp => ?_, fun p hp hs => ?_, fun p q hp hq hpq => ?_⟩, ?_, ?_, ?_⟩
  · rw [st_mx_6 (Or.inl rfl) hi]; exact i2 i hi
  · rw [st_mx_6 (Or.inr rfl) hi]; exact i3 i hi
  · rw [st_mx_1 (by decide) hp]; exact i4 p hp
  · have hp : (p : Int) < a 0 1 := hp
    rw [st_mx_1 (by decide) (by omega), st_mx_1 (by decide) (by omega), st_mx_1 (by decide) (by omega), st_mx_1 (by decide) (by omega), st_mx_1 (by decide) (by omega)]
    exact i5 p hp
  · have hp : (p : Int) < a 0 1 := hp
    rw [st_mx_1 (by decide) (by omega)] at hs
    have w := (i5 p hp).2.2.1
    obtain ⟨j1, j2⟩ := i6 p hp hs
    rw [st_mx_1 (by decide) (by omega), st_mx_1 (by decide) (by omega), st_mx_1 (by decide) (by omega)]
    refine ⟨j1, fun r hr1 hr2 => ?_⟩
    rw [st_mx_6 (Or.inl rfl) (by omega)]
    exact j2 r hr1 hr2
  · have hp : (p : Int) < a 0 1 := hp
    have hq : (q : Int) < a 0 1 := hq
    rw [st_mx_1 (o := 3) (j := p) (by decide) (by omega), st_mx_1 (o := 3) (j := q) (by decide) (by omega), st_mx_1 (o := 4) (j := p) (by decide) (by omega), st_mx_1 (o := 4) (j := q) (by decide) (by omega), st_mx_1 (o := 6) (j := p) (by decide) (by omega), st_mx_1 (o := 6) (j := q) (by decide) (by omega)]
    exact i7 p q hp hq hpq
  · unfold mv_iL at l1 ⊢
    rw [st_mx_o (by decide), st_mx_o (by decide), st_mx_o (by decide), st_mx_o (by decide), st_mx_o (by decide)]
    exact l1
  · unfold mv_iL at l2 ⊢
    rw [st_mx_o (by decide), st_mx_o (by decide), st_mx_o (by decide), st_mx_o (by decide), st_mx_o (by decide)]
    exact l2
  · unfold mv_iD at dy ⊢
    rw [st_mx_o (o := 0) (by decide), st_mx_o (o := 13) (by decide), st_mx_o (o := 14) (by decide), st_mx_o (o := 15) (by decide)]
    exact dy
theorem st_mx_m (h : mv_mX G a) : mv_mX G (st_mx a F) := by
  obtain ⟨⟨⟨b1, b2, b3, -⟩, b4, b5, b6, b7, b8, b9, b10, b11⟩, l1, l2, bk, dy⟩ := h
  refine ⟨⟨⟨b1, b2, b3, True.intro⟩, fun i hi => ?_, fun i hi => ?_, fun i hi => ?_, fun i hi => ?_, fun i hi => ?_, fun i hi => ?_, fun i hi => ?_, fun i hi => ?_⟩, ?_, ?_, ?_, ?_⟩
  · rw [st_mx_6 (Or.inl rfl) hi]; exact b4 i hi
  · rw [st_mx_6 (Or.inr rfl) hi]; exact b5 i hi
  · rw [st_mx_1 (by decide) hi]; exact b6 i hi
  · rw [st_mx_1 (by decide) hi]; exact b7 i hi
  · rw [st_mx_1 (by decide) hi]; exact b8 i hi
  · rw [st_mx_1 (by decide) hi]; exact b9 i hi
  · rw [st_mx_1 (by decide) hi]; exact b10 i hi
  · rw [st_mx_1 (by decide) hi]; exact b11 i hi
  · unfold mv_mL at l1 ⊢
    rw [st_mx_o (by decide), st_mx_o (by decide), st_mx_o (by decide), st_mx_o (by decide), st_mx_o (by decide)]
    exact l1
  · unfold mv_mL at l2 ⊢
    rw [st_mx_o (by decide), st_mx_o (by decide), st_mx_o (by decide), st_mx_o (by decide), st_mx_o (by decide)]
    exact l2
  · unfold mv_bkM at bk ⊢
    rw [st_mx_o (o := 0) (by decide), st_mx_o (o := 9) (by decide), st_mx_o (o := 10) (by decide), st_mx_o (o := 11) (by decide), st_mx_o (o := 12) (by decide)]
    exact bk
  · unfold mv_dyM at dy ⊢
    rw [st_mx_o (o := 0) (by decide), st_mx_o (o := 13) (by decide), st_mx_o (o := 14) (by decide), st_mx_o (o := 15) (by decide)]
    exact dy
/-- what a copy leaves -/
def cp_P (S T T' : mv_G) : Prop := (∀ j, j < 4 → T' 1 0 j = S 1 0 j) ∧ (∀ k, k = 2 ∨ k = 3 ∨ k = 4 → ∀ j, T' k 0 j = if j < 60 then S k 0 j else T k 0 j) ∧ (∀ j, T' 6 0 j = if j < 10 then S 6 0 j else T 6 0 j) ∧ (∀ i, 1 ≤ i ∧ i ≤ 5 → ∀ j, T' 5 i j = if j < 10 then S 5 i j else T 5 i j) ∧ (∀ i, 1 ≤ i ∧ i ≤ 4 → ∀ j, j < 150 → T' 7 i j = S 7 i j) ∧ (∀ k, k = 8 ∨ k = 14 → (T' k 0 0 = S k 0 0 ∧ T' k 0 1 = S k 0 1) ∧ (∀ j, j < 401 → T' (k + 1) 0 j = S (k + 1) 0 j) ∧ ∀ j, j < 16 → T' (k + 2) 0 j = S (k + 2) 0 j ∧ T' (k + 3) 0 j = S (k + 3) 0 j ∧ T' (k + 4) 0 j = S (k + 4) 0 j) ∧ T' 20 0 0 = S 20 0 0 ∧ ∀ j, j < 24 → T' 21 0 j = S 21 0 j ∧ T' 22 0 j = S 22 0 j ∧ T' 23 0 j = S 23 0 j
theorem cp_X {S T T' : mv_G} (h : cp_P S T T') (hx : mv_cX S b) (hi : mv_iX b) (hF : F 1 = T 2 0 ∧ F 2 = T 4 0 ∧ F 3 = T 6 0 ∧ F 4 = T 5 1 ∧ F 5 = T 5 2 ∧ F 6 = T 5 3 ∧ F 7 = T 5 4 ∧ F 8 = T 5 5) : mv_cX T' (st_mx b F) := by
  obtain ⟨p1, p2, p3, p4, p5, p6, p7, p8⟩ := h
  obtain ⟨⟨⟨c1, c2, c3, -⟩, d2, d3, d4, d5, d6, d7, d8, d9, d10⟩, l1, l2, ⟨k1, k2⟩, y1, y2⟩ := hx
  obtain ⟨i1, ⟨⟨j1, j2, j3, j4⟩, -⟩, ⟨⟨m1, m2, m3, m4⟩, -⟩, ⟨q1, q2⟩, -⟩ := hi
  have b1 := i1.1
  obtain ⟨f1, f2, f3, f4, f5, f6, f7, f8⟩ := hF
  have six : ∀ (o k : Nat), (o = 1 ∨ o = 2) → (k = 2 ∨ k = 3 ∨ k = 4) → F o = T k 0 → S k 0 = b o → T' k 0 = st_mx b F o := fun o k ho hk hf hs => funext fun j => by
    rw [p2 k hk j]
    by_cases c : j < 60
    · rw [if_pos c, st_mx_6 ho c, hs]
    · rw [if_neg c, ← hf]; exact (if_pos (Or.inl ⟨ho, by omega⟩)).symm
  have tol : ∀ i : Nat, 1 ≤ i ∧ i ≤ 5 → F (i + 3) = T 5 i → S 5 i = b (i + 3) → T' 5 i = st_mx b F (i + 3) := fun i hi hf hs => funext fun j => by
    rw [p4 i hi j]
    by_cases c : j < 10
    · rw [if_pos c, st_mx_1 (by omega) c, hs]
    · rw [if_neg c, ← hf]; exact (if_pos (Or.inr ⟨by omega, by omega⟩)).symm
  have law : ∀ k o : Nat, (k = 8 ∨ k = 14) → 8 < o → b o 0 ≤ 16 → b o 1 ≤ 400 → mv_cL S k b o → mv_cL T' k (st_mx b F) o := fun k o hk ho h0 h1 hl => by
    obtain ⟨⟨g1, g2⟩, g3, g4⟩ := p6 k hk
    unfold mv_cL at hl ⊢
    rw [st_mx_o (by omega), st_mx_o (by omega), st_mx_o (by omega), st_mx_o (by omega), st_mx_o (by omega), g1, g2]
    refine ⟨hl.1, hl.2.1, fun j hj => ?_, fun l hl2 => ?_⟩
    · rw [g3 j (by omega)]; exact hl.2.2.1 j hj
    · obtain ⟨e1, e2, e3⟩ := g4 l (by omega)
      rw [e1, e2, e3]; exact hl.2.2.2 l hl2
  refine ⟨⟨⟨?_, ?_, ?_, True.intro⟩, six 1 2 (by decide) (by decide) f1 d2, six 2 4 (by decide) (by decide) f2 d3, ?_, tol 1 (by decide) f4 d5, tol 2 (by decide) f5 d6, tol 3 (by decide) f6 d7, tol 4 (by decide) f7 d8, tol 5 (by decide) f8 d9, fun i hi => ?_⟩, law 8 17 (Or.inl rfl) (by decide) j2 j4 l1, law 14 22 (Or.inr rfl) (by decide) m2 m4 l2, ⟨?_, fun i hi => ?_⟩, ?_, fun i hi => ?_⟩
  · rw [p1 0 (by decide)]; exact c1
  · rw [p1 1 (by decide)]; exact c2
  · rw [p1 2 (by decide)]; exact c3
  · refine funext fun j => ?_
    rw [p3 j]
    by_cases c : j < 10
    · rw [if_pos c, st_mx_1 (by decide) c, d4]
    · rw [if_neg c, ← f3]; exact (if_pos (Or.inr ⟨by decide, by omega⟩)).symm
  · have hi : (i : Int) < b 0 0 := hi
    rw [p2 3 (by decide) i, if_pos (by omega)]
    obtain ⟨r1, r2, r3, r4⟩ := d10 i hi
    refine ⟨r1, r2, fun r h1 h2 => ?_, ?_⟩
    · rw [st_mx_6 (Or.inl rfl) (by omega)]; exact r3 r h1 h2
    · rcases r4 with r4 | r4
      · exact Or.inl r4
      · by_cases c : S 3 0 i = b 0 0
        · exact Or.inl c
        · refine Or.inr ?_
          rw [st_mx_6 (Or.inl rfl) (by omega)]; exact r4
  · rw [p1 3 (by decide)]; exact k1
  · have hi : (i : Int) < b 0 3 := hi
    rw [p5 1 (by decide) i (by omega), p5 2 (by decide) i (by omega), p5 3 (by decide) i (by omega), p5 4 (by decide) i (by omega)]
    exact k2 i hi
  · rw [p7]; exact y1
  · have hi : (i : Int) < b 0 4 := hi
    obtain ⟨e1, e2, e3⟩ := p8 i (by omega)
    rw [e1, e2, e3]; exact y2 i hi
/-! the copies -/
def cpL (G : mv_G) (s t : Nat) : mv_G := mv_cpy (mv_cpy (mv_cpy (mv_cpy (mv_up (mv_up G t 0 0 (G s 0 0)) t 0 1 ((mv_up G t 0 0 (G s 0 0)) s 0 1)) (s + 1) 0 0 (t + 1) 0 0 401) (s + 2) 0 0 (t + 2) 0 0 16) (s + 3) 0 0 (t + 3) 0 0 16) (s + 4) 0 0 (t + 4) 0 0 16
theorem cpL_o {s t k : Nat} (h : k < t ∨ t + 4 < k) : cpL G s t k = G k := by
  unfold cpL
  rw [mv_cpy_k (by omega), mv_cpy_k (by omega), mv_cpy_k (by omega), mv_cpy_k (by omega), mv_up_k (by omega), mv_up_k (by omega)]
theorem cpL_h {s t : Nat} (h : s + 4 < t ∨ t + 4 < s) : cpL G s t t 0 0 = G s 0 0 ∧ cpL G s t t 0 1 = G s 0 1 := by
  unfold cpL
  rw [mv_cpy_k (by omega), mv_cpy_k (by omega), mv_cpy_k (by omega), mv_cpy_k (by omega)]
  refine ⟨?_, ?_⟩
  · rw [mv_up_j (by decide), mv_ups_eq]
  · rw [mv_ups_eq, mv_up_k (by omega)]
theorem cpL_c {s t j : Nat} (h : s + 4 < t ∨ t + 4 < s) (hj : j < 401) : cpL G s t (t + 1) 0 j = G (s + 1) 0 j := by
  unfold cpL
  rw [mv_cpy_k (by omega), mv_cpy_k (by omega), mv_cpy_k (by omega), mv_cpy_at, if_pos ⟨rfl, hj⟩, mv_up_k (by omega), mv_up_k (by omega)]
theorem cpL_l {s t j : Nat} (h : s + 4 < t ∨ t + 4 < s) (hj : j < 16) : cpL G s t (t + 2) 0 j = G (s + 2) 0 j ∧ cpL G s t (t + 3) 0 j = G (s + 3) 0 j ∧ cpL G s t (t + 4) 0 j = G (s + 4) 0 j := by
  unfold cpL
  refine ⟨?_, ?_, ?_⟩
  · rw [mv_cpy_k (by omega), mv_cpy_k (by omega), mv_cpy_at, if_pos ⟨rfl, hj⟩, mv_cpy_k (by omega), mv_up_k (by omega), mv_up_k (by omega)]
  · rw [mv_cpy_k (by omega), mv_cpy_at, if_pos ⟨rfl, hj⟩, mv_cpy_k (by omega), mv_cpy_k (by omega), mv_up_k (by omega), mv_up_k (by omega)]
  · rw [mv_cpy_at, if_pos ⟨rfl, hj⟩, mv_cpy_k (by omega), mv_cpy_k (by omega), mv_cpy_k (by omega), mv_up_k (by omega), mv_up_k (by omega)]
def cpD (G : mv_G) (s t : Nat) : mv_G := mv_cpy (mv_cpy (mv_cpy (mv_up G t 0 0 (G s 0 0)) (s + 1) 0 0 (t + 1) 0 0 24) (s + 2) 0 0 (t + 2) 0 0 24) (s + 3) 0 0 (t + 3) 0 0 24
theorem cpD_o {s t k : Nat} (h : k < t ∨ t + 3 < k) : cpD G s t k = G k := by
  unfold cpD
  rw [mv_cpy_k (by omega), mv_cpy_k (by omega), mv_cpy_k (by omega), mv_up_k (by omega)]
theorem cpD_h {s t : Nat} : cpD G s t t 0 0 = G s 0 0 := by
  unfold cpD
  rw [mv_cpy_k (by omega), mv_cpy_k (by omega), mv_cpy_k (by omega), mv_ups_eq]
theorem cpD_l {s t j : Nat} (h : s + 3 < t ∨ t + 3 < s) (hj : j < 24) : cpD G s t (t + 1) 0 j = G (s + 1) 0 j ∧ cpD G s t (t + 2) 0 j = G (s + 2) 0 j ∧ cpD G s t (t + 3) 0 j = G (s + 3) 0 j := by
  unfold cpD
  refine ⟨?_, ?_, ?_⟩
  · rw [mv_cpy_k (by omega), mv_cpy_k (by omega), mv_cpy_at, if_pos ⟨rfl, hj⟩, mv_up_k (by omega)]
  · rw [mv_cpy_k (by omega), mv_cpy_at, if_pos ⟨rfl, hj⟩, mv_cpy_k (by omega), mv_up_k (by omega)]
  · rw [mv_cpy_at, if_pos ⟨rfl, hj⟩, mv_cpy_k (by omega), mv_cpy_k (by omega), mv_up_k (by omega)]
def cpR (G : mv_G) (s t n : Nat) : Nat → mv_G
  | 0 => G
  | i + 1 => mv_cpy (cpR G s t n i) s (i + 1) 0 t (i + 1) 0 n
theorem cpR_o {s t n k : Nat} (h : k ≠ t) : ∀ i, cpR G s t n i k = G k := by
  intro i
  induction i with
  | zero => rfl
  | succ i ih => exact (mv_cpy_k h).trans ih
theorem cpR_r {s t n : Nat} (h : s ≠ t) : ∀ i r j, cpR G s t n i t r j = if (1 ≤ r ∧ r ≤ i) ∧ j < n then G s r j else G t r j := by
  intro i
  induction i with
  | zero => exact fun r j => (if_neg (by omega)).symm
  | succ i ih =>
    intro r j
    show mv_cpy (cpR G s t n i) s (i + 1) 0 t (i + 1) 0 n t r j = _
    rw [mv_cpy_at, cpR_o h]
    by_cases c : r = i + 1 ∧ j < n
    · rw [if_pos c, if_pos (by omega), c.1]
    · rw [if_neg c, ih]
      by_cases c2 : (1 ≤ r ∧ r ≤ i) ∧ j < n
      · rw [if_pos c2, if_pos (by omega)]
      · rw [if_neg c2, if_neg (by omega)]
def cpB (G : mv_G) (s t : Nat) : mv_G := mv_cpy (mv_cpy (mv_cpy (mv_cpy (mv_up (mv_up (mv_up (mv_up G t 0 0 (G s 0 0)) t 0 1 ((mv_up G t 0 0 (G s 0 0)) s 0 1)) t 0 2 ((mv_up (mv_up G t 0 0 (G s 0 0)) t 0 1 ((mv_up G t 0 0 (G s 0 0)) s 0 1)) s 0 2)) t 0 3 ((mv_up (mv_up (mv_up G t 0 0 (G s 0 0)) t 0 1 ((mv_up G t 0 0 (G s 0 0)) s 0 1)) t 0 2 ((mv_up (mv_up G t 0 0 (G s 0 0)) t 0 1 ((mv_up G t 0 0 (G s 0 0)) s 0 1)) s 0 2)) s 0 3)) (s + 1) 0 0 (t + 1) 0 0 60) (s + 2) 0 0 (t + 2) 0 0 60) (s + 3) 0 0 (t + 3) 0 0 60) (s + 5) 0 0 (t + 5) 0 0 10
theorem cpB_o {s t k : Nat} (h : k < t ∨ k = t + 4 ∨ t + 5 < k) : cpB G s t k = G k := by
  unfold cpB
  rw [mv_cpy_k (by omega), mv_cpy_k (by omega), mv_cpy_k (by omega), mv_cpy_k (by omega), mv_up_k (by omega), mv_up_k (by omega), mv_up_k (by omega), mv_up_k (by omega)]
theorem cpB_h {s t j : Nat} (h : s + 5 < t ∨ t + 5 < s) (hj : j < 4) : cpB G s t t 0 j = G s 0 j := by
  unfold cpB
  rw [mv_cpy_k (by omega), mv_cpy_k (by omega), mv_cpy_k (by omega), mv_cpy_k (by omega)]
  have e : ∀ {G2 : mv_G} {j2 : Nat} {v : Int}, (mv_up G2 t 0 j2 v) s = G2 s := mv_up_k (by omega)
  repeat rw [e]
  have : j = 0 ∨ j = 1 ∨ j = 2 ∨ j = 3 := by omega
  rcases this with rfl | rfl | rfl | rfl
  · rw [mv_up_j (by decide), mv_up_j (by decide), mv_up_j (by decide), mv_ups_eq]
  · rw [mv_up_j (by decide), mv_up_j (by decide), mv_ups_eq]
  · rw [mv_up_j (by decide), mv_ups_eq]
  · rw [mv_ups_eq]
theorem cpB_l {s t j : Nat} (h : s + 5 < t ∨ t + 5 < s) : (cpB G s t (t + 1) 0 j = if j < 60 then G (s + 1) 0 j else G (t + 1) 0 j) ∧ (cpB G s t (t + 2) 0 j = if j < 60 then G (s + 2) 0 j else G (t + 2) 0 j) ∧ (cpB G s t (t + 3) 0 j = if j < 60 then G (s + 3) 0 j else G (t + 3) 0 j) ∧ (cpB G s t (t + 5) 0 j = if j < 10 then G (s + 5) 0 j else G (t + 5) 0 j) := by
  unfold cpB
  have e : ∀ {G2 : mv_G} {k j2 : Nat} {v : Int}, k ≠ t → (mv_up G2 t 0 j2 v) k = G2 k := fun h => mv_up_k h
  have f : ∀ n : Nat, (0 = 0 ∧ j < n) = (j < n) := fun n => propext ⟨fun h => h.2, fun h => ⟨rfl, h⟩⟩
  refine ⟨?_, ?_, ?_, ?_⟩
  · rw [mv_cpy_k (by omega), mv_cpy_k (by omega), mv_cpy_k (by omega), mv_cpy_at, e (by omega), e (by omega), e (by omega), e (by omega), e (by omega), e (by omega), e (by omega), e (by omega)]
    by_cases c : j < 60
    · rw [if_pos ⟨rfl, c⟩, if_pos c]
    · rw [if_neg (fun h => c h.2), if_neg c]
  · rw [mv_cpy_k (by omega), mv_cpy_k (by omega), mv_cpy_at, mv_cpy_k (by omega), mv_cpy_k (by omega), e (by omega), e (by omega), e (by omega), e (by omega), e (by omega), e (by omega), e (by omega), e (by omega)]
    by_cases c : j < 60
    · rw [if_pos ⟨rfl, c⟩, if_pos c]
    · rw [if_neg (fun h => c h.2), if_neg c]
  · rw [mv_cpy_k (by omega), mv_cpy_at, mv_cpy_k (by omega), mv_cpy_k (by omega), mv_cpy_k (by omega), mv_cpy_k (by omega), e (by omega), e (by omega), e (by omega), e (by omega), e (by omega), e (by omega), e (by omega), e (by omega)]
    by_cases c : j < 60
    · rw [if_pos ⟨rfl, c⟩, if_pos c]
    · rw [if_neg (fun h => c h.2), if_neg c]
  · rw [mv_cpy_at, mv_cpy_k (by omega), mv_cpy_k (by omega), mv_cpy_k (by omega), mv_cpy_k (by omega), mv_cpy_k (by omega), mv_cpy_k (by omega), e (by omega), e (by omega), e (by omega), e (by omega), e (by omega), e (by omega), e (by omega), e (by omega)]
    by_cases c : j < 10
    · rw [if_pos ⟨rfl, c⟩, if_pos c]
    · rw [if_neg (fun h => c h.2), if_neg c]
def cpW (G : mv_G) (s t : Nat) : mv_G := cpD (cpL (cpL (cpR (cpR (cpB G s t) (s + 4) (t + 4) 10 5) (s + 6) (t + 6) 150 4) (s + 7) (t + 7)) (s + 13) (t + 13)) (s + 19) (t + 19)
theorem cpW_o {s t k : Nat} (h : k < t ∨ t + 22 < k) : cpW G s t k = G k := by
  unfold cpW
  rw [cpD_o (by omega), cpL_o (by omega), cpL_o (by omega), cpR_o (by omega), cpR_o (by omega), cpB_o (by omega)]
theorem cpW_P {s t : Nat} (h : s + 22 < t ∨ t + 22 < s) : cp_P (fun k => G (s - 1 + k)) (fun k => G (t - 1 + k)) (fun k => cpW G s t (t - 1 + k)) ∨ s = 0 ∨ t = 0 := by
  by_cases z : s = 0 ∨ t = 0
  · exact Or.inr z
  refine Or.inl ?_
  have e : ∀ k, t - 1 + (k + 1) = t + k := fun k => by omega
  have f : ∀ k, s - 1 + (k + 1) = s + k := fun k => by omega
  have lw : ∀ G2 : mv_G, ∀ k q, (k < t + 19 ∨ t + 22 < k) → cpD G2 (s + 19) q k = G2 k ∨ q ≠ t + 19 := fun G2 k q hk => by
    by_cases c : q = t + 19
    · subst c; exact Or.inl (cpD_o (by omega))
    · exact Or.inr c
  refine ⟨fun j hj => ?_, fun k hk j => ?_, fun j => ?_, fun i hi j => ?_, fun i hi j hj => ?_, fun k hk => ?_, ?_, fun j hj => ?_⟩
  · show cpW G s t (t - 1 + (0 + 1)) 0 j = G (s - 1 + (0 + 1)) 0 j
    rw [e, f]
    unfold cpW
    rw [cpD_o (by omega), cpL_o (by omega), cpL_o (by omega), cpR_o (by omega), cpR_o (by omega)]
    exact cpB_h (by omega) hj
  · obtain ⟨g1, g2, g3, -⟩ := cpB_l (G := G) (s := s) (t := t) (j := j) (by omega)
    have w : ∀ q, 1 ≤ q → q ≤ 3 → cpW G s t (t + q) = cpB G s t (t + q) := fun q h1 h2 => by
      unfold cpW
      rw [cpD_o (by omega), cpL_o (by omega), cpL_o (by omega), cpR_o (by omega), cpR_o (by omega)]
    rcases hk with rfl | rfl | rfl
    · show cpW G s t (t - 1 + (1 + 1)) 0 j = if j < 60 then G (s - 1 + (1 + 1)) 0 j else G (t - 1 + (1 + 1)) 0 j
      rw [e, f, w 1 (by decide) (by decide)]; exact g1
    · show cpW G s t (t - 1 + (2 + 1)) 0 j = if j < 60 then G (s - 1 + (2 + 1)) 0 j else G (t - 1 + (2 + 1)) 0 j
      rw [e, f, w 2 (by decide) (by decide)]; exact g2
    · show cpW G s t (t - 1 + (3 + 1)) 0 j = if j < 60 then G (s - 1 + (3 + 1)) 0 j else G (t - 1 + (3 + 1)) 0 j
      rw [e, f, w 3 (by decide) (by decide)]; exact g3
  · obtain ⟨-, -, -, g4⟩ := cpB_l (G := G) (s := s) (t := t) (j := j) (by omega)
    show cpW G s t (t - 1 + (5 + 1)) 0 j = if j < 10 then G (s - 1 + (5 + 1)) 0 j else G (t - 1 + (5 + 1)) 0 j
    rw [e, f]
    unfold cpW
    rw [cpD_o (by omega), cpL_o (by omega), cpL_o (by omega), cpR_o (by omega), cpR_o (by omega)]
    exact g4
  · show cpW G s t (t - 1 + (4 + 1)) i j = if j < 10 then G (s - 1 + (4 + 1)) i j else G (t - 1 + (4 + 1)) i j
    rw [e, f]
    unfold cpW
    rw [cpD_o (by omega), cpL_o (by omega), cpL_o (by omega), cpR_o (by omega), cpR_r (by omega), cpB_o (by omega), cpB_o (by omega)]
    by_cases c : j < 10
    · rw [if_pos ⟨by omega, c⟩, if_pos c]
    · rw [if_neg (fun h => c h.2), if_neg c]
  · show cpW G s t (t - 1 + (6 + 1)) i j = G (s - 1 + (6 + 1)) i j
    rw [e, f]
    unfold cpW
    rw [cpD_o (by omega), cpL_o (by omega), cpL_o (by omega), cpR_r (by omega), if_pos ⟨by omega, hj⟩, cpR_o (by omega), cpB_o (by omega)]
  · rcases hk with rfl | rfl
    · show (cpW G s t (t - 1 + (7 + 1)) 0 0 = G (s - 1 + (7 + 1)) 0 0 ∧ cpW G s t (t - 1 + (7 + 1)) 0 1 = G (s - 1 + (7 + 1)) 0 1) ∧ (∀ j, j < 401 → cpW G s t (t - 1 + (8 + 1)) 0 j = G (s - 1 + (8 + 1)) 0 j) ∧ ∀ j, j < 16 → cpW G s t (t - 1 + (9 + 1)) 0 j = G (s - 1 + (9 + 1)) 0 j ∧ cpW G s t (t - 1 + (10 + 1)) 0 j = G (s - 1 + (10 + 1)) 0 j ∧ cpW G s t (t - 1 + (11 + 1)) 0 j = G (s - 1 + (11 + 1)) 0 j
      rw [e, f, e, f, e, f, e, f, e, f]
      unfold cpW
      rw [cpD_o (k := t + 7) (by omega), cpD_o (k := t + 8) (by omega), cpD_o (k := t + 9) (by omega), cpD_o (k := t + 10) (by omega), cpD_o (k := t + 11) (by omega), cpL_o (s := s + 13) (k := t + 7) (by omega), cpL_o (s := s + 13) (k := t + 8) (by omega), cpL_o (s := s + 13) (k := t + 9) (by omega), cpL_o (s := s + 13) (k := t + 10) (by omega), cpL_o (s := s + 13) (k := t + 11) (by omega)]
      have b : ∀ k, s + 7 ≤ k → k ≤ s + 11 → cpR (cpR (cpB G s t) (s + 4) (t + 4) 10 5) (s + 6) (t + 6) 150 4 k = G k := fun k h1 h2 => by rw [cpR_o (by omega), cpR_o (by omega), cpB_o (by omega)]
      rw [← b (s + 7) (by omega) (by omega), ← b (s + 8) (by omega) (by omega), ← b (s + 9) (by omega) (by omega), ← b (s + 10) (by omega) (by omega), ← b (s + 11) (by omega) (by omega)]
      generalize cpR (cpR (cpB G s t) (s + 4) (t + 4) 10 5) (s + 6) (t + 6) 150 4 = G3
      exact ⟨cpL_h (by omega), fun j hj => cpL_c (s := s + 7) (t := t + 7) (by omega) hj, fun j hj => cpL_l (s := s + 7) (t := t + 7) (by omega) hj⟩
    · show (cpW G s t (t - 1 + (13 + 1)) 0 0 = G (s - 1 + (13 + 1)) 0 0 ∧ cpW G s t (t - 1 + (13 + 1)) 0 1 = G (s - 1 + (13 + 1)) 0 1) ∧ (∀ j, j < 401 → cpW G s t (t - 1 + (14 + 1)) 0 j = G (s - 1 + (14 + 1)) 0 j) ∧ ∀ j, j < 16 → cpW G s t (t - 1 + (15 + 1)) 0 j = G (s - 1 + (15 + 1)) 0 j ∧ cpW G s t (t - 1 + (16 + 1)) 0 j = G (s - 1 + (16 + 1)) 0 j ∧ cpW G s t (t - 1 + (17 + 1)) 0 j = G (s - 1 + (17 + 1)) 0 j
      rw [e, f, e, f, e, f, e, f, e, f]
      unfold cpW
      rw [cpD_o (k := t + 13) (by omega), cpD_o (k := t + 14) (by omega), cpD_o (k := t + 15) (by omega), cpD_o (k := t + 16) (by omega), cpD_o (k := t + 17) (by omega)]
      have b : ∀ k, s + 13 ≤ k → k ≤ s + 17 → cpL (cpR (cpR (cpB G s t) (s + 4) (t + 4) 10 5) (s + 6) (t + 6) 150 4) (s + 7) (t + 7) k = G k := fun k h1 h2 => by rw [cpL_o (by omega), cpR_o (by omega), cpR_o (by omega), cpB_o (by omega)]
      rw [← b (s + 13) (by omega) (by omega), ← b (s + 14) (by omega) (by omega), ← b (s + 15) (by omega) (by omega), ← b (s + 16) (by omega) (by omega), ← b (s + 17) (by omega) (by omega)]
      generalize cpL (cpR (cpR (cpB G s t) (s + 4) (t + 4) 10 5) (s + 6) (t + 6) 150 4) (s + 7) (t + 7) = G3
      exact ⟨cpL_h (by omega), fun j hj => cpL_c (s := s + 13) (t := t + 13) (by omega) hj, fun j hj => cpL_l (s := s + 13) (t := t + 13) (by omega) hj⟩
  · show cpW G s t (t - 1 + (19 + 1)) 0 0 = G (s - 1 + (19 + 1)) 0 0
    rw [e, f]
    unfold cpW
    rw [cpD_h, cpL_o (by omega), cpL_o (by omega), cpR_o (by omega), cpR_o (by omega), cpB_o (by omega)]
  · show cpW G s t (t - 1 + (20 + 1)) 0 j = G (s - 1 + (20 + 1)) 0 j ∧ cpW G s t (t - 1 + (21 + 1)) 0 j = G (s - 1 + (21 + 1)) 0 j ∧ cpW G s t (t - 1 + (22 + 1)) 0 j = G (s - 1 + (22 + 1)) 0 j
    rw [e, f, e, f, e, f]
    unfold cpW
    have b : ∀ k, s + 19 ≤ k → k ≤ s + 22 → cpL (cpL (cpR (cpR (cpB G s t) (s + 4) (t + 4) 10 5) (s + 6) (t + 6) 150 4) (s + 7) (t + 7)) (s + 13) (t + 13) k = G k := fun k h1 h2 => by rw [cpL_o (by omega), cpL_o (by omega), cpR_o (by omega), cpR_o (by omega), cpB_o (by omega)]
    rw [← b (s + 20) (by omega) (by omega), ← b (s + 21) (by omega) (by omega), ← b (s + 22) (by omega) (by omega)]
    generalize cpL (cpL (cpR (cpR (cpB G s t) (s + 4) (t + 4) 10 5) (s + 6) (t + 6) 150 4) (s + 7) (t + 7)) (s + 13) (t + 13) = G3
    exact cpD_l (s := s + 19) (t := t + 19) (by omega) hj
theorem fx_lc_14_37 : ff_X5_copyFrom [.inr (14, 0), .inr (37, 0)] G = some (0, cpL G 37 14) := mv_Kp.eq (mv_Kp.of (mv_JP.of (rg_X5_copyFrom_0_14_37 G) (mv_J.ce rfl (mv_J.ce rfl (mv_J.ce rfl (mv_J.ce rfl (mv_J.ret ⟨rfl, rfl⟩)))))))
theorem fx_lc_14_53 : ff_X5_copyFrom [.inr (14, 0), .inr (53, 0)] G = some (0, cpL G 53 14) := mv_Kp.eq (mv_Kp.of (mv_JP.of (rg_X5_copyFrom_0_14_53 G) (mv_J.ce rfl (mv_J.ce rfl (mv_J.ce rfl (mv_J.ce rfl (mv_J.ret ⟨rfl, rfl⟩)))))))
theorem fx_lc_8_53 : ff_X5_copyFrom [.inr (8, 0), .inr (53, 0)] G = some (0, cpL G 53 8) := mv_Kp.eq (mv_Kp.of (mv_JP.of (rg_X5_copyFrom_0_8_53 G) (mv_J.ce rfl (mv_J.ce rfl (mv_J.ce rfl (mv_J.ce rfl (mv_J.ret ⟨rfl, rfl⟩)))))))
theorem fx_lc_8_31 : ff_X5_copyFrom [.inr (8, 0), .inr (31, 0)] G = some (0, cpL G 31 8) := mv_Kp.eq (mv_Kp.of (mv_JP.of (rg_X5_copyFrom_0_8_31 G) (mv_J.ce rfl (mv_J.ce rfl (mv_J.ce rfl (mv_J.ce rfl (mv_J.ret ⟨rfl, rfl⟩)))))))
theorem fx_lc_31_8 : ff_X5_copyFrom [.inr (31, 0), .inr (8, 0)] G = some (0, cpL G 8 31) := mv_Kp.eq (mv_Kp.of (mv_JP.of (rg_X5_copyFrom_0_31_8 G) (mv_J.ce rfl (mv_J.ce rfl (mv_J.ce rfl (mv_J.ce rfl (mv_J.ret ⟨rfl, rfl⟩)))))))
theorem fx_lc_37_14 : ff_X5_copyFrom [.inr (37, 0), .inr (14, 0)] G = some (0, cpL G 14 37) := mv_Kp.eq (mv_Kp.of (mv_JP.of (rg_X5_copyFrom_0_37_14 G) (mv_J.ce rfl (mv_J.ce rfl (mv_J.ce rfl (mv_J.ce rfl (mv_J.ret ⟨rfl, rfl⟩)))))))
theorem fx_dc_20_43 : ff_X3_copyFrom [.inr (20, 0), .inr (43, 0)] G = some (0, cpD G 43 20) := mv_Kp.eq (mv_Kp.of (mv_JP.of (rg_X3_copyFrom_0_20_43 G) (mv_J.ce rfl (mv_J.ce rfl (mv_J.ce rfl (mv_J.ret ⟨rfl, rfl⟩))))))
theorem fx_dc_20_59 : ff_X3_copyFrom [.inr (20, 0), .inr (59, 0)] G = some (0, cpD G 59 20) := mv_Kp.eq (mv_Kp.of (mv_JP.of (rg_X3_copyFrom_0_20_59 G) (mv_J.ce rfl (mv_J.ce rfl (mv_J.ce rfl (mv_J.ret ⟨rfl, rfl⟩))))))
theorem fx_dc_43_20 : ff_X3_copyFrom [.inr (43, 0), .inr (20, 0)] G = some (0, cpD G 20 43) := mv_Kp.eq (mv_Kp.of (mv_JP.of (rg_X3_copyFrom_0_43_20 G) (mv_J.ce rfl (mv_J.ce rfl (mv_J.ce rfl (mv_J.ret ⟨rfl, rfl⟩))))))
theorem fx_bc_1_24 : ff_X2_copyFrom [.inr (1, 0), .inr (24, 0)] G = some (0, cpW G 24 1) := by
  have c1 : ∀ i, i < 5 → ∀ G1, mv_acp mv_sh [.inr (28, i + 1), .inl 0, .inr (5, i + 1), .inl 0, .inl 10] G1 = some (0, mv_cpy G1 28 (i + 1) 0 5 (i + 1) 0 10) := fun i hi G1 => by
    have : i = 0 ∨ i = 1 ∨ i = 2 ∨ i = 3 ∨ i = 4 := by omega
    rcases this with rfl | rfl | rfl | rfl | rfl <;> rfl
  have c2 : ∀ i, i < 4 → ∀ G1, mv_acp mv_sh [.inr (30, i + 1), .inl 0, .inr (7, i + 1), .inl 0, .inl 150] G1 = some (0, mv_cpy G1 30 (i + 1) 0 7 (i + 1) 0 150) := fun i hi G1 => by
    have : i = 0 ∨ i = 1 ∨ i = 2 ∨ i = 3 := by omega
    rcases this with rfl | rfl | rfl | rfl <;> rfl
  have lp2 : ∀ k i : Nat, i + k = 4 → mv_JP mm_X2_copyFrom (fun v G' => v = 0 ∧ G' = cpW G 24 1) 130 [some (.inr (1, 0)), some (.inr (24, 0)), some (.inl (i : Int))] (cpR (cpR (cpB G 24 1) 28 5 10 5) 30 7 150 i) := by
    intro k
    induction k with
    | zero =>
      intro i hk
      have e : i = 4 := by omega
      subst e
      exact mv_JP.of (rg_X2_copyFrom_130_1_24 _ _) (mv_J.f (by decide) (mv_J.ce fx_lc_8_31 (mv_J.ce fx_lc_14_37 (mv_J.ce fx_dc_20_43 (mv_J.ret ⟨rfl, rfl⟩)))))
    | succ k ih =>
      intro i hk
      refine mv_JP.of (rg_X2_copyFrom_130_1_24 _ _) (mv_J.t (by omega) (mv_J.ck (by omega) (mv_J.ck (by omega) ?_)))
      rw [Int.toNat_natCast, show mv_w ((i : Int) + 1) = ((i + 1 : Nat) : Int) from mv_ws (by omega)]
      exact mv_J.ce (c2 i (by omega) _) (mv_J.cut (ih (i + 1) (by omega)))
  have lp1 : ∀ k i : Nat, i + k = 5 → mv_JP mm_X2_copyFrom (fun v G' => v = 0 ∧ G' = cpW G 24 1) 94 [some (.inr (1, 0)), some (.inr (24, 0)), some (.inl (i : Int))] (cpR (cpB G 24 1) 28 5 10 i) := by
    intro k
    induction k with
    | zero =>
      intro i hk
      have e : i = 5 := by omega
      subst e
      exact mv_JP.of (rg_X2_copyFrom_94_1_24 _ _) (mv_J.f (by decide) (mv_J.cut (lp2 4 0 rfl)))
    | succ k ih =>
      intro i hk
      refine mv_JP.of (rg_X2_copyFrom_94_1_24 _ _) (mv_J.t (by omega) (mv_J.ck (by omega) (mv_J.ck (by omega) ?_)))
      rw [Int.toNat_natCast, show mv_w ((i : Int) + 1) = ((i + 1 : Nat) : Int) from mv_ws (by omega)]
      exact mv_J.ce (c1 i (by omega) _) (mv_J.cut (ih (i + 1) (by omega)))
  exact mv_Kp.eq (mv_Kp.of (mv_JP.of (rg_X2_copyFrom_0_1_24 G) (mv_J.ce rfl (mv_J.ce rfl (mv_J.ce rfl (mv_J.ce rfl (mv_J.cut (lp1 5 0 rfl))))))))
theorem fx_bc_24_1 : ff_X2_copyFrom [.inr (24, 0), .inr (1, 0)] G = some (0, cpW G 1 24) := by
  have c1 : ∀ i, i < 5 → ∀ G1, mv_acp mv_sh [.inr (5, i + 1), .inl 0, .inr (28, i + 1), .inl 0, .inl 10] G1 = some (0, mv_cpy G1 5 (i + 1) 0 28 (i + 1) 0 10) := fun i hi G1 => by
    have : i = 0 ∨ i = 1 ∨ i = 2 ∨ i = 3 ∨ i = 4 := by omega
    rcases this with rfl | rfl | rfl | rfl | rfl <;> rfl
  have c2 : ∀ i, i < 4 → ∀ G1, mv_acp mv_sh [.inr (7, i + 1), .inl 0, .inr (30, i + 1), .inl 0, .inl 150] G1 = some (0, mv_cpy G1 7 (i + 1) 0 30 (i + 1) 0 150) := fun i hi G1 => by
    have : i = 0 ∨ i = 1 ∨ i = 2 ∨ i = 3 := by omega
    rcases this with rfl | rfl | rfl | rfl <;> rfl
  have lp2 : ∀ k i : Nat, i + k = 4 → mv_JP mm_X2_copyFrom (fun v G' => v = 0 ∧ G' = cpW G 1 24) 130 [some (.inr (24, 0)), some (.inr (1, 0)), some (.inl (i : Int))] (cpR (cpR (cpB G 1 24) 5 28 10 5) 7 30 150 i) := by
    intro k
    induction k with
    | zero =>
      intro i hk
      have e : i = 4 := by omega
      subst e
      exact mv_JP.of (rg_X2_copyFrom_130_24_1 _ _) (mv_J.f (by decide) (mv_J.ce fx_lc_31_8 (mv_J.ce fx_lc_37_14 (mv_J.ce fx_dc_43_20 (mv_J.ret ⟨rfl, rfl⟩)))))
    | succ k ih =>
      intro i hk
      refine mv_JP.of (rg_X2_copyFrom_130_24_1 _ _) (mv_J.t (by omega) (mv_J.ck (by omega) (mv_J.ck (by omega) ?_)))
      rw [Int.toNat_natCast, show mv_w ((i : Int) + 1) = ((i + 1 : Nat) : Int) from mv_ws (by omega)]
      exact mv_J.ce (c2 i (by omega) _) (mv_J.cut (ih (i + 1) (by omega)))
  have lp1 : ∀ k i : Nat, i + k = 5 → mv_JP mm_X2_copyFrom (fun v G' => v = 0 ∧ G' = cpW G 1 24) 94 [some (.inr (24, 0)), some (.inr (1, 0)), some (.inl (i : Int))] (cpR (cpB G 1 24) 5 28 10 i) := by
    intro k
    induction k with
    | zero =>
      intro i hk
      have e : i = 5 := by omega
      subst e
      exact mv_JP.of (rg_X2_copyFrom_94_24_1 _ _) (mv_J.f (by decide) (mv_J.cut (lp2 4 0 rfl)))
    | succ k ih =>
      intro i hk
      refine mv_JP.of (rg_X2_copyFrom_94_24_1 _ _) (mv_J.t (by omega) (mv_J.ck (by omega) (mv_J.ck (by omega) ?_)))
      rw [Int.toNat_natCast, show mv_w ((i : Int) + 1) = ((i + 1 : Nat) : Int) from mv_ws (by omega)]
      exact mv_J.ce (c1 i (by omega) _) (mv_J.cut (ih (i + 1) (by omega)))
  exact mv_Kp.eq (mv_Kp.of (mv_JP.of (rg_X2_copyFrom_0_24_1 G) (mv_J.ce rfl (mv_J.ce rfl (mv_J.ce rfl (mv_J.ce rfl (mv_J.cut (lp1 5 0 rfl))))))))
end CP
