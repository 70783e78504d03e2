/-! The law, from script to script. -/
def lj_P (L : Nat) (xs : Nat → Int) (pc : Nat) (ls : mv_L) (G : mv_G) : Prop := ∃ G', mv_Ev (mv_rc2 xs) mm_law (mv_sh2 L) 400 pc ls G (1, G')
def lj_J (L : Nat) (xs : Nat → Int) (o : Option mv_O) : Prop := match o with
  | some (.inl x) => x.1 = 1
  | some (.inr x) => lj_P L xs x.1 x.2.1 x.2.2
  | none => False
section LJ
variable {L : Nat} {xs : Nat → Int} {G : mv_G} {a : mv_a}
theorem lj_P.of {pc : Nat} {ls : mv_L} {o : Option mv_O} (e : mv_rg (mv_rc2 xs) mm_law (mv_sh2 L) 400 pc ls [] G = o) (h : lj_J L xs o) : lj_P L xs pc ls G := by
  subst e
  unfold lj_J at h
  split at h
  · next x e =>
    refine ⟨x.2, mv_Ev.ret ?_⟩
    rw [e, ← h]
  · next x e =>
    obtain ⟨G', h1⟩ := h
    exact ⟨G', mv_Ev.cut e h1⟩
  · exact h.elim
theorem lj_J.ce {f : mv_F} {as : List mv_A} {kk : Int → mv_G → Option mv_O} {r : Int} {G2 : mv_G} (h : f as G = some (r, G2)) (ha : as.all mv_l6 = true) (k : lj_J L xs (kk r G2)) : lj_J L xs (mv_cn (mv_lf f as G) kk) := by
  have : mv_lf f as G = f as G := by
    unfold mv_lf
    rw [ha]
    rfl
  rw [this, h]
  exact k
theorem lj_J.ck {x : Int} {n : Nat} {a : Option mv_O} (h : 0 ≤ x ∧ x < n) (k : lj_J L xs a) : lj_J L xs (mv_ck x n a) := by
  rw [mv_ckp h]
  exact k
theorem lj_J.t {c : Prop} [Decidable c] {a b : Option mv_O} (h : c) (k : lj_J L xs a) : lj_J L xs (if c then a else b) := by
  rw [if_pos h]; exact k
theorem lj_J.f {c : Prop} [Decidable c] {a b : Option mv_O} (h : ¬ c) (k : lj_J L xs b) : lj_J L xs (if c then a else b) := by
  rw [if_neg h]; exact k
theorem lj_J.i {c : Prop} [Decidable c] {a b : Option mv_O} (h1 : c → lj_J L xs a) (h2 : ¬ c → lj_J L xs b) : lj_J L xs (if c then a else b) := by
  by_cases h : c
  · rw [if_pos h]; exact h1 h
  · rw [if_neg h]; exact h2 h
theorem lj_J.cut {pc2 : Nat} {ls2 : mv_L} {G2 : mv_G} (h : lj_P L xs pc2 ls2 G2) : lj_J L xs (some (.inr (pc2, ls2, G2))) := h
/-- at a cut of the law -/
def lj_at (L : Nat) (xs : Nat → Int) (pc : Nat) (i : Nat) (G : mv_G) : Prop := lj_P L xs pc [some (.inr (1006, 0)), some (.inr (0, 0)), some (.inr (100, 0)), some (.inl (i : Int))] G
/-- a call of both -/
def lj_op (L : Nat) (xs : Nat → Int) (pc : Nat) : Prop := ∀ (i : Nat) (G : mv_G) (a : mv_a), i + 6 ≤ L → st_St G a → (∀ G2 a2, st_St G2 a2 → lj_at L xs 1029 i G2) → lj_at L xs pc i G
theorem lj_c {i : Nat} (hL : L ≤ 3072) (h : i + 6 ≤ L) (c : Int) (h1 : 0 ≤ c) (h2 : c ≤ 5) : 0 ≤ mv_w ((i : Int) + c) ∧ mv_w ((i : Int) + c) < L := by
  rw [mv_ws (by omega)]
  omega
set_option maxRecDepth 100000 in
theorem lj_156 (hL : L ≤ 3072) (hx : ∀ j, -2147483648 ≤ xs j ∧ xs j < 2147483648) : lj_op L xs 156 := by
  intro i G a hi hS K
  obtain ⟨v, G1, G2, a2, e1, e2, hS2⟩ := (bx_bench (xs (Int.toNat (mv_w ((i : Int) + 1))))) G a hS
  refine lj_P.of (rg_law_156 L xs i G) ?_
  rw [mv_ckp (lj_c hL hi 1 (by decide) (by decide))]
  refine lj_J.ce e1 ?_ ?_
  · rfl
  rw [mv_ckp (lj_c hL hi 1 (by decide) (by decide))]
  refine lj_J.ce e2 ?_ ?_
  · rfl
  refine lj_J.t rfl ?_
  exact lj_J.cut (K _ _ hS2)
set_option maxRecDepth 100000 in
theorem lj_228 (hL : L ≤ 3072) (hx : ∀ j, -2147483648 ≤ xs j ∧ xs j < 2147483648) : lj_op L xs 228 := by
  intro i G a hi hS K
  obtain ⟨v, G1, G2, a2, e1, e2, hS2⟩ := (bx_person (xs (Int.toNat (mv_w ((i : Int) + 1)))) (xs (Int.toNat (mv_w ((i : Int) + 2)))) (xs (Int.toNat (mv_w ((i : Int) + 3)))) (xs (Int.toNat (mv_w ((i : Int) + 4)))) (xs (Int.toNat (mv_w ((i : Int) + 5))))) G a hS
  refine lj_P.of (rg_law_228 L xs i G) ?_
  rw [mv_ckp (lj_c hL hi 1 (by decide) (by decide))]
  rw [mv_ckp (lj_c hL hi 2 (by decide) (by decide))]
  rw [mv_ckp (lj_c hL hi 3 (by decide) (by decide))]
  rw [mv_ckp (lj_c hL hi 4 (by decide) (by decide))]
  rw [mv_ckp (lj_c hL hi 5 (by decide) (by decide))]
  refine lj_J.ce e1 ?_ ?_
  · rfl
  rw [mv_ckp (lj_c hL hi 1 (by decide) (by decide))]
  rw [mv_ckp (lj_c hL hi 2 (by decide) (by decide))]
  rw [mv_ckp (lj_c hL hi 3 (by decide) (by decide))]
  rw [mv_ckp (lj_c hL hi 4 (by decide) (by decide))]
  rw [mv_ckp (lj_c hL hi 5 (by decide) (by decide))]
  refine lj_J.ce e2 ?_ ?_
  · rfl
  refine lj_J.t rfl ?_
  exact lj_J.cut (K _ _ hS2)
set_option maxRecDepth 100000 in
theorem lj_291 (hL : L ≤ 3072) (hx : ∀ j, -2147483648 ≤ xs j ∧ xs j < 2147483648) : lj_op L xs 291 := by
  intro i G a hi hS K
  obtain ⟨v, G1, G2, a2, e1, e2, hS2⟩ := (bx_set (xs (Int.toNat (mv_w ((i : Int) + 1)))) (xs (Int.toNat (mv_w ((i : Int) + 2)))) (xs (Int.toNat (mv_w ((i : Int) + 3))))) G a hS
  refine lj_P.of (rg_law_291 L xs i G) ?_
  rw [mv_ckp (lj_c hL hi 1 (by decide) (by decide))]
  rw [mv_ckp (lj_c hL hi 2 (by decide) (by decide))]
  rw [mv_ckp (lj_c hL hi 3 (by decide) (by decide))]
  refine lj_J.ce e1 ?_ ?_
  · rfl
  rw [mv_ckp (lj_c hL hi 1 (by decide) (by decide))]
  rw [mv_ckp (lj_c hL hi 2 (by decide) (by decide))]
  rw [mv_ckp (lj_c hL hi 3 (by decide) (by decide))]
  refine lj_J.ce e2 ?_ ?_
  · rfl
  refine lj_J.t rfl ?_
  exact lj_J.cut (K _ _ hS2)
set_option maxRecDepth 100000 in
theorem lj_334 (hL : L ≤ 3072) (hx : ∀ j, -2147483648 ≤ xs j ∧ xs j < 2147483648) : lj_op L xs 334 := by
  intro i G a hi hS K
  obtain ⟨v, G1, G2, a2, e1, e2, hS2⟩ := (bx_come (xs (Int.toNat (mv_w ((i : Int) + 1))))) G a hS
  refine lj_P.of (rg_law_334 L xs i G) ?_
  rw [mv_ckp (lj_c hL hi 1 (by decide) (by decide))]
  refine lj_J.ce e1 ?_ ?_
  · rfl
  rw [mv_ckp (lj_c hL hi 1 (by decide) (by decide))]
  refine lj_J.ce e2 ?_ ?_
  · rfl
  refine lj_J.t rfl ?_
  exact lj_J.cut (K _ _ hS2)
set_option maxRecDepth 100000 in
theorem lj_357 (hL : L ≤ 3072) (hx : ∀ j, -2147483648 ≤ xs j ∧ xs j < 2147483648) : lj_op L xs 357 := by
  intro i G a hi hS K
  obtain ⟨v, G1, G2, a2, e1, e2, hS2⟩ := (bx_go (xs (Int.toNat (mv_w ((i : Int) + 1))))) G a hS
  refine lj_P.of (rg_law_357 L xs i G) ?_
  rw [mv_ckp (lj_c hL hi 1 (by decide) (by decide))]
  refine lj_J.ce e1 ?_ ?_
  · rfl
  rw [mv_ckp (lj_c hL hi 1 (by decide) (by decide))]
  refine lj_J.ce e2 ?_ ?_
  · rfl
  refine lj_J.t rfl ?_
  exact lj_J.cut (K _ _ hS2)
set_option maxRecDepth 100000 in
theorem lj_380 (hL : L ≤ 3072) (hx : ∀ j, -2147483648 ≤ xs j ∧ xs j < 2147483648) : lj_op L xs 380 := by
  intro i G a hi hS K
  obtain ⟨v, G1, G2, a2, e1, e2, hS2⟩ := (bx_beg (xs (Int.toNat (mv_w ((i : Int) + 1))))) G a hS
  refine lj_P.of (rg_law_380 L xs i G) ?_
  rw [mv_ckp (lj_c hL hi 1 (by decide) (by decide))]
  refine lj_J.ce e1 ?_ ?_
  · rfl
  rw [mv_ckp (lj_c hL hi 1 (by decide) (by decide))]
  refine lj_J.ce e2 ?_ ?_
  · rfl
  refine lj_J.t rfl ?_
  exact lj_J.cut (K _ _ hS2)
set_option maxRecDepth 100000 in
theorem lj_403 (hL : L ≤ 3072) (hx : ∀ j, -2147483648 ≤ xs j ∧ xs j < 2147483648) : lj_op L xs 403 := by
  intro i G a hi hS K
  obtain ⟨v, G1, G2, a2, e1, e2, hS2⟩ := (bx_feed (xs (Int.toNat (mv_w ((i : Int) + 1)))) (xs (Int.toNat (mv_w ((i : Int) + 2)))) (xs (Int.toNat (mv_w ((i : Int) + 3)))) (xs (Int.toNat (mv_w ((i : Int) + 4)))) (xs (Int.toNat (mv_w ((i : Int) + 5))))) G a hS
  refine lj_P.of (rg_law_403 L xs i G) ?_
  rw [mv_ckp (lj_c hL hi 1 (by decide) (by decide))]
  rw [mv_ckp (lj_c hL hi 2 (by decide) (by decide))]
  rw [mv_ckp (lj_c hL hi 3 (by decide) (by decide))]
  rw [mv_ckp (lj_c hL hi 4 (by decide) (by decide))]
  rw [mv_ckp (lj_c hL hi 5 (by decide) (by decide))]
  refine lj_J.ce e1 ?_ ?_
  · rfl
  rw [mv_ckp (lj_c hL hi 1 (by decide) (by decide))]
  rw [mv_ckp (lj_c hL hi 2 (by decide) (by decide))]
  rw [mv_ckp (lj_c hL hi 3 (by decide) (by decide))]
  rw [mv_ckp (lj_c hL hi 4 (by decide) (by decide))]
  rw [mv_ckp (lj_c hL hi 5 (by decide) (by decide))]
  refine lj_J.ce e2 ?_ ?_
  · rfl
  refine lj_J.t rfl ?_
  exact lj_J.cut (K _ _ hS2)
set_option maxRecDepth 100000 in
theorem lj_466 (hL : L ≤ 3072) (hx : ∀ j, -2147483648 ≤ xs j ∧ xs j < 2147483648) : lj_op L xs 466 := by
  intro i G a hi hS K
  obtain ⟨v, G1, G2, a2, e1, e2, hS2⟩ := (bx_end (xs (Int.toNat (mv_w ((i : Int) + 1))))) G a hS
  refine lj_P.of (rg_law_466 L xs i G) ?_
  rw [mv_ckp (lj_c hL hi 1 (by decide) (by decide))]
  refine lj_J.ce e1 ?_ ?_
  · rfl
  rw [mv_ckp (lj_c hL hi 1 (by decide) (by decide))]
  refine lj_J.ce e2 ?_ ?_
  · rfl
  refine lj_J.t rfl ?_
  exact lj_J.cut (K _ _ hS2)
set_option maxRecDepth 100000 in
theorem lj_489 (hL : L ≤ 3072) (hx : ∀ j, -2147483648 ≤ xs j ∧ xs j < 2147483648) : lj_op L xs 489 := by
  intro i G a hi hS K
  obtain ⟨v, G1, G2, a2, e1, e2, hS2⟩ := (bx_text (xs (Int.toNat (mv_w ((i : Int) + 1))))) G a hS
  refine lj_P.of (rg_law_489 L xs i G) ?_
  rw [mv_ckp (lj_c hL hi 1 (by decide) (by decide))]
  refine lj_J.ce e1 ?_ ?_
  · rfl
  rw [mv_ckp (lj_c hL hi 1 (by decide) (by decide))]
  refine lj_J.ce e2 ?_ ?_
  · rfl
  refine lj_J.t rfl ?_
  exact lj_J.cut (K _ _ hS2)
set_option maxRecDepth 100000 in
theorem lj_512 (hL : L ≤ 3072) (hx : ∀ j, -2147483648 ≤ xs j ∧ xs j < 2147483648) : lj_op L xs 512 := by
  intro i G a hi hS K
  obtain ⟨v, G1, G2, a2, e1, e2, hS2⟩ := (bx_fault (xs (Int.toNat (mv_w ((i : Int) + 1))))) G a hS
  refine lj_P.of (rg_law_512 L xs i G) ?_
  rw [mv_ckp (lj_c hL hi 1 (by decide) (by decide))]
  refine lj_J.ce e1 ?_ ?_
  · rfl
  rw [mv_ckp (lj_c hL hi 1 (by decide) (by decide))]
  refine lj_J.ce e2 ?_ ?_
  · rfl
  refine lj_J.t rfl ?_
  exact lj_J.cut (K _ _ hS2)
set_option maxRecDepth 100000 in
theorem lj_535 (hL : L ≤ 3072) (hx : ∀ j, -2147483648 ≤ xs j ∧ xs j < 2147483648) : lj_op L xs 535 := by
  intro i G a hi hS K
  obtain ⟨v, G1, G2, a2, e1, e2, hS2⟩ := (bx_hours (xs (Int.toNat (mv_w ((i : Int) + 1))))) G a hS
  refine lj_P.of (rg_law_535 L xs i G) ?_
  rw [mv_ckp (lj_c hL hi 1 (by decide) (by decide))]
  refine lj_J.ce e1 ?_ ?_
  · rfl
  rw [mv_ckp (lj_c hL hi 1 (by decide) (by decide))]
  refine lj_J.ce e2 ?_ ?_
  · rfl
  refine lj_J.t rfl ?_
  exact lj_J.cut (K _ _ hS2)
set_option maxRecDepth 100000 in
theorem lj_558 (hL : L ≤ 3072) (hx : ∀ j, -2147483648 ≤ xs j ∧ xs j < 2147483648) : lj_op L xs 558 := by
  intro i G a hi hS K
  obtain ⟨v, G1, G2, a2, e1, e2, hS2⟩ := (bx_of (xs (Int.toNat (mv_w ((i : Int) + 1)))) (xs (Int.toNat (mv_w ((i : Int) + 2))))) G a hS
  refine lj_P.of (rg_law_558 L xs i G) ?_
  rw [mv_ckp (lj_c hL hi 1 (by decide) (by decide))]
  rw [mv_ckp (lj_c hL hi 2 (by decide) (by decide))]
  refine lj_J.ce e1 ?_ ?_
  · rfl
  rw [mv_ckp (lj_c hL hi 1 (by decide) (by decide))]
  rw [mv_ckp (lj_c hL hi 2 (by decide) (by decide))]
  refine lj_J.ce e2 ?_ ?_
  · rfl
  refine lj_J.t rfl ?_
  exact lj_J.cut (K _ _ hS2)
set_option maxRecDepth 100000 in
theorem lj_591 (hL : L ≤ 3072) (hx : ∀ j, -2147483648 ≤ xs j ∧ xs j < 2147483648) : lj_op L xs 591 := by
  intro i G a hi hS K
  obtain ⟨v, G1, G2, a2, e1, e2, hS2⟩ := (bx_at (xs (Int.toNat (mv_w ((i : Int) + 1)))) (xs (Int.toNat (mv_w ((i : Int) + 2))))) G a hS
  refine lj_P.of (rg_law_591 L xs i G) ?_
  rw [mv_ckp (lj_c hL hi 1 (by decide) (by decide))]
  rw [mv_ckp (lj_c hL hi 2 (by decide) (by decide))]
  refine lj_J.ce e1 ?_ ?_
  · rfl
  rw [mv_ckp (lj_c hL hi 1 (by decide) (by decide))]
  rw [mv_ckp (lj_c hL hi 2 (by decide) (by decide))]
  refine lj_J.ce e2 ?_ ?_
  · rfl
  refine lj_J.t rfl ?_
  exact lj_J.cut (K _ _ hS2)
set_option maxRecDepth 100000 in
theorem lj_624 (hL : L ≤ 3072) (hx : ∀ j, -2147483648 ≤ xs j ∧ xs j < 2147483648) : lj_op L xs 624 := by
  intro i G a hi hS K
  obtain ⟨v, G1, G2, a2, e1, e2, hS2⟩ := (bx_tells (xs (Int.toNat (mv_w ((i : Int) + 1)))) (xs (Int.toNat (mv_w ((i : Int) + 2))))) G a hS
  refine lj_P.of (rg_law_624 L xs i G) ?_
  rw [mv_ckp (lj_c hL hi 1 (by decide) (by decide))]
  rw [mv_ckp (lj_c hL hi 2 (by decide) (by decide))]
  refine lj_J.ce e1 ?_ ?_
  · rfl
  rw [mv_ckp (lj_c hL hi 1 (by decide) (by decide))]
  rw [mv_ckp (lj_c hL hi 2 (by decide) (by decide))]
  refine lj_J.ce e2 ?_ ?_
  · rfl
  refine lj_J.t rfl ?_
  exact lj_J.cut (K _ _ hS2)
set_option maxRecDepth 100000 in
theorem lj_657 (hL : L ≤ 3072) (hx : ∀ j, -2147483648 ≤ xs j ∧ xs j < 2147483648) : lj_op L xs 657 := by
  intro i G a hi hS K
  obtain ⟨v, G1, G2, a2, e1, e2, hS2⟩ := (bx_book (xs (Int.toNat (mv_w ((i : Int) + 1)))) (xs (Int.toNat (mv_w ((i : Int) + 2))))) G a hS
  refine lj_P.of (rg_law_657 L xs i G) ?_
  rw [mv_ckp (lj_c hL hi 1 (by decide) (by decide))]
  rw [mv_ckp (lj_c hL hi 2 (by decide) (by decide))]
  refine lj_J.ce e1 ?_ ?_
  · rfl
  rw [mv_ckp (lj_c hL hi 1 (by decide) (by decide))]
  rw [mv_ckp (lj_c hL hi 2 (by decide) (by decide))]
  refine lj_J.ce e2 ?_ ?_
  · rfl
  refine lj_J.t rfl ?_
  exact lj_J.cut (K _ _ hS2)
set_option maxRecDepth 100000 in
theorem lj_690 (hL : L ≤ 3072) (hx : ∀ j, -2147483648 ≤ xs j ∧ xs j < 2147483648) : lj_op L xs 690 := by
  intro i G a hi hS K
  obtain ⟨v, G1, G2, a2, e1, e2, hS2⟩ := (bx_room (xs (Int.toNat (mv_w ((i : Int) + 1)))) (xs (Int.toNat (mv_w ((i : Int) + 2)))) (hx _).2) G a hS
  refine lj_P.of (rg_law_690 L xs i G) ?_
  rw [mv_ckp (lj_c hL hi 1 (by decide) (by decide))]
  rw [mv_ckp (lj_c hL hi 2 (by decide) (by decide))]
  refine lj_J.ce e1 ?_ ?_
  · rfl
  rw [mv_ckp (lj_c hL hi 1 (by decide) (by decide))]
  rw [mv_ckp (lj_c hL hi 2 (by decide) (by decide))]
  refine lj_J.ce e2 ?_ ?_
  · rfl
  refine lj_J.t rfl ?_
  exact lj_J.cut (K _ _ hS2)
set_option maxRecDepth 100000 in
theorem lj_723 (hL : L ≤ 3072) (hx : ∀ j, -2147483648 ≤ xs j ∧ xs j < 2147483648) : lj_op L xs 723 := by
  intro i G a hi hS K
  obtain ⟨v, G1, G2, a2, e1, e2, hS2⟩ := (bx_rise (xs (Int.toNat (mv_w ((i : Int) + 1)))) (xs (Int.toNat (mv_w ((i : Int) + 2))))) G a hS
  refine lj_P.of (rg_law_723 L xs i G) ?_
  rw [mv_ckp (lj_c hL hi 1 (by decide) (by decide))]
  rw [mv_ckp (lj_c hL hi 2 (by decide) (by decide))]
  refine lj_J.ce e1 ?_ ?_
  · rfl
  rw [mv_ckp (lj_c hL hi 1 (by decide) (by decide))]
  rw [mv_ckp (lj_c hL hi 2 (by decide) (by decide))]
  refine lj_J.ce e2 ?_ ?_
  · rfl
  refine lj_J.t rfl ?_
  exact lj_J.cut (K _ _ hS2)
set_option maxRecDepth 100000 in
theorem lj_756 (hL : L ≤ 3072) (hx : ∀ j, -2147483648 ≤ xs j ∧ xs j < 2147483648) : lj_op L xs 756 := by
  intro i G a hi hS K
  obtain ⟨v, G1, G2, a2, e1, e2, hS2⟩ := (bx_fill (xs (Int.toNat (mv_w ((i : Int) + 1)))) (xs (Int.toNat (mv_w ((i : Int) + 2)))) (xs (Int.toNat (mv_w ((i : Int) + 3))))) G a hS
  refine lj_P.of (rg_law_756 L xs i G) ?_
  rw [mv_ckp (lj_c hL hi 1 (by decide) (by decide))]
  rw [mv_ckp (lj_c hL hi 2 (by decide) (by decide))]
  rw [mv_ckp (lj_c hL hi 3 (by decide) (by decide))]
  refine lj_J.ce e1 ?_ ?_
  · rfl
  rw [mv_ckp (lj_c hL hi 1 (by decide) (by decide))]
  rw [mv_ckp (lj_c hL hi 2 (by decide) (by decide))]
  rw [mv_ckp (lj_c hL hi 3 (by decide) (by decide))]
  refine lj_J.ce e2 ?_ ?_
  · rfl
  refine lj_J.t rfl ?_
  exact lj_J.cut (K _ _ hS2)
set_option maxRecDepth 100000 in
theorem lj_799 (hL : L ≤ 3072) (hx : ∀ j, -2147483648 ≤ xs j ∧ xs j < 2147483648) : lj_op L xs 799 := by
  intro i G a hi hS K
  obtain ⟨v, G1, G2, a2, e1, e2, hS2⟩ := (bx_bestRest (xs (Int.toNat (mv_w ((i : Int) + 1)))) (xs (Int.toNat (mv_w ((i : Int) + 2))))) G a hS
  refine lj_P.of (rg_law_799 L xs i G) ?_
  rw [mv_ckp (lj_c hL hi 1 (by decide) (by decide))]
  rw [mv_ckp (lj_c hL hi 2 (by decide) (by decide))]
  refine lj_J.ce e1 ?_ ?_
  · rfl
  rw [mv_ckp (lj_c hL hi 1 (by decide) (by decide))]
  rw [mv_ckp (lj_c hL hi 2 (by decide) (by decide))]
  refine lj_J.ce e2 ?_ ?_
  · rfl
  refine lj_J.t rfl ?_
  exact lj_J.cut (K _ _ hS2)
set_option maxRecDepth 100000 in
theorem lj_832 (hL : L ≤ 3072) (hx : ∀ j, -2147483648 ≤ xs j ∧ xs j < 2147483648) : lj_op L xs 832 := by
  intro i G a hi hS K
  obtain ⟨v, G1, G2, a2, e1, e2, hS2⟩ := (bx_block (xs (Int.toNat (mv_w ((i : Int) + 1)))) (xs (Int.toNat (mv_w ((i : Int) + 2)))) (xs (Int.toNat (mv_w ((i : Int) + 3))))) G a hS
  refine lj_P.of (rg_law_832 L xs i G) ?_
  rw [mv_ckp (lj_c hL hi 1 (by decide) (by decide))]
  rw [mv_ckp (lj_c hL hi 2 (by decide) (by decide))]
  rw [mv_ckp (lj_c hL hi 3 (by decide) (by decide))]
  refine lj_J.ce e1 ?_ ?_
  · rfl
  rw [mv_ckp (lj_c hL hi 1 (by decide) (by decide))]
  rw [mv_ckp (lj_c hL hi 2 (by decide) (by decide))]
  rw [mv_ckp (lj_c hL hi 3 (by decide) (by decide))]
  refine lj_J.ce e2 ?_ ?_
  · rfl
  refine lj_J.t rfl ?_
  exact lj_J.cut (K _ _ hS2)
set_option maxRecDepth 100000 in
theorem lj_875 (hL : L ≤ 3072) (hx : ∀ j, -2147483648 ≤ xs j ∧ xs j < 2147483648) : lj_op L xs 875 := by
  intro i G a hi hS K
  obtain ⟨v, G1, G2, a2, e1, e2, hS2⟩ := (bx_orders (xs (Int.toNat (mv_w ((i : Int) + 1)))) (hx _)) G a hS
  refine lj_P.of (rg_law_875 L xs i G) ?_
  rw [mv_ckp (lj_c hL hi 1 (by decide) (by decide))]
  refine lj_J.ce e1 ?_ ?_
  · rfl
  rw [mv_ckp (lj_c hL hi 1 (by decide) (by decide))]
  refine lj_J.ce e2 ?_ ?_
  · rfl
  refine lj_J.t rfl ?_
  exact lj_J.cut (K _ _ hS2)
set_option maxRecDepth 100000 in
theorem lj_898 (hL : L ≤ 3072) (hx : ∀ j, -2147483648 ≤ xs j ∧ xs j < 2147483648) : lj_op L xs 898 := by
  intro i G a hi hS K
  obtain ⟨v, G1, G2, a2, e1, e2, hS2⟩ := (bx_gives (xs (Int.toNat (mv_w ((i : Int) + 1)))) (xs (Int.toNat (mv_w ((i : Int) + 2))))) G a hS
  refine lj_P.of (rg_law_898 L xs i G) ?_
  rw [mv_ckp (lj_c hL hi 1 (by decide) (by decide))]
  rw [mv_ckp (lj_c hL hi 2 (by decide) (by decide))]
  refine lj_J.ce e1 ?_ ?_
  · rfl
  rw [mv_ckp (lj_c hL hi 1 (by decide) (by decide))]
  rw [mv_ckp (lj_c hL hi 2 (by decide) (by decide))]
  refine lj_J.ce e2 ?_ ?_
  · rfl
  refine lj_J.t rfl ?_
  exact lj_J.cut (K _ _ hS2)
set_option maxRecDepth 100000 in
theorem lj_931 (hL : L ≤ 3072) (hx : ∀ j, -2147483648 ≤ xs j ∧ xs j < 2147483648) : lj_op L xs 931 := by
  intro i G a hi hS K
  obtain ⟨v, G1, G2, a2, e1, e2, hS2⟩ := (bx_stands (xs (Int.toNat (mv_w ((i : Int) + 1))))) G a hS
  refine lj_P.of (rg_law_931 L xs i G) ?_
  rw [mv_ckp (lj_c hL hi 1 (by decide) (by decide))]
  refine lj_J.ce e1 ?_ ?_
  · rfl
  rw [mv_ckp (lj_c hL hi 1 (by decide) (by decide))]
  refine lj_J.ce e2 ?_ ?_
  · rfl
  refine lj_J.t rfl ?_
  exact lj_J.cut (K _ _ hS2)
set_option maxRecDepth 100000 in
theorem lj_954 (hL : L ≤ 3072) (hx : ∀ j, -2147483648 ≤ xs j ∧ xs j < 2147483648) : lj_op L xs 954 := by
  intro i G a hi hS K
  obtain ⟨v, G1, G2, a2, e1, e2, hS2⟩ := (bx_undo) G a hS
  refine lj_P.of (rg_law_954 L xs i G) ?_
  refine lj_J.ce e1 ?_ ?_
  · rfl
  refine lj_J.ce e2 ?_ ?_
  · rfl
  refine lj_J.t rfl ?_
  exact lj_J.cut (K _ _ hS2)
set_option maxRecDepth 100000 in
theorem lj_1006 (hL : L ≤ 3072) (hx : ∀ j, -2147483648 ≤ xs j ∧ xs j < 2147483648) : lj_op L xs 1006 := by
  intro i G a hi hS K
  obtain ⟨v, G1, G2, a2, e1, e2, hS2⟩ := (bx_look (xs (Int.toNat (mv_w ((i : Int) + 1)))) (hx _).2) G a hS
  refine lj_P.of (rg_law_1006 L xs i G) ?_
  rw [mv_ckp (lj_c hL hi 1 (by decide) (by decide))]
  refine lj_J.ce e1 ?_ ?_
  · rfl
  rw [mv_ckp (lj_c hL hi 1 (by decide) (by decide))]
  refine lj_J.ce e2 ?_ ?_
  · rfl
  refine lj_J.t rfl ?_
  exact lj_J.cut (K _ _ hS2)
set_option maxRecDepth 100000 in
theorem lj_179 (hL : L ≤ 3072) : lj_op L xs 179 := by
  intro i G a hi hS K
  refine lj_P.of (rg_law_179 L xs i G) ?_
  rw [mv_ckp (lj_c hL hi 1 (by decide) (by decide))]
  rw [mv_ckp (lj_c hL hi 2 (by decide) (by decide))]
  refine lj_J.i (fun e => ?_) (fun e => ?_)
  · obtain ⟨v, G1, G2, a2, e1, e2, hS2⟩ := (bx_rest (xs (Int.toNat (mv_w ((i : Int) + 1)))) 0 (Or.inl rfl)) G a hS
    refine lj_J.ce e1 ?_ ?_
    · rfl
    rw [mv_ckp (lj_c hL hi 1 (by decide) (by decide))]
    rw [mv_ckp (lj_c hL hi 2 (by decide) (by decide))]
    refine lj_J.t e ?_
    refine lj_J.ce e2 ?_ ?_
    · rfl
    refine lj_J.t rfl ?_
    exact lj_J.cut (K _ _ hS2)
  · obtain ⟨v, G1, G2, a2, e1, e2, hS2⟩ := (bx_rest (xs (Int.toNat (mv_w ((i : Int) + 1)))) 1 (Or.inr rfl)) G a hS
    refine lj_J.ce e1 ?_ ?_
    · rfl
    rw [mv_ckp (lj_c hL hi 1 (by decide) (by decide))]
    rw [mv_ckp (lj_c hL hi 2 (by decide) (by decide))]
    refine lj_J.f e ?_
    refine lj_J.ce e2 ?_ ?_
    · rfl
    refine lj_J.t rfl ?_
    exact lj_J.cut (K _ _ hS2)
set_option maxRecDepth 100000 in
theorem lj_967 (hL : L ≤ 3072) : lj_op L xs 967 := by
  intro i G a hi hS K
  refine lj_P.of (rg_law_967 L xs i G) ?_
  rw [mv_ckp (lj_c hL hi 1 (by decide) (by decide))]
  refine lj_J.i (fun e => ?_) (fun e => ?_)
  · obtain ⟨v, G1, G2, a2, e1, e2, hS2⟩ := (bx_image 0 (Or.inl rfl)) G a hS
    refine lj_J.ce e1 ?_ ?_
    · rfl
    rw [mv_ckp (lj_c hL hi 1 (by decide) (by decide))]
    refine lj_J.t e ?_
    refine lj_J.ce e2 ?_ ?_
    · rfl
    refine lj_J.t rfl ?_
    exact lj_J.cut (K _ _ hS2)
  · obtain ⟨v, G1, G2, a2, e1, e2, hS2⟩ := (bx_image 1 (Or.inr rfl)) G a hS
    refine lj_J.ce e1 ?_ ?_
    · rfl
    rw [mv_ckp (lj_c hL hi 1 (by decide) (by decide))]
    refine lj_J.f e ?_
    refine lj_J.ce e2 ?_ ?_
    · rfl
    refine lj_J.t rfl ?_
    exact lj_J.cut (K _ _ hS2)
set_option maxRecDepth 100000 in
theorem lj_18 (hL : L ≤ 3072) (hx : ∀ j, -2147483648 ≤ xs j ∧ xs j < 2147483648) (hS0 : st_St mv_G0 a) : lj_at L xs 18 0 mv_G0 := by
  have key : ∀ (k i : Nat) (G : mv_G) (a : mv_a), L + 6 ≤ i + k → i ≤ L → st_St G a → lj_at L xs 18 i G := by
    intro k
    induction k with
    | zero => intro i G a h1 h2; omega
    | succ k ih =>
      intro i G a h1 h2 hS
      refine lj_P.of (rg_law_18 L xs i G) ?_
      rw [mv_ws (x := (L : Int) - 6) (by omega)]
      refine lj_J.i (fun e => ?_) (fun e => ?_)
      · rw [mv_rzp (by decide)]
        rfl
      · have hi : i + 6 ≤ L := by omega
        have K0 : ∀ G2 a2, st_St G2 a2 → lj_at L xs 1029 i G2 := fun G2 a2 hS2 => by
          refine lj_P.of (rg_law_1029 L xs i G2) ?_
          rw [show mv_w ((i : Int) + 6) = ((i + 6 : Nat) : Int) from mv_ws (by omega)]
          exact lj_J.cut (ih (i + 6) G2 a2 (by omega) hi hS2)
        rw [mv_ckp (n := L) (by omega)]
        exact lj_J.i (fun _ => lj_J.cut (lj_156 hL hx i G a hi hS K0)) (fun _ => lj_J.i (fun _ => lj_J.cut (lj_179 hL i G a hi hS K0)) (fun _ => lj_J.i (fun _ => lj_J.cut (lj_228 hL hx i G a hi hS K0)) (fun _ => lj_J.i (fun _ => lj_J.cut (lj_291 hL hx i G a hi hS K0)) (fun _ => lj_J.i (fun _ => lj_J.cut (lj_334 hL hx i G a hi hS K0)) (fun _ => lj_J.i (fun _ => lj_J.cut (lj_357 hL hx i G a hi hS K0)) (fun _ => lj_J.i (fun _ => lj_J.cut (lj_380 hL hx i G a hi hS K0)) (fun _ => lj_J.i (fun _ => lj_J.cut (lj_403 hL hx i G a hi hS K0)) (fun _ => lj_J.i (fun _ => lj_J.cut (lj_466 hL hx i G a hi hS K0)) (fun _ => lj_J.i (fun _ => lj_J.cut (lj_489 hL hx i G a hi hS K0)) (fun _ => lj_J.i (fun _ => lj_J.cut (lj_512 hL hx i G a hi hS K0)) (fun _ => lj_J.i (fun _ => lj_J.cut (lj_535 hL hx i G a hi hS K0)) (fun _ => lj_J.i (fun _ => lj_J.cut (lj_558 hL hx i G a hi hS K0)) (fun _ => lj_J.i (fun _ => lj_J.cut (lj_591 hL hx i G a hi hS K0)) (fun _ => lj_J.i (fun _ => lj_J.cut (lj_624 hL hx i G a hi hS K0)) (fun _ => lj_J.i (fun _ => lj_J.cut (lj_657 hL hx i G a hi hS K0)) (fun _ => lj_J.i (fun _ => lj_J.cut (lj_690 hL hx i G a hi hS K0)) (fun _ => lj_J.i (fun _ => lj_J.cut (lj_723 hL hx i G a hi hS K0)) (fun _ => lj_J.i (fun _ => lj_J.cut (lj_756 hL hx i G a hi hS K0)) (fun _ => lj_J.i (fun _ => lj_J.cut (lj_799 hL hx i G a hi hS K0)) (fun _ => lj_J.i (fun _ => lj_J.cut (lj_832 hL hx i G a hi hS K0)) (fun _ => lj_J.i (fun _ => lj_J.cut (lj_875 hL hx i G a hi hS K0)) (fun _ => lj_J.i (fun _ => lj_J.cut (lj_898 hL hx i G a hi hS K0)) (fun _ => lj_J.i (fun _ => lj_J.cut (lj_931 hL hx i G a hi hS K0)) (fun _ => lj_J.i (fun _ => lj_J.cut (lj_954 hL hx i G a hi hS K0)) (fun _ => lj_J.i (fun _ => lj_J.cut (lj_967 hL i G a hi hS K0)) (fun _ => lj_J.i (fun _ => lj_J.cut (lj_1006 hL hx i G a hi hS K0)) (fun _ => lj_J.cut (K0 G a hS))))))))))))))))))))))))))))
  exact key (L + 6) 0 mv_G0 a (by omega) (Nat.zero_le _) hS0
end LJ
/-- at the start -/
def st_a0 : mv_a := fun o j => if o = 0 then (if j = 0 then 40 else if j = 8 then -1 else 0) else if o = 2 then (if j < 60 then -1 else 0) else if o = 3 then (if j < 10 then -1 else 0) else 0
theorem st_a0_o {o : Nat} (h0 : o ≠ 0) (h2 : o ≠ 2) (h3 : o ≠ 3) : st_a0 o = fun _ => 0 := funext fun j => by
  unfold st_a0
  rw [if_neg h0, if_neg h2, if_neg h3]
theorem st_S0 : st_St mv_G0 st_a0 := by
  have hB : mv_iB st_a0 := by
    refine ⟨by decide, fun i _ => Or.inl rfl, fun i hi => ?_, fun p hp => ?_, fun p hp => ?_, fun p hp => ?_, fun p q hp => ?_⟩
    · have : st_a0 2 i = -1 := if_pos hi
      omega
    · have : st_a0 3 p = -1 := if_pos hp
      omega
    · have hp : (p : Int) < 0 := hp
      omega
    · have hp : (p : Int) < 0 := hp
      omega
    · have hp : (p : Int) < 0 := hp
      omega
  have hX : mv_iX st_a0 := by
    refine ⟨hB, ⟨by decide, fun l hl => ?_⟩, ⟨by decide, fun l hl => ?_⟩, by decide, fun i hi => ?_⟩
    · have hl : (l : Int) < 0 := hl
      omega
    · have hl : (l : Int) < 0 := hl
      omega
    · have hi : (i : Int) < 0 := hi
      omega
  refine ⟨⟨⟨⟨⟨rfl, rfl, rfl, True.intro⟩, rfl, rfl, rfl, rfl, rfl, rfl, rfl, rfl, fun i hi => ?_⟩, ⟨rfl, rfl, fun j hj => ?_, fun l hl => ?_⟩, ⟨rfl, rfl, fun j hj => ?_, fun l hl => ?_⟩, ⟨rfl, fun i hi => ?_⟩, rfl, fun i hi => ?_⟩, ⟨0, by decide, rfl, rfl, fun r hr => ?_⟩, ⟨rfl, fun j hj => ?_, rfl, rfl⟩, rfl, fun h => absurd rfl h⟩, ⟨⟨⟨⟨by decide, rfl, rfl, True.intro⟩, fun i hi => rfl, fun i hi => ?_, fun p hp => ?_, fun p hp => rfl, fun p hp => rfl, fun p hp => rfl, fun p hp => rfl, fun p hp => rfl⟩, ⟨rfl, fun j hj => ?_, fun l hl => ?_⟩, ⟨rfl, fun j hj => ?_, fun l hl => ?_⟩, ⟨rfl, fun i hi => ?_⟩, rfl, fun i hi => ?_⟩, ⟨rfl, fun r hr => ?_⟩, ⟨rfl, fun j hj => ?_, rfl, rfl⟩, rfl, fun h => absurd rfl h, rfl, fun j => rfl⟩, hX, ⟨by decide, fun r hr => ?_⟩, ⟨by decide, fun j hj => ?_⟩, Or.inl rfl, fun h => absurd rfl h⟩
  · have hi : (i : Int) < 40 := hi
    have : mv_G0 3 0 i = 40 := if_pos (show i < 40 by omega)
    rw [this]
    refine ⟨hi, Int.le_refl _, fun r h1 h2 => ?_, Or.inl rfl⟩
    show (0 : Int) ≠ 1
    decide
  · have hj : (j : Int) < 0 := hj
    omega
  · have hl : (l : Int) < 0 := hl
    omega
  · have hj : (j : Int) < 0 := hj
    omega
  · have hl : (l : Int) < 0 := hl
    omega
  · have hi : (i : Int) < 0 := hi
    omega
  · have hi : (i : Int) < 0 := hi
    omega
  · have hr : (r : Int) < 0 := hr
    omega
  · have hj : (j : Int) < 0 := hj
    omega
  · have e : st_a0 2 i = -1 := if_pos hi
    rw [e]; rfl
  · have e : st_a0 3 p = -1 := if_pos hp
    rw [e]; rfl
  · have hj : (j : Int) < 0 := hj
    omega
  · have hl : (l : Int) < 0 := hl
    omega
  · have hj : (j : Int) < 0 := hj
    omega
  · have hl : (l : Int) < 0 := hl
    omega
  · have hi : (i : Int) < 0 := hi
    omega
  · have hi : (i : Int) < 0 := hi
    omega
  · have hr : (r : Int) < 0 := hr
    omega
  · have hj : (j : Int) < 0 := hj
    omega
  · have hr : (r : Int) < 0 := hr
    omega
  · have hj : (j : Int) < 0 := hj
    omega
theorem law_pure {L : Nat} {xs : Nat → Int} (hL : L ≤ 3072) (hx : ∀ j, -2147483648 ≤ xs j ∧ xs j < 2147483648) : mv_Pure L xs := lj_18 hL hx st_S0
theorem law_IB (l : Launch) : mv_IB l := fun _ _ _ hty => ⟨ci_1 hty, ci_24 hty⟩
