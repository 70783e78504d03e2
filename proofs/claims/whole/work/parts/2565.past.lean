/-! What can be undone. -/
def st_kd (a : mv_a) : Nat := if a 0 5 = 6 then 5 else (a 0 5).toNat
def st_kp (a : mv_a) : mv_a := fun o j => if o = 0 then (if j = 5 then (if a 0 5 = 6 then 6 else a 0 5 + 1) else a 0 j) else if 30 ≤ o ∧ o < 60 then (if o = 30 + st_kd a then (if j = 0 then a 0 2 else if j = 1 then a 0 3 else a o j) else if o = 40 + st_kd a then a 3 j else if o = 50 + st_kd a then a 2 j else if a 0 5 = 6 then a (o + 1) j else a o j) else a o j
section PT
variable {G G2 : mv_G} {a b : mv_a}
theorem st_kp_o {o : Nat} (h0 : o ≠ 0) (h : o < 30 ∨ 60 ≤ o) : st_kp a o = a o := funext fun j => by
  unfold st_kp
  rw [if_neg h0, if_neg (by omega)]
theorem st_kp_0 {j : Nat} (h : j ≠ 5) : st_kp a 0 j = a 0 j := by
  unfold st_kp
  rw [if_pos rfl, if_neg h]
theorem st_kp_5 : st_kp a 0 5 = if a 0 5 = 6 then 6 else a 0 5 + 1 := rfl
theorem st_kd_b (h : 0 ≤ a 0 5 ∧ a 0 5 ≤ 6) : st_kd a ≤ 5 ∧ ((a 0 5 = 6 ∧ st_kd a = 5) ∨ (a 0 5 < 6 ∧ (st_kd a : Int) = a 0 5)) := by
  unfold st_kd
  split <;> omega
theorem st_kp_n (h : 0 ≤ a 0 5 ∧ a 0 5 ≤ 6) : st_kp a (30 + st_kd a) 0 = a 0 2 ∧ st_kp a (30 + st_kd a) 1 = a 0 3 ∧ (∀ j, st_kp a (40 + st_kd a) j = a 3 j) ∧ ∀ j, st_kp a (50 + st_kd a) j = a 2 j := by
  have hb := st_kd_b h
  unfold st_kp
  refine ⟨?_, ?_, fun j => ?_, fun j => ?_⟩
  · rw [if_neg (by omega), if_pos (by omega), if_pos rfl, if_pos rfl]
  · rw [if_neg (by omega), if_pos (by omega), if_pos rfl, if_neg (by decide), if_pos rfl]
  · rw [if_neg (by omega), if_pos (by omega), if_neg (by omega), if_pos rfl]
  · rw [if_neg (by omega), if_pos (by omega), if_neg (by omega), if_neg (by omega), if_pos rfl]
/-- an older one: the next of those before, if there were six -/
theorem st_kp_r (h : 0 ≤ a 0 5 ∧ a 0 5 ≤ 6) {r : Nat} (hr : r < st_kd a) {t : Nat} (ht : t = 30 ∨ t = 40 ∨ t = 50) : st_kp a (t + r) = a (t + (if a 0 5 = 6 then r + 1 else r)) := funext fun j => by
  have hb := st_kd_b h
  unfold st_kp
  rw [if_neg (by omega), if_pos (by omega), if_neg (by omega), if_neg (by omega), if_neg (by omega)]
  split <;> rfl
theorem st_kp_X : ag_X a (st_kp a) ∧ ag_T a (st_kp a) ∧ ag_I a (st_kp a) := ⟨⟨fun j hj => st_kp_0 (by omega), fun o h1 h2 _ => st_kp_o (by omega) (by omega)⟩, ⟨st_kp_0 (by decide), st_kp_0 (by decide), st_kp_0 (by decide), st_kp_o (by decide) (by decide)⟩, st_kp_0 (by decide), fun o h => st_kp_o (by omega) (by omega)⟩
theorem mv_iB.pt (h : mv_iB a) (e0 : b 0 0 = a 0 0 ∧ b 0 1 = a 0 1 ∧ b 0 2 = a 0 2 ∧ b 0 3 = a 0 3) (e1 : ∀ o, o = 1 ∨ (4 ≤ o ∧ o ≤ 8) → b o = a o) (e2 : ∀ i, i < 60 → b 2 i = a 2 i) (e3 : ∀ i, i < 10 → b 3 i = a 3 i) : mv_iB b := by
  obtain ⟨i1, i2, i3, i4, i5, i6, i7⟩ := h
  obtain ⟨q0, q1, q2, q3⟩ := e0
  have e11 := i1.2.2.2.1
  refine ⟨?_, ?_, fun i hi => ?_, fun i hi => ?_, ?_, fun p hp => ?_, fun p q hp hq => ?_⟩
  · rw [q0, q1, q2, q3]; exact i1
  · rw [e1 1 (by omega)]; exact i2
  · rw [e2 i hi]; exact i3 i hi
  · rw [e3 i hi]; exact i4 i hi
  · rw [q1, e1 4 (by omega), e1 5 (by omega), e1 6 (by omega), e1 7 (by omega), e1 8 (by omega)]; exact i5
  · rw [q1] at hp
    rw [q0, e1 1 (by omega), e1 4 (by omega), e1 6 (by omega), e3 p (by omega)]
    exact i6 p hp
  · rw [q1] at hp hq
    rw [e1 4 (by omega), e1 6 (by omega), e3 p (by omega), e3 q (by omega)]
    exact i7 p q hp hq
theorem st_kp_i (h : st_iW a) : st_iW (st_kp a) := by
  obtain ⟨h1, ⟨h2, h3⟩, h4, h5, h6⟩ := h
  obtain ⟨hd, hc⟩ := st_kd_b h2
  obtain ⟨n1, n2, n3, n4⟩ := st_kp_n h2
  have e5 : st_kp a 0 5 = ((st_kd a + 1 : Nat) : Int) := by
    rw [st_kp_5]
    split <;> omega
  refine ⟨h1.ag st_kp_X.1, ⟨by rw [e5]; omega, fun r hr => ?_⟩, h4.ag st_kp_X.2.1, by rw [st_kp_X.2.2.1]; exact h5, fun h9 => by rw [st_kp_X.2.2.1] at h9; rw [mv_im.ag st_kp_X.2.2]; exact h6 h9⟩
  rw [e5] at hr
  rw [e5]
  have ln : ∀ r2, r2 < st_kd a → st_kp a (30 + r2) = a (30 + (if a 0 5 = 6 then r2 + 1 else r2)) := fun r2 h => st_kp_r h2 h (Or.inl rfl)
  by_cases c : r = st_kd a
  · subst c
    refine ⟨h1.1.pt ⟨(show st_kp a 0 0 = a 0 0 from st_kp_0 (by decide)), (show st_kp a 0 1 = a 0 1 from st_kp_0 (by decide)), n1, n2⟩ (fun o ho => ?_) (fun i hi => ?_) (fun i hi => ?_), ?_, fun r2 g1 g2 => by omega⟩
    · rw [mv_un_o (by omega) (by omega) (by omega), st_kp_o (by omega) (by omega)]
    · rw [mv_un_2]
      dsimp only
      rw [if_pos hi, n4]
    · rw [mv_un_3]
      dsimp only
      rw [if_pos hi, n3]
    · rw [n2, st_kp_0 (by decide)]; exact Int.le_refl _
  · have hr2 : r < st_kd a := by omega
    have k1 := ln r hr2
    have k2 : st_kp a (40 + r) = a (40 + (if a 0 5 = 6 then r + 1 else r)) := st_kp_r h2 hr2 (Or.inr (Or.inl rfl))
    have k3 : st_kp a (50 + r) = a (50 + (if a 0 5 = 6 then r + 1 else r)) := st_kp_r h2 hr2 (Or.inr (Or.inr rfl))
    obtain ⟨s, hs⟩ : ∃ s, (if a 0 5 = 6 then r + 1 else r) = s := ⟨_, rfl⟩
    have hsl : (s : Int) < a 0 5 := by rw [← hs]; split <;> omega
    rw [hs] at k1 k2 k3
    obtain ⟨g1, g2, g3⟩ := h3 s hsl
    refine ⟨g1.pt ⟨?_, ?_, ?_, ?_⟩ (fun o ho => ?_) (fun i hi => ?_) (fun i hi => ?_), ?_, fun r2 q1 q2 => ?_⟩
    · show st_kp a 0 0 = a 0 0; exact st_kp_0 (by decide)
    · show st_kp a 0 1 = a 0 1; exact st_kp_0 (by decide)
    · show st_kp a (30 + r) 0 = a (30 + s) 0; rw [k1]
    · show st_kp a (30 + r) 1 = a (30 + s) 1; rw [k1]
    · rw [mv_un_o (by omega) (by omega) (by omega), mv_un_o (by omega) (by omega) (by omega), st_kp_o (by omega) (by omega)]
    · rw [mv_un_2, mv_un_2]
      dsimp only
      rw [if_pos hi, if_pos hi, k3]
    · rw [mv_un_3, mv_un_3]
      dsimp only
      rw [if_pos hi, if_pos hi, k2]
    · rw [k1, st_kp_0 (by decide)]; exact g2
    · rw [k1]
      by_cases c2 : r2 = st_kd a
      · subst c2
        rw [n2]; exact g2
      · have l2 := ln r2 (by omega)
        rw [l2]
        refine g3 _ ?_ ?_
        · rw [← hs]; split <;> omega
        · split <;> omega
theorem mv_cpy_k {k i s k2 i2 d n q : Nat} (h : q ≠ k2) : mv_cpy G k i s k2 i2 d n q = G q := funext fun x => funext fun y => if_neg (fun e => h e.1)
theorem mv_cpy_at {k i k2 i2 n x y : Nat} : mv_cpy G k i 0 k2 i2 0 n k2 x y = if x = i2 ∧ y < n then G k i y else G k2 x y := by
  unfold mv_cpy
  by_cases c : x = i2 ∧ y < n
  · rw [if_pos ⟨rfl, c.1, Nat.zero_le _, by omega⟩, if_pos c, Nat.zero_add, Nat.sub_zero]
  · rw [if_neg (fun e => c ⟨e.2.1, by omega⟩), if_neg c]
/-- the class saves -/
theorem fx_save (s : Nat) (hs : s ≤ 6) : ff_X6_save [.inr (47, 0), .inr (1, 0), .inl s] G = some (0, mv_up (mv_up (mv_cpy (mv_cpy G 6 0 0 48 (s + 1) 0 10) 4 0 0 49 (s + 1) 0 60) 50 0 s (G 1 0 2)) 51 0 s (G 1 0 3)) := by
  refine mv_Kp.eq (mv_Kp.of (mv_JP.of (rg_X6_save_0 s G) (mv_J.f (by omega) (mv_J.f (by omega) (mv_J.ck (by omega) ?_)))))
  rw [Int.toNat_natCast]
  have a1 : mv_acp mv_sh [.inr (6, 0), .inl 0, .inr (48, s + 1), .inl 0, .inl 10] G = some (0, mv_cpy G 6 0 0 48 (s + 1) 0 10) := rfl
  have a2 : mv_acp mv_sh [.inr (4, 0), .inl 0, .inr (49, s + 1), .inl 0, .inl 60] (mv_cpy G 6 0 0 48 (s + 1) 0 10) = some (0, mv_cpy (mv_cpy G 6 0 0 48 (s + 1) 0 10) 4 0 0 49 (s + 1) 0 60) := rfl
  refine mv_J.ce a1 (mv_J.ck (by omega) (mv_J.ce a2 (mv_J.ck (by omega) (mv_J.ck (by omega) (mv_J.ret ⟨rfl, ?_⟩)))))
  rw [mv_up_k (show (1 : Nat) ≠ 50 by decide), mv_cpy_k (by decide), mv_cpy_k (by decide)]
/-- the class loads -/
theorem fx_load (s : Nat) (hs : s ≤ 6) : ff_X6_load [.inr (47, 0), .inr (1, 0), .inl s] G = some (0, mv_up (mv_up (mv_cpy (mv_cpy G 48 (s + 1) 0 6 0 0 10) 49 (s + 1) 0 4 0 0 60) 1 0 2 (G 50 0 s)) 1 0 3 (G 51 0 s)) := by
  refine mv_Kp.eq (mv_Kp.of (mv_JP.of (rg_X6_load_0 s G) (mv_J.f (by omega) (mv_J.f (by omega) (mv_J.ck (by omega) ?_)))))
  rw [Int.toNat_natCast]
  have a1 : mv_acp mv_sh [.inr (48, s + 1), .inl 0, .inr (6, 0), .inl 0, .inl 10] G = some (0, mv_cpy G 48 (s + 1) 0 6 0 0 10) := rfl
  have a2 : mv_acp mv_sh [.inr (49, s + 1), .inl 0, .inr (4, 0), .inl 0, .inl 60] (mv_cpy G 48 (s + 1) 0 6 0 0 10) = some (0, mv_cpy (mv_cpy G 48 (s + 1) 0 6 0 0 10) 49 (s + 1) 0 4 0 0 60) := rfl
  refine mv_J.ce a1 (mv_J.ck (by omega) (mv_J.ce a2 (mv_J.ck (by omega) (mv_J.ck (by omega) (mv_J.ret ⟨rfl, ?_⟩)))))
  rw [mv_up_k (show (51 : Nat) ≠ 1 by decide), mv_cpy_k (show (50 : Nat) ≠ 4 by decide), mv_cpy_k (show (50 : Nat) ≠ 6 by decide), mv_cpy_k (show (51 : Nat) ≠ 4 by decide), mv_cpy_k (show (51 : Nat) ≠ 6 by decide)]
theorem fx_keepNow (h : st_cW G a) (hi : st_iW a) : mv_Kp (ff_X6_keepNow [.inr (47, 0), .inr (1, 0)] G) (fun _ G' => st_cW G' (st_kp a) ∧ mv_fC G G' ∧ G' 90 = G 90) := by
  obtain ⟨nx, m1, m2, m3, m4⟩ := h.2.1
  obtain ⟨⟨h2, h3⟩⟩ := hi.2.1
  obtain ⟨hd, hc⟩ := st_kd_b (a := a) ⟨h2, h3⟩
  obtain ⟨n1, n2, n3, n4⟩ := st_kp_n (a := a) ⟨h2, h3⟩
  have e5 : st_kp a 0 5 = ((st_kd a + 1 : Nat) : Int) := by
    rw [st_kp_5]
    split <;> omega
  obtain ⟨⟨b1, b2, b3, b4, -⟩, -⟩ := h.1
  have bk := h.1.2.2.2.1.1
  refine mv_Kp.of (mv_JP.of (rg_X6_keepNow_0 G) ?_)
  rw [m2]
  refine mv_J.ce (fx_save nx (by omega)) (mv_J.f (by decide) ?_)
  have s47 : ∀ x y : mv_G → mv_G, True := fun _ _ => True.intro
  have t47 : (mv_up (mv_up (mv_cpy (mv_cpy G 6 0 0 48 (nx + 1) 0 10) 4 0 0 49 (nx + 1) 0 60) 50 0 nx (G 1 0 2)) 51 0 nx (G 1 0 3)) 47 = G 47 := by rw [mv_up_k (by decide), mv_up_k (by decide), mv_cpy_k (by decide), mv_cpy_k (by decide)]
  have t48 : ∀ i j, (mv_up (mv_up (mv_cpy (mv_cpy G 6 0 0 48 (nx + 1) 0 10) 4 0 0 49 (nx + 1) 0 60) 50 0 nx (G 1 0 2)) 51 0 nx (G 1 0 3)) 48 i j = if i = nx + 1 ∧ j < 10 then a 3 j else G 48 i j := fun i j => by rw [mv_up_k (by decide), mv_up_k (by decide), mv_cpy_k (by decide), mv_cpy_at, b4]
  have t49 : ∀ i j, (mv_up (mv_up (mv_cpy (mv_cpy G 6 0 0 48 (nx + 1) 0 10) 4 0 0 49 (nx + 1) 0 60) 50 0 nx (G 1 0 2)) 51 0 nx (G 1 0 3)) 49 i j = if i = nx + 1 ∧ j < 60 then a 2 j else G 49 i j := fun i j => by rw [mv_up_k (by decide), mv_up_k (by decide), mv_cpy_at, mv_cpy_k (by decide), mv_cpy_k (by decide), b3]
  have t50 : ∀ j, (mv_up (mv_up (mv_cpy (mv_cpy G 6 0 0 48 (nx + 1) 0 10) 4 0 0 49 (nx + 1) 0 60) 50 0 nx (G 1 0 2)) 51 0 nx (G 1 0 3)) 50 0 j = if j = nx then a 0 2 else G 50 0 j := fun j => by rw [mv_up_k (by decide), mv_up_at, mv_cpy_k (by decide), mv_cpy_k (by decide), b1.2.2.1]
  have t51 : ∀ j, (mv_up (mv_up (mv_cpy (mv_cpy G 6 0 0 48 (nx + 1) 0 10) 4 0 0 49 (nx + 1) 0 60) 50 0 nx (G 1 0 2)) 51 0 nx (G 1 0 3)) 51 0 j = if j = nx then a 0 3 else G 51 0 j := fun j => by rw [mv_up_at, mv_up_k (by decide), mv_cpy_k (by decide), mv_cpy_k (by decide), bk]
  have tk : ∀ k, k ≠ 48 → k ≠ 49 → k ≠ 50 → k ≠ 51 → (mv_up (mv_up (mv_cpy (mv_cpy G 6 0 0 48 (nx + 1) 0 10) 4 0 0 49 (nx + 1) 0 60) 50 0 nx (G 1 0 2)) 51 0 nx (G 1 0 3)) k = G k := fun k q1 q2 q3 q4 => by rw [mv_up_k q4, mv_up_k q3, mv_cpy_k q2, mv_cpy_k q1]
  generalize mv_up (mv_up (mv_cpy (mv_cpy G 6 0 0 48 (nx + 1) 0 10) 4 0 0 49 (nx + 1) 0 60) 50 0 nx (G 1 0 2)) 51 0 nx (G 1 0 3) = G1 at t47 t48 t49 t50 t51 tk
  have em : Int.tmod ((nx : Int) + 1) 6 = (((nx + 1) % 6 : Nat) : Int) := by
    have : nx = 0 ∨ nx = 1 ∨ nx = 2 ∨ nx = 3 ∨ nx = 4 ∨ nx = 5 := by omega
    rcases this with rfl | rfl | rfl | rfl | rfl | rfl <;> decide
  rw [t47, m2, mv_ws (x := (nx : Int) + 1) (by omega), em, mv_ws (x := (((nx + 1) % 6 : Nat) : Int)) (by omega), mv_up_j (show (0 : Nat) ≠ 1 by decide), t47, m3, mv_ws (x := a 0 5 + 1) (by omega)]
  have mi : mv_min [.inl (a 0 5 + 1), .inl 6] (mv_up G1 47 0 1 (((nx + 1) % 6 : Nat) : Int)) = some ((((st_kd a + 1 : Nat) : Int)), mv_up G1 47 0 1 (((nx + 1) % 6 : Nat) : Int)) := by
    show some (if (6 : Int) < a 0 5 + 1 then (6 : Int) else a 0 5 + 1, _) = _
    have : (if (6 : Int) < a 0 5 + 1 then (6 : Int) else a 0 5 + 1) = ((st_kd a + 1 : Nat) : Int) := by split <;> omega
    rw [this]
  refine mv_J.ce mi (mv_J.ret ⟨?_, fun k hk => ?_, ?_⟩)
  · have uk : ∀ k, k ≠ 47 → (mv_up (mv_up G1 47 0 1 (((nx + 1) % 6 : Nat) : Int)) 47 0 0 ((st_kd a + 1 : Nat) : Int)) k = G1 k := fun k h => by rw [mv_up_k h, mv_up_k h]
    have hx : mv_cX (mv_up (mv_up G1 47 0 1 (((nx + 1) % 6 : Nat) : Int)) 47 0 0 ((st_kd a + 1 : Nat) : Int)) (st_kp a) := (h.1.cg (fun k hk => by
      have hl : ∀ k ∈ mv_cXl, k < 24 := by decide
      have := hl k hk
      rw [uk k (by omega), tk k (by omega) (by omega) (by omega) (by omega)])).ag st_kp_X.1
    refine h.bn hx ⟨(nx + 1) % 6, by omega, ?_, ?_, fun r hr => ?_⟩ (fun k hk => by rw [uk k (by omega), tk k (by omega) (by omega) (by omega) (by omega)]) (by rw [uk 0 (by decide), tk 0 (by decide) (by decide) (by decide) (by decide)]) (fun j hj => by rw [uk 52 (by decide), tk 52 (by decide) (by decide) (by decide) (by decide)]) st_kp_X.2.1 st_kp_X.2.2
    · rw [mv_up_j (by decide), mv_ups_eq]
    · rw [mv_ups_eq, e5]
    · rw [e5] at hr ⊢
      rw [Int.toNat_natCast, uk 48 (by decide), uk 49 (by decide), uk 50 (by decide), uk 51 (by decide)]
      by_cases c : r = st_kd a
      · have es : mv_slt ((nx + 1) % 6) (st_kd a + 1) r = nx := by unfold mv_slt; omega
        rw [es, c]
        refine ⟨fun p hp => ?_, fun i hi2 => ?_, ?_, ?_⟩
        · rw [t48, if_pos ⟨rfl, hp⟩, n3]
        · rw [t49, if_pos ⟨rfl, hi2⟩, n4]
        · rw [t50, if_pos rfl, n1]
        · rw [t51, if_pos rfl, n2]
      · have hr2 : r < st_kd a := by omega
        have k1 : st_kp a (30 + r) = a (30 + (if a 0 5 = 6 then r + 1 else r)) := st_kp_r ⟨h2, h3⟩ hr2 (Or.inl rfl)
        have k2 : st_kp a (40 + r) = a (40 + (if a 0 5 = 6 then r + 1 else r)) := st_kp_r ⟨h2, h3⟩ hr2 (Or.inr (Or.inl rfl))
        have k3 : st_kp a (50 + r) = a (50 + (if a 0 5 = 6 then r + 1 else r)) := st_kp_r ⟨h2, h3⟩ hr2 (Or.inr (Or.inr rfl))
        obtain ⟨s, hs⟩ : ∃ s, (if a 0 5 = 6 then r + 1 else r) = s := ⟨_, rfl⟩
        have hsl : (s : Int) < a 0 5 := by rw [← hs]; split <;> omega
        have es : mv_slt ((nx + 1) % 6) (st_kd a + 1) r = mv_slt nx (a 0 5).toNat s ∧ mv_slt nx (a 0 5).toNat s ≠ nx := by
          unfold mv_slt
          rw [← hs]
          split <;> omega
        rw [hs] at k1 k2 k3
        obtain ⟨g1, g2, g3, g4⟩ := m4 s hsl
        rw [es.1, k1, k2, k3]
        refine ⟨fun p hp => ?_, fun i hi2 => ?_, ?_, ?_⟩
        · rw [t48, if_neg (fun h => es.2 (by omega))]; exact g1 p hp
        · rw [t49, if_neg (fun h => es.2 (by omega))]; exact g2 i hi2
        · rw [t50, if_neg es.2]; exact g3
        · rw [t51, if_neg es.2]; exact g4
  · rw [mv_up_k (by omega), mv_up_k (by omega), tk k (by omega) (by omega) (by omega) (by omega)]
  · rw [mv_up_k (by decide), mv_up_k (by decide), tk 90 (by decide) (by decide) (by decide) (by decide)]
end PT
