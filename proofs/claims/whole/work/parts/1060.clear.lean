/-! Bench.clear and what it calls, at both benches. -/
def mv_fl (G : mv_G) (c N : Nat) (v : Int) : mv_G := fun a b x => if a = c ∧ b = 0 ∧ x < N then v else G a b x
theorem mv_fl_0 {G : mv_G} {c : Nat} {v : Int} : mv_fl G c 0 v = G := by
  funext a b x
  exact if_neg (fun h => by omega)
theorem mv_fl_s {G : mv_G} {c n : Nat} {v : Int} : mv_up (mv_fl G c n v) c 0 n v = mv_fl G c (n + 1) v := by
  funext a b x
  unfold mv_up mv_fl
  by_cases h : a = c ∧ b = 0 ∧ x = n
  · rw [if_pos h, if_pos ⟨h.1, h.2.1, by omega⟩]
  · rw [if_neg h]
    by_cases h2 : a = c ∧ b = 0 ∧ x < n
    · rw [if_pos h2, if_pos ⟨h2.1, h2.2.1, by omega⟩]
    · rw [if_neg h2, if_neg (fun h3 => by
        rcases Nat.lt_or_ge x n with h4 | h4
        · exact h2 ⟨h3.1, h3.2.1, h4⟩
        · exact h ⟨h3.1, h3.2.1, by omega⟩)]
theorem mv_fl_k {G : mv_G} {c N k : Nat} {v : Int} (h : k ≠ c) : mv_fl G c N v k = G k := funext fun _ => funext fun _ => if_neg fun e => h e.1
theorem mv_fl_at {G : mv_G} {c N x : Nat} {v : Int} : mv_fl G c N v c 0 x = if x < N then v else G c 0 x := by
  unfold mv_fl
  by_cases h : x < N
  · rw [if_pos ⟨rfl, rfl, h⟩, if_pos h]
  · rw [if_neg (fun e => h e.2.2), if_neg h]
/-- how far to the right one may go from i: the next arm rest, or the end -/
def mv_Rch (R : Nat → Int) (L : Int) (i : Nat) (f : Int) : Prop := (i : Int) < f ∧ f ≤ L ∧ (∀ r : Nat, i < r → (r : Int) < f → R r ≠ 1) ∧ (f = L ∨ R f.toNat = 1)
set_option maxRecDepth 20000 in
theorem fx_fill_2 (v : Int) (G : mv_G) : ff_J7_fill_53178 [.inr (2, 0), .inl v] G = some (0, mv_fl G 2 60 v) := by
  have key : ∀ n i : Nat, i + n = 60 → mv_JP mm_J7_fill_53178 (fun r G' => r = 0 ∧ G' = mv_fl G 2 60 v) 5 [some (.inr (2, 0)), some (.inl v), some (.inl (i : Int)), some (.inl 60)] (mv_fl G 2 i v) := by
    intro n
    induction n with
    | zero =>
      intro i hi
      refine mv_JP.of (rg_J7_fill_53178_5_2 _ _ _ _) (mv_J.f (by omega) (mv_J.ret ⟨rfl, ?_⟩))
      rw [show i = 60 by omega]
    | succ n ih =>
      intro i hi
      refine mv_JP.of (rg_J7_fill_53178_5_2 _ _ _ _) (mv_J.t (by omega) (mv_J.ck (by omega) (mv_J.cut ?_)))
      have h := ih (i + 1) (by omega)
      rw [Int.toNat_natCast, mv_fl_s, mv_ws (by omega)]
      exact h
  have h := key 60 0 rfl
  rw [mv_fl_0] at h
  exact mv_Kp.eq (mv_Kp.of (mv_JP.of (rg_J7_fill_53178_0_2 v G) (mv_J.cut h)))
set_option maxRecDepth 20000 in
theorem fx_fill_4 (v : Int) (G : mv_G) : ff_J7_fill_53178 [.inr (4, 0), .inl v] G = some (0, mv_fl G 4 60 v) := by
  have key : ∀ n i : Nat, i + n = 60 → mv_JP mm_J7_fill_53178 (fun r G' => r = 0 ∧ G' = mv_fl G 4 60 v) 5 [some (.inr (4, 0)), some (.inl v), some (.inl (i : Int)), some (.inl 60)] (mv_fl G 4 i v) := by
    intro n
    induction n with
    | zero =>
      intro i hi
      refine mv_JP.of (rg_J7_fill_53178_5_4 _ _ _ _) (mv_J.f (by omega) (mv_J.ret ⟨rfl, ?_⟩))
      rw [show i = 60 by omega]
    | succ n ih =>
      intro i hi
      refine mv_JP.of (rg_J7_fill_53178_5_4 _ _ _ _) (mv_J.t (by omega) (mv_J.ck (by omega) (mv_J.cut ?_)))
      have h := ih (i + 1) (by omega)
      rw [Int.toNat_natCast, mv_fl_s, mv_ws (by omega)]
      exact h
  have h := key 60 0 rfl
  rw [mv_fl_0] at h
  exact mv_Kp.eq (mv_Kp.of (mv_JP.of (rg_J7_fill_53178_0_4 v G) (mv_J.cut h)))
set_option maxRecDepth 20000 in
theorem fx_fill_6 (v : Int) (G : mv_G) : ff_J7_fill_53178 [.inr (6, 0), .inl v] G = some (0, mv_fl G 6 10 v) := by
  have key : ∀ n i : Nat, i + n = 10 → mv_JP mm_J7_fill_53178 (fun r G' => r = 0 ∧ G' = mv_fl G 6 10 v) 5 [some (.inr (6, 0)), some (.inl v), some (.inl (i : Int)), some (.inl 10)] (mv_fl G 6 i v) := by
    intro n
    induction n with
    | zero =>
      intro i hi
      refine mv_JP.of (rg_J7_fill_53178_5_6 _ _ _ _) (mv_J.f (by omega) (mv_J.ret ⟨rfl, ?_⟩))
      rw [show i = 10 by omega]
    | succ n ih =>
      intro i hi
      refine mv_JP.of (rg_J7_fill_53178_5_6 _ _ _ _) (mv_J.t (by omega) (mv_J.ck (by omega) (mv_J.cut ?_)))
      have h := ih (i + 1) (by omega)
      rw [Int.toNat_natCast, mv_fl_s, mv_ws (by omega)]
      exact h
  have h := key 10 0 rfl
  rw [mv_fl_0] at h
  exact mv_Kp.eq (mv_Kp.of (mv_JP.of (rg_J7_fill_53178_0_6 v G) (mv_J.cut h)))
set_option maxRecDepth 20000 in
theorem fx_fill_82 (v : Int) (G : mv_G) : ff_J7_fill_53178 [.inr (82, 0), .inl v] G = some (0, mv_fl G 82 60 v) := by
  have key : ∀ n i : Nat, i + n = 60 → mv_JP mm_J7_fill_53178 (fun r G' => r = 0 ∧ G' = mv_fl G 82 60 v) 5 [some (.inr (82, 0)), some (.inl v), some (.inl (i : Int)), some (.inl 60)] (mv_fl G 82 i v) := by
    intro n
    induction n with
    | zero =>
      intro i hi
      refine mv_JP.of (rg_J7_fill_53178_5_82 _ _ _ _) (mv_J.f (by omega) (mv_J.ret ⟨rfl, ?_⟩))
      rw [show i = 60 by omega]
    | succ n ih =>
      intro i hi
      refine mv_JP.of (rg_J7_fill_53178_5_82 _ _ _ _) (mv_J.t (by omega) (mv_J.ck (by omega) (mv_J.cut ?_)))
      have h := ih (i + 1) (by omega)
      rw [Int.toNat_natCast, mv_fl_s, mv_ws (by omega)]
      exact h
  have h := key 60 0 rfl
  rw [mv_fl_0] at h
  exact mv_Kp.eq (mv_Kp.of (mv_JP.of (rg_J7_fill_53178_0_82 v G) (mv_J.cut h)))
set_option maxRecDepth 20000 in
theorem fx_fill_85 (v : Int) (G : mv_G) : ff_J7_fill_53178 [.inr (85, 0), .inl v] G = some (0, mv_fl G 85 61 v) := by
  have key : ∀ n i : Nat, i + n = 61 → mv_JP mm_J7_fill_53178 (fun r G' => r = 0 ∧ G' = mv_fl G 85 61 v) 5 [some (.inr (85, 0)), some (.inl v), some (.inl (i : Int)), some (.inl 61)] (mv_fl G 85 i v) := by
    intro n
    induction n with
    | zero =>
      intro i hi
      refine mv_JP.of (rg_J7_fill_53178_5_85 _ _ _ _) (mv_J.f (by omega) (mv_J.ret ⟨rfl, ?_⟩))
      rw [show i = 61 by omega]
    | succ n ih =>
      intro i hi
      refine mv_JP.of (rg_J7_fill_53178_5_85 _ _ _ _) (mv_J.t (by omega) (mv_J.ck (by omega) (mv_J.cut ?_)))
      have h := ih (i + 1) (by omega)
      rw [Int.toNat_natCast, mv_fl_s, mv_ws (by omega)]
      exact h
  have h := key 61 0 rfl
  rw [mv_fl_0] at h
  exact mv_Kp.eq (mv_Kp.of (mv_JP.of (rg_J7_fill_53178_0_85 v G) (mv_J.cut h)))
set_option maxRecDepth 20000 in
theorem fx_fill_88 (v : Int) (G : mv_G) : ff_J7_fill_53178 [.inr (88, 0), .inl v] G = some (0, mv_fl G 88 256 v) := by
  have key : ∀ n i : Nat, i + n = 256 → mv_JP mm_J7_fill_53178 (fun r G' => r = 0 ∧ G' = mv_fl G 88 256 v) 5 [some (.inr (88, 0)), some (.inl v), some (.inl (i : Int)), some (.inl 256)] (mv_fl G 88 i v) := by
    intro n
    induction n with
    | zero =>
      intro i hi
      refine mv_JP.of (rg_J7_fill_53178_5_88 _ _ _ _) (mv_J.f (by omega) (mv_J.ret ⟨rfl, ?_⟩))
      rw [show i = 256 by omega]
    | succ n ih =>
      intro i hi
      refine mv_JP.of (rg_J7_fill_53178_5_88 _ _ _ _) (mv_J.t (by omega) (mv_J.ck (by omega) (mv_J.cut ?_)))
      have h := ih (i + 1) (by omega)
      rw [Int.toNat_natCast, mv_fl_s, mv_ws (by omega)]
      exact h
  have h := key 256 0 rfl
  rw [mv_fl_0] at h
  exact mv_Kp.eq (mv_Kp.of (mv_JP.of (rg_J7_fill_53178_0_88 v G) (mv_J.cut h)))
set_option maxRecDepth 20000 in
theorem fx_fill_89 (v : Int) (G : mv_G) : ff_J7_fill_53178 [.inr (89, 0), .inl v] G = some (0, mv_fl G 89 256 v) := by
  have key : ∀ n i : Nat, i + n = 256 → mv_JP mm_J7_fill_53178 (fun r G' => r = 0 ∧ G' = mv_fl G 89 256 v) 5 [some (.inr (89, 0)), some (.inl v), some (.inl (i : Int)), some (.inl 256)] (mv_fl G 89 i v) := by
    intro n
    induction n with
    | zero =>
      intro i hi
      refine mv_JP.of (rg_J7_fill_53178_5_89 _ _ _ _) (mv_J.f (by omega) (mv_J.ret ⟨rfl, ?_⟩))
      rw [show i = 256 by omega]
    | succ n ih =>
      intro i hi
      refine mv_JP.of (rg_J7_fill_53178_5_89 _ _ _ _) (mv_J.t (by omega) (mv_J.ck (by omega) (mv_J.cut ?_)))
      have h := ih (i + 1) (by omega)
      rw [Int.toNat_natCast, mv_fl_s, mv_ws (by omega)]
      exact h
  have h := key 256 0 rfl
  rw [mv_fl_0] at h
  exact mv_Kp.eq (mv_Kp.of (mv_JP.of (rg_J7_fill_53178_0_89 v G) (mv_J.cut h)))
set_option maxRecDepth 20000 in
theorem fx_fill_25 (v : Int) (G : mv_G) : ff_J7_fill_53178 [.inr (25, 0), .inl v] G = some (0, mv_fl G 25 60 v) := by
  have key : ∀ n i : Nat, i + n = 60 → mv_JP mm_J7_fill_53178 (fun r G' => r = 0 ∧ G' = mv_fl G 25 60 v) 5 [some (.inr (25, 0)), some (.inl v), some (.inl (i : Int)), some (.inl 60)] (mv_fl G 25 i v) := by
    intro n
    induction n with
    | zero =>
      intro i hi
      refine mv_JP.of (rg_J7_fill_53178_5_25 _ _ _ _) (mv_J.f (by omega) (mv_J.ret ⟨rfl, ?_⟩))
      rw [show i = 60 by omega]
    | succ n ih =>
      intro i hi
      refine mv_JP.of (rg_J7_fill_53178_5_25 _ _ _ _) (mv_J.t (by omega) (mv_J.ck (by omega) (mv_J.cut ?_)))
      have h := ih (i + 1) (by omega)
      rw [Int.toNat_natCast, mv_fl_s, mv_ws (by omega)]
      exact h
  have h := key 60 0 rfl
  rw [mv_fl_0] at h
  exact mv_Kp.eq (mv_Kp.of (mv_JP.of (rg_J7_fill_53178_0_25 v G) (mv_J.cut h)))
set_option maxRecDepth 20000 in
theorem fx_fill_27 (v : Int) (G : mv_G) : ff_J7_fill_53178 [.inr (27, 0), .inl v] G = some (0, mv_fl G 27 60 v) := by
  have key : ∀ n i : Nat, i + n = 60 → mv_JP mm_J7_fill_53178 (fun r G' => r = 0 ∧ G' = mv_fl G 27 60 v) 5 [some (.inr (27, 0)), some (.inl v), some (.inl (i : Int)), some (.inl 60)] (mv_fl G 27 i v) := by
    intro n
    induction n with
    | zero =>
      intro i hi
      refine mv_JP.of (rg_J7_fill_53178_5_27 _ _ _ _) (mv_J.f (by omega) (mv_J.ret ⟨rfl, ?_⟩))
      rw [show i = 60 by omega]
    | succ n ih =>
      intro i hi
      refine mv_JP.of (rg_J7_fill_53178_5_27 _ _ _ _) (mv_J.t (by omega) (mv_J.ck (by omega) (mv_J.cut ?_)))
      have h := ih (i + 1) (by omega)
      rw [Int.toNat_natCast, mv_fl_s, mv_ws (by omega)]
      exact h
  have h := key 60 0 rfl
  rw [mv_fl_0] at h
  exact mv_Kp.eq (mv_Kp.of (mv_JP.of (rg_J7_fill_53178_0_27 v G) (mv_J.cut h)))
set_option maxRecDepth 20000 in
theorem fx_fill_29 (v : Int) (G : mv_G) : ff_J7_fill_53178 [.inr (29, 0), .inl v] G = some (0, mv_fl G 29 10 v) := by
  have key : ∀ n i : Nat, i + n = 10 → mv_JP mm_J7_fill_53178 (fun r G' => r = 0 ∧ G' = mv_fl G 29 10 v) 5 [some (.inr (29, 0)), some (.inl v), some (.inl (i : Int)), some (.inl 10)] (mv_fl G 29 i v) := by
    intro n
    induction n with
    | zero =>
      intro i hi
      refine mv_JP.of (rg_J7_fill_53178_5_29 _ _ _ _) (mv_J.f (by omega) (mv_J.ret ⟨rfl, ?_⟩))
      rw [show i = 10 by omega]
    | succ n ih =>
      intro i hi
      refine mv_JP.of (rg_J7_fill_53178_5_29 _ _ _ _) (mv_J.t (by omega) (mv_J.ck (by omega) (mv_J.cut ?_)))
      have h := ih (i + 1) (by omega)
      rw [Int.toNat_natCast, mv_fl_s, mv_ws (by omega)]
      exact h
  have h := key 10 0 rfl
  rw [mv_fl_0] at h
  exact mv_Kp.eq (mv_Kp.of (mv_JP.of (rg_J7_fill_53178_0_29 v G) (mv_J.cut h)))
theorem fx_X5_clear_8 (G : mv_G) : ff_X5_clear [.inr (8, 0)] G = some (0, mv_up (mv_up G 8 0 0 0) 8 0 1 0) := mv_Kp.eq (mv_Kp.of (mv_JP.of (rg_X5_clear_0_8 G) (mv_J.ret ⟨rfl, rfl⟩)))
theorem fx_X5_clear_14 (G : mv_G) : ff_X5_clear [.inr (14, 0)] G = some (0, mv_up (mv_up G 14 0 0 0) 14 0 1 0) := mv_Kp.eq (mv_Kp.of (mv_JP.of (rg_X5_clear_0_14 G) (mv_J.ret ⟨rfl, rfl⟩)))
theorem fx_X2_findReach (G : mv_G) (h1 : 1 ≤ G 1 0 0) (h2 : G 1 0 0 ≤ 60) : mv_Kp (ff_X2_findReach [.inr (1, 0)] G) (fun r G' => r = 0 ∧ mv_ch [3] [] G G' ∧ (∀ i : Nat, (i : Int) < G 1 0 0 → mv_Rch (G 2 0) (G 1 0 0) i (G' 3 0 i)) ∧ (∀ i j : Nat, i ≠ 0 ∨ G 1 0 0 ≤ j → G' 3 i j = G 3 i j)) := by
  obtain ⟨L, hL⟩ : ∃ L : Nat, G 1 0 0 = L := ⟨(G 1 0 0).toNat, by omega⟩
  rw [hL] at h1 h2 ⊢
  have key : ∀ (n : Nat) (far : Int) (G1 : mv_G), n ≤ L → mv_ch [3] [] G G1 → (∀ i : Nat, n ≤ i → i < L → mv_Rch (G 2 0) L i (G1 3 0 i)) → (∀ i j : Nat, i ≠ 0 ∨ (L : Int) ≤ j → G1 3 i j = G 3 i j) → ((n : Int) ≤ far ∧ far ≤ L ∧ (∀ r : Nat, n ≤ r → (r : Int) < far → G 2 0 r ≠ 1) ∧ (far = L ∨ G 2 0 far.toNat = 1)) →
      mv_JP mm_X2_findReach (fun r G' => r = 0 ∧ mv_ch [3] [] G G' ∧ (∀ i : Nat, (i : Int) < L → mv_Rch (G 2 0) L i (G' 3 0 i)) ∧ (∀ i j : Nat, i ≠ 0 ∨ (L : Int) ≤ j → G' 3 i j = G 3 i j)) 12 [some (.inr (1, 0)), some (.inl far), some (.inl ((n : Int) - 1))] G1 := by
    intro n
    induction n with
    | zero =>
      intro far G1 hn hc hR hO hf
      exact mv_JP.of (rg_X2_findReach_12 _ _ _) (mv_J.t (by omega) (mv_J.ret ⟨rfl, hc, fun i hi => hR i (Nat.zero_le _) (by omega), hO⟩))
    | succ n ih =>
      intro far G1 hn hc hR hO hf
      have e0 : ((n + 1 : Nat) : Int) - 1 = (n : Int) := by omega
      rw [e0]
      have e2 : (mv_up G1 3 0 n far) 2 0 n = G 2 0 n := by rw [mv_up_k (by decide), hc.cell 2 rfl]
      have hc2 : mv_ch [3] [] G (mv_up G1 3 0 n far) := hc.uc rfl
      have hR2 : ∀ i : Nat, n ≤ i → i < L → mv_Rch (G 2 0) L i ((mv_up G1 3 0 n far) 3 0 i) := by
        intro i h3 h4
        rw [mv_up_at]
        split
        · next e => subst e; exact ⟨by omega, hf.2.1, fun r h5 h6 => hf.2.2.1 r (by omega) h6, hf.2.2.2⟩
        · exact hR i (by omega) h4
      have hO2 : ∀ i j : Nat, i ≠ 0 ∨ (L : Int) ≤ j → (mv_up G1 3 0 n far) 3 i j = G 3 i j := by
        intro i j h3
        rw [← hO i j h3]
        exact if_neg (fun e => by omega)
      refine mv_JP.of (rg_X2_findReach_12 _ _ _) (mv_J.f (by omega) (mv_J.ck (by omega) (mv_J.ck (by omega) (mv_J.i (fun h => mv_J.cut ?_) (fun h => mv_J.cut ?_)))))
      all_goals
        rw [Int.toNat_natCast] at h
        rw [Int.toNat_natCast, mv_ws (by omega)]
        rw [e2] at h
      · refine ih n _ (by omega) hc2 hR2 hO2 ⟨by omega, by omega, fun r h3 h4 => by omega, Or.inr (by rw [Int.toNat_natCast]; exact h)⟩
      · refine ih far _ (by omega) hc2 hR2 hO2 ⟨by omega, hf.2.1, fun r h3 h4 => ?_, hf.2.2.2⟩
        rcases Nat.lt_or_ge n r with h5 | h5
        · exact hf.2.2.1 r (by omega) h4
        · rw [show r = n by omega]; exact h
  refine mv_Kp.of (mv_JP.of (rg_X2_findReach_0 G) (mv_J.cut ?_))
  rw [hL, mv_ws (by omega)]
  exact key L L G (Nat.le_refl _) mv_ch.rf (fun i h3 h4 => by omega) (fun _ _ _ => rfl) ⟨by omega, by omega, fun r h3 h4 => by omega, Or.inl rfl⟩
theorem fx_X2_clear (n : Int) (h1 : 1 ≤ n) (h2 : n ≤ 60) (G : mv_G) : mv_Kp (ff_X2_clear [.inr (1, 0), .inl n] G) (fun r G' => r = 0 ∧ mv_ch [3, 2, 4, 6] [(1, 0), (1, 1), (1, 2), (1, 3), (8, 0), (8, 1), (14, 0), (14, 1), (20, 0)] G G' ∧
    (G' 1 0 0 = n ∧ G' 1 0 1 = 0 ∧ G' 1 0 2 = 0 ∧ G' 1 0 3 = 0 ∧ G' 8 0 0 = 0 ∧ G' 8 0 1 = 0 ∧ G' 14 0 0 = 0 ∧ G' 14 0 1 = 0 ∧ G' 20 0 0 = 0) ∧ (∀ i, i < 60 → G' 2 0 i = 0) ∧ (∀ i, i < 60 → G' 4 0 i = -1) ∧ (∀ i, i < 10 → G' 6 0 i = -1) ∧
    (∀ i, 60 ≤ i → G' 2 0 i = G 2 0 i ∧ G' 4 0 i = G 4 0 i) ∧ (∀ i, 10 ≤ i → G' 6 0 i = G 6 0 i) ∧ (∀ i j : Nat, i ≠ 0 → G' 2 i j = G 2 i j ∧ G' 4 i j = G 4 i j ∧ G' 6 i j = G 6 i j) ∧
    (∀ i : Nat, (i : Int) < n → mv_Rch (G' 2 0) n i (G' 3 0 i)) ∧ (∀ i j : Nat, i ≠ 0 ∨ n ≤ j → G' 3 i j = G 3 i j)) := by
  refine mv_Kp.of (mv_JP.of (rg_X2_clear_0 n G) ?_)
  refine mv_J.ce (G2 := G) (r := n) (by show some (_, G) = _; rw [if_neg (by omega)]) (mv_J.ce (G2 := G) (r := n) (by show some (_, G) = _; rw [if_neg (by omega)]) ?_)
  obtain ⟨Ga, hGa⟩ : ∃ Ga, Ga = mv_up (mv_up (mv_up (mv_up G 1 0 0 n) 1 0 1 0) 1 0 2 0) 1 0 3 0 := ⟨_, rfl⟩
  rw [← hGa]
  refine mv_J.ce (fx_fill_2 0 Ga) (mv_J.ce (fx_fill_4 (-1) _) (mv_J.ce (fx_fill_6 (-1) _) (mv_J.ce (fx_X5_clear_8 _) (mv_J.ce (fx_X5_clear_14 _) ?_))))
  obtain ⟨Gb, hGb⟩ : ∃ Gb, Gb = mv_up (mv_up (mv_up (mv_up (mv_up (mv_fl (mv_fl (mv_fl Ga 2 60 0) 4 60 (-1)) 6 10 (-1)) 8 0 0 0) 8 0 1 0) 14 0 0 0) 14 0 1 0) 20 0 0 0 := ⟨_, rfl⟩
  rw [← hGb]
  have e0 : Gb 1 = Ga 1 := by rw [hGb, mv_up_k (by decide), mv_up_k (by decide), mv_up_k (by decide), mv_up_k (by decide), mv_up_k (by decide), mv_fl_k (by decide), mv_fl_k (by decide), mv_fl_k (by decide)]
  have e00 : Gb 1 0 0 = n := by rw [e0, hGa, mv_up_j (by decide), mv_up_j (by decide), mv_up_j (by decide), mv_ups_eq]
  have e01 : Gb 1 0 1 = 0 := by rw [e0, hGa, mv_up_j (by decide), mv_up_j (by decide), mv_ups_eq]
  have e02 : Gb 1 0 2 = 0 := by rw [e0, hGa, mv_up_j (by decide), mv_ups_eq]
  have e03 : Gb 1 0 3 = 0 := by rw [e0, hGa, mv_ups_eq]
  have e1 : Gb 2 = mv_fl Ga 2 60 0 2 := by rw [hGb, mv_up_k (by decide), mv_up_k (by decide), mv_up_k (by decide), mv_up_k (by decide), mv_up_k (by decide), mv_fl_k (by decide), mv_fl_k (by decide)]
  have e3 : Gb 4 = mv_fl (mv_fl Ga 2 60 0) 4 60 (-1) 4 := by rw [hGb, mv_up_k (by decide), mv_up_k (by decide), mv_up_k (by decide), mv_up_k (by decide), mv_up_k (by decide), mv_fl_k (by decide)]
  have e5 : Gb 6 = mv_fl (mv_fl (mv_fl Ga 2 60 0) 4 60 (-1)) 6 10 (-1) 6 := by rw [hGb, mv_up_k (by decide), mv_up_k (by decide), mv_up_k (by decide), mv_up_k (by decide), mv_up_k (by decide)]
  have e7 : Gb 8 0 0 = 0 ∧ Gb 8 0 1 = 0 := by
    rw [hGb, mv_up_k (by decide), mv_up_k (by decide), mv_up_k (by decide)]
    exact ⟨by rw [mv_up_j (by decide), mv_ups_eq], mv_ups_eq⟩
  have e13 : Gb 14 0 0 = 0 ∧ Gb 14 0 1 = 0 := by
    rw [hGb, mv_up_k (by decide)]
    exact ⟨by rw [mv_up_j (by decide), mv_ups_eq], mv_ups_eq⟩
  have e19 : Gb 20 0 0 = 0 := by rw [hGb, mv_ups_eq]
  have hcb : mv_ch [3, 2, 4, 6] [(1, 0), (1, 1), (1, 2), (1, 3), (8, 0), (8, 1), (14, 0), (14, 1), (20, 0)] G Gb := by
    have h0 : mv_ch [3, 2, 4, 6] [(1, 0), (1, 1), (1, 2), (1, 3), (8, 0), (8, 1), (14, 0), (14, 1), (20, 0)] G Ga := by
      rw [hGa]
      exact (((mv_ch.rf.up rfl).up rfl).up rfl).up rfl
    rw [hGb]
    refine ((((mv_ch.up (mv_ch.tr h0 ?_) rfl).up rfl).up rfl).up rfl).up rfl
    intro k i j ha hb
    have n1 : k ≠ 2 ∧ k ≠ 4 ∧ k ≠ 6 := by
      refine ⟨?_, ?_, ?_⟩ <;> (rintro rfl; cases ha)
    rw [mv_fl_k n1.2.2, mv_fl_k n1.2.1, mv_fl_k n1.1]
  refine mv_J.cn (fx_X2_findReach Gb (by omega) (by omega)) (fun r G' h => mv_J.ret ?_)
  obtain ⟨-, hc, hR, hO⟩ := h
  rw [e00] at hR hO
  have q1 : ∀ k, k ≠ 3 → G' k = Gb k := fun k hk => hc.cell k (by simp [hk])
  have a1 : Ga 2 = G 2 := by rw [hGa, mv_up_k (by decide), mv_up_k (by decide), mv_up_k (by decide), mv_up_k (by decide)]
  have a3 : Ga 4 = G 4 := by rw [hGa, mv_up_k (by decide), mv_up_k (by decide), mv_up_k (by decide), mv_up_k (by decide)]
  have a5 : Ga 6 = G 6 := by rw [hGa, mv_up_k (by decide), mv_up_k (by decide), mv_up_k (by decide), mv_up_k (by decide)]
  have a2 : Gb 3 = G 3 := by rw [hGb, mv_up_k (by decide), mv_up_k (by decide), mv_up_k (by decide), mv_up_k (by decide), mv_up_k (by decide), mv_fl_k (by decide), mv_fl_k (by decide), mv_fl_k (by decide), hGa, mv_up_k (by decide), mv_up_k (by decide), mv_up_k (by decide), mv_up_k (by decide)]
  have fi : ∀ (G : mv_G) (c N : Nat) (v : Int) (i j : Nat), i ≠ 0 → mv_fl G c N v c i j = G c i j := fun G c N v i j h => if_neg (fun e => h e.2.1)
  rw [q1 1 (by decide), q1 8 (by decide), q1 14 (by decide), q1 20 (by decide), q1 2 (by decide), q1 4 (by decide), q1 6 (by decide)]
  refine ⟨rfl, hcb.tr (hc.mono rfl rfl), ⟨e00, e01, e02, e03, e7.1, e7.2, e13.1, e13.2, e19⟩, fun i hi => ?_, fun i hi => ?_, fun i hi => ?_, fun i hi => ⟨?_, ?_⟩, fun i hi => ?_, fun i j hi => ⟨?_, ?_, ?_⟩, hR, fun i j hij => ?_⟩
  · rw [e1, mv_fl_at, if_pos hi]
  · rw [e3, mv_fl_at, if_pos hi]
  · rw [e5, mv_fl_at, if_pos hi]
  · rw [e1, mv_fl_at, if_neg (by omega), a1]
  · rw [e3, mv_fl_at, if_neg (by omega), mv_fl_k (by decide), a3]
  · rw [e5, mv_fl_at, if_neg (by omega), mv_fl_k (by decide), mv_fl_k (by decide), a5]
  · rw [e1, fi _ _ _ _ _ _ hi, a1]
  · rw [e3, fi _ _ _ _ _ _ hi, mv_fl_k (by decide), a3]
  · rw [e5, fi _ _ _ _ _ _ hi, mv_fl_k (by decide), mv_fl_k (by decide), a5]
  · rw [hO i j hij, a2]
theorem fx_X5_clear_31 (G : mv_G) : ff_X5_clear [.inr (31, 0)] G = some (0, mv_up (mv_up G 31 0 0 0) 31 0 1 0) := mv_Kp.eq (mv_Kp.of (mv_JP.of (rg_X5_clear_0_31 G) (mv_J.ret ⟨rfl, rfl⟩)))
theorem fx_X5_clear_37 (G : mv_G) : ff_X5_clear [.inr (37, 0)] G = some (0, mv_up (mv_up G 37 0 0 0) 37 0 1 0) := mv_Kp.eq (mv_Kp.of (mv_JP.of (rg_X5_clear_0_37 G) (mv_J.ret ⟨rfl, rfl⟩)))
theorem fx_X2_findReach_24 (G : mv_G) (h1 : 1 ≤ G 24 0 0) (h2 : G 24 0 0 ≤ 60) : mv_Kp (ff_X2_findReach [.inr (24, 0)] G) (fun r G' => r = 0 ∧ mv_ch [26] [] G G' ∧ (∀ i : Nat, (i : Int) < G 24 0 0 → mv_Rch (G 25 0) (G 24 0 0) i (G' 26 0 i)) ∧ (∀ i j : Nat, i ≠ 0 ∨ G 24 0 0 ≤ j → G' 26 i j = G 26 i j)) := by
  obtain ⟨L, hL⟩ : ∃ L : Nat, G 24 0 0 = L := ⟨(G 24 0 0).toNat, by omega⟩
  rw [hL] at h1 h2 ⊢
  have key : ∀ (n : Nat) (far : Int) (G1 : mv_G), n ≤ L → mv_ch [26] [] G G1 → (∀ i : Nat, n ≤ i → i < L → mv_Rch (G 25 0) L i (G1 26 0 i)) → (∀ i j : Nat, i ≠ 0 ∨ (L : Int) ≤ j → G1 26 i j = G 26 i j) → ((n : Int) ≤ far ∧ far ≤ L ∧ (∀ r : Nat, n ≤ r → (r : Int) < far → G 25 0 r ≠ 1) ∧ (far = L ∨ G 25 0 far.toNat = 1)) →
      mv_JP mm_X2_findReach (fun r G' => r = 0 ∧ mv_ch [26] [] G G' ∧ (∀ i : Nat, (i : Int) < L → mv_Rch (G 25 0) L i (G' 26 0 i)) ∧ (∀ i j : Nat, i ≠ 0 ∨ (L : Int) ≤ j → G' 26 i j = G 26 i j)) 12 [some (.inr (24, 0)), some (.inl far), some (.inl ((n : Int) - 1))] G1 := by
    intro n
    induction n with
    | zero =>
      intro far G1 hn hc hR hO hf
      exact mv_JP.of (rg_X2_findReach_12_24 _ _ _) (mv_J.t (by omega) (mv_J.ret ⟨rfl, hc, fun i hi => hR i (Nat.zero_le _) (by omega), hO⟩))
    | succ n ih =>
      intro far G1 hn hc hR hO hf
      have e0 : ((n + 1 : Nat) : Int) - 1 = (n : Int) := by omega
      rw [e0]
      have e2 : (mv_up G1 26 0 n far) 25 0 n = G 25 0 n := by rw [mv_up_k (by decide), hc.cell 25 rfl]
      have hc2 : mv_ch [26] [] G (mv_up G1 26 0 n far) := hc.uc rfl
      have hR2 : ∀ i : Nat, n ≤ i → i < L → mv_Rch (G 25 0) L i ((mv_up G1 26 0 n far) 26 0 i) := by
        intro i h3 h4
        rw [mv_up_at]
        split
        · next e => subst e; exact ⟨by omega, hf.2.1, fun r h5 h6 => hf.2.2.1 r (by omega) h6, hf.2.2.2⟩
        · exact hR i (by omega) h4
      have hO2 : ∀ i j : Nat, i ≠ 0 ∨ (L : Int) ≤ j → (mv_up G1 26 0 n far) 26 i j = G 26 i j := by
        intro i j h3
        rw [← hO i j h3]
        exact if_neg (fun e => by omega)
      refine mv_JP.of (rg_X2_findReach_12_24 _ _ _) (mv_J.f (by omega) (mv_J.ck (by omega) (mv_J.ck (by omega) (mv_J.i (fun h => mv_J.cut ?_) (fun h => mv_J.cut ?_)))))
      all_goals
        rw [Int.toNat_natCast] at h
        rw [Int.toNat_natCast, mv_ws (by omega)]
        rw [e2] at h
      · refine ih n _ (by omega) hc2 hR2 hO2 ⟨by omega, by omega, fun r h3 h4 => by omega, Or.inr (by rw [Int.toNat_natCast]; exact h)⟩
      · refine ih far _ (by omega) hc2 hR2 hO2 ⟨by omega, hf.2.1, fun r h3 h4 => ?_, hf.2.2.2⟩
        rcases Nat.lt_or_ge n r with h5 | h5
        · exact hf.2.2.1 r (by omega) h4
        · rw [show r = n by omega]; exact h
  refine mv_Kp.of (mv_JP.of (rg_X2_findReach_0_24 G) (mv_J.cut ?_))
  rw [hL, mv_ws (by omega)]
  exact key L L G (Nat.le_refl _) mv_ch.rf (fun i h3 h4 => by omega) (fun _ _ _ => rfl) ⟨by omega, by omega, fun r h3 h4 => by omega, Or.inl rfl⟩
theorem fx_X2_clear_24 (n : Int) (h1 : 1 ≤ n) (h2 : n ≤ 60) (G : mv_G) : mv_Kp (ff_X2_clear [.inr (24, 0), .inl n] G) (fun r G' => r = 0 ∧ mv_ch [26, 25, 27, 29] [(24, 0), (24, 1), (24, 2), (24, 3), (31, 0), (31, 1), (37, 0), (37, 1), (43, 0)] G G' ∧
    (G' 24 0 0 = n ∧ G' 24 0 1 = 0 ∧ G' 24 0 2 = 0 ∧ G' 24 0 3 = 0 ∧ G' 31 0 0 = 0 ∧ G' 31 0 1 = 0 ∧ G' 37 0 0 = 0 ∧ G' 37 0 1 = 0 ∧ G' 43 0 0 = 0) ∧ (∀ i, i < 60 → G' 25 0 i = 0) ∧ (∀ i, i < 60 → G' 27 0 i = -1) ∧ (∀ i, i < 10 → G' 29 0 i = -1) ∧
    (∀ i, 60 ≤ i → G' 25 0 i = G 25 0 i ∧ G' 27 0 i = G 27 0 i) ∧ (∀ i, 10 ≤ i → G' 29 0 i = G 29 0 i) ∧ (∀ i j : Nat, i ≠ 0 → G' 25 i j = G 25 i j ∧ G' 27 i j = G 27 i j ∧ G' 29 i j = G 29 i j) ∧
    (∀ i : Nat, (i : Int) < n → mv_Rch (G' 25 0) n i (G' 26 0 i)) ∧ (∀ i j : Nat, i ≠ 0 ∨ n ≤ j → G' 26 i j = G 26 i j)) := by
  refine mv_Kp.of (mv_JP.of (rg_X2_clear_0_24 n G) ?_)
  refine mv_J.ce (G2 := G) (r := n) (by show some (_, G) = _; rw [if_neg (by omega)]) (mv_J.ce (G2 := G) (r := n) (by show some (_, G) = _; rw [if_neg (by omega)]) ?_)
  obtain ⟨Ga, hGa⟩ : ∃ Ga, Ga = mv_up (mv_up (mv_up (mv_up G 24 0 0 n) 24 0 1 0) 24 0 2 0) 24 0 3 0 := ⟨_, rfl⟩
  rw [← hGa]
  refine mv_J.ce (fx_fill_25 0 Ga) (mv_J.ce (fx_fill_27 (-1) _) (mv_J.ce (fx_fill_29 (-1) _) (mv_J.ce (fx_X5_clear_31 _) (mv_J.ce (fx_X5_clear_37 _) ?_))))
  obtain ⟨Gb, hGb⟩ : ∃ Gb, Gb = mv_up (mv_up (mv_up (mv_up (mv_up (mv_fl (mv_fl (mv_fl Ga 25 60 0) 27 60 (-1)) 29 10 (-1)) 31 0 0 0) 31 0 1 0) 37 0 0 0) 37 0 1 0) 43 0 0 0 := ⟨_, rfl⟩
  rw [← hGb]
  have e0 : Gb 24 = Ga 24 := by rw [hGb, mv_up_k (by decide), mv_up_k (by decide), mv_up_k (by decide), mv_up_k (by decide), mv_up_k (by decide), mv_fl_k (by decide), mv_fl_k (by decide), mv_fl_k (by decide)]
  have e00 : Gb 24 0 0 = n := by rw [e0, hGa, mv_up_j (by decide), mv_up_j (by decide), mv_up_j (by decide), mv_ups_eq]
  have e01 : Gb 24 0 1 = 0 := by rw [e0, hGa, mv_up_j (by decide), mv_up_j (by decide), mv_ups_eq]
  have e02 : Gb 24 0 2 = 0 := by rw [e0, hGa, mv_up_j (by decide), mv_ups_eq]
  have e03 : Gb 24 0 3 = 0 := by rw [e0, hGa, mv_ups_eq]
  have e1 : Gb 25 = mv_fl Ga 25 60 0 25 := by rw [hGb, mv_up_k (by decide), mv_up_k (by decide), mv_up_k (by decide), mv_up_k (by decide), mv_up_k (by decide), mv_fl_k (by decide), mv_fl_k (by decide)]
  have e3 : Gb 27 = mv_fl (mv_fl Ga 25 60 0) 27 60 (-1) 27 := by rw [hGb, mv_up_k (by decide), mv_up_k (by decide), mv_up_k (by decide), mv_up_k (by decide), mv_up_k (by decide), mv_fl_k (by decide)]
  have e5 : Gb 29 = mv_fl (mv_fl (mv_fl Ga 25 60 0) 27 60 (-1)) 29 10 (-1) 29 := by rw [hGb, mv_up_k (by decide), mv_up_k (by decide), mv_up_k (by decide), mv_up_k (by decide), mv_up_k (by decide)]
  have e7 : Gb 31 0 0 = 0 ∧ Gb 31 0 1 = 0 := by
    rw [hGb, mv_up_k (by decide), mv_up_k (by decide), mv_up_k (by decide)]
    exact ⟨by rw [mv_up_j (by decide), mv_ups_eq], mv_ups_eq⟩
  have e13 : Gb 37 0 0 = 0 ∧ Gb 37 0 1 = 0 := by
    rw [hGb, mv_up_k (by decide)]
    exact ⟨by rw [mv_up_j (by decide), mv_ups_eq], mv_ups_eq⟩
  have e19 : Gb 43 0 0 = 0 := by rw [hGb, mv_ups_eq]
  have hcb : mv_ch [26, 25, 27, 29] [(24, 0), (24, 1), (24, 2), (24, 3), (31, 0), (31, 1), (37, 0), (37, 1), (43, 0)] G Gb := by
    have h0 : mv_ch [26, 25, 27, 29] [(24, 0), (24, 1), (24, 2), (24, 3), (31, 0), (31, 1), (37, 0), (37, 1), (43, 0)] G Ga := by
      rw [hGa]
      exact (((mv_ch.rf.up rfl).up rfl).up rfl).up rfl
    rw [hGb]
    refine ((((mv_ch.up (mv_ch.tr h0 ?_) rfl).up rfl).up rfl).up rfl).up rfl
    intro k i j ha hb
    have n1 : k ≠ 25 ∧ k ≠ 27 ∧ k ≠ 29 := by
      refine ⟨?_, ?_, ?_⟩ <;> (rintro rfl; cases ha)
    rw [mv_fl_k n1.2.2, mv_fl_k n1.2.1, mv_fl_k n1.1]
  refine mv_J.cn (fx_X2_findReach_24 Gb (by omega) (by omega)) (fun r G' h => mv_J.ret ?_)
  obtain ⟨-, hc, hR, hO⟩ := h
  rw [e00] at hR hO
  have q1 : ∀ k, k ≠ 26 → G' k = Gb k := fun k hk => hc.cell k (by simp [hk])
  have a1 : Ga 25 = G 25 := by rw [hGa, mv_up_k (by decide), mv_up_k (by decide), mv_up_k (by decide), mv_up_k (by decide)]
  have a3 : Ga 27 = G 27 := by rw [hGa, mv_up_k (by decide), mv_up_k (by decide), mv_up_k (by decide), mv_up_k (by decide)]
  have a5 : Ga 29 = G 29 := by rw [hGa, mv_up_k (by decide), mv_up_k (by decide), mv_up_k (by decide), mv_up_k (by decide)]
  have a2 : Gb 26 = G 26 := by rw [hGb, mv_up_k (by decide), mv_up_k (by decide), mv_up_k (by decide), mv_up_k (by decide), mv_up_k (by decide), mv_fl_k (by decide), mv_fl_k (by decide), mv_fl_k (by decide), hGa, mv_up_k (by decide), mv_up_k (by decide), mv_up_k (by decide), mv_up_k (by decide)]
  have fi : ∀ (G : mv_G) (c N : Nat) (v : Int) (i j : Nat), i ≠ 0 → mv_fl G c N v c i j = G c i j := fun G c N v i j h => if_neg (fun e => h e.2.1)
  rw [q1 24 (by decide), q1 31 (by decide), q1 37 (by decide), q1 43 (by decide), q1 25 (by decide), q1 27 (by decide), q1 29 (by decide)]
  refine ⟨rfl, hcb.tr (hc.mono rfl rfl), ⟨e00, e01, e02, e03, e7.1, e7.2, e13.1, e13.2, e19⟩, fun i hi => ?_, fun i hi => ?_, fun i hi => ?_, fun i hi => ⟨?_, ?_⟩, fun i hi => ?_, fun i j hi => ⟨?_, ?_, ?_⟩, hR, fun i j hij => ?_⟩
  · rw [e1, mv_fl_at, if_pos hi]
  · rw [e3, mv_fl_at, if_pos hi]
  · rw [e5, mv_fl_at, if_pos hi]
  · rw [e1, mv_fl_at, if_neg (by omega), a1]
  · rw [e3, mv_fl_at, if_neg (by omega), mv_fl_k (by decide), a3]
  · rw [e5, mv_fl_at, if_neg (by omega), mv_fl_k (by decide), mv_fl_k (by decide), a5]
  · rw [e1, fi _ _ _ _ _ _ hi, a1]
  · rw [e3, fi _ _ _ _ _ _ hi, mv_fl_k (by decide), a3]
  · rw [e5, fi _ _ _ _ _ _ hi, mv_fl_k (by decide), mv_fl_k (by decide), a5]
  · rw [hO i j hij, a2]
