/-! Who sits, from the left: a row of entries (at, end, keep, group, who), one put in behind all that are not right of it. -/
def mv_pos (f : Nat → Int) (x : Int) : Nat → Nat
  | 0 => 0
  | n + 1 => if x < f n then mv_pos f x n else n + 1
theorem mv_pos_le {f : Nat → Int} {x : Int} : ∀ n, mv_pos f x n ≤ n
  | 0 => Nat.le_refl _
  | n + 1 => by
    unfold mv_pos
    split
    · exact Nat.le_succ_of_le (mv_pos_le n)
    · exact Nat.le_refl _
theorem mv_pos_eq {f : Nat → Int} {x : Int} {m : Nat} : ∀ n, m ≤ n → (∀ j, m ≤ j → j < n → x < f j) → (m = 0 ∨ ¬ x < f (m - 1)) → mv_pos f x n = m
  | 0, h1, _, _ => by simp only [mv_pos]; omega
  | n + 1, h1, h2, h3 => by
    unfold mv_pos
    by_cases e : m = n + 1
    · subst e
      rw [if_neg]
      rcases h3 with h3 | h3
      · omega
      · exact h3
    · rw [if_pos (h2 n (by omega) (by omega))]
      exact mv_pos_eq n (by omega) (fun j h4 h5 => h2 j h4 (by omega)) h3
theorem mv_pos_lt {f : Nat → Int} {x : Int} : ∀ n j, mv_pos f x n ≤ j → j < n → x < f j
  | 0, j, _, h => by omega
  | n + 1, j, h1, h2 => by
    unfold mv_pos at h1
    split at h1
    · next h =>
      by_cases e : j = n
      · subst e; exact h
      · exact mv_pos_lt n j h1 (by omega)
    · omega
theorem mv_pos_ge {f : Nat → Int} {x : Int} : ∀ n, mv_pos f x n = 0 ∨ f (mv_pos f x n - 1) ≤ x
  | 0 => Or.inl rfl
  | n + 1 => by
    unfold mv_pos
    split
    · exact mv_pos_ge n
    · next h => exact Or.inr (by rw [Nat.add_sub_cancel]; omega)
def mv_ins (n : Nat) (r : mv_a) (e : Nat → Int) : mv_a := fun t i => if i < mv_pos (r 0) (e 0) n then r t i else if i = mv_pos (r 0) (e 0) n then e t else r t (i - 1)
def mv_e5 (a b c d e : Int) : Nat → Int := fun t => match t with | 0 => a | 1 => b | 2 => c | 3 => d | _ => e
theorem mv_t5 {P : Nat → Prop} (h0 : P 0) (h1 : P 1) (h2 : P 2) (h3 : P 3) (h4 : P 4) : ∀ t, t < 5 → P t
  | 0, _ => h0
  | 1, _ => h1
  | 2, _ => h2
  | 3, _ => h3
  | 4, _ => h4
  | t + 5, h => by omega
theorem mv_shs {f g r : Nat → Int} {m n : Nat} (hg : ∀ j, g j = if j = m + 1 then f m else f j) (h : (∀ j, j < m + 1 → f j = r j) ∧ ∀ j, m + 1 < j → j ≤ n → f j = r (j - 1)) : (∀ j, j < m → g j = r j) ∧ ∀ j, m < j → j ≤ n → g j = r (j - 1) := by
  refine ⟨fun j hj => ?_, fun j h1 h2 => ?_⟩
  · rw [hg, if_neg (by omega)]
    exact h.1 j (by omega)
  · rw [hg]
    by_cases e : j = m + 1
    · subst e
      rw [if_pos rfl, Nat.add_sub_cancel]
      exact h.1 m (by omega)
    · rw [if_neg e]
      exact h.2 j (by omega) h2
theorem mv_ins_of {f r : Nat → Int} {n m : Nat} {e : Int} {rr : mv_a} {ee : Nat → Int} {t : Nat} (hm : mv_pos (rr 0) (ee 0) n = m) (hr : rr t = r) (he : ee t = e) (h : (∀ j, j < m → f j = r j) ∧ ∀ j, m < j → j ≤ n → f j = r (j - 1)) : ∀ i, i < n + 1 → (if i = m then e else f i) = mv_ins n rr ee t i := by
  intro i hi
  unfold mv_ins
  rw [hm, hr, he]
  by_cases h1 : i < m
  · rw [if_neg (by omega), if_pos h1]
    exact h.1 i h1
  · by_cases h2 : i = m
    · rw [if_pos h2, if_neg h1, if_pos h2]
    · rw [if_neg h2, if_neg h1, if_neg h2]
      exact h.2 i (by omega) (by omega)
/-- the class's row -/
def mv_cR (G : mv_G) (n : Nat) (r : mv_a) : Prop := G 66 0 0 = n ∧ ∀ t, t < 5 → ∀ i, i < n → G (67 + t) 0 i = r t i
/-- the reference's -/
def mv_mR (G : mv_G) (n : Nat) (r : mv_a) : Prop := G 100 0 46 = n ∧ ∀ t, t < 5 → ∀ i, i < n → G (123 + t) 0 i = r t i
def mv_en (a : mv_a) (p : Nat) : Nat → Int := mv_e5 (a 3 p) (a 3 p + mv_tk a p) (a 5 p) (a 7 p) p
def mv_gat (a : mv_a) (s : Int) : Nat → Nat × mv_a
  | 0 => (0, fun _ _ => 0)
  | p + 1 => if mv_and (mv_shr s p) 1 = 1 ∧ a 3 p ≠ -1 then ((mv_gat a s p).1 + 1, mv_ins (mv_gat a s p).1 (mv_gat a s p).2 (mv_en a p)) else mv_gat a s p
theorem mv_gat_le {a : mv_a} {s : Int} : ∀ p, (mv_gat a s p).1 ≤ p
  | 0 => Nat.le_refl _
  | p + 1 => by
    unfold mv_gat
    split
    · exact Nat.succ_le_succ (mv_gat_le p)
    · exact Nat.le_succ_of_le (mv_gat_le p)
section RC
variable {G : mv_G} {a : mv_a}
/-- one shift of all five -/
theorem mv_sh5c {G : mv_G} {m : Nat} {v0 v1 v2 v3 v4 : Int} (t : Nat) (ht : t < 5) (h0 : v0 = G 67 0 m) (h1 : v1 = G 68 0 m) (h2 : v2 = G 69 0 m) (h3 : v3 = G 70 0 m) (h4 : v4 = G 71 0 m) : ∀ j, (mv_up (mv_up (mv_up (mv_up (mv_up G 67 0 (m + 1) v0) 68 0 (m + 1) v1) 69 0 (m + 1) v2) 70 0 (m + 1) v3) 71 0 (m + 1) v4) (67 + t) 0 j = if j = m + 1 then G (67 + t) 0 m else G (67 + t) 0 j := by
  subst h0 h1 h2 h3 h4
  revert t
  refine mv_t5 ?_ ?_ ?_ ?_ ?_ <;> intro j
  · show mv_up _ 71 0 (m + 1) _ 67 0 j = if j = m + 1 then G 67 0 m else G 67 0 j
    rw [mv_up_k (by decide), mv_up_k (by decide), mv_up_k (by decide), mv_up_k (by decide), mv_up_at]
  · show mv_up _ 71 0 (m + 1) _ 68 0 j = if j = m + 1 then G 68 0 m else G 68 0 j
    rw [mv_up_k (by decide), mv_up_k (by decide), mv_up_k (by decide), mv_up_at, mv_up_k (by decide)]
  · show mv_up _ 71 0 (m + 1) _ 69 0 j = if j = m + 1 then G 69 0 m else G 69 0 j
    rw [mv_up_k (by decide), mv_up_k (by decide), mv_up_at, mv_up_k (by decide), mv_up_k (by decide)]
  · show mv_up _ 71 0 (m + 1) _ 70 0 j = if j = m + 1 then G 70 0 m else G 70 0 j
    rw [mv_up_k (by decide), mv_up_at, mv_up_k (by decide), mv_up_k (by decide), mv_up_k (by decide)]
  · show mv_up _ 71 0 (m + 1) _ 71 0 j = if j = m + 1 then G 71 0 m else G 71 0 j
    rw [mv_up_at, mv_up_k (by decide), mv_up_k (by decide), mv_up_k (by decide), mv_up_k (by decide)]
theorem fx_placeFor {n : Nat} {r : mv_a} (x : Int) (hn : n < 60) (h : mv_cR G n r) : mv_Kp (ff_X9_placeFor [.inr (66, 0), .inl x] G) (fun q G' => q = ((mv_pos (r 0) x n : Nat) : Int) ∧ mv_ch [67, 68, 69, 70, 71] [(66, 0)] G G' ∧ G' 66 0 0 = n + 1 ∧
    ∀ t, t < 5 → (∀ j, j < mv_pos (r 0) x n → G' (67 + t) 0 j = r t j) ∧ ∀ j, mv_pos (r 0) x n < j → j ≤ n → G' (67 + t) 0 j = r t (j - 1)) := by
  obtain ⟨P, hP⟩ : ∃ P : Int → mv_G → Prop, P = (fun q G' => q = ((mv_pos (r 0) x n : Nat) : Int) ∧ mv_ch [67, 68, 69, 70, 71] [(66, 0)] G G' ∧ G' 66 0 0 = n + 1 ∧
    ∀ t, t < 5 → (∀ j, j < mv_pos (r 0) x n → G' (67 + t) 0 j = r t j) ∧ ∀ j, mv_pos (r 0) x n < j → j ≤ n → G' (67 + t) 0 j = r t (j - 1)) := ⟨_, rfl⟩
  rw [← hP]
  have key : ∀ (m : Nat) (G1 : mv_G), m ≤ n → mv_ch [67, 68, 69, 70, 71] [(66, 0)] G G1 → G1 66 0 0 = n → (∀ j, m ≤ j → j < n → x < r 0 j) → (∀ t, t < 5 → (∀ j, j < m → G1 (67 + t) 0 j = r t j) ∧ ∀ j, m < j → j ≤ n → G1 (67 + t) 0 j = r t (j - 1)) → mv_JP mm_X9_placeFor P 16 [some (.inr (66, 0)), some (.inl x), some (.inl (m : Int))] G1 := by
    intro m
    induction m with
    | zero =>
      intro G1 hm hc hs hx ht
      refine mv_JP.of (rg_X9_placeFor_16 x _ G1) (mv_J.f (by omega) (mv_J.ret ?_))
      have hp := mv_pos_eq (f := r 0) (x := x) (m := 0) n hm hx (Or.inl rfl)
      rw [hP, hp]
      rw [hs, mv_ws (by omega)]
      exact ⟨rfl, hc.up rfl, mv_ups_eq, fun t h1 => by
        have h2 := ht t h1
        rw [mv_up_k (by omega)]
        exact h2⟩
    | succ m ih =>
      intro G1 hm hc hs hx ht
      refine mv_JP.of (rg_X9_placeFor_16 x _ G1) ?_
      have e1 : mv_w (((m + 1 : Nat) : Int) - 1) = (m : Int) := by rw [mv_ws (by omega)]; omega
      have e2 : mv_w (((m + 1 : Nat) : Int) + (-1)) = (m : Int) := by rw [mv_ws (by omega)]; omega
      rw [e1, e2, Int.toNat_natCast, Int.toNat_natCast]
      clear e1 e2
      have e0 : G1 67 0 m = r 0 m := (ht 0 (by decide)).1 m (by omega)
      refine mv_J.t (by omega) (mv_J.ck (by omega) (mv_J.i (fun h1 => ?_) (fun h1 => mv_J.ret ?_)))
      · rw [e0] at h1
        refine mv_J.ck (by omega) (mv_J.ck (by omega) (mv_J.ck (by omega) (mv_J.ck (by omega) (mv_J.ck (by omega) (mv_J.ck (by omega) (mv_J.ck (by omega) (mv_J.ck (by omega) (mv_J.ck (by omega) (mv_J.ck (by omega) (mv_J.cut ?_))))))))))
        refine ih _ (by omega) (((((hc.uc rfl).uc rfl).uc rfl).uc rfl).uc rfl) ?_ (fun j h2 h3 => ?_) (fun t h2 => mv_shs (mv_sh5c t h2 rfl ?_ ?_ ?_ ?_) (ht t h2))
        · rw [mv_up_k (by decide), mv_up_k (by decide), mv_up_k (by decide), mv_up_k (by decide), mv_up_k (by decide)]
          exact hs
        · by_cases e : j = m
          · subst e; exact h1
          · exact hx j (by omega) h3
        · rw [mv_up_k (by decide)]
        · rw [mv_up_k (by decide), mv_up_k (by decide)]
        · rw [mv_up_k (by decide), mv_up_k (by decide), mv_up_k (by decide)]
        · rw [mv_up_k (by decide), mv_up_k (by decide), mv_up_k (by decide), mv_up_k (by decide)]
      · rw [e0] at h1
        have hp := mv_pos_eq (f := r 0) (x := x) (m := m + 1) n hm hx (Or.inr (by rw [Nat.add_sub_cancel]; exact h1))
        rw [hP, hp, hs, mv_ws (by omega)]
        exact ⟨rfl, hc.up rfl, mv_ups_eq, fun t h1 => by
          have h2 := ht t h1
          rw [mv_up_k (by omega)]
          exact h2⟩
  refine mv_Kp.of (mv_JP.of (rg_X9_placeFor_0 x G) ?_)
  rw [h.1]
  exact mv_J.t (by omega) (mv_J.cut (key n G (Nat.le_refl _) mv_ch.rf h.1 (fun j h1 h2 => by omega) (fun t h1 => ⟨h.2 t h1, fun j h2 h3 => by omega⟩)))
theorem mv_cR_ins {G0 : mv_G} {n m : Nat} {r : mv_a} {e : Nat → Int} (hm : mv_pos (r 0) (e 0) n = m) (hs : G0 66 0 0 = n + 1) (ht : ∀ t, t < 5 → (∀ j, j < m → G0 (67 + t) 0 j = r t j) ∧ ∀ j, m < j → j ≤ n → G0 (67 + t) 0 j = r t (j - 1)) {v0 v1 v2 v3 v4 : Int} (h0 : v0 = e 0) (h1 : v1 = e 1) (h2 : v2 = e 2) (h3 : v3 = e 3) (h4 : v4 = e 4) :
    mv_cR (mv_up (mv_up (mv_up (mv_up (mv_up G0 67 0 m v0) 68 0 m v1) 69 0 m v2) 70 0 m v3) 71 0 m v4) (n + 1) (mv_ins n r e) := by
  subst h0 h1 h2 h3 h4
  refine ⟨?_, ?_⟩
  · rw [mv_up_k (by decide), mv_up_k (by decide), mv_up_k (by decide), mv_up_k (by decide), mv_up_k (by decide), hs]
    omega
  refine mv_t5 ?_ ?_ ?_ ?_ ?_ <;> intro i hi
  · show mv_up _ 71 0 m _ 67 0 i = _
    rw [mv_up_k (by decide), mv_up_k (by decide), mv_up_k (by decide), mv_up_k (by decide), mv_up_at]
    exact mv_ins_of hm rfl rfl (ht 0 (by decide)) i hi
  · show mv_up _ 71 0 m _ 68 0 i = _
    rw [mv_up_k (by decide), mv_up_k (by decide), mv_up_k (by decide), mv_up_at, mv_up_k (by decide)]
    exact mv_ins_of hm rfl rfl (ht 1 (by decide)) i hi
  · show mv_up _ 71 0 m _ 69 0 i = _
    rw [mv_up_k (by decide), mv_up_k (by decide), mv_up_at, mv_up_k (by decide), mv_up_k (by decide)]
    exact mv_ins_of hm rfl rfl (ht 2 (by decide)) i hi
  · show mv_up _ 71 0 m _ 70 0 i = _
    rw [mv_up_k (by decide), mv_up_at, mv_up_k (by decide), mv_up_k (by decide), mv_up_k (by decide)]
    exact mv_ins_of hm rfl rfl (ht 3 (by decide)) i hi
  · show mv_up _ 71 0 m _ 71 0 i = _
    rw [mv_up_at, mv_up_k (by decide), mv_up_k (by decide), mv_up_k (by decide), mv_up_k (by decide)]
    exact mv_ins_of hm rfl rfl (ht 4 (by decide)) i hi
/-- cells of the class's row may change, and the bench stays -/
theorem mv_cB.ch {S : List Nat} {T : List (Nat × Nat)} {G2 : mv_G} (h : mv_cB G a) (hc : mv_ch S T G G2) (hS : ([1, 2, 3, 4, 5, 6].any fun k => S.contains k || T.any fun q => q.1 == k) = false) : mv_cB G2 a := by
  have hk : ∀ k, k ∈ [1, 2, 3, 4, 5, 6] → G2 k = G k := fun k hk => hc.cell k (Bool.eq_false_iff.mpr (List.any_eq_false.mp hS k hk))
  unfold mv_cB
  rw [hk 1 (by decide), hk 2 (by decide), hk 3 (by decide), hk 4 (by decide), hk 5 (by decide), hk 6 (by decide)]
  exact h
set_option maxHeartbeats 1000000 in
theorem fx_gather (h : mv_cB G a) (hi : mv_iB a) (s : Int) : mv_Kp (ff_X9_gather [.inr (66, 0), .inr (1, 0), .inl s] G) (fun _ G' => mv_cR G' (mv_gat a s (a 0 1).toNat).1 (mv_gat a s (a 0 1).toNat).2 ∧ mv_ch [67, 68, 69, 70, 71] [(66, 0)] G G') := by
  have b := hi.1
  obtain ⟨P, hP⟩ : ∃ P : Int → mv_G → Prop, P = (fun _ G' => mv_cR G' (mv_gat a s (a 0 1).toNat).1 (mv_gat a s (a 0 1).toNat).2 ∧ mv_ch [67, 68, 69, 70, 71] [(66, 0)] G G') := ⟨_, rfl⟩
  rw [← hP]
  have key : ∀ (n p : Nat) (G1 : mv_G), p + n = (a 0 1).toNat → mv_ch [67, 68, 69, 70, 71] [(66, 0)] G G1 → mv_cR G1 (mv_gat a s p).1 (mv_gat a s p).2 → mv_JP mm_X9_gather P 7 [some (.inr (66, 0)), some (.inr (1, 0)), some (.inl s), some (.inl (p : Int)), none] G1 := by
    intro n
    induction n with
    | zero =>
      intro p G1 hp hc hr
      refine mv_JP.of (rg_X9_gather_7 s p G1) ?_
      have h1 : mv_cB G1 a := h.ch hc (by decide)
      rw [h1.1.2.1]
      refine mv_J.f (by omega) (mv_J.ret ?_)
      rw [hP, show (a 0 1).toNat = p by omega]
      exact ⟨hr, hc⟩
    | succ n ih =>
      intro p G1 hp hc hr
      refine mv_JP.of (rg_X9_gather_7 s p G1) ?_
      have h1 : mv_cB G1 a := h.ch hc (by decide)
      have e3 := h1.2.2.2.1
      rw [h1.1.2.1]
      have sp := hi.2.2.2.1 p (by omega)
      have tp := hi.2.2.2.2.1 p (by omega)
      have e1 : mv_w ((p : Int) + 1) = ((p + 1 : Nat) : Int) := by rw [mv_ws (by omega)]; omega
      rw [e1]
      clear e1
      refine mv_J.t (by omega) (mv_J.ce (fx_isSeated h1 hi p) (mv_J.bt (fun h2 => mv_J.cut (ih _ _ (by omega) hc ?_)) (fun h2 => mv_J.i (fun h3 => ?_) (fun h3 => mv_J.cut (ih _ _ (by omega) hc ?_)))))
      · rw [Int.toNat_natCast] at h2
        unfold mv_gat
        rw [if_neg (fun h4 => h2 ⟨by omega, by omega, h4.2⟩)]
        exact hr
      · rw [Int.toNat_natCast] at h2
        have hle := mv_gat_le (a := a) (s := s) p
        rw [e3, Int.toNat_natCast]
        refine mv_J.ck (by omega) (mv_J.cn (fx_placeFor _ (by omega) hr) (fun q G2 h4 => ?_))
        obtain ⟨rfl, hc2, hs2, ht2⟩ := h4
        have hc3 := hc.tr hc2
        have h5 : mv_cB G2 a := h.ch hc3 (by decide)
        have hpl := mv_pos_le (f := (mv_gat a s p).2 0) (x := a 3 p) (mv_gat a s p).1
        generalize hm : mv_pos ((mv_gat a s p).2 0) (a 3 p) (mv_gat a s p).1 = m at hpl ht2 ⊢
        rw [h5.2.2.2.1, Int.toNat_natCast]
        have h6 : mv_cB (mv_up G2 67 0 m (a 3 p)) a := h5.ch (S := [67]) (T := []) (mv_ch.rf.uc rfl) (by decide)
        refine mv_J.f (by omega) (mv_J.ck (by omega) (mv_J.ck (by omega) (mv_J.ck (by omega) (mv_J.ce (fx_takes h6 hi p (by omega)) (mv_J.ck (by omega) (mv_J.ck (by omega) (mv_J.ck (by omega) (mv_J.ck (by omega) (mv_J.ck (by omega) (mv_J.ck (by omega) (mv_J.ck (by omega) (mv_J.ck (by omega) (mv_J.cut ?_)))))))))))))
        refine ih _ _ (by omega) (((((hc3.uc rfl).uc rfl).uc rfl).uc rfl).uc rfl) ?_
        unfold mv_gat
        rw [if_pos ⟨h3, h2.2.2⟩]
        have ek : mv_tk a p = a 4 p + a 6 p := rfl
        refine mv_cR_ins (e := mv_en a p) hm hs2 ht2 rfl ?_ ?_ ?_ rfl
        · rw [h6.2.2.2.1, mv_ws (by omega)]
          rfl
        · rw [mv_up_k (by decide), h6.2.2.2.2.2.1]
          rfl
        · rw [mv_up_k (by decide), mv_up_k (by decide), h6.2.2.2.2.2.2.2.1]
          rfl
      · unfold mv_gat
        rw [if_neg (fun h4 => h3 h4.1)]
        exact hr
  refine mv_Kp.of (mv_JP.of (rg_X9_gather_0 s G) (mv_J.cut ?_))
  exact key (a 0 1).toNat 0 _ (by omega) (mv_ch.rf.up rfl) ⟨mv_ups_eq, fun t _ i hi => by cases hi⟩
theorem fx_seatAsker {n : Nat} {r : mv_a} (x : Int) (hn : n < 60) (h : mv_cR G n r) (hb : 0 ≤ x ∧ x ≤ 60 ∧ 0 ≤ G 66 0 6 ∧ G 66 0 6 ≤ 60 ∧ 0 ≤ G 66 0 8 ∧ G 66 0 8 ≤ 60) : mv_Kp (ff_X9_seatAsker [.inr (66, 0), .inl x] G) (fun _ G' => mv_cR G' (n + 1) (mv_ins n r (mv_e5 x (x + G 66 0 6 + G 66 0 8) (G 66 0 7) (G 66 0 9) (-1))) ∧ mv_ch [67, 68, 69, 70, 71] [(66, 0)] G G') := by
  refine mv_Kp.of (mv_JP.of (rg_X9_seatAsker_0 x G) (mv_J.cn (fx_placeFor x hn h) (fun q G2 h4 => ?_)))
  obtain ⟨rfl, hc2, hs2, ht2⟩ := h4
  have hpl := mv_pos_le (f := r 0) (x := x) n
  generalize hm : mv_pos (r 0) x n = m at hpl ht2 ⊢
  rw [Int.toNat_natCast]
  refine mv_J.f (by omega) (mv_J.ck (by omega) (mv_J.ck (by omega) (mv_J.ck (by omega) (mv_J.ck (by omega) (mv_J.ck (by omega) (mv_J.ret ?_))))))
  have e6 := hc2.slot 66 6 rfl (i := 0)
  have e7 := hc2.slot 66 7 rfl (i := 0)
  have e8 := hc2.slot 66 8 rfl (i := 0)
  have e9 := hc2.slot 66 9 rfl (i := 0)
  refine ⟨mv_cR_ins (e := mv_e5 x (x + G 66 0 6 + G 66 0 8) (G 66 0 7) (G 66 0 9) (-1)) hm hs2 ht2 rfl ?_ ?_ ?_ rfl, ((((hc2.uc rfl).uc rfl).uc rfl).uc rfl).uc rfl⟩
  · rw [mv_up_k (by decide), e6, e8, mv_ws (x := x + G 66 0 6) (by omega), mv_ws (by omega)]
    rfl
  · rw [mv_up_k (by decide), mv_up_k (by decide), e7]
    rfl
  · rw [mv_up_k (by decide), mv_up_k (by decide), mv_up_k (by decide), e9]
    rfl
end RC
section RM
variable {G : mv_G} {a : mv_a}
/-- one shift of all five -/
theorem mv_sh5m {G : mv_G} {m : Nat} {v0 v1 v2 v3 v4 : Int} (t : Nat) (ht : t < 5) (h0 : v0 = G 123 0 m) (h1 : v1 = G 124 0 m) (h2 : v2 = G 125 0 m) (h3 : v3 = G 126 0 m) (h4 : v4 = G 127 0 m) : ∀ j, (mv_up (mv_up (mv_up (mv_up (mv_up G 123 0 (m + 1) v0) 124 0 (m + 1) v1) 125 0 (m + 1) v2) 126 0 (m + 1) v3) 127 0 (m + 1) v4) (123 + t) 0 j = if j = m + 1 then G (123 + t) 0 m else G (123 + t) 0 j := by
  subst h0 h1 h2 h3 h4
  revert t
  refine mv_t5 ?_ ?_ ?_ ?_ ?_ <;> intro j
  · show mv_up _ 127 0 (m + 1) _ 123 0 j = if j = m + 1 then G 123 0 m else G 123 0 j
    rw [mv_up_k (by decide), mv_up_k (by decide), mv_up_k (by decide), mv_up_k (by decide), mv_up_at]
  · show mv_up _ 127 0 (m + 1) _ 124 0 j = if j = m + 1 then G 124 0 m else G 124 0 j
    rw [mv_up_k (by decide), mv_up_k (by decide), mv_up_k (by decide), mv_up_at, mv_up_k (by decide)]
  · show mv_up _ 127 0 (m + 1) _ 125 0 j = if j = m + 1 then G 125 0 m else G 125 0 j
    rw [mv_up_k (by decide), mv_up_k (by decide), mv_up_at, mv_up_k (by decide), mv_up_k (by decide)]
  · show mv_up _ 127 0 (m + 1) _ 126 0 j = if j = m + 1 then G 126 0 m else G 126 0 j
    rw [mv_up_k (by decide), mv_up_at, mv_up_k (by decide), mv_up_k (by decide), mv_up_k (by decide)]
  · show mv_up _ 127 0 (m + 1) _ 127 0 j = if j = m + 1 then G 127 0 m else G 127 0 j
    rw [mv_up_at, mv_up_k (by decide), mv_up_k (by decide), mv_up_k (by decide), mv_up_k (by decide)]

theorem mv_mR_ins {v0 v1 v2 v3 v4 v5 : Int} {G0 : mv_G} {n m : Nat} {r : mv_a} {e : Nat → Int} (hm : mv_pos (r 0) (e 0) n = m) (hs : v5 = n + 1) (ht : ∀ t, t < 5 → (∀ j, j < m → G0 (123 + t) 0 j = r t j) ∧ ∀ j, m < j → j ≤ n → G0 (123 + t) 0 j = r t (j - 1)) (h0 : v0 = e 0) (h1 : v1 = e 1) (h2 : v2 = e 2) (h3 : v3 = e 3) (h4 : v4 = e 4) :
    mv_mR (mv_up (mv_up (mv_up (mv_up (mv_up (mv_up G0 123 0 m v0) 124 0 m v1) 125 0 m v2) 126 0 m v3) 127 0 m v4) 100 0 46 v5) (n + 1) (mv_ins n r e) := by
  subst h0 h1 h2 h3 h4
  refine ⟨?_, ?_⟩
  · rw [mv_ups_eq, hs]
    omega
  refine mv_t5 ?_ ?_ ?_ ?_ ?_ <;> intro i hi
  · show mv_up _ 100 0 46 _ 123 0 i = _
    rw [mv_up_k (by decide), mv_up_k (by decide), mv_up_k (by decide), mv_up_k (by decide), mv_up_k (by decide), mv_up_at]
    exact mv_ins_of hm rfl rfl (ht 0 (by decide)) i hi
  · show mv_up _ 100 0 46 _ 124 0 i = _
    rw [mv_up_k (by decide), mv_up_k (by decide), mv_up_k (by decide), mv_up_k (by decide), mv_up_at, mv_up_k (by decide)]
    exact mv_ins_of hm rfl rfl (ht 1 (by decide)) i hi
  · show mv_up _ 100 0 46 _ 125 0 i = _
    rw [mv_up_k (by decide), mv_up_k (by decide), mv_up_k (by decide), mv_up_at, mv_up_k (by decide), mv_up_k (by decide)]
    exact mv_ins_of hm rfl rfl (ht 2 (by decide)) i hi
  · show mv_up _ 100 0 46 _ 126 0 i = _
    rw [mv_up_k (by decide), mv_up_k (by decide), mv_up_at, mv_up_k (by decide), mv_up_k (by decide), mv_up_k (by decide)]
    exact mv_ins_of hm rfl rfl (ht 3 (by decide)) i hi
  · show mv_up _ 100 0 46 _ 127 0 i = _
    rw [mv_up_k (by decide), mv_up_at, mv_up_k (by decide), mv_up_k (by decide), mv_up_k (by decide), mv_up_k (by decide)]
    exact mv_ins_of hm rfl rfl (ht 4 (by decide)) i hi
theorem gx_seats {n : Nat} {r : mv_a} (w x b k g : Int) (hn : n < 64) (h : mv_mR G n r) : mv_Kp (ff_X12_seats [.inr (100, 0), .inl w, .inl x, .inl b, .inl k, .inl g] G) (fun _ G' => mv_mR G' (n + 1) (mv_ins n r (mv_e5 x b k g w)) ∧ mv_ch [123, 124, 125, 126, 127] [(100, 46)] G G') := by
  obtain ⟨P, hP⟩ : ∃ P : Int → mv_G → Prop, P = (fun _ G' => mv_mR G' (n + 1) (mv_ins n r (mv_e5 x b k g w)) ∧ mv_ch [123, 124, 125, 126, 127] [(100, 46)] G G') := ⟨_, rfl⟩
  rw [← hP]
  have key : ∀ (m : Nat) (G1 : mv_G), m ≤ n → mv_ch [123, 124, 125, 126, 127] [(100, 46)] G G1 → G1 100 0 46 = n → (∀ j, m ≤ j → j < n → x < r 0 j) → (∀ t, t < 5 → (∀ j, j < m → G1 (123 + t) 0 j = r t j) ∧ ∀ j, m < j → j ≤ n → G1 (123 + t) 0 j = r t (j - 1)) → mv_JP mm_X12_seats P 6 [some (.inr (100, 0)), some (.inl w), some (.inl x), some (.inl b), some (.inl k), some (.inl g), some (.inl (m : Int))] G1 := by
    intro m
    induction m with
    | zero =>
      intro G1 hm hc hs hx ht
      refine mv_JP.of (rg_X12_seats_6 w x b k g _ G1) (mv_J.f (by omega) (mv_J.ck (by omega) (mv_J.ck (by omega) (mv_J.ck (by omega) (mv_J.ck (by omega) (mv_J.ck (by omega) (mv_J.ret ?_)))))))
      have hp := mv_pos_eq (f := r 0) (x := x) (m := 0) n hm hx (Or.inl rfl)
      rw [hP]
      exact ⟨mv_mR_ins (e := mv_e5 x b k g w) (m := 0) hp (by rw [mv_up_k (by decide), mv_up_k (by decide), mv_up_k (by decide), mv_up_k (by decide), mv_up_k (by decide), hs, mv_ws (by omega)]) ht rfl rfl rfl rfl rfl, (((((hc.uc rfl).uc rfl).uc rfl).uc rfl).uc rfl).up rfl⟩
    | succ m ih =>
      intro G1 hm hc hs hx ht
      refine mv_JP.of (rg_X12_seats_6 w x b k g _ G1) ?_
      have e1 : mv_w (((m + 1 : Nat) : Int) - 1) = (m : Int) := by rw [mv_ws (by omega)]; omega
      rw [e1, Int.toNat_natCast, Int.toNat_natCast]
      clear e1
      have e0 : G1 123 0 m = r 0 m := (ht 0 (by decide)).1 m (by omega)
      refine mv_J.t (by omega) (mv_J.ck (by omega) (mv_J.i (fun h1 => ?_) (fun h1 => mv_J.ck (by omega) (mv_J.ck (by omega) (mv_J.ck (by omega) (mv_J.ck (by omega) (mv_J.ck (by omega) (mv_J.ret ?_))))))))
      · rw [e0] at h1
        refine mv_J.ck (by omega) (mv_J.ck (by omega) (mv_J.ck (by omega) (mv_J.ck (by omega) (mv_J.ck (by omega) (mv_J.ck (by omega) (mv_J.ck (by omega) (mv_J.ck (by omega) (mv_J.ck (by omega) (mv_J.ck (by omega) (mv_J.cut ?_))))))))))
        refine ih _ (by omega) (((((hc.uc rfl).uc rfl).uc rfl).uc rfl).uc rfl) ?_ (fun j h2 h3 => ?_) (fun t h2 => mv_shs (mv_sh5m t h2 rfl ?_ ?_ ?_ ?_) (ht t h2))
        · rw [mv_up_k (by decide), mv_up_k (by decide), mv_up_k (by decide), mv_up_k (by decide), mv_up_k (by decide)]
          exact hs
        · by_cases e : j = m
          · subst e; exact h1
          · exact hx j (by omega) h3
        · rw [mv_up_k (by decide)]
        · rw [mv_up_k (by decide), mv_up_k (by decide)]
        · rw [mv_up_k (by decide), mv_up_k (by decide), mv_up_k (by decide)]
        · rw [mv_up_k (by decide), mv_up_k (by decide), mv_up_k (by decide), mv_up_k (by decide)]
      · rw [e0] at h1
        have hp := mv_pos_eq (f := r 0) (x := x) (m := m + 1) n hm hx (Or.inr (by rw [Nat.add_sub_cancel]; exact h1))
        rw [hP]
        exact ⟨mv_mR_ins (e := mv_e5 x b k g w) (m := m + 1) hp (by rw [mv_up_k (by decide), mv_up_k (by decide), mv_up_k (by decide), mv_up_k (by decide), mv_up_k (by decide), hs, mv_ws (by omega)]) ht rfl rfl rfl rfl rfl, (((((hc.uc rfl).uc rfl).uc rfl).uc rfl).uc rfl).up rfl⟩
  refine mv_Kp.of (mv_JP.of (rg_X12_seats_0 w x b k g G) (mv_J.cut ?_))
  rw [h.1]
  exact key n G (Nat.le_refl _) mv_ch.rf h.1 (fun j h1 h2 => by omega) (fun t h1 => ⟨h.2 t h1, fun j h2 h3 => by omega⟩)
theorem mv_mB.ch {S : List Nat} {T : List (Nat × Nat)} {G2 : mv_G} (h : mv_mB G a) (hc : mv_ch S T G G2) (hS : ([101, 104, 105, 106, 107, 108, 109].any fun k => S.contains k || T.any fun q => q.1 == k) = false) (h6 : (S.contains 100 || T.contains (100, 6)) = false) (h8 : (S.contains 100 || T.contains (100, 8)) = false) : mv_mB G2 a := by
  have hk : ∀ k, k ∈ [101, 104, 105, 106, 107, 108, 109] → G2 k = G k := fun k hk => hc.cell k (Bool.eq_false_iff.mpr (List.any_eq_false.mp hS k hk))
  unfold mv_mB
  rw [hk 101 (by decide), hk 104 (by decide), hk 105 (by decide), hk 106 (by decide), hk 107 (by decide), hk 108 (by decide), hk 109 (by decide), hc.slot 100 6 h6, hc.slot 100 8 h8]
  exact h
theorem gx_lists (h : mv_mB G a) (hi : mv_iB a) (s : Int) : mv_Kp (ff_X12_lists [.inr (100, 0), .inl s] G) (fun _ G' => mv_mR G' (mv_gat a s (a 0 1).toNat).1 (mv_gat a s (a 0 1).toNat).2 ∧ mv_ch [123, 124, 125, 126, 127] [(100, 46)] G G') := by
  have b := hi.1
  obtain ⟨P, hP⟩ : ∃ P : Int → mv_G → Prop, P = (fun _ G' => mv_mR G' (mv_gat a s (a 0 1).toNat).1 (mv_gat a s (a 0 1).toNat).2 ∧ mv_ch [123, 124, 125, 126, 127] [(100, 46)] G G') := ⟨_, rfl⟩
  rw [← hP]
  have key : ∀ (n p : Nat) (G1 : mv_G), p + n = (a 0 1).toNat → mv_ch [123, 124, 125, 126, 127] [(100, 46)] G G1 → mv_mR G1 (mv_gat a s p).1 (mv_gat a s p).2 → mv_JP mm_X12_lists P 7 [some (.inr (100, 0)), some (.inl s), some (.inl (p : Int))] G1 := by
    intro n
    induction n with
    | zero =>
      intro p G1 hp hc hr
      refine mv_JP.of (rg_X12_lists_7 s p G1) ?_
      have h1 : mv_mB G1 a := h.ch hc (by decide) rfl rfl
      rw [h1.1.2.1]
      refine mv_J.f (by omega) (mv_J.ret ?_)
      rw [hP, show (a 0 1).toNat = p by omega]
      exact ⟨hr, hc⟩
    | succ n ih =>
      intro p G1 hp hc hr
      refine mv_JP.of (rg_X12_lists_7 s p G1) ?_
      have h1 : mv_mB G1 a := h.ch hc (by decide) rfl rfl
      rw [h1.1.2.1]
      have sp := hi.2.2.2.1 p (by omega)
      have tp := hi.2.2.2.2.1 p (by omega)
      have e1 : mv_w ((p : Int) + 1) = ((p + 1 : Nat) : Int) := by rw [mv_ws (by omega)]; omega
      rw [e1]
      clear e1
      have ek : mv_tk a p = a 4 p + a 6 p := rfl
      refine mv_J.t (by omega) (mv_J.i (fun h3 => mv_J.ce (gx_sits h1 hi p (by omega)) (mv_J.bt (fun h2 => mv_J.cut (ih _ _ (by omega) hc ?_)) (fun h2 => ?_))) (fun h3 => mv_J.cut (ih _ _ (by omega) hc ?_)))
      · unfold mv_gat
        rw [if_neg (fun h4 => h2 h4.2)]
        exact hr
      · have hle := mv_gat_le (a := a) (s := s) p
        refine mv_J.ce (gx_inchOf h1 hi p (by omega)) (mv_J.ce (gx_inchOf h1 hi p (by omega)) (mv_J.ce (gx_takesOf h1 hi p (by omega)) (mv_J.ck (by omega) (mv_J.ck (by omega) ?_))))
        rw [Int.toNat_natCast, h1.2.2.2.2.2.1 p (by omega), h1.2.2.2.2.2.2.2.1 p (by omega), mv_ws (x := a 3 p + mv_tk a p) (by omega)]
        refine mv_J.cn (gx_seats _ _ _ _ _ (by omega) hr) (fun q G2 h4 => mv_J.cut (ih _ _ (by omega) (hc.tr h4.2) ?_))
        unfold mv_gat
        rw [if_pos ⟨h3, h2⟩]
        exact h4.1
      · unfold mv_gat
        rw [if_neg (fun h4 => h3 h4.1)]
        exact hr
  refine mv_Kp.of (mv_JP.of (rg_X12_lists_0 s G) (mv_J.cut ?_))
  exact key (a 0 1).toNat 0 _ (by omega) (mv_ch.rf.up rfl) ⟨mv_ups_eq, fun t _ i hi => by cases hi⟩
end RM
