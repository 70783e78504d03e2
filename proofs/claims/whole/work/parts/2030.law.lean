/-! Laws: what items of a line come to, on a stack of numbers; both sides run it alike. -/
def mv_opk (x : Int) : Int := if x < 10000 then 0 else if x < 20000 then 1 else if x = 30043 then 2 else if x = 30045 then 3 else if x = 30042 then 4 else if x = 30047 then 5 else if x = 30060 then 6 else if x = 30061 then 7 else if x = 30062 then 8 else if x = 20005 then 9 else if x = 20004 then 10 else 11
def mv_ark (x : Int) : Int := if x < 10000 then x else if x < 20000 then x - 10000 else 0
def mv_jn (i x y : Int) : Int := if i = 30043 then mv_w (x + y) else if i = 30045 then mv_w (x - y) else if i = 30042 then mv_w (x * y) else if i = 30047 then mv_w (Int.tdiv x y) else if i = 30060 then (if x < y then 1 else 0) else if i = 30061 then (if x = y then 1 else 0) else if i = 30062 then (if y < x then 1 else 0) else if i = 20004 then (if x = 1 ∧ y = 1 then 1 else 0) else (if x = 1 ∨ y = 1 then 1 else 0)
def mv_sp (s : Nat → Int) (n : Nat) (v : Int) : Nat → Int := fun j => if j = n then v else s j
def mv_x1 (i : Int) (tm : Nat → Int) (x : Nat × (Nat → Int)) : Nat × (Nat → Int) :=
  if i < 20000 then (x.1 + 1, mv_sp x.2 x.1 (if i < 10000 then i else tm (i - 10000).toNat))
  else if i = 20005 then (x.1, mv_sp x.2 (x.1 - 1) (mv_w (1 - x.2 (x.1 - 1))))
  else (x.1 - 1, mv_sp x.2 (x.1 - 2) (mv_jn i (x.2 (x.1 - 2)) (x.2 (x.1 - 1))))
def mv_ex (code tm : Nat → Int) : Nat → Nat → Nat × (Nat → Int) → Nat × (Nat → Int)
  | 0, _, x => x
  | k + 1, c, x => mv_ex code tm k (c + 1) (mv_x1 (code c) tm x)
/-- what items first .. behind - 1 come to -/
def mv_vl (code tm : Nat → Int) (first behind : Nat) : Int := (mv_ex code tm (behind - first) first (0, fun _ => 0)).2 0
/-- which places of the stack hold truth values -/
def mv_t1 (q : Nat → Bool) (i prev : Int) (n : Nat) (ty : Nat → Bool) : Option (Nat × (Nat → Bool)) :=
  if 0 ≤ i ∧ i < 10012 ∧ (i < 10000 ∨ q (i - 10000).toNat = true) then (if n < 40 then some (n + 1, fun j => if j = n then false else ty j) else none)
  else if i = 20005 then (if 0 < n ∧ ty (n - 1) = true then some (n, ty) else none)
  else if i = 20003 ∨ i = 20004 then (if 1 < n ∧ ty (n - 2) = true ∧ ty (n - 1) = true then some (n - 1, ty) else none)
  else if i = 30060 ∨ i = 30061 ∨ i = 30062 then (if 1 < n then some (n - 1, fun j => if j = n - 2 then true else ty j) else none)
  else if i = 30042 ∨ i = 30043 ∨ i = 30045 ∨ (i = 30047 ∧ 0 < prev ∧ prev < 10000) then (if 1 < n then some (n - 1, fun j => if j = n - 2 then false else ty j) else none)
  else none
def mv_tc (q : Nat → Bool) (code : Nat → Int) : Nat → Nat → Nat × (Nat → Bool) → Option (Nat × (Nat → Bool))
  | 0, _, x => some x
  | k + 1, c, x => match mv_t1 q (code c) (code (c - 1)) x.1 x.2 with
    | some y => mv_tc q code k (c + 1) y
    | none => none
/-- a good line's part: from nothing to one number -/
def mv_sg (q : Nat → Bool) (code : Nat → Int) (first behind : Nat) : Prop := first ≤ behind ∧ ∃ ty, mv_tc q code (behind - first) first (0, fun _ => false) = some (1, ty)
theorem mv_t1_cs {q : Nat → Bool} {i prev : Int} {n : Nat} {ty : Nat → Bool} {y : Nat × (Nat → Bool)} (h : mv_t1 q i prev n ty = some y) :
    (0 ≤ i ∧ i < 10012 ∧ n < 40 ∧ y = (n + 1, fun j => if j = n then false else ty j) ∧ (i < 10000 ∨ q (i - 10000).toNat = true)) ∨ (i = 20005 ∧ 0 < n ∧ ty (n - 1) = true ∧ y = (n, ty)) ∨ ((i = 20003 ∨ i = 20004) ∧ 1 < n ∧ ty (n - 2) = true ∧ ty (n - 1) = true ∧ y = (n - 1, ty)) ∨
    ((i = 30060 ∨ i = 30061 ∨ i = 30062) ∧ 1 < n ∧ y = (n - 1, fun j => if j = n - 2 then true else ty j)) ∨ ((i = 30042 ∨ i = 30043 ∨ i = 30045 ∨ (i = 30047 ∧ 0 < prev ∧ prev < 10000)) ∧ 1 < n ∧ y = (n - 1, fun j => if j = n - 2 then false else ty j)) := by
  unfold mv_t1 at h
  split at h
  · next h1 =>
    split at h
    · next h2 => cases h; exact Or.inl ⟨h1.1, h1.2.1, h2, rfl, h1.2.2⟩
    · cases h
  · split at h
    · next h1 =>
      split at h
      · next h2 => cases h; exact Or.inr (Or.inl ⟨h1, h2.1, h2.2, rfl⟩)
      · cases h
    · split at h
      · next h1 =>
        split at h
        · next h2 => cases h; exact Or.inr (Or.inr (Or.inl ⟨h1, h2.1, h2.2.1, h2.2.2, rfl⟩))
        · cases h
      · split at h
        · next h1 =>
          split at h
          · next h2 => cases h; exact Or.inr (Or.inr (Or.inr (Or.inl ⟨h1, h2, rfl⟩)))
          · cases h
        · split at h
          · next h1 =>
            split at h
            · next h2 => cases h; exact Or.inr (Or.inr (Or.inr (Or.inr ⟨h1, h2, rfl⟩)))
            · cases h
          · cases h
def mv_bl (x : Int) : Prop := x = 0 ∨ x = 1
theorem mv_and_b {x y : Int} (hx : mv_bl x) (hy : mv_bl y) : mv_and x y = if x = 1 ∧ y = 1 then 1 else 0 := by
  rcases hx with rfl | rfl <;> rcases hy with rfl | rfl <;> decide
theorem mv_or_b {x y : Int} (hx : mv_bl x) (hy : mv_bl y) : mv_or x y = if x = 1 ∨ y = 1 then 1 else 0 := by
  rcases hx with rfl | rfl <;> rcases hy with rfl | rfl <;> decide
/-- a good state of the stack, ahead of item c of a part that begins at c0 -/
def mv_gs (code : Nat → Int) (c0 c : Nat) (n : Nat) (ty : Nat → Bool) (s : Nat → Int) : Prop :=
  (∀ j, j < n → ty j = true → mv_bl (s j)) ∧ (∀ j, j < n → mv_in (s j)) ∧ (c = c0 → n = 0) ∧ (c0 < c → 0 ≤ code (c - 1) → code (c - 1) < 10000 → s (n - 1) = code (c - 1)) ∧ c0 ≤ c ∧ n ≤ 40
theorem mv_jn_bl {i x y : Int} (h : i = 20003 ∨ i = 20004 ∨ i = 30060 ∨ i = 30061 ∨ i = 30062) : mv_bl (mv_jn i x y) := by
  unfold mv_jn mv_bl
  rcases h with rfl | rfl | rfl | rfl | rfl <;> simp <;> omega
theorem mv_bl_in {x : Int} (h : mv_bl x) : mv_in x := by
  unfold mv_in
  rcases h with rfl | rfl <;> decide
theorem mv_jn_in {i x y : Int} : mv_in (mv_jn i x y) := by
  unfold mv_jn
  repeat' split
  all_goals first | exact mv_w_in _ | exact mv_bl_in (Or.inl rfl) | exact mv_bl_in (Or.inr rfl)
theorem mv_gs_step {q : Nat → Bool} {code tm : Nat → Int} {c0 c n : Nat} {ty : Nat → Bool} {s : Nat → Int} {y : Nat × (Nat → Bool)} (htm : ∀ j, j < 12 → mv_in (tm j)) (h : mv_gs code c0 c n ty s) (ht : mv_t1 q (code c) (code (c - 1)) n ty = some y) : mv_gs code c0 (c + 1) y.1 y.2 (mv_x1 (code c) tm (n, s)).2 ∧ (mv_x1 (code c) tm (n, s)).1 = y.1 := by
  obtain ⟨h1, h2, h3, h4, h5, h6⟩ := h
  rcases mv_t1_cs ht with ⟨a1, a2, a3, rfl, -⟩ | ⟨a1, a2, a3, rfl⟩ | ⟨a1, a2, a3, a4, rfl⟩ | ⟨a1, a2, rfl⟩ | ⟨a1, a2, rfl⟩
  · have e : mv_x1 (code c) tm (n, s) = (n + 1, mv_sp s n (if code c < 10000 then code c else tm (code c - 10000).toNat)) := by unfold mv_x1; rw [if_pos (by omega)]
    rw [e]
    refine ⟨⟨fun j hj hb => ?_, fun j hj => ?_, fun h => by omega, fun _ g1 g2 => ?_, by omega, by omega⟩, rfl⟩
    · dsimp only at hb ⊢
      unfold mv_sp
      split
      · next e => rw [if_pos e] at hb; cases hb
      · next e => rw [if_neg e] at hb; exact h1 j (by omega) hb
    · dsimp only
      unfold mv_sp
      split
      · split
        · unfold mv_in; omega
        · exact htm _ (by omega)
      · exact h2 j (by omega)
    · rw [Nat.add_sub_cancel] at g1 g2 ⊢
      dsimp only
      rw [Nat.add_sub_cancel]
      unfold mv_sp
      rw [if_pos rfl, if_pos g2]
  · have e : mv_x1 (code c) tm (n, s) = (n, mv_sp s (n - 1) (mv_w (1 - s (n - 1)))) := by unfold mv_x1; rw [if_neg (by omega), if_pos a1]
    rw [e]
    have v := h1 (n - 1) (by omega) a3
    refine ⟨⟨fun j hj hb => ?_, fun j hj => ?_, fun h => by omega, fun _ g1 g2 => ?_, by omega, h6⟩, rfl⟩
    · dsimp only
      unfold mv_sp
      split
      · unfold mv_bl at v ⊢
        rw [mv_ws (by omega)]
        omega
      · exact h1 j hj hb
    · dsimp only
      unfold mv_sp
      split
      · exact mv_w_in _
      · exact h2 j hj
    · rw [Nat.add_sub_cancel] at g2; omega
  all_goals
    have e : mv_x1 (code c) tm (n, s) = (n - 1, mv_sp s (n - 2) (mv_jn (code c) (s (n - 2)) (s (n - 1)))) := by unfold mv_x1; rw [if_neg (by omega), if_neg (by omega)]
    rw [e]
    refine ⟨⟨fun j hj hb => ?_, fun j hj => ?_, fun h => by omega, fun _ g1 g2 => ?_, by omega, by dsimp only; omega⟩, rfl⟩
  · dsimp only at hj hb ⊢
    unfold mv_sp
    split
    · exact mv_jn_bl (by omega)
    · exact h1 j (by omega) hb
  · dsimp only at hj ⊢
    unfold mv_sp
    split
    · exact mv_jn_in
    · exact h2 j (by omega)
  · rw [Nat.add_sub_cancel] at g2; omega
  · dsimp only at hj hb ⊢
    unfold mv_sp
    split
    · exact mv_jn_bl (by omega)
    · next e => rw [if_neg e] at hb; exact h1 j (by omega) hb
  · dsimp only at hj ⊢
    unfold mv_sp
    split
    · exact mv_jn_in
    · exact h2 j (by omega)
  · rw [Nat.add_sub_cancel] at g2; omega
  · dsimp only at hj hb ⊢
    unfold mv_sp
    split
    · next e => rw [if_pos e] at hb; cases hb
    · next e => rw [if_neg e] at hb; exact h1 j (by omega) hb
  · dsimp only at hj ⊢
    unfold mv_sp
    split
    · exact mv_jn_in
    · exact h2 j (by omega)
  · rw [Nat.add_sub_cancel] at g2; omega
theorem mv_gs_0 {code : Nat → Int} {c0 : Nat} : mv_gs code c0 c0 0 (fun _ => false) (fun _ => 0) := ⟨fun j h => by omega, fun j h => by omega, fun _ => rfl, fun h => by omega, Nat.le_refl _, by omega⟩
/-- the divisor is a number, and not 0 -/
theorem mv_gs_div {code : Nat → Int} {c0 c n : Nat} {ty : Nat → Bool} {s : Nat → Int} (h : mv_gs code c0 c n ty s) (hn : 1 < n) (hp : 0 < code (c - 1) ∧ code (c - 1) < 10000) : s (n - 1) ≠ 0 := by
  obtain ⟨h1, h2, h3, h4, h5, h6⟩ := h
  have : c0 < c := by
    rcases Nat.lt_or_ge c0 c with h | h
    · exact h
    · have := h3 (by omega); omega
  rw [h4 this (by omega) hp.2]
  omega
theorem mv_sp_up {G : mv_G} {k n m : Nat} {s : Nat → Int} {v : Int} (h : ∀ j, j < n → G k 0 j = s j) (hm : n ≤ m + 1) : ∀ j, j < m + 1 → (mv_up G k 0 m v) k 0 j = mv_sp s m v j ∨ n ≤ j := by
  intro j hj
  rw [mv_up_at]
  unfold mv_sp
  by_cases e : j = m
  · rw [if_pos e, if_pos e]; exact Or.inl rfl
  · rw [if_neg e, if_neg e]
    rcases Nat.lt_or_ge j n with h2 | h2
    · exact Or.inl (h j h2)
    · exact Or.inr h2
theorem mv_sp_put {G : mv_G} {k n m q : Nat} {s : Nat → Int} {v : Int} (h : ∀ j, j < n → G k 0 j = s j) (hq : q ≤ n ∨ (q = n + 1 ∧ m = n)) : ∀ j, j < q → (mv_up G k 0 m v) k 0 j = mv_sp s m v j := by
  intro j hj
  rw [mv_up_at]
  unfold mv_sp
  by_cases e : j = m
  · rw [if_pos e, if_pos e]
  · rw [if_neg e, if_neg e]
    exact h j (by omega)
section LA
variable {G : mv_G}
theorem fx_joined (G : mv_G) (i x y : Int) (h : i = 20003 ∨ i = 20004 ∨ i = 30060 ∨ i = 30061 ∨ i = 30062 ∨ i = 30042 ∨ i = 30043 ∨ i = 30045 ∨ i = 30047) (hb : i = 20003 ∨ i = 20004 → mv_bl x ∧ mv_bl y) (hd : i = 30047 → y ≠ 0) : ff_X5_joined [.inl i, .inl x, .inl y] G = some (mv_jn i x y, G) := by
  refine mv_Kp.eq (mv_Kp.of (mv_JP.of (rg_X5_joined_0 i x y G) ?_))
  rcases h with rfl | rfl | rfl | rfl | rfl | rfl | rfl | rfl | rfl
  · obtain ⟨b1, b2⟩ := hb (by omega)
    exact mv_J.t (by omega) (mv_J.ret ⟨mv_or_b b1 b2, rfl⟩)
  · obtain ⟨b1, b2⟩ := hb (by omega)
    exact mv_J.f (by omega) (mv_J.t (by omega) (mv_J.ret ⟨mv_and_b b1 b2, rfl⟩))
  · exact mv_J.f (by omega) (mv_J.f (by omega) (mv_J.f (by omega) (mv_J.f (by omega) (mv_J.f (by omega) (mv_J.f (by omega) (mv_J.t (by omega) (mv_J.i (fun h => mv_J.ret ⟨(if_pos h).symm, rfl⟩) (fun h => mv_J.ret ⟨(if_neg h).symm, rfl⟩))))))))
  · exact mv_J.f (by omega) (mv_J.f (by omega) (mv_J.f (by omega) (mv_J.f (by omega) (mv_J.f (by omega) (mv_J.f (by omega) (mv_J.f (by omega) (mv_J.t (by omega) (mv_J.i (fun h => mv_J.ret ⟨(if_pos h).symm, rfl⟩) (fun h => mv_J.ret ⟨(if_neg h).symm, rfl⟩)))))))))
  · exact mv_J.f (by omega) (mv_J.f (by omega) (mv_J.f (by omega) (mv_J.f (by omega) (mv_J.f (by omega) (mv_J.f (by omega) (mv_J.f (by omega) (mv_J.f (by omega) (mv_J.t (by omega) (mv_J.i (fun h => mv_J.ret ⟨(if_pos h).symm, rfl⟩) (fun h => mv_J.ret ⟨(if_neg h).symm, rfl⟩))))))))))
  · exact mv_J.f (by omega) (mv_J.f (by omega) (mv_J.t (by omega) (mv_J.ret ⟨rfl, rfl⟩)))
  · exact mv_J.f (by omega) (mv_J.f (by omega) (mv_J.f (by omega) (mv_J.t (by omega) (mv_J.ret ⟨rfl, rfl⟩))))
  · exact mv_J.f (by omega) (mv_J.f (by omega) (mv_J.f (by omega) (mv_J.f (by omega) (mv_J.t (by omega) (mv_J.ret ⟨rfl, rfl⟩)))))
  · exact mv_J.f (by omega) (mv_J.f (by omega) (mv_J.f (by omega) (mv_J.f (by omega) (mv_J.f (by omega) (mv_J.t (by omega) (mv_J.f (hd rfl) (mv_J.f (hd rfl) (mv_J.ret ⟨rfl, rfl⟩))))))))
theorem gx_twoOf (G : mv_G) (i x y : Int) (h : i = 20003 ∨ i = 20004 ∨ i = 30060 ∨ i = 30061 ∨ i = 30062 ∨ i = 30042 ∨ i = 30043 ∨ i = 30045 ∨ i = 30047) (hb : i = 20003 ∨ i = 20004 → mv_bl x ∧ mv_bl y) (hd : i = 30047 → y ≠ 0) : ff_X12_twoOf [.inr (100, 0), .inl (mv_opk i), .inl x, .inl y] G = some (mv_jn i x y, G) := by
  refine mv_Kp.eq (mv_Kp.of (mv_JP.of (rg_X12_twoOf_0 (mv_opk i) x y G) ?_))
  rcases h with rfl | rfl | rfl | rfl | rfl | rfl | rfl | rfl | rfl
  · obtain ⟨b1, b2⟩ := hb (by omega)
    rw [show mv_opk 20003 = 11 by decide]
    refine mv_J.f (by omega) (mv_J.f (by omega) (mv_J.f (by omega) (mv_J.f (by omega) (mv_J.f (by omega) (mv_J.f (by omega) (mv_J.f (by omega) (mv_J.f (by omega) ?_)))))))
    show mv_J _ (fun a b => a = (if x = 1 ∨ y = 1 then 1 else 0) ∧ b = G) _
    rcases b1 with rfl | rfl <;> rcases b2 with rfl | rfl <;> exact mv_J.i (fun h => mv_J.ret ⟨by first | rfl | (exact absurd h (by decide)), rfl⟩) (fun h => mv_J.ret ⟨by first | rfl | (exact absurd (by decide) h), rfl⟩)
  · obtain ⟨b1, b2⟩ := hb (by omega)
    rw [show mv_opk 20004 = 10 by decide]
    refine mv_J.f (by omega) (mv_J.f (by omega) (mv_J.f (by omega) (mv_J.f (by omega) (mv_J.f (by omega) (mv_J.f (by omega) (mv_J.f (by omega) (mv_J.t (by omega) (mv_J.ret ⟨?_, rfl⟩))))))))
    show mv_w (x * y) = (if x = 1 ∧ y = 1 then 1 else 0)
    rcases b1 with rfl | rfl <;> rcases b2 with rfl | rfl <;> decide
  · exact mv_J.f (by decide) (mv_J.f (by decide) (mv_J.f (by decide) (mv_J.f (by decide) (mv_J.t (by decide) (mv_J.i (fun h => mv_J.ret ⟨(if_pos h).symm, rfl⟩) (fun h => mv_J.ret ⟨(if_neg h).symm, rfl⟩))))))
  · exact mv_J.f (by decide) (mv_J.f (by decide) (mv_J.f (by decide) (mv_J.f (by decide) (mv_J.f (by decide) (mv_J.t (by decide) (mv_J.i (fun h => mv_J.ret ⟨(if_pos h).symm, rfl⟩) (fun h => mv_J.ret ⟨(if_neg h).symm, rfl⟩)))))))
  · exact mv_J.f (by decide) (mv_J.f (by decide) (mv_J.f (by decide) (mv_J.f (by decide) (mv_J.f (by decide) (mv_J.f (by decide) (mv_J.t (by decide) (mv_J.i (fun h => mv_J.ret ⟨(if_pos h).symm, rfl⟩) (fun h => mv_J.ret ⟨(if_neg h).symm, rfl⟩))))))))
  · exact mv_J.f (by decide) (mv_J.f (by decide) (mv_J.t (by decide) (mv_J.ret ⟨rfl, rfl⟩)))
  · exact mv_J.t (by decide) (mv_J.ret ⟨rfl, rfl⟩)
  · exact mv_J.f (by decide) (mv_J.t (by decide) (mv_J.ret ⟨rfl, rfl⟩))
  · exact mv_J.f (by decide) (mv_J.f (by decide) (mv_J.f (by decide) (mv_J.t (by decide) (mv_J.f (hd rfl) (mv_J.ret ⟨rfl, rfl⟩)))))
set_option maxHeartbeats 1000000 in
set_option maxRecDepth 100000 in
theorem fx_run_8 {q : Nat → Bool} {code tmv : Nat → Int} {c0 e sz : Nat} (hG : ∀ j, j < sz → G 9 0 j = code j) (hs : G 8 0 1 = sz) (hsz : sz ≤ 400) (ht : ∀ j, j < 12 → q j = true → G 73 0 j = tmv j) (hti : ∀ j, j < 12 → mv_in (tmv j)) (he : e ≤ sz) (hg : mv_sg q code c0 e) : mv_Kp (ff_X5_run [.inr (8, 0), .inl c0, .inl e, .inr (73, 0)] G) (fun r G' => r = mv_vl code tmv c0 e ∧ mv_ch [13] [] G G') := by
  obtain ⟨hle, tyE, htc⟩ := hg
  have key : ∀ (k c n : Nat) (ty : Nat → Bool) (s : Nat → Int) (G1 : mv_G), c + k = e → mv_tc q code k c (n, ty) = some (1, tyE) → mv_gs code c0 c n ty s → (∀ j, j < n → G1 13 0 j = s j) → mv_ch [13] [] G G1 → mv_JP mm_X5_run (fun r G' => r = (mv_ex code tmv k c (n, s)).2 0 ∧ mv_ch [13] [] G G') 10 [some (.inr (8, 0)), none, some (.inl (e : Int)), some (.inr (73, 0)), some (.inl (n : Int)), some (.inl (c : Int)), none, none] G1 := by
    intro k
    induction k with
    | zero =>
      intro c n ty s G1 hc htc hgs hst hch
      cases htc
      refine mv_JP.of (rg_X5_run_10_8_73 e _ _ G1) (mv_J.f (by omega) (mv_J.ck (by omega) (mv_J.ret ⟨hst 0 (by omega), hch⟩)))
    | succ k ih =>
      intro c n ty s G1 hc htc hgs hst hch
      unfold mv_tc at htc
      dsimp only at htc
      cases hy : mv_t1 q (code c) (code (c - 1)) n ty with
      | none => rw [hy] at htc; cases htc
      | some y =>
        rw [hy] at htc
        have hst2 := mv_gs_step (tm := tmv) hti hgs hy
        have hn40 := hgs.2.2.2.2.2
        have eC : G1 9 = G 9 := hch.cell 9 rfl
        have eK : G1 8 = G 8 := hch.cell 8 rfl
        have eT : G1 73 = G 73 := hch.cell 73 rfl
        have e1 : mv_w ((c : Int) + 1) = ((c + 1 : Nat) : Int) := by rw [mv_ws (by omega)]; omega
        refine mv_JP.of (rg_X5_run_10_8_73 e _ _ G1) ?_
        rw [e1]
        clear e1
        rw [eC, eK, eT, Int.toNat_natCast, hG c (by omega), hs]
        refine mv_J.t (by omega) (mv_J.t (by omega) (mv_J.ck (by omega) ?_))
        have fin : ∀ (G2 : mv_G) (m : Int), m = y.1 → (∀ j, j < y.1 → G2 13 0 j = (mv_x1 (code c) tmv (n, s)).2 j) → mv_ch [13] [] G G2 → mv_JP mm_X5_run (fun r G' => r = (mv_ex code tmv (k + 1) c (n, s)).2 0 ∧ mv_ch [13] [] G G') 10 [some (.inr (8, 0)), none, some (.inl (e : Int)), some (.inr (73, 0)), some (.inl m), some (.inl ((c + 1 : Nat) : Int)), none, none] G2 := by
          intro G2 m hm h1 h2
          subst hm
          have := ih (c + 1) y.1 y.2 (mv_x1 (code c) tmv (n, s)).2 G2 (by omega) htc hst2.1 h1 h2
          have ee : mv_ex code tmv (k + 1) c (n, s) = mv_ex code tmv k (c + 1) (y.1, (mv_x1 (code c) tmv (n, s)).2) := by
            show mv_ex code tmv k (c + 1) (mv_x1 (code c) tmv (n, s)) = _
            rw [← hst2.2]
          rw [ee]
          exact this
        rcases mv_t1_cs hy with ⟨a1, a2, a3, rfl, aq⟩ | ⟨a1, a2, a3, rfl⟩ | hbin
        · have ex1 : (mv_x1 (code c) tmv (n, s)).2 = mv_sp s n (if code c < 10000 then code c else tmv (code c - 10000).toNat) := by unfold mv_x1; rw [if_pos (by omega)]
          rw [ex1] at fin
          have e2 : mv_w ((n : Int) + 1) = ((n + 1 : Nat) : Int) := by rw [mv_ws (by omega)]; omega
          rw [e2]
          clear e2
          rw [mv_ws (x := code c - 10000) (by omega)]
          refine mv_J.t (by omega) (mv_J.t (by omega) (mv_J.t (by omega) (mv_J.i (fun h1 => mv_J.ck (by omega) (mv_J.cut (fin _ _ rfl ?_ (hch.uc rfl)))) (fun h1 => mv_J.ck (by omega) (mv_J.ck (by omega) (mv_J.cut (fin _ _ rfl ?_ (hch.uc rfl))))))))
          · rw [Int.toNat_natCast, if_pos (by omega)]
            exact mv_sp_put hst (Or.inr ⟨rfl, rfl⟩)
          · rw [Int.toNat_natCast, if_neg (by omega), ht _ (by omega) (aq.resolve_left (by omega))]
            exact mv_sp_put hst (Or.inr ⟨rfl, rfl⟩)
        · have ex1 : (mv_x1 (code c) tmv (n, s)).2 = mv_sp s (n - 1) (mv_w (1 - s (n - 1))) := by unfold mv_x1; rw [if_neg (by omega), if_pos a1]
          rw [ex1] at fin
          have e2 : mv_w ((n : Int) - 1) = ((n - 1 : Nat) : Int) := by rw [mv_ws (by omega)]; omega
          rw [e2]
          clear e2
          rw [Int.toNat_natCast (n - 1), hst (n - 1) (by omega)]
          exact mv_J.f (by omega) (mv_J.t a1 (mv_J.t (by omega) (mv_J.f (by omega) (mv_J.ck (by omega) (mv_J.ck (by omega) (mv_J.cut (fin _ _ rfl (mv_sp_put hst (Or.inl (Nat.le_refl _))) (hch.uc rfl))))))))
        · have b1 : 1 < n := by rcases hbin with h | h | h <;> omega
          have b2 : code c = 20003 ∨ code c = 20004 ∨ code c = 30060 ∨ code c = 30061 ∨ code c = 30062 ∨ code c = 30042 ∨ code c = 30043 ∨ code c = 30045 ∨ code c = 30047 := by rcases hbin with h | h | h <;> omega
          have b3 : y.1 = n - 1 := by rcases hbin with ⟨-, -, -, -, rfl⟩ | ⟨-, -, rfl⟩ | ⟨-, -, rfl⟩ <;> rfl
          have b4 : code c = 20003 ∨ code c = 20004 → mv_bl (s (n - 2)) ∧ mv_bl (s (n - 1)) := fun h => by
            rcases hbin with ⟨h1, h2, h3, h4, h5⟩ | ⟨h1, h2⟩ | ⟨h1, h2⟩
            · exact ⟨hgs.1 _ (by omega) h3, hgs.1 _ (by omega) h4⟩
            · omega
            · omega
          have b5 : code c = 30047 → s (n - 1) ≠ 0 := fun h => mv_gs_div hgs b1 (by rcases hbin with ⟨h1, h2⟩ | ⟨h1, h2⟩ | ⟨h1, h2⟩ <;> omega)
          have ex1 : (mv_x1 (code c) tmv (n, s)).2 = mv_sp s (n - 2) (mv_jn (code c) (s (n - 2)) (s (n - 1))) := by unfold mv_x1; rw [if_neg (by omega), if_neg (by omega)]
          rw [ex1, b3] at fin
          have e2 : mv_w ((n : Int) + (-1)) = ((n - 1 : Nat) : Int) := by rw [mv_ws (by omega)]; omega
          have e3 : mv_w (((n - 1 : Nat) : Int) - 1) = ((n - 2 : Nat) : Int) := by rw [mv_ws (by omega)]; omega
          rw [e2, e3]
          clear e2 e3
          rw [Int.toNat_natCast (n - 1), Int.toNat_natCast (n - 2), hst (n - 1) (by omega), hst (n - 2) (by omega)]
          exact mv_J.f (by omega) (mv_J.f (by omega) (mv_J.t (by omega) (mv_J.f (by omega) (mv_J.ck (by omega) (mv_J.ck (by omega) (mv_J.ce (fx_joined G1 _ _ _ b2 b4 b5) (mv_J.ck (by omega) (mv_J.cut (fin _ _ rfl (mv_sp_put hst (Or.inl (by omega))) (hch.uc rfl))))))))))
  have h0 := key (e - c0) c0 0 (fun _ => false) (fun _ => 0) G (by omega) htc mv_gs_0 (fun j h => by omega) mv_ch.rf
  refine mv_Kp.of (mv_JP.of (rg_X5_run_0_8_73 c0 e G) (mv_J.ce (mv_max_eq _ _ _) (mv_J.cut ?_)))
  rw [if_neg (by omega)]
  exact h0
set_option maxHeartbeats 1000000 in
set_option maxRecDepth 100000 in
theorem fx_run_14 {q : Nat → Bool} {code tmv : Nat → Int} {c0 e sz : Nat} (hG : ∀ j, j < sz → G 15 0 j = code j) (hs : G 14 0 1 = sz) (hsz : sz ≤ 400) (ht : ∀ j, j < 12 → q j = true → G 76 0 j = tmv j) (hti : ∀ j, j < 12 → mv_in (tmv j)) (he : e ≤ sz) (hg : mv_sg q code c0 e) : mv_Kp (ff_X5_run [.inr (14, 0), .inl c0, .inl e, .inr (76, 0)] G) (fun r G' => r = mv_vl code tmv c0 e ∧ mv_ch [19] [] G G') := by
  obtain ⟨hle, tyE, htc⟩ := hg
  have key : ∀ (k c n : Nat) (ty : Nat → Bool) (s : Nat → Int) (G1 : mv_G), c + k = e → mv_tc q code k c (n, ty) = some (1, tyE) → mv_gs code c0 c n ty s → (∀ j, j < n → G1 19 0 j = s j) → mv_ch [19] [] G G1 → mv_JP mm_X5_run (fun r G' => r = (mv_ex code tmv k c (n, s)).2 0 ∧ mv_ch [19] [] G G') 10 [some (.inr (14, 0)), none, some (.inl (e : Int)), some (.inr (76, 0)), some (.inl (n : Int)), some (.inl (c : Int)), none, none] G1 := by
    intro k
    induction k with
    | zero =>
      intro c n ty s G1 hc htc hgs hst hch
      cases htc
      refine mv_JP.of (rg_X5_run_10_14_76 e _ _ G1) (mv_J.f (by omega) (mv_J.ck (by omega) (mv_J.ret ⟨hst 0 (by omega), hch⟩)))
    | succ k ih =>
      intro c n ty s G1 hc htc hgs hst hch
      unfold mv_tc at htc
      dsimp only at htc
      cases hy : mv_t1 q (code c) (code (c - 1)) n ty with
      | none => rw [hy] at htc; cases htc
      | some y =>
        rw [hy] at htc
        have hst2 := mv_gs_step (tm := tmv) hti hgs hy
        have hn40 := hgs.2.2.2.2.2
        have eC : G1 15 = G 15 := hch.cell 15 rfl
        have eK : G1 14 = G 14 := hch.cell 14 rfl
        have eT : G1 76 = G 76 := hch.cell 76 rfl
        have e1 : mv_w ((c : Int) + 1) = ((c + 1 : Nat) : Int) := by rw [mv_ws (by omega)]; omega
        refine mv_JP.of (rg_X5_run_10_14_76 e _ _ G1) ?_
        rw [e1]
        clear e1
        rw [eC, eK, eT, Int.toNat_natCast, hG c (by omega), hs]
        refine mv_J.t (by omega) (mv_J.t (by omega) (mv_J.ck (by omega) ?_))
        have fin : ∀ (G2 : mv_G) (m : Int), m = y.1 → (∀ j, j < y.1 → G2 19 0 j = (mv_x1 (code c) tmv (n, s)).2 j) → mv_ch [19] [] G G2 → mv_JP mm_X5_run (fun r G' => r = (mv_ex code tmv (k + 1) c (n, s)).2 0 ∧ mv_ch [19] [] G G') 10 [some (.inr (14, 0)), none, some (.inl (e : Int)), some (.inr (76, 0)), some (.inl m), some (.inl ((c + 1 : Nat) : Int)), none, none] G2 := by
          intro G2 m hm h1 h2
          subst hm
          have := ih (c + 1) y.1 y.2 (mv_x1 (code c) tmv (n, s)).2 G2 (by omega) htc hst2.1 h1 h2
          have ee : mv_ex code tmv (k + 1) c (n, s) = mv_ex code tmv k (c + 1) (y.1, (mv_x1 (code c) tmv (n, s)).2) := by
            show mv_ex code tmv k (c + 1) (mv_x1 (code c) tmv (n, s)) = _
            rw [← hst2.2]
          rw [ee]
          exact this
        rcases mv_t1_cs hy with ⟨a1, a2, a3, rfl, aq⟩ | ⟨a1, a2, a3, rfl⟩ | hbin
        · have ex1 : (mv_x1 (code c) tmv (n, s)).2 = mv_sp s n (if code c < 10000 then code c else tmv (code c - 10000).toNat) := by unfold mv_x1; rw [if_pos (by omega)]
          rw [ex1] at fin
          have e2 : mv_w ((n : Int) + 1) = ((n + 1 : Nat) : Int) := by rw [mv_ws (by omega)]; omega
          rw [e2]
          clear e2
          rw [mv_ws (x := code c - 10000) (by omega)]
          refine mv_J.t (by omega) (mv_J.t (by omega) (mv_J.t (by omega) (mv_J.i (fun h1 => mv_J.ck (by omega) (mv_J.cut (fin _ _ rfl ?_ (hch.uc rfl)))) (fun h1 => mv_J.ck (by omega) (mv_J.ck (by omega) (mv_J.cut (fin _ _ rfl ?_ (hch.uc rfl))))))))
          · rw [Int.toNat_natCast, if_pos (by omega)]
            exact mv_sp_put hst (Or.inr ⟨rfl, rfl⟩)
          · rw [Int.toNat_natCast, if_neg (by omega), ht _ (by omega) (aq.resolve_left (by omega))]
            exact mv_sp_put hst (Or.inr ⟨rfl, rfl⟩)
        · have ex1 : (mv_x1 (code c) tmv (n, s)).2 = mv_sp s (n - 1) (mv_w (1 - s (n - 1))) := by unfold mv_x1; rw [if_neg (by omega), if_pos a1]
          rw [ex1] at fin
          have e2 : mv_w ((n : Int) - 1) = ((n - 1 : Nat) : Int) := by rw [mv_ws (by omega)]; omega
          rw [e2]
          clear e2
          rw [Int.toNat_natCast (n - 1), hst (n - 1) (by omega)]
          exact mv_J.f (by omega) (mv_J.t a1 (mv_J.t (by omega) (mv_J.f (by omega) (mv_J.ck (by omega) (mv_J.ck (by omega) (mv_J.cut (fin _ _ rfl (mv_sp_put hst (Or.inl (Nat.le_refl _))) (hch.uc rfl))))))))
        · have b1 : 1 < n := by rcases hbin with h | h | h <;> omega
          have b2 : code c = 20003 ∨ code c = 20004 ∨ code c = 30060 ∨ code c = 30061 ∨ code c = 30062 ∨ code c = 30042 ∨ code c = 30043 ∨ code c = 30045 ∨ code c = 30047 := by rcases hbin with h | h | h <;> omega
          have b3 : y.1 = n - 1 := by rcases hbin with ⟨-, -, -, -, rfl⟩ | ⟨-, -, rfl⟩ | ⟨-, -, rfl⟩ <;> rfl
          have b4 : code c = 20003 ∨ code c = 20004 → mv_bl (s (n - 2)) ∧ mv_bl (s (n - 1)) := fun h => by
            rcases hbin with ⟨h1, h2, h3, h4, h5⟩ | ⟨h1, h2⟩ | ⟨h1, h2⟩
            · exact ⟨hgs.1 _ (by omega) h3, hgs.1 _ (by omega) h4⟩
            · omega
            · omega
          have b5 : code c = 30047 → s (n - 1) ≠ 0 := fun h => mv_gs_div hgs b1 (by rcases hbin with ⟨h1, h2⟩ | ⟨h1, h2⟩ | ⟨h1, h2⟩ <;> omega)
          have ex1 : (mv_x1 (code c) tmv (n, s)).2 = mv_sp s (n - 2) (mv_jn (code c) (s (n - 2)) (s (n - 1))) := by unfold mv_x1; rw [if_neg (by omega), if_neg (by omega)]
          rw [ex1, b3] at fin
          have e2 : mv_w ((n : Int) + (-1)) = ((n - 1 : Nat) : Int) := by rw [mv_ws (by omega)]; omega
          have e3 : mv_w (((n - 1 : Nat) : Int) - 1) = ((n - 2 : Nat) : Int) := by rw [mv_ws (by omega)]; omega
          rw [e2, e3]
          clear e2 e3
          rw [Int.toNat_natCast (n - 1), Int.toNat_natCast (n - 2), hst (n - 1) (by omega), hst (n - 2) (by omega)]
          exact mv_J.f (by omega) (mv_J.f (by omega) (mv_J.t (by omega) (mv_J.f (by omega) (mv_J.ck (by omega) (mv_J.ck (by omega) (mv_J.ce (fx_joined G1 _ _ _ b2 b4 b5) (mv_J.ck (by omega) (mv_J.cut (fin _ _ rfl (mv_sp_put hst (Or.inl (by omega))) (hch.uc rfl))))))))))
  have h0 := key (e - c0) c0 0 (fun _ => false) (fun _ => 0) G (by omega) htc mv_gs_0 (fun j h => by omega) mv_ch.rf
  refine mv_Kp.of (mv_JP.of (rg_X5_run_0_14_76 c0 e G) (mv_J.ce (mv_max_eq _ _ _) (mv_J.cut ?_)))
  rw [if_neg (by omega)]
  exact h0
set_option maxHeartbeats 1000000 in
set_option maxRecDepth 100000 in
theorem gx_runs {q : Nat → Bool} {code tmv : Nat → Int} {w c0 e sz : Nat} (hw : w ≤ 1) (hG : ∀ j, j < sz → G 117 0 (400 * w + j) = mv_opk (code j) ∧ G 118 0 (400 * w + j) = mv_ark (code j)) (hsz : sz ≤ 400) (ht : ∀ j, j < 12 → q j = true → G 121 0 j = tmv j) (hti : ∀ j, j < 12 → mv_in (tmv j)) (he : e ≤ sz) (hg : mv_sg q code c0 e) : mv_Kp (ff_X12_runs [.inr (100, 0), .inl w, .inl c0, .inl e] G) (fun r G' => r = mv_vl code tmv c0 e ∧ mv_ch [122] [] G G') := by
  obtain ⟨hle, tyE, htc⟩ := hg
  have ew : mv_w (400 * (w : Int)) = ((400 * w : Nat) : Int) := by rw [mv_ws (by omega)]; omega
  have ee : mv_w (((400 * w : Nat) : Int) + (e : Int)) = ((400 * w + e : Nat) : Int) := by rw [mv_ws (by omega)]; omega
  have key : ∀ (k c n : Nat) (ty : Nat → Bool) (s : Nat → Int) (G1 : mv_G), c + k = e → mv_tc q code k c (n, ty) = some (1, tyE) → mv_gs code c0 c n ty s → (∀ j, j < n → G1 122 0 j = s j) → mv_ch [122] [] G G1 → mv_JP mm_X12_runs (fun r G' => r = (mv_ex code tmv k c (n, s)).2 0 ∧ mv_ch [122] [] G G') 12 [some (.inr (100, 0)), some (.inl (w : Int)), none, some (.inl (e : Int)), some (.inl (n : Int)), some (.inl ((400 * w + c : Nat) : Int))] G1 := by
    intro k
    induction k with
    | zero =>
      intro c n ty s G1 hc htc hgs hst hch
      cases htc
      refine mv_JP.of (rg_X12_runs_12 _ _ _ _ G1) ?_
      rw [ew, ee]
      clear ew ee
      exact mv_J.f (by omega) (mv_J.ck (by omega) (mv_J.ret ⟨hst 0 (by omega), hch⟩))
    | succ k ih =>
      intro c n ty s G1 hc htc hgs hst hch
      unfold mv_tc at htc
      dsimp only at htc
      cases hy : mv_t1 q (code c) (code (c - 1)) n ty with
      | none => rw [hy] at htc; cases htc
      | some y =>
        rw [hy] at htc
        have hst2 := mv_gs_step (tm := tmv) hti hgs hy
        have hn40 := hgs.2.2.2.2.2
        have eC : G1 117 = G 117 := hch.cell 117 rfl
        have eD : G1 118 = G 118 := hch.cell 118 rfl
        have eT : G1 121 = G 121 := hch.cell 121 rfl
        have e1 : mv_w (((400 * w + c : Nat) : Int) + 1) = ((400 * w + (c + 1) : Nat) : Int) := by rw [mv_ws (by omega)]; omega
        refine mv_JP.of (rg_X12_runs_12 _ _ _ _ G1) ?_
        rw [ew, ee, e1]
        clear ew ee e1
        rw [eC, eD, eT, Int.toNat_natCast, (hG c (by omega)).1, (hG c (by omega)).2]
        refine mv_J.t (by omega) (mv_J.ck (by omega) ?_)
        have fin : ∀ (G2 : mv_G) (m : Int), m = y.1 → (∀ j, j < y.1 → G2 122 0 j = (mv_x1 (code c) tmv (n, s)).2 j) → mv_ch [122] [] G G2 → mv_JP mm_X12_runs (fun r G' => r = (mv_ex code tmv (k + 1) c (n, s)).2 0 ∧ mv_ch [122] [] G G') 12 [some (.inr (100, 0)), some (.inl (w : Int)), none, some (.inl (e : Int)), some (.inl m), some (.inl ((400 * w + (c + 1) : Nat) : Int))] G2 := by
          intro G2 m hm h1 h2
          subst hm
          have := ih (c + 1) y.1 y.2 (mv_x1 (code c) tmv (n, s)).2 G2 (by omega) htc hst2.1 h1 h2
          have ee : mv_ex code tmv (k + 1) c (n, s) = mv_ex code tmv k (c + 1) (y.1, (mv_x1 (code c) tmv (n, s)).2) := by
            show mv_ex code tmv k (c + 1) (mv_x1 (code c) tmv (n, s)) = _
            rw [← hst2.2]
          rw [ee]
          exact this
        rcases mv_t1_cs hy with ⟨a1, a2, a3, rfl, aq⟩ | ⟨a1, a2, a3, rfl⟩ | hbin
        · have ex1 : (mv_x1 (code c) tmv (n, s)).2 = mv_sp s n (if code c < 10000 then code c else tmv (code c - 10000).toNat) := by unfold mv_x1; rw [if_pos (by omega)]
          rw [ex1] at fin
          have e2 : mv_w ((n : Int) + 1) = ((n + 1 : Nat) : Int) := by rw [mv_ws (by omega)]; omega
          rw [e2]
          clear e2
          by_cases h1 : code c < 10000
          · have o1 : mv_opk (code c) = 0 := by unfold mv_opk; rw [if_pos h1]
            have o2 : mv_ark (code c) = code c := by unfold mv_ark; rw [if_pos h1]
            rw [o1, o2]
            refine mv_J.t rfl (mv_J.ck (by omega) (mv_J.t rfl (mv_J.ck (by omega) (mv_J.ck (by omega) (mv_J.cut (fin _ _ rfl ?_ (hch.uc rfl)))))))
            rw [Int.toNat_natCast, if_pos h1]
            exact mv_sp_put hst (Or.inr ⟨rfl, rfl⟩)
          · have o1 : mv_opk (code c) = 1 := by unfold mv_opk; rw [if_neg h1, if_pos (by omega)]
            have o2 : mv_ark (code c) = code c - 10000 := by unfold mv_ark; rw [if_neg h1, if_pos (by omega)]
            rw [o1, o2]
            refine mv_J.f (by decide) (mv_J.ck (by omega) (mv_J.t rfl (mv_J.ck (by omega) (mv_J.f (by decide) (mv_J.ck (by omega) (mv_J.ck (by omega) (mv_J.ck (by omega) (mv_J.cut (fin _ _ rfl ?_ (hch.uc rfl))))))))))
            rw [Int.toNat_natCast, if_neg h1, ht _ (by omega) (aq.resolve_left (by omega))]
            exact mv_sp_put hst (Or.inr ⟨rfl, rfl⟩)
        · have ex1 : (mv_x1 (code c) tmv (n, s)).2 = mv_sp s (n - 1) (mv_w (1 - s (n - 1))) := by unfold mv_x1; rw [if_neg (by omega), if_pos a1]
          rw [ex1] at fin
          have e2 : mv_w ((n : Int) - 1) = ((n - 1 : Nat) : Int) := by rw [mv_ws (by omega)]; omega
          have o1 : mv_opk (code c) = 9 := by rw [a1]; decide
          rw [o1, e2]
          clear e2
          rw [Int.toNat_natCast (n - 1), hst (n - 1) (by omega)]
          exact mv_J.f (by decide) (mv_J.ck (by omega) (mv_J.f (by decide) (mv_J.ck (by omega) (mv_J.t rfl (mv_J.ck (by omega) (mv_J.ck (by omega) (mv_J.cut (fin _ _ rfl (mv_sp_put hst (Or.inl (Nat.le_refl _))) (hch.uc rfl)))))))))
        · have b1 : 1 < n := by rcases hbin with h | h | h <;> omega
          have b2 : code c = 20003 ∨ code c = 20004 ∨ code c = 30060 ∨ code c = 30061 ∨ code c = 30062 ∨ code c = 30042 ∨ code c = 30043 ∨ code c = 30045 ∨ code c = 30047 := by rcases hbin with h | h | h <;> omega
          have b3 : y.1 = n - 1 := by rcases hbin with ⟨-, -, -, -, rfl⟩ | ⟨-, -, rfl⟩ | ⟨-, -, rfl⟩ <;> rfl
          have b4 : code c = 20003 ∨ code c = 20004 → mv_bl (s (n - 2)) ∧ mv_bl (s (n - 1)) := fun h => by
            rcases hbin with ⟨h1, h2, h3, h4, h5⟩ | ⟨h1, h2⟩ | ⟨h1, h2⟩
            · exact ⟨hgs.1 _ (by omega) h3, hgs.1 _ (by omega) h4⟩
            · omega
            · omega
          have b5 : code c = 30047 → s (n - 1) ≠ 0 := fun h => mv_gs_div hgs b1 (by rcases hbin with ⟨h1, h2⟩ | ⟨h1, h2⟩ | ⟨h1, h2⟩ <;> omega)
          have ex1 : (mv_x1 (code c) tmv (n, s)).2 = mv_sp s (n - 2) (mv_jn (code c) (s (n - 2)) (s (n - 1))) := by unfold mv_x1; rw [if_neg (by omega), if_neg (by omega)]
          rw [ex1, b3] at fin
          have e2 : mv_w ((n : Int) - 1) = ((n - 1 : Nat) : Int) := by rw [mv_ws (by omega)]; omega
          have e3 : mv_w (((n - 1 : Nat) : Int) - 1) = ((n - 2 : Nat) : Int) := by rw [mv_ws (by omega)]; omega
          have o1 : mv_opk (code c) ≠ 0 ∧ mv_opk (code c) ≠ 1 ∧ mv_opk (code c) ≠ 9 := by rcases b2 with h | h | h | h | h | h | h | h | h <;> rw [h] <;> decide
          rw [e2, e3]
          clear e2 e3
          rw [Int.toNat_natCast (n - 1), Int.toNat_natCast (n - 2), hst (n - 1) (by omega), hst (n - 2) (by omega)]
          exact mv_J.f o1.1 (mv_J.ck (by omega) (mv_J.f o1.2.1 (mv_J.ck (by omega) (mv_J.f o1.2.2 (mv_J.ck (by omega) (mv_J.ck (by omega) (mv_J.ck (by omega) (mv_J.ce (gx_twoOf G1 _ _ _ b2 b4 b5) (mv_J.ck (by omega) (mv_J.cut (fin _ _ rfl (mv_sp_put hst (Or.inl (by omega))) (hch.uc rfl))))))))))))
  have h0 := key (e - c0) c0 0 (fun _ => false) (fun _ => 0) G (by omega) htc mv_gs_0 (fun j h => by omega) mv_ch.rf
  refine mv_Kp.of (mv_JP.of (rg_X12_runs_0 w c0 e G) (mv_J.cut ?_))
  rw [ew, show mv_w (((400 * w : Nat) : Int) + (c0 : Int)) = ((400 * w + c0 : Nat) : Int) by rw [mv_ws (by omega)]; omega]
  exact h0
end LA
