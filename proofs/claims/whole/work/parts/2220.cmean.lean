/-! FILL, the class: the most and the mean of a stretch. -/
section CM
variable {G : mv_G} {w k L : Nat} {C : Nat → Prop}
theorem fx_most (h6 : G 81 0 6 = w) (h7 : G 81 0 7 = k) (hw : 1 ≤ w ∧ w ≤ 20) (hk : k ≤ 15) (hL : L ≤ 60) (hC : ∀ x : Nat, x + w ≤ L → (C x ↔ (x : Int) + w ≤ G 3 0 x)) (s t : Nat) (htL : t ≤ L) (hsL : s ≤ L) : ff_X4_most [.inr (81, 0), .inl s, .inl t] G = some (mv_Mo w k C s t, G) := by
  have key : ∀ (q i nx : Nat) (n : Int), i + q = t + 1 ∨ q = 0 ∧ t + 1 ≤ i → i ≤ 61 → nx ≤ 100 → 0 ≤ n → n ≤ i → n + mv_Mo w k C (if i < nx then nx else i) t = mv_Mo w k C s t → mv_JP mm_X4_most (fun v G' => v = mv_Mo w k C s t ∧ G' = G) 8 [some (.inr (81, 0)), none, some (.inl (t : Int)), some (.inl n), some (.inl (nx : Int)), some (.inl (i : Int))] G := by
    intro q
    induction q with
    | zero =>
      intro i nx n hq hi hnx hn hni he
      refine mv_JP.of (rg_X4_most_8 _ _ _ _ G) ?_
      rw [h6, mv_ws (by omega)]
      refine mv_J.t (by omega) (mv_J.ret ⟨?_, rfl⟩)
      rw [mv_Mo_0 hw.1 (fun b hb => by have := hb.2; split at this <;> omega)] at he
      omega
    | succ q ih =>
      intro i nx n hq hi hnx hn hni he
      refine mv_JP.of (rg_X4_most_8 _ _ _ _ G) ?_
      rw [show mv_w ((i : Int) + G 81 0 6) = (i : Int) + w by rw [h6, mv_ws (by omega)], mv_ws (x := (i : Int) + 1) (by omega)]
      refine mv_J.i (fun h1 => mv_J.ret ⟨?_, rfl⟩) (fun h1 => mv_J.i (fun h2 => mv_J.cut ?_) (fun h2 => ?_))
      · rw [mv_Mo_0 hw.1 (fun b hb => by have := hb.2; split at this <;> omega)] at he
        omega
      · refine ih (i + 1) nx n (by omega) (by omega) hnx hn (by omega) ?_
        rw [if_pos (show i < nx by omega)] at he
        rw [← he]
        by_cases e : i + 1 < nx
        · rw [if_pos e]
        · rw [if_neg e, show i + 1 = nx by omega]
      · rw [if_neg (by omega)] at he
        refine mv_J.ce (fx_isClear4_3 h6 hw.2 i (by omega)) (mv_J.bt (fun h3 => mv_J.cut ?_) (fun h3 => ?_))
        · refine ih (i + 1) nx n (by omega) (by omega) hnx hn (by omega) ?_
          rw [if_neg (by omega), ← mv_Mo_skip hw.1 (fun h => h3 ⟨by omega, (hC i (by omega)).mp h⟩)]
          exact he
        · rw [h6, h7, mv_ws (x := (i : Int) + w) (by omega), mv_ws (x := (i : Int) + w + k) (by omega), mv_ws (x := n + 1) (by omega)]
          refine mv_J.cut ?_
          have hci := (hC i (by omega)).mpr h3.2
          have e1 := mv_Mo_first (k := k) hw.1 t i t i (by omega) ⟨hci, Nat.le_refl _, by omega⟩ (fun b hb => hb.2.1)
          have := ih (i + 1) (i + w + k) (n + 1) (by omega) (by omega) (by omega) (by omega) (by omega) (by
            by_cases e : i + 1 < i + w + k
            · rw [if_pos e]; omega
            · rw [if_neg e, show i + 1 = i + w + k by omega]; omega)
          exact this
  have := key (t + 1 - s) s s 0 (by omega) (by omega) (by omega) (by omega) (by omega) (by rw [if_neg (Nat.lt_irrefl s)]; omega)
  exact mv_Kp.eq (mv_Kp.of (mv_JP.of (rg_X4_most_0 s t G) (mv_J.cut this)))
end CM
/-! sums -/
def mv_sm (g : Nat → Int) : Nat → Nat → Int
  | 0, _ => 0
  | q + 1, y => g y + mv_sm g q (y + 1)
theorem mv_sm_s {g : Nat → Int} : ∀ q y, mv_sm g (q + 1) y = mv_sm g q y + g (y + q)
  | 0, y => by
    show g y + 0 = 0 + g (y + 0)
    rw [Nat.add_zero]
    omega
  | q + 1, y => by
    have h := mv_sm_s (g := g) q (y + 1)
    have e1 : mv_sm g (q + 1 + 1) y = g y + mv_sm g (q + 1) (y + 1) := rfl
    have e2 : mv_sm g (q + 1) y = g y + mv_sm g q (y + 1) := rfl
    rw [e1, e2, h, show y + 1 + q = y + (q + 1) by omega]
    omega
theorem mv_sm_b {g : Nat → Int} {B : Int} : ∀ q y, (∀ a, y ≤ a → a < y + q → 0 ≤ g a ∧ g a ≤ B) → 0 ≤ mv_sm g q y ∧ mv_sm g q y ≤ q * B
  | 0, y, _ => by
    show (0 : Int) ≤ 0 ∧ (0 : Int) ≤ ((0 : Nat) : Int) * B
    rw [show ((0 : Nat) : Int) = 0 by rfl, Int.zero_mul]
    omega
  | q + 1, y, h => by
    have i := mv_sm_b q (y + 1) (fun a h1 h2 => h a (by omega) (by omega))
    have h0 := h y (Nat.le_refl _) (by omega)
    have e : ((q + 1 : Nat) : Int) * B = q * B + B := by
      rw [show ((q + 1 : Nat) : Int) = (q : Int) + 1 by omega, Int.add_mul, Int.one_mul]
    show 0 ≤ g y + mv_sm g q (y + 1) ∧ g y + mv_sm g q (y + 1) ≤ _
    omega
noncomputable def mv_w1 (c : Prop) (v : Int) : Int := @ite _ c (Classical.propDecidable c) v 0
theorem mv_w1_t {c : Prop} {v : Int} (h : c) : mv_w1 c v = v := if_pos h
theorem mv_w1_f {c : Prop} {v : Int} (h : ¬ c) : mv_w1 c v = 0 := if_neg h
theorem mv_w1_b {c : Prop} {v B : Int} (h : 0 ≤ v ∧ v ≤ B) : 0 ≤ mv_w1 c v ∧ mv_w1 c v ≤ B := by
  by_cases hc : c
  · rw [mv_w1_t hc]; exact h
  · rw [mv_w1_f hc]; omega
section ME
variable {w k : Nat} {C : Nat → Prop}
noncomputable abbrev mv_Me (w k : Nat) (C : Nat → Prop) : Nat → Int → Int := mv_stv mv_Ha 1000 w k C
/-- how many places, and the parts left and right of them -/
noncomputable def mv_gN (C : Nat → Prop) : Nat → Int := fun x => mv_w1 (C x) 1
noncomputable def mv_gL (w k : Nat) (C : Nat → Prop) (s : Nat) : Nat → Int := fun x => mv_w1 (C x) (mv_Me w k C s ((x : Int) - k))
noncomputable def mv_gR (w k : Nat) (C : Nat → Prop) (l : Int) : Nat → Int := fun x => mv_w1 (C x) (mv_Me w k C (x + w + k) l)
theorem mv_hc_sm {f : Nat → Int} : ∀ q y, mv_hc (fun a => mv_oc (C a) (f a)) q y = mv_sm (mv_gN C) q y
  | 0, _ => rfl
  | q + 1, y => by
    have ih := mv_hc_sm (f := f) q (y + 1)
    unfold mv_hc
    rw [ih]
    show _ = mv_gN C y + mv_sm (mv_gN C) q (y + 1)
    unfold mv_gN
    by_cases h : C y
    · rw [mv_oc_t h, mv_w1_t h]
    · rw [mv_oc_f h, mv_w1_f h]
theorem mv_hs_sm {s : Nat} {l : Int} : ∀ q y, mv_hs (fun a => mv_oc (C a) (1000 + mv_Me w k C s ((a : Int) - k) + mv_Me w k C (a + w + k) l)) q y = 1000 * mv_sm (mv_gN C) q y + mv_sm (mv_gL w k C s) q y + mv_sm (mv_gR w k C l) q y
  | 0, _ => rfl
  | q + 1, y => by
    have ih := mv_hs_sm (s := s) (l := l) q (y + 1)
    unfold mv_hs
    rw [ih]
    have e1 : mv_sm (mv_gN C) (q + 1) y = mv_w1 (C y) 1 + mv_sm (mv_gN C) q (y + 1) := rfl
    have e2 : mv_sm (mv_gL w k C s) (q + 1) y = mv_w1 (C y) (mv_Me w k C s ((y : Int) - k)) + mv_sm (mv_gL w k C s) q (y + 1) := rfl
    have e3 : mv_sm (mv_gR w k C l) (q + 1) y = mv_w1 (C y) (mv_Me w k C (y + w + k) l) + mv_sm (mv_gR w k C l) q (y + 1) := rfl
    rw [e1, e2, e3]
    by_cases h : C y
    · rw [mv_oc_t h, mv_w1_t h, mv_w1_t h, mv_w1_t h]
      show 1000 + _ + _ + _ = _
      omega
    · rw [mv_oc_f h, mv_w1_f h, mv_w1_f h, mv_w1_f h]
      show 0 + _ = _
      omega
theorem mv_Me_eq (hw : 1 ≤ w) (s : Nat) (l : Int) : mv_Me w k C s l = if mv_sm (mv_gN C) (l - w - s + 1).toNat s = 0 then 0 else Int.tdiv (1000 * mv_sm (mv_gN C) (l - w - s + 1).toNat s + mv_sm (mv_gL w k C s) (l - w - s + 1).toNat s + mv_sm (mv_gR w k C l) (l - w - s + 1).toNat s) (mv_sm (mv_gN C) (l - w - s + 1).toNat s) := by
  have h := mv_stv_eq (c := 1000) (k := k) (C := C) mv_Ha_ok hw s l
  refine h.trans ?_
  have e : ∀ f q y, mv_Ha f q y = if mv_hc f q y = 0 then 0 else Int.tdiv (mv_hs f q y) (mv_hc f q y) := fun _ _ _ => rfl
  rw [e, mv_hc_sm, mv_hs_sm]
/-- each part of the sum is at most so much -/
theorem mv_sm_le {N S : Nat → Int} {B : Int} : ∀ q y, (∀ a, y ≤ a → a < y + q → (N a = 0 ∧ S a = 0) ∨ (N a = 1 ∧ 0 ≤ S a ∧ S a ≤ B)) → 0 ≤ mv_sm N q y ∧ 0 ≤ mv_sm S q y ∧ mv_sm S q y ≤ B * mv_sm N q y
  | 0, y, _ => by
    show (0 : Int) ≤ 0 ∧ (0 : Int) ≤ 0 ∧ (0 : Int) ≤ B * 0
    rw [Int.mul_zero]
    omega
  | q + 1, y, h => by
    obtain ⟨i1, i2, i3⟩ := mv_sm_le q (y + 1) (fun a h1 h2 => h a (by omega) (by omega))
    show 0 ≤ N y + mv_sm N q (y + 1) ∧ 0 ≤ S y + mv_sm S q (y + 1) ∧ S y + mv_sm S q (y + 1) ≤ B * (N y + mv_sm N q (y + 1))
    rw [Int.mul_add]
    rcases h y (Nat.le_refl _) (by omega) with ⟨h1, h2⟩ | ⟨h1, h2, h3⟩
    · rw [h1, h2, Int.mul_zero]; omega
    · rw [h1, Int.mul_one]; omega
theorem mv_sm_add {f g : Nat → Int} : ∀ q y, mv_sm (fun a => f a + g a) q y = mv_sm f q y + mv_sm g q y
  | 0, _ => rfl
  | q + 1, y => by
    have ih := mv_sm_add (f := f) (g := g) q (y + 1)
    show f y + g y + mv_sm (fun a => f a + g a) q (y + 1) = f y + mv_sm f q (y + 1) + (g y + mv_sm g q (y + 1))
    rw [ih]
    omega
theorem mv_Me_b (hw : 1 ≤ w) : ∀ (d s : Nat) (l : Int), l - s ≤ d → 0 ≤ mv_Me w k C s l ∧ (mv_Me w k C s l = 0 ∨ mv_Me w k C s l ≤ 1000 * (l - s)) := by
  intro d
  induction d with
  | zero =>
    intro s l hl
    have : mv_Me w k C s l = 0 := mv_stv_0 mv_Ha_ok hw (by omega)
    omega
  | succ d ih =>
    intro s l hl
    rw [mv_Me_eq hw]
    by_cases hz : mv_sm (mv_gN C) (l - w - s + 1).toNat s = 0
    · rw [if_pos hz]; omega
    · rw [if_neg hz]
      have hb := mv_sm_le (N := mv_gN C) (S := fun a => (fun a => 1000 * mv_gN C a + mv_gL w k C s a) a + mv_gR w k C l a) (B := 1000 * (l - s)) (l - w - s + 1).toNat s (fun a h1 h2 => by
        unfold mv_gN mv_gL mv_gR
        by_cases hC : C a
        · refine Or.inr ?_
          dsimp only
          rw [mv_w1_t hC, mv_w1_t hC, mv_w1_t hC]
          have i1 := ih s ((a : Int) - k) (by omega)
          have i2 := ih (a + w + k) l (by omega)
          refine ⟨rfl, by omega, ?_⟩
          omega
        · refine Or.inl ?_
          dsimp only
          rw [mv_w1_f hC, mv_w1_f hC, mv_w1_f hC]
          exact ⟨rfl, by omega⟩)
      rw [mv_sm_add, mv_sm_add] at hb
      have e1000 : ∀ q y, mv_sm (fun a => 1000 * mv_gN C a) q y = 1000 * mv_sm (mv_gN C) q y := by
        intro q
        induction q with
        | zero => intro y; rfl
        | succ q ih =>
          intro y
          show 1000 * mv_gN C y + mv_sm (fun a => 1000 * mv_gN C a) q (y + 1) = 1000 * (mv_gN C y + mv_sm (mv_gN C) q (y + 1))
          rw [ih]
          omega
      rw [e1000] at hb
      obtain ⟨b1, b2, b3⟩ := hb
      generalize mv_sm (mv_gN C) (l - w - s + 1).toNat s = n at hz b1 b2 b3
      have b2' : 0 ≤ 1000 * n + mv_sm (mv_gL w k C s) (l - w - s + 1).toNat s + mv_sm (mv_gR w k C l) (l - w - s + 1).toNat s := b2
      have b3' : 1000 * n + mv_sm (mv_gL w k C s) (l - w - s + 1).toNat s + mv_sm (mv_gR w k C l) (l - w - s + 1).toNat s ≤ 1000 * (l - s) * n := b3
      generalize 1000 * n + mv_sm (mv_gL w k C s) (l - w - s + 1).toNat s + mv_sm (mv_gR w k C l) (l - w - s + 1).toNat s = S at b2' b3'
      rw [Int.tdiv_eq_ediv_of_nonneg b2']
      exact ⟨Int.ediv_nonneg b2' b1, Or.inr (Int.ediv_le_of_le_mul (by omega) b3')⟩
theorem mv_Me_p (hw : 1 ≤ w) {s : Nat} {l : Int} (hl : l ≤ 60) : 0 ≤ mv_Me w k C s l ∧ mv_Me w k C s l ≤ 60000 := by
  have := mv_Me_b (k := k) (C := C) hw (l - s).toNat s l (by omega)
  omega
end ME
section CN
variable {G : mv_G} {w k L : Nat} {C : Nat → Prop}
theorem fx_meanOf {G1 : mv_G} (hw : 1 ≤ w) (x : Nat) (y : Int) (hx : x ≤ 100) (hy : y ≤ 60) (h : x < y → G1 84 (x + 1) y.toNat = mv_Me w k C x y) : ff_X4_meanOf [.inr (81, 0), .inl x, .inl y] G1 = some (mv_Me w k C x y, G1) := by
  refine mv_Kp.eq (mv_Kp.of (mv_JP.of (rg_X4_meanOf_0 x y G1) (mv_J.f (by omega) (mv_J.f (by omega) (mv_J.i (fun h1 => mv_J.ck (by omega) (mv_J.ck (by omega) (mv_J.ret ⟨?_, rfl⟩))) (fun h1 => mv_J.ret ⟨?_, rfl⟩))))))
  · rw [Int.toNat_natCast]; exact h h1
  · exact (mv_stv_0 mv_Ha_ok hw (by omega)).symm
set_option maxHeartbeats 4000000 in
theorem fx_mean (h6 : G 81 0 6 = w) (h7 : G 81 0 7 = k) (hw : 1 ≤ w ∧ w ≤ 20) (hk : k ≤ 15) (hL : L ≤ 60) (hC : ∀ x : Nat, x + w ≤ L → (C x ↔ (x : Int) + w ≤ G 3 0 x)) (s t : Nat) (hst : s ≤ t) (htL : t ≤ L) : mv_Kp (ff_X4_mean [.inr (81, 0), .inl s, .inl t] G) (fun v G' => v = mv_Me w k C s t ∧ mv_ch [84, 85] [] G G') := by
  obtain ⟨P, hP⟩ : ∃ P : Int → mv_G → Prop, P = (fun v G' => v = mv_Me w k C s t ∧ mv_ch [84, 85] [] G G') := ⟨_, rfl⟩
  rw [← hP]
  -- a: from where on all is reckoned; the right parts of a stretch that begins at a
  have key : ∀ (q a : Nat) (G1 : mv_G), a = s + q → a ≤ t + 1 → mv_ch [84, 85] [] G G1 → (∀ x y : Nat, a ≤ x → x ≤ y → y ≤ t → G1 84 (x + 1) y = mv_Me w k C x y) → (∀ y : Nat, y ≤ t → G1 85 0 y = mv_sm (mv_gR w k C y) ((y : Int) - w - a + 1).toNat a) → mv_JP mm_X4_mean P 10 [some (.inr (81, 0)), some (.inl (s : Int)), some (.inl (t : Int)), some (.inl ((a : Int) - 1)), none, none, none, none, none, none] G1 := by
    intro q
    induction q with
    | zero =>
      intro a G1 ha hat hc hm hr
      refine mv_JP.of (rg_X4_mean_10 _ _ _ G1) (mv_J.t (by omega) (mv_J.ck (by omega) (mv_J.ck (by omega) (mv_J.ret ?_))))
      rw [hP, Int.toNat_natCast, Int.toNat_natCast]
      exact ⟨hm s t (by omega) hst (Nat.le_refl _), hc⟩
    | succ q ih =>
      intro a1 G1 ha hat hc hm hr
      obtain ⟨a, rfl⟩ : ∃ a, a1 = a + 1 := ⟨s + q, by omega⟩
      have ea : ((a + 1 : Nat) : Int) - 1 = (a : Int) := by omega
      rw [ea]
      have h61 : G1 81 0 6 = w := by rw [hc.cell 81 rfl]; exact h6
      refine mv_JP.of (rg_X4_mean_10 _ _ _ G1) (mv_J.f (by omega) (mv_J.ce (fx_isClear4_3 h61 hw.2 a (by omega)) (mv_J.cut ?_)))
      have inner : ∀ (m b : Nat) (G2 : mv_G), b + m = t + 1 → a ≤ b → mv_ch [84, 85] [] G G2 → (∀ x y : Nat, a + 1 ≤ x → x ≤ y → y ≤ t → G2 84 (x + 1) y = mv_Me w k C x y) → (∀ y : Nat, a ≤ y → y < b → G2 84 (a + 1) y = mv_Me w k C a y) → (∀ y : Nat, y < b → G2 85 0 y = mv_sm (mv_gR w k C y) ((y : Int) - w - a + 1).toNat a) → (∀ y : Nat, b ≤ y → y ≤ t → G2 85 0 y = mv_sm (mv_gR w k C y) ((y : Int) - w - (a + 1 : Nat) + 1).toNat (a + 1)) → mv_JP mm_X4_mean P 38 [some (.inr (81, 0)), some (.inl (s : Int)), some (.inl (t : Int)), some (.inl (a : Int)), some (.inl (mv_b (a < 60 ∧ (a : Int) + w ≤ G1 3 0 a))), some (.inl (mv_sm (mv_gN C) ((b : Int) - w - a).toNat a)), some (.inl (mv_sm (mv_gL w k C a) ((b : Int) - w - a).toNat a)), some (.inl (b : Int)), none, none] G2 := by
        intro m
        induction m with
        | zero =>
          intro b G2 hb hab hc2 hm2 hma hr1 hr2
          refine mv_JP.of (rg_X4_mean_38 _ _ _ _ _ _ _ G2) (mv_J.t (by omega) (mv_J.cut ?_))
          rw [mv_ws (by omega)]
          refine ih a G2 (by omega) (by omega) hc2 (fun x y h1 h2 h3 => ?_) (fun y h1 => hr1 y (by omega))
          by_cases e : x = a
          · subst e; exact hma y h2 (by omega)
          · exact hm2 x y (by omega) h2 h3
        | succ m ihm =>
          intro b G2 hb hab hc2 hm2 hma hr1 hr2
          have h62 : G2 81 0 6 = w := by rw [hc2.cell 81 rfl]; exact h6
          have h72 : G2 81 0 7 = k := by rw [hc2.cell 81 rfl]; exact h7
          have hC2 : ∀ x : Nat, x + w ≤ L → (C x ↔ (x : Int) + w ≤ G2 3 0 x) := fun x hx => by rw [hc2.cell 3 rfl]; exact hC x hx
          have hC1 : ∀ x : Nat, x + w ≤ L → (C x ↔ (x : Int) + w ≤ G1 3 0 x) := fun x hx => by rw [hc.cell 3 rfl]; exact hC x hx
          -- the number of the stretch from a to b
          have put : ∀ (G3 : mv_G), mv_ch [85] [] G2 G3 → (∀ y : Nat, y ≠ b → G3 85 0 y = G2 85 0 y) → G3 85 0 b = mv_sm (mv_gR w k C b) ((b : Int) - w - a + 1).toNat a → mv_JP mm_X4_mean P 138 [some (.inr (81, 0)), some (.inl (s : Int)), some (.inl (t : Int)), some (.inl (a : Int)), some (.inl (mv_b (a < 60 ∧ (a : Int) + w ≤ G1 3 0 a))), some (.inl (mv_sm (mv_gN C) ((b : Int) - w - a + 1).toNat a)), some (.inl (mv_sm (mv_gL w k C a) ((b : Int) - w - a + 1).toNat a)), some (.inl (b : Int)), none, none] G3 := by
            intro G3 hc3 h85 h85b
            have eq := mv_Me_eq (k := k) (C := C) hw.1 a b
            have bN := mv_sm_b (g := mv_gN C) (B := 1) ((b : Int) - w - a + 1).toNat a (fun x _ _ => mv_w1_b (by omega))
            have bL := mv_sm_b (g := mv_gL w k C a) (B := 60000) ((b : Int) - w - a + 1).toNat a (fun x h1 h2 => mv_w1_b (mv_Me_p hw.1 (by omega)))
            have bR := mv_sm_b (g := mv_gR w k C b) (B := 60000) ((b : Int) - w - a + 1).toNat a (fun x h1 h2 => mv_w1_b (mv_Me_p hw.1 (by omega)))
            rw [Int.mul_one] at bN
            refine mv_JP.of (rg_X4_mean_138 _ _ _ _ _ _ _ G3) (mv_J.ck (by omega) (mv_J.ck (by omega) ?_))
            rw [Int.toNat_natCast, Int.toNat_natCast, h85b, mv_ws (x := (b : Int) + 1) (by omega)]
            have ne : (((b + 1 : Nat) : Int) - w - a).toNat = ((b : Int) - w - a + 1).toNat := by omega
            have fin : ∀ v : Int, v = mv_Me w k C a b → mv_JP mm_X4_mean P 38 [some (.inr (81, 0)), some (.inl (s : Int)), some (.inl (t : Int)), some (.inl (a : Int)), some (.inl (mv_b (a < 60 ∧ (a : Int) + w ≤ G1 3 0 a))), some (.inl (mv_sm (mv_gN C) ((b : Int) - w - a + 1).toNat a)), some (.inl (mv_sm (mv_gL w k C a) ((b : Int) - w - a + 1).toNat a)), some (.inl ((b : Int) + 1)), none, none] (mv_up G3 84 (a + 1) b v) := fun v hv => by
              have := ihm (b + 1) (mv_up G3 84 (a + 1) b v) (by omega) (by omega) ((hc2.tr (hc3.mono rfl rfl)).uc rfl) (fun x y h1 h2 h3 => by
                rw [mv_up_i (by omega), hc3.cell 84 rfl]
                exact hm2 x y h1 h2 h3) (fun y h1 h2 => by
                rw [mv_up_at]
                by_cases e : y = b
                · rw [if_pos e, e]; exact hv
                · rw [if_neg e, hc3.cell 84 rfl]; exact hma y h1 (by omega)) (fun y h1 => by
                rw [mv_up_k (by decide)]
                by_cases e : y = b
                · subst e; exact h85b
                · rw [h85 y e]; exact hr1 y (by omega)) (fun y h1 h2 => by
                rw [mv_up_k (by decide), h85 y (by omega)]
                exact hr2 y (by omega) h2)
              rw [ne] at this
              exact this
            generalize mv_sm (mv_gN C) ((b : Int) - w - a + 1).toNat a = n at eq bN fin
            generalize mv_sm (mv_gL w k C a) ((b : Int) - w - a + 1).toNat a = l at eq bL fin
            generalize mv_sm (mv_gR w k C b) ((b : Int) - w - a + 1).toNat a = r at eq bR h85b
            refine mv_J.i (fun h1 => mv_J.ck (by omega) (mv_J.cut (fin 0 ?_))) (fun h1 => mv_J.f h1 (mv_J.ck (by omega) (mv_J.cut (fin _ ?_))))
            · rw [eq, if_pos h1]
            · rw [eq, if_neg h1]
              have nb : n ≤ 61 := by omega
              have lb : l ≤ 61 * 60000 := by omega
              have rb : r ≤ 61 * 60000 := by omega
              rw [mv_ws (x := 1000 * n) (by omega), mv_ws (x := 1000 * n + l) (by omega), mv_ws (x := 1000 * n + l + r) (by omega), mv_ws]
              rw [Int.tdiv_eq_ediv_of_nonneg (by omega)]
              have q1 := Int.ediv_nonneg (a := 1000 * n + l + r) (b := n) (by omega) (by omega)
              have q2 := Int.ediv_le_self (a := 1000 * n + l + r) n (by omega)
              omega
          -- the right part of a, if one can sit there
          have right : mv_JP mm_X4_mean P 95 [some (.inr (81, 0)), some (.inl (s : Int)), some (.inl (t : Int)), some (.inl (a : Int)), some (.inl (mv_b (a < 60 ∧ (a : Int) + w ≤ G1 3 0 a))), some (.inl (mv_sm (mv_gN C) ((b : Int) - w - a + 1).toNat a)), some (.inl (mv_sm (mv_gL w k C a) ((b : Int) - w - a + 1).toNat a)), some (.inl (b : Int)), none, none] G2 := by
            have eb := hr2 b (Nat.le_refl _) (by omega)
            refine mv_JP.of (rg_X4_mean_95 _ _ _ _ _ _ _ G2) (mv_J.bt (fun h1 => mv_J.cut (put G2 mv_ch.rf (fun _ _ => rfl) ?_)) (fun h1 => ?_))
            · rw [eb]
              by_cases e : b < a + w
              · rw [show ((b : Int) - w - (a + 1 : Nat) + 1).toNat = 0 by omega, show ((b : Int) - w - a + 1).toNat = 0 by omega]
                rfl
              · have hnC : ¬ C a := fun h => h1 ⟨by omega, (hC1 a (by omega)).mp h⟩
                rw [show ((b : Int) - w - a + 1).toNat = ((b : Int) - w - (a + 1 : Nat) + 1).toNat + 1 by omega]
                show _ = mv_gR w k C b a + mv_sm (mv_gR w k C b) _ (a + 1)
                unfold mv_gR
                rw [mv_w1_f hnC]
                omega
            · rw [h62, h72, mv_ws (x := (a : Int) + w) (by omega), mv_ws (x := (a : Int) + w + k) (by omega), Int.toNat_natCast]
              refine mv_J.i (fun h2 => mv_J.cut (put G2 mv_ch.rf (fun _ _ => rfl) ?_)) (fun h2 => mv_J.ck (by omega) ?_)
              · rw [eb, show ((b : Int) - w - (a + 1 : Nat) + 1).toNat = 0 by omega, show ((b : Int) - w - a + 1).toNat = 0 by omega]
                rfl
              · have hCa : C a := (hC1 a (by omega)).mpr h1.2
                have em := fx_meanOf (G1 := G2) (w := w) (k := k) (C := C) hw.1 (a + w + k) (b : Int) (by omega) (by omega) (fun h => by
                  rw [Int.toNat_natCast]
                  exact hm2 (a + w + k) b (by omega) (by omega) (by omega))
                rw [show ((a + w + k : Nat) : Int) = (a : Int) + w + k by omega] at em
                have bM := mv_Me_p (s := a + w + k) (k := k) (C := C) hw.1 (show (b : Int) ≤ 60 by omega)
                have bR := mv_sm_b (g := mv_gR w k C b) (B := 60000) ((b : Int) - w - (a + 1 : Nat) + 1).toNat (a + 1) (fun x h1 h2 => mv_w1_b (mv_Me_p hw.1 (by omega)))
                refine mv_J.ce em (mv_J.ck (by omega) (mv_J.cut (put _ (mv_ch.rf.uc rfl) (fun y hy => mv_up_j hy) ?_)))
                rw [mv_ups_eq, eb, mv_ws (by omega), show ((b : Int) - w - a + 1).toNat = ((b : Int) - w - (a + 1 : Nat) + 1).toNat + 1 by omega]
                show _ = mv_gR w k C b a + mv_sm (mv_gR w k C b) _ (a + 1)
                have : mv_gR w k C b a = mv_Me w k C (a + w + k) b := by unfold mv_gR; rw [mv_w1_t hCa]
                rw [this]
                omega
          refine mv_JP.of (rg_X4_mean_38 _ _ _ _ _ _ _ G2) (mv_J.f (by omega) ?_)
          rw [show mv_w ((b : Int) - G2 81 0 6) = (b : Int) - w by rw [h62, mv_ws (by omega)]]
          refine mv_J.i (fun h1 => mv_J.cut ?_) (fun h1 => ?_)
          · rw [show ((b : Int) - w - a + 1).toNat = ((b : Int) - w - a).toNat by omega] at right
            exact right
          · have ex : ((b : Int) - w - a + 1).toNat = ((b : Int) - w - a).toNat + 1 := by omega
            have ey : a + ((b : Int) - w - a).toNat = b - w := by omega
            rw [ex, mv_sm_s, mv_sm_s, ey] at right
            rw [show (b : Int) - w = ((b - w : Nat) : Int) by omega]
            refine mv_J.ce (fx_isClear4_3 h62 hw.2 (b - w) (by omega)) (mv_J.bt (fun h2 => mv_J.cut ?_) (fun h2 => ?_))
            · have hnC : ¬ C (b - w) := fun h => h2 ⟨by omega, (hC2 (b - w) (by omega)).mp h⟩
              have e1 : mv_gN C (b - w) = 0 := mv_w1_f hnC
              have e2 : mv_gL w k C a (b - w) = 0 := mv_w1_f hnC
              rw [e1, e2, Int.add_zero, Int.add_zero] at right
              rw [show (((b - w : Nat) : Int) - a).toNat = ((b : Int) - w - a).toNat by omega]
              exact right
            · have hCb : C (b - w) := (hC2 (b - w) (by omega)).mpr h2.2
              have e1 : mv_gN C (b - w) = 1 := mv_w1_t hCb
              have e2 : mv_gL w k C a (b - w) = mv_Me w k C a ((b - w : Nat) - (k : Int)) := mv_w1_t hCb
              rw [e1, e2] at right
              have em := fx_meanOf (G1 := G2) (w := w) (k := k) (C := C) hw.1 a ((b - w : Nat) - (k : Int)) (by omega) (by omega) (fun h => by
                have := hma ((b - w : Nat) - (k : Int)).toNat (by omega) (by omega)
                rw [this]
                congr 1
                omega)
              have bN := mv_sm_b (g := mv_gN C) (B := 1) ((b : Int) - w - a).toNat a (fun x _ _ => mv_w1_b (by omega))
              have bL := mv_sm_b (g := mv_gL w k C a) (B := 60000) ((b : Int) - w - a).toNat a (fun x h1 h2 => mv_w1_b (mv_Me_p hw.1 (by omega)))
              have bM := mv_Me_p (s := a) (k := k) (C := C) hw.1 (show ((b - w : Nat) - (k : Int)) ≤ 60 by omega)
              rw [Int.mul_one] at bN
              rw [h72, show mv_w (((b - w : Nat) : Int) - k) = ((b - w : Nat) : Int) - k by rw [mv_ws (by omega)]]
              refine mv_J.ce em ?_
              rw [show (((b - w : Nat) : Int) - a).toNat = ((b : Int) - w - a).toNat by omega, mv_ws (by omega), mv_ws (by omega)]
              exact mv_J.cut right
      have := inner (t + 1 - a) a G1 (by omega) (Nat.le_refl _) hc hm (fun y h1 h2 => by omega) (fun y h1 => by
        rw [hr y (by omega), show ((y : Int) - w - a + 1).toNat = 0 by omega, show ((y : Int) - w - (a + 1 : Nat) + 1).toNat = 0 by omega]
        rfl) (fun y h1 h2 => hr y h2)
      rw [show ((a : Int) - w - a).toNat = 0 by omega] at this
      exact this
  refine mv_Kp.of (mv_JP.of (rg_X4_mean_0 s t G) (mv_J.ce (fx_fill_85 0 G) (mv_J.cut ?_)))
  have := key (t + 1 - s) (t + 1) (mv_fl G 85 61 0) (by omega) (Nat.le_refl _) (fun a b x h1 h2 => by
    rw [mv_fl_k]
    intro e
    subst e
    revert h1
    decide) (fun x y h1 h2 h3 => by omega) (fun y h1 => by
    rw [mv_fl_at, if_pos (by omega), show ((y : Int) - w - (t + 1 : Nat) + 1).toNat = 0 by omega]
    rfl)
  rw [show ((t + 1 : Nat) : Int) - 1 = (t : Int) by omega] at this
  exact this
end CN
