/-! Calls that both answer alike. -/
def st_St (G : mv_G) (a : mv_a) : Prop := st_cW G a ∧ st_mW G a ∧ st_iW a
def st_bx (f g : mv_G → Option (Int × mv_G)) : Prop := ∀ G a, st_St G a → ∃ v G1 G2 a2, f G = some (v, G1) ∧ g G1 = some (v, G2) ∧ st_St G2 a2
theorem st_bx_of {f g : mv_G → Option (Int × mv_G)} (ans : mv_a → Int) (nx : mv_a → mv_a)
    (hf : ∀ G a, st_cW G a → st_iW a → mv_Kp (f G) (fun v G' => v = ans a ∧ st_cW G' (nx a) ∧ mv_fC G G'))
    (hg : ∀ G a, st_mW G a → st_iW a → mv_Kp (g G) (fun v G' => v = ans a ∧ st_mW G' (nx a) ∧ mv_fM G G'))
    (hi : ∀ a, st_iW a → st_iW (nx a)) : st_bx f g := fun G a ⟨hc, hm, hw⟩ => by
  obtain ⟨v, G1, e1, rfl, c1, f1⟩ := hf G a hc hw
  obtain ⟨v2, G2, e2, rfl, m2, f2⟩ := hg G1 a (hm.fC hw.1 f1) hw
  exact ⟨_, G1, G2, nx a, e1, e2, c1.fM f2, m2, hi a hw⟩
theorem st_bx_q {f g : mv_G → Option (Int × mv_G)} {S S2 : List Nat} {T T2 : List (Nat × Nat)} (ans : mv_a → Int)
    (hf : ∀ G a, st_cW G a → st_iW a → mv_Kp (f G) (fun v G' => v = ans a ∧ mv_ch S T G G'))
    (hg : ∀ G a, st_mW G a → st_iW a → mv_Kp (g G) (fun v G' => v = ans a ∧ mv_ch S2 T2 G G'))
    (c1 : (mv_cWl.any fun k => S.contains k || T.any fun q => q.1 == k) = false) (c2 : ((S.contains 0 || S.contains 52) || (T.contains (0, 10) || T.contains (52, 0) || T.contains (52, 1) || T.contains (52, 2))) = false) (c3 : (S.all (fun k => Nat.blt k 100) && T.all (fun q => Nat.blt q.1 100)) = true)
    (d1 : (mv_mWl.any fun k => S2.contains k || T2.any fun q => q.1 == k) = false) (d2 : (S2.contains 100 || [3, 5, 6, 8, 16, 35, 36, 37, 68].any fun j => T2.contains (100, j)) = false) (d3 : (S2.all (fun k => Nat.ble 100 k) && T2.all (fun q => Nat.ble 100 q.1)) = true) : st_bx f g :=
  st_bx_of ans id (fun G a hc hi => mv_Kp.mono (hf G a hc hi) (fun v G' h => ⟨h.1, hc.ch h.2 c1 c2, h.2.fC c3⟩)) (fun G a hm hi => mv_Kp.mono (hg G a hm hi) (fun v G' h => ⟨h.1, hm.ch hi.1 h.2 d1 d2, h.2.fM d3⟩)) (fun a h => h)
theorem bx_tells (p x : Int) : st_bx (ff_X11_tells [.inr (0, 0), .inl p, .inl x]) (ff_X12_tells [.inr (100, 0), .inl p, .inl x]) :=
  st_bx_q (fun a => mv_tls a p x) (fun G a hc hi => fx_tells hc.1.1 hi.1.1 hc.1.2.1 hi.1.2.1 p x) (fun G a hm hi => gx_tells hm.1.1 hi.1.1 hm.1.2.1 hi.1.2.1 p x) (by decide) (by decide) (by decide) (by decide) (by decide) (by decide)
theorem bx_room (p x : Int) (hx : x < 2147483648) : st_bx (ff_X11_room [.inr (0, 0), .inl p, .inl x]) (ff_X12_room [.inr (100, 0), .inl p, .inl x]) :=
  st_bx_q (fun a => mv_rom a p x) (fun G a hc hi => fx_room hc.1.1 hi.1.1 hc.1.2.2.1 hi.1.2.2.1 p x hx) (fun G a hm hi => gx_room hm.1.1 hi.1.1 hm.1.2.2.1 hi.1.2.2.1 p x hx) (by decide) (by decide) (by decide) (by decide) (by decide) (by decide)
theorem bx_rise (p x : Int) : st_bx (ff_X11_rise [.inr (0, 0), .inl p, .inl x]) (ff_X12_rise [.inr (100, 0), .inl p, .inl x]) :=
  st_bx_q (fun a => mv_ris a p x) (fun G a hc hi => fx_rise hc.1.1 hi.1.1 hc.1.2.2.1 hi.1.2.2.1 p x) (fun G a hm hi => gx_rise hm.1.1 hi.1.1 hm.1.2.2.1 hi.1.2.2.1 p x) (by decide) (by decide) (by decide) (by decide) (by decide) (by decide)
theorem bx_fill (w k x : Int) : st_bx (ff_X11_fill [.inr (0, 0), .inl w, .inl k, .inl x]) (ff_X12_fill [.inr (100, 0), .inl w, .inl k, .inl x]) :=
  st_bx_q (fun a => mv_fil a w k x) (fun G a hc hi => fx_fill hc.1.1 hi.1.1 hc.1.2.1 hi.1.2.1 w k x) (fun G a hm hi => gx_fill hm.1.1 hi.1.1 hm.1.2.1 hi.1.2.1 w k x) (by decide) (by decide) (by decide) (by decide) (by decide) (by decide)
theorem bx_block (p w k : Int) : st_bx (ff_X11_block [.inr (0, 0), .inl p, .inl w, .inl k]) (ff_X12_block [.inr (100, 0), .inl p, .inl w, .inl k]) :=
  st_bx_q (fun a => mv_blo a p w k) (fun G a hc hi => fx_block hc.1.1 hi.1.1 p w k) (fun G a hm hi => gx_block hm.1.1 hi.1.1 p w k) (by decide) (by decide) (by decide) (by decide) (by decide) (by decide)
theorem bx_gives (w k : Int) : st_bx (ff_X11_gives [.inr (0, 0), .inl w, .inl k]) (ff_X12_gives [.inr (100, 0), .inl w, .inl k]) :=
  st_bx_q (fun a => mv_giv a w k) (fun G a hc hi => fx_gives hc.1.1 hi.1.1 w k) (fun G a hm hi => gx_gives hm.1.1 hi.1.1 w k) (by decide) (by decide) (by decide) (by decide) (by decide) (by decide)
theorem bx_bestRest (w k : Int) : st_bx (ff_X11_bestRest [.inr (0, 0), .inl w, .inl k]) (ff_X12_bestRest [.inr (100, 0), .inl w, .inl k]) :=
  st_bx_q (fun a => mv_bre a w k) (fun G a hc hi => fx_bestRest hc.1.1 hi.1.1 w k) (fun G a hm hi => gx_bestRest hm.1.1 hi.1.1 w k) (by decide) (by decide) (by decide) (by decide) (by decide) (by decide)
theorem bx_orders (x : Int) (hx : -2147483648 ≤ x ∧ x < 2147483648) : st_bx (ff_X11_orders [.inr (0, 0), .inl x]) (ff_X12_orders [.inr (100, 0), .inl x]) :=
  st_bx_q (fun a => mv_ord a x) (fun G a hc hi => fx_orders hc.1.1 hi.1.1 hc.1.2.1 hi.1.2.1 x hx) (fun G a hm hi => gx_orders hm.1.1 hi.1.1 hm.1.2.1 hi.1.2.1 x hx) (by decide) (by decide) (by decide) (by decide) (by decide) (by decide)
theorem bx_fault (x : Int) : st_bx (ff_X11_fault [.inr (0, 0), .inl x]) (ff_X12_fault [.inr (100, 0), .inl x]) := by
  refine st_bx_q (S := []) (T := []) (S2 := []) (T2 := [(100, 0)]) (fun a => if x = 0 then a 0 7 else if x = 1 then a 0 8 else -1) (fun G a hc hi => ?_) (fun G a hm hi => ?_) (by decide) (by decide) (by decide) (by decide) (by decide) (by decide)
  · refine mv_Kp.of (mv_JP.of (rg_X11_fault_0 x G) ?_)
    rw [hc.2.2.1.2.2.1, hc.2.2.1.2.2.2]
    exact mv_J.i (fun h => mv_J.ret ⟨(if_pos h).symm, mv_ch.rf⟩) (fun h => mv_J.i (fun h2 => mv_J.ret ⟨by rw [if_neg h, if_pos h2], mv_ch.rf⟩) (fun h2 => mv_J.ret ⟨by rw [if_neg h, if_neg h2], mv_ch.rf⟩))
  · refine mv_Kp.of (mv_JP.of (rg_X12_fault_0 x G) ?_)
    rw [mv_up_j (by decide), mv_up_j (by decide), hm.2.2.1.2.2.1, hm.2.2.1.2.2.2]
    have c : mv_ch [] [(100, 0)] G (mv_up G 100 0 0 0) := mv_ch.rf.up rfl
    exact mv_J.i (fun h => mv_J.ret ⟨(if_pos h).symm, c⟩) (fun h => mv_J.i (fun h2 => mv_J.ret ⟨by rw [if_neg h, if_pos h2], c⟩) (fun h2 => mv_J.ret ⟨by rw [if_neg h, if_neg h2], c⟩))
/-! the tape -/
def st_s1 (a : mv_a) (j : Nat) (v : Int) : mv_a := fun o i => if o = 0 ∧ i = j then v else a o i
theorem st_s1_0 {a : mv_a} {j : Nat} {v : Int} : st_s1 a j v 0 j = v := if_pos ⟨rfl, rfl⟩
theorem st_s1_j {a : mv_a} {j i : Nat} {v : Int} (h : i ≠ j) : st_s1 a j v 0 i = a 0 i := if_neg (fun e => h e.2)
theorem st_s1_o {a : mv_a} {j o : Nat} {v : Int} (h : o ≠ 0) : st_s1 a j v o = a o := funext fun _ => if_neg (fun e => h e.1)
/-- four bytes -/
def mv_by (v : Int) (i : Nat) : Int := mv_and (mv_shr v (24 - 8 * (i : Int))) 255
theorem mv_and_255 (x : Int) : 0 ≤ mv_and x 255 ∧ mv_and x 255 ≤ 255 := by
  unfold mv_and
  have h : (Int32.ofInt x &&& 255).toInt = ((Int32.ofInt x &&& 255).toBitVec).toInt := rfl
  rw [show (Int32.ofInt 255) = 255 from rfl, h, Int32.toBitVec_and]
  have h2 : ((Int32.ofInt x).toBitVec &&& (255 : Int32).toBitVec).toNat ≤ 255 := by
    rw [BitVec.toNat_and]
    exact Nat.and_le_right
  rw [BitVec.toInt_eq_toNat_of_lt (by omega)]
  omega
/-- a word typed onto a tape at s -/
def mv_ty1 (t : Nat → Int) (s : Nat) (v : Int) : Nat → Int := fun j => if s ≤ j ∧ j < s + 4 then mv_by v (j - s) else t j
set_option maxRecDepth 100000 in
theorem fx_append {G : mv_G} (s : Nat) (hs : s + 4 ≤ 400) (h : G 52 0 0 = (s : Int)) (v : Int) : mv_Kp (ff_X7_append [.inr (52, 0), .inl v] G) (fun _ G' => G' 52 0 0 = ((s + 4 : Nat) : Int) ∧ (∀ j, G' 63 0 j = mv_ty1 (G 63 0) s v j) ∧ mv_ch [63] [(52, 0)] G G') := by
  have key : ∀ (k i : Nat) (G1 : mv_G), i + k = 4 → G1 52 0 0 = ((s + i : Nat) : Int) → (∀ j, G1 63 0 j = if s ≤ j ∧ j < s + i then mv_by v (j - s) else G 63 0 j) → mv_ch [63] [(52, 0)] G G1 → mv_JP mm_X7_append (fun _ G' => G' 52 0 0 = ((s + 4 : Nat) : Int) ∧ (∀ j, G' 63 0 j = mv_ty1 (G 63 0) s v j) ∧ mv_ch [63] [(52, 0)] G G') 3 [some (.inr (52, 0)), some (.inl v), some (.inl (24 - 8 * (i : Int)))] G1 := by
    intro k
    induction k with
    | zero =>
      intro i G1 hi h1 h2 hc
      have e : i = 4 := by omega
      subst e
      exact mv_JP.of (rg_X7_append_3 _ _ G1) (mv_J.t (by omega) (mv_J.ret ⟨h1, h2, hc⟩))
    | succ k ih =>
      intro i G1 hi h1 h2 hc
      refine mv_JP.of (rg_X7_append_3 _ _ G1) (mv_J.f (by omega) ?_)
      rw [mv_up_k (by decide : (52 : Nat) ≠ 63), h1, Int.toNat_natCast, mv_ws (x := ((s + i : Nat) : Int) + 1) (by omega), mv_ws (x := 24 - 8 * (i : Int) + -8) (by omega)]
      refine mv_J.t (by omega) ?_
      rw [mv_ckp (n := 400) (by omega), show 24 - 8 * (i : Int) + -8 = 24 - 8 * ((i + 1 : Nat) : Int) by omega]
      refine mv_J.cut (ih (i + 1) _ (by omega) ?_ (fun j => ?_) ((hc.uc rfl).up rfl))
      · rw [mv_ups_eq]; omega
      · rw [mv_up_k (by decide), mv_up_at, h2 j]
        by_cases e : j = s + i
        · rw [if_pos e, if_pos (by omega), show j - s = i by omega]
          rfl
        · rw [if_neg e]
          by_cases c : s ≤ j ∧ j < s + i
          · rw [if_pos c, if_pos (by omega)]
          · rw [if_neg c, if_neg (by omega)]
  refine mv_Kp.of (mv_JP.of (rg_X7_append_0 v G) (mv_J.cut ?_))
  have := key 4 0 G rfl h (fun j => by rw [if_neg (by omega)]) mv_ch.rf
  exact this
set_option maxRecDepth 100000 in
theorem gx_types {G : mv_G} (s : Nat) (hs : s + 4 ≤ 400) (h : G 100 0 16 = (s : Int)) (v : Int) : mv_Kp (ff_X12_types [.inr (100, 0), .inl v] G) (fun _ G' => G' 100 0 16 = ((s + 4 : Nat) : Int) ∧ (∀ j, G' 111 0 j = mv_ty1 (G 111 0) s v j) ∧ mv_ch [111] [(100, 16)] G G') := by
  have key : ∀ (k i : Nat) (G1 : mv_G), i + k = 4 → G1 100 0 16 = ((s + i : Nat) : Int) → (∀ j, G1 111 0 j = if s ≤ j ∧ j < s + i then mv_by v (j - s) else G 111 0 j) → mv_ch [111] [(100, 16)] G G1 → mv_JP mm_X12_types (fun _ G' => G' 100 0 16 = ((s + 4 : Nat) : Int) ∧ (∀ j, G' 111 0 j = mv_ty1 (G 111 0) s v j) ∧ mv_ch [111] [(100, 16)] G G') 3 [some (.inr (100, 0)), some (.inl v), some (.inl (24 - 8 * (i : Int)))] G1 := by
    intro k
    induction k with
    | zero =>
      intro i G1 hi h1 h2 hc
      have e : i = 4 := by omega
      subst e
      exact mv_JP.of (rg_X12_types_3 _ _ G1) (mv_J.t (by omega) (mv_J.ret ⟨h1, h2, hc⟩))
    | succ k ih =>
      intro i G1 hi h1 h2 hc
      refine mv_JP.of (rg_X12_types_3 _ _ G1) (mv_J.f (by omega) ?_)
      rw [mv_up_k (by decide : (100 : Nat) ≠ 111), h1, Int.toNat_natCast, mv_ws (x := ((s + i : Nat) : Int) + 1) (by omega), mv_ws (x := 24 - 8 * (i : Int) + -8) (by omega)]
      rw [mv_ckp (n := 400) (by omega), show 24 - 8 * (i : Int) + -8 = 24 - 8 * ((i + 1 : Nat) : Int) by omega]
      refine mv_J.cut (ih (i + 1) _ (by omega) ?_ (fun j => ?_) ((hc.uc rfl).up rfl))
      · rw [mv_ups_eq]; omega
      · rw [mv_up_k (by decide), mv_up_at, h2 j]
        by_cases e : j = s + i
        · rw [if_pos e, if_pos (by omega), show j - s = i by omega]
          rfl
        · rw [if_neg e]
          by_cases c : s ≤ j ∧ j < s + i
          · rw [if_pos c, if_pos (by omega)]
          · rw [if_neg c, if_neg (by omega)]
  refine mv_Kp.of (mv_JP.of (rg_X12_types_0 v G) (mv_J.cut ?_))
  have := key 4 0 G rfl h (fun j => by rw [if_neg (by omega)]) mv_ch.rf
  exact this
