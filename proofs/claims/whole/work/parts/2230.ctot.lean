/-! FILL, the class: all stretches between those of the row. -/
def mv_mx (x y : Int) : Int := if x < y then y else x
def mv_gf (k : Int) (r : mv_a) (gp : Nat) : Int := if 0 < gp then r 1 (gp - 1) + mv_mx (r 2 (gp - 1)) k else 0
def mv_gt (L : Int) (n : Nat) (k : Int) (r : mv_a) (gp : Nat) : Int := if gp < n then r 0 gp - mv_mx (r 2 gp) k else L
noncomputable def mv_Tw (what : Int) (w k : Nat) (C : Nat → Prop) : Nat → Int → Int := if what = 0 then mv_Fe w k C else if what = 1 then mv_Mo w k C else mv_Me w k C
noncomputable def mv_tal (what : Int) (w k : Nat) (a : mv_a) (n : Nat) (r : mv_a) : Nat → Nat → Int := mv_sm (fun gp => mv_Tw what w k (fun x => mv_clr a x w) (mv_gf k r gp).toNat (mv_gt (a 0 0) n k r gp))
theorem mv_Mo_b {w k : Nat} {C : Nat → Prop} (hw : 1 ≤ w) : ∀ (d s : Nat) (l : Int), l - s ≤ d → mv_Mo w k C s l = 0 ∨ mv_Mo w k C s l ≤ l - s := by
  intro d
  induction d with
  | zero =>
    intro s l hl
    rw [mv_Mo_0 hw (fun a h => by have := h.2; omega)]
    omega
  | succ d ih =>
    intro s l hl
    by_cases hn : ∃ b, mv_plc C w s l b
    · obtain ⟨b, hb⟩ := hn
      obtain ⟨q, ⟨q1, q2, q3⟩, he⟩ := mv_Mo_at (k := k) hw hb
      have i1 := ih s ((q : Int) - k) (by omega)
      have i3 := ih (q + w + k) l (by omega)
      omega
    · rw [mv_Mo_0 hw (fun a h => hn ⟨a, h⟩)]
      omega
theorem mv_Tw_0 {what : Int} {w k : Nat} {C : Nat → Prop} (hw : 1 ≤ w) {s : Nat} {l : Int} (h : l < (s : Int) + w) : mv_Tw what w k C s l = 0 := by
  unfold mv_Tw
  split
  · exact mv_stv_0 mv_Hf_ok hw h
  · split
    · exact mv_stv_0 mv_Hm_ok hw h
    · exact mv_stv_0 mv_Ha_ok hw h
theorem mv_Tw_b {what : Int} {w k : Nat} {C : Nat → Prop} (hw : 1 ≤ w) {s : Nat} {l : Int} (hl : l ≤ 60) : 0 ≤ mv_Tw what w k C s l ∧ mv_Tw what w k C s l ≤ 60000 := by
  unfold mv_Tw
  split
  · have := mv_Fe_b (k := k) (C := C) hw (l - s).toNat s l (by omega)
    omega
  · split
    · have := mv_Mo_b (k := k) (C := C) hw (l - s).toNat s l (by omega)
      have := mv_Mo_p (k := k) (C := C) hw s l
      omega
    · exact mv_Me_p hw hl
theorem mv_mx_b {x y : Int} (hx : 0 ≤ x ∧ x ≤ 15) (hy : 0 ≤ y ∧ y ≤ 15) : 0 ≤ mv_mx x y ∧ mv_mx x y ≤ 15 := by
  unfold mv_mx
  split <;> omega
theorem mv_mx_c (x y : Int) : mv_mx x y = mv_mx y x := by
  unfold mv_mx
  split <;> split <;> omega
theorem mv_gf_b {L : Int} {n : Nat} {r : mv_a} (hr : mv_rok L n r) {k : Int} (hk : 0 ≤ k ∧ k ≤ 15) {gp : Nat} (hg : gp ≤ n) : 0 ≤ mv_gf k r gp ∧ mv_gf k r gp ≤ (if 0 ≤ L then L else 0) + 15 := by
  unfold mv_gf
  split
  · have q := hr.2 (gp - 1) (by omega)
    have := mv_mx_b q.2.1 hk
    split <;> omega
  · split <;> omega
theorem mv_gt_b {L : Int} {n : Nat} {r : mv_a} (hr : mv_rok L n r) {k : Int} (hk : 0 ≤ k ∧ k ≤ 15) {gp : Nat} : (mv_gt L n k r gp = L ∨ -15 ≤ mv_gt L n k r gp) ∧ mv_gt L n k r gp ≤ L := by
  unfold mv_gt
  split
  · next h =>
    have q := hr.2 gp h
    have := mv_mx_b q.2.1 hk
    omega
  · omega
section CT
variable {G : mv_G} {a : mv_a} {n : Nat} {r : mv_a} {w k : Nat}
theorem mv_cB_clr (hB : mv_cB G a) (hw : 1 ≤ w) (x : Nat) (hx : (x : Int) + w ≤ a 0 0) : mv_clr a x w ↔ (x : Int) + w ≤ G 3 0 x := by
  have h := mv_Rch_iff (w := w) (hB.2.2.2.2.2.2.2.2.2 x (by omega))
  constructor
  · intro h1; exact h.mpr (Or.inl h1)
  · intro h1; exact (h.mp h1).resolve_right (by omega)
set_option maxHeartbeats 1000000 in
theorem fx_total (hB : mv_cB G a) (hi : mv_iB a) (h : mv_cR G n r) (hr : mv_rok (a 0 0) n r) (h6 : G 81 0 6 = w) (h7 : G 81 0 7 = k) (hw : 1 ≤ w ∧ w ≤ 20) (hk : k ≤ 15) (what : Int) : mv_Kp (ff_X4_total [.inr (81, 0), .inl what] G) (fun v G' => v = mv_tal what w k a n r (n + 1) 0 ∧ mv_ch [83, 84, 85] [] G G') := by
  have b1 := hi.1
  have hn := hr.1
  obtain ⟨L, hL⟩ : ∃ L : Nat, a 0 0 = L := ⟨(a 0 0).toNat, by omega⟩
  obtain ⟨P, hP⟩ : ∃ P : Int → mv_G → Prop, P = (fun v G' => v = mv_tal what w k a n r (n + 1) 0 ∧ mv_ch [83, 84, 85] [] G G') := ⟨_, rfl⟩
  rw [← hP]
  have key : ∀ (q g : Nat) (G1 : mv_G), g + q = n + 1 → mv_ch [83, 84, 85] [] G G1 → mv_JP mm_X4_total P 4 [some (.inr (81, 0)), some (.inl what), some (.inl (mv_tal what w k a n r g 0)), some (.inl (g : Int)), none, none] G1 := by
    intro q
    induction q with
    | zero =>
      intro g G1 hq hc
      refine mv_JP.of (rg_X4_total_4 _ _ _ G1) ?_
      rw [hc.cell 66 rfl, h.1]
      refine mv_J.t (by omega) (mv_J.ret ?_)
      rw [hP]
      exact ⟨by rw [show n + 1 = g by omega], hc⟩
    | succ q ih =>
      intro g G1 hq hc
      have hB1 := hB.ch hc (by decide)
      have hR1 := h.ch hc (by decide) rfl
      have h61 : G1 81 0 6 = w := by rw [hc.cell 81 rfl]; exact h6
      have h71 : G1 81 0 7 = k := by rw [hc.cell 81 rfl]; exact h7
      have e00 : G1 1 0 0 = L := by rw [hB1.1.1, hL]
      have hC1 : ∀ x : Nat, x + w ≤ L → (mv_clr a x w ↔ (x : Int) + w ≤ G1 3 0 x) := fun x hx => mv_cB_clr hB1 hw.1 x (by omega)
      have es : mv_tal what w k a n r (g + 1) 0 = mv_tal what w k a n r g 0 + mv_Tw what w k (fun x => mv_clr a x w) (mv_gf k r g).toNat (mv_gt (a 0 0) n k r g) := by
        have := mv_sm_s (g := fun gp => mv_Tw what w k (fun x => mv_clr a x w) (mv_gf k r gp).toNat (mv_gt (a 0 0) n k r gp)) g 0
        rw [Nat.zero_add] at this
        exact this
      have bs := mv_sm_b (g := fun gp => mv_Tw what w k (fun x => mv_clr a x w) (mv_gf k r gp).toNat (mv_gt (a 0 0) n k r gp)) (B := 60000) g 0 (fun x _ _ => mv_Tw_b hw.1 (by have := mv_gt_b (k := k) (gp := x) hr (by omega); omega))
      have bs : 0 ≤ mv_tal what w k a n r g 0 ∧ mv_tal what w k a n r g 0 ≤ g * 60000 := bs
      have bf := mv_gf_b (k := k) (gp := g) hr (by omega) (by omega)
      rw [if_pos (by omega)] at bf
      have bt := mv_gt_b (k := k) (gp := g) hr (by omega)
      have bT := mv_Tw_b (what := what) (k := k) (C := fun x => mv_clr a x w) (s := (mv_gf k r g).toNat) (l := mv_gt (a 0 0) n k r g) hw.1 (by omega)
      have nx : ∀ (v : Int) (G2 : mv_G), v = mv_tal what w k a n r (g + 1) 0 → mv_ch [83, 84, 85] [] G G2 → mv_J mm_X4_total P (some (.inr (4, [some (.inr (81, 0)), some (.inl what), some (.inl v), some (.inl (mv_w ((g : Int) + 1))), none, none], G2))) := fun v G2 hv hc2 => mv_J.cut (by
        rw [hv, mv_ws (by omega)]
        exact ih (g + 1) G2 (by omega) hc2)
      have tail : ∀ f t : Int, f = mv_gf k r g → t = mv_gt (a 0 0) n k r g → mv_J mm_X4_total P (if t < mv_w (f + G1 81 0 6) then some (.inr (4, [some (.inr (81, 0)), some (.inl what), some (.inl (mv_tal what w k a n r g 0)), some (.inl (mv_w ((g : Int) + 1))), none, none], G1)) else if what = 0 then mv_cn (ff_X4_fewest [.inr (81, 0), .inr (3, 0), .inl f, .inl t] G1) fun r0 G0 => some (.inr (4, [some (.inr (81, 0)), some (.inl what), some (.inl (mv_w (mv_tal what w k a n r g 0 + r0))), some (.inl (mv_w ((g : Int) + 1))), none, none], G0)) else if what = 1 then mv_cn (ff_X4_most [.inr (81, 0), .inl f, .inl t] G1) fun r0 G0 => some (.inr (4, [some (.inr (81, 0)), some (.inl what), some (.inl (mv_w (mv_tal what w k a n r g 0 + r0))), some (.inl (mv_w ((g : Int) + 1))), none, none], G0)) else mv_cn (ff_X4_mean [.inr (81, 0), .inl f, .inl t] G1) fun r0 G0 => some (.inr (4, [some (.inr (81, 0)), some (.inl what), some (.inl (mv_w (mv_tal what w k a n r g 0 + r0))), some (.inl (mv_w ((g : Int) + 1))), none, none], G0))) := by
        intro f t hf ht
        subst hf
        subst ht
        generalize mv_gf k r g = f at es bf bT ⊢
        generalize mv_gt (a 0 0) n k r g = t at es bt bT ⊢
        rw [h61, mv_ws (by omega)]
        refine mv_J.i (fun h1 => nx _ _ ?_ hc) (fun h1 => ?_)
        · rw [es, mv_Tw_0 hw.1 (by omega), Int.add_zero]
        obtain ⟨s, rfl⟩ : ∃ s : Nat, f = s := ⟨f.toNat, by omega⟩
        obtain ⟨t, rfl⟩ : ∃ u : Nat, t = u := ⟨t.toNat, by omega⟩
        rw [Int.toNat_natCast] at es bT
        unfold mv_Tw at es bT
        refine mv_J.i (fun h2 => ?_) (fun h2 => mv_J.i (fun h3 => ?_) (fun h3 => ?_))
        · rw [if_pos h2] at es bT
          refine mv_J.cn (fx_fewest_3 h61 h71 hw hk (by omega) hC1 s t (by omega) (by omega)) (fun v G2 h4 => nx _ _ ?_ (hc.tr (h4.2.mono rfl rfl)))
          rw [h4.1, es, mv_ws (by omega)]
        · rw [if_neg h2, if_pos h3] at es bT
          refine mv_J.ce (fx_most h61 h71 hw hk (by omega) hC1 s t (by omega) (by omega)) (nx _ _ ?_ hc)
          rw [es, mv_ws (by omega)]
        · rw [if_neg h2, if_neg h3] at es bT
          refine mv_J.cn (fx_mean h61 h71 hw hk (by omega) hC1 s t (by omega) (by omega)) (fun v G2 h4 => nx _ _ ?_ (hc.tr (h4.2.mono rfl rfl)))
          rw [h4.1, es, mv_ws (by omega)]
      refine mv_JP.of (rg_X4_total_4 _ _ _ G1) ?_
      rw [hR1.1]
      have at0 : ∀ i, i < n → G1 67 0 i = r 0 i := fun i hi => hR1.2 0 (by decide) i hi
      have at1 : ∀ i, i < n → G1 68 0 i = r 1 i := fun i hi => hR1.2 1 (by decide) i hi
      have at2 : ∀ i, i < n → G1 69 0 i = r 2 i := fun i hi => hR1.2 2 (by decide) i hi
      have qn : g < n → r 0 g - mv_mx (r 2 g) k = mv_gt (a 0 0) n k r g := fun h => (if_pos h).symm
      have qm : 0 < g → r 1 (g - 1) + mv_mx (r 2 (g - 1)) k = mv_gf k r g := fun h => (if_pos h).symm
      refine mv_J.f (by omega) (mv_J.i (fun h1 => mv_J.i (fun h2 => ?_) (fun h2 => mv_J.ck (by omega) (mv_J.ck (by omega) ?_))) (fun h1 => ?_))
      · refine tail 0 _ ?_ ?_
        · unfold mv_gf; rw [if_neg (by omega)]
        · rw [hB1.1.1]; unfold mv_gt; rw [if_neg (by omega)]
      · rw [Int.toNat_natCast, at2 g (by omega), at0 g (by omega), h71]
        refine mv_J.ce (mv_max_eq _ _ _) ?_
        have e : mv_w (r 0 g - (if r 2 g < (k : Int) then (k : Int) else r 2 g)) = mv_gt (a 0 0) n k r g := by
          rw [← qn (by omega)]
          exact mv_ws (by have := hr.2 g (by omega); have := mv_mx_b this.2.1 (show 0 ≤ (k : Int) ∧ (k : Int) ≤ 15 by omega); unfold mv_mx at this; omega)
        rw [e]
        clear e
        exact tail 0 _ (by unfold mv_gf; rw [if_neg (by omega)]) rfl
      · rw [mv_ws (x := (g : Int) - 1) (by omega), show ((g : Int) - 1).toNat = g - 1 by omega, at2 (g - 1) (by omega), at1 (g - 1) (by omega), h71]
        have e : mv_w (r 1 (g - 1) + (if r 2 (g - 1) < (k : Int) then (k : Int) else r 2 (g - 1))) = mv_gf k r g := by
          rw [← qm (by omega)]
          exact mv_ws (by have := hr.2 (g - 1) (by omega); have := mv_mx_b this.2.1 (show 0 ≤ (k : Int) ∧ (k : Int) ≤ 15 by omega); unfold mv_mx at this; omega)
        refine mv_J.ck (by omega) (mv_J.ck (by omega) (mv_J.ce (mv_max_eq _ _ _) ?_))
        rw [e]
        clear e
        rw [hR1.1]
        refine mv_J.i (fun h2 => ?_) (fun h2 => ?_)
        · refine tail _ _ rfl ?_
          rw [hB1.1.1]; unfold mv_gt; rw [if_neg (by omega)]
        · rw [Int.toNat_natCast, at2 g (by omega), at0 g (by omega), h71]
          refine mv_J.ck (by omega) (mv_J.ck (by omega) (mv_J.ce (mv_max_eq _ _ _) ?_))
          have e : mv_w (r 0 g - (if r 2 g < (k : Int) then (k : Int) else r 2 g)) = mv_gt (a 0 0) n k r g := by
            rw [← qn (by omega)]
            exact mv_ws (by have := hr.2 g (by omega); have := mv_mx_b this.2.1 (show 0 ≤ (k : Int) ∧ (k : Int) ≤ 15 by omega); unfold mv_mx at this; omega)
          rw [e]
          clear e
          exact tail _ _ rfl rfl
  have := key (n + 1) 0 G (by omega) mv_ch.rf
  exact mv_Kp.of (mv_JP.of (rg_X4_total_0 what G) (mv_J.cut this))
end CT
