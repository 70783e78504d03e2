/-! The best inch for an arm rest, both sides. -/
def mv_Cr (r w : Nat) (x : Nat) : Prop := ¬ (x < r ∧ r < x + w)
def mv_CT (_ : Nat) : Prop := True
theorem mv_Fe_cg {w k : Nat} (hw : 1 ≤ w) {C D : Nat → Prop} : ∀ (d f : Nat) (l : Int), l - f ≤ d → (∀ a : Nat, f ≤ a → (a : Int) + w ≤ l → (C a ↔ D a)) → mv_Fe w k C f l = mv_Fe w k D f l := by
  intro d
  induction d with
  | zero =>
    intro f l hl h
    have e1 : mv_Fe w k C f l = 0 := mv_stv_0 mv_Hf_ok hw (by omega)
    have e2 : mv_Fe w k D f l = 0 := mv_stv_0 mv_Hf_ok hw (by omega)
    rw [e1, e2]
  | succ d ih =>
    intro f l hl h
    have e1 : mv_Fe w k C f l = _ := mv_stv_eq mv_Hf_ok hw f l
    have e2 : mv_Fe w k D f l = _ := mv_stv_eq mv_Hf_ok hw f l
    rw [e1, e2]
    refine mv_Hf_ok.1 _ _ _ _ (fun a h1 h2 => ?_)
    have i1 : mv_stv mv_Hf 1 w k C f ((a : Int) - k) = mv_stv mv_Hf 1 w k D f ((a : Int) - k) := ih f ((a : Int) - k) (by omega) (fun b h3 h4 => h b h3 (by omega))
    have i2 : mv_stv mv_Hf 1 w k C (a + w + k) l = mv_stv mv_Hf 1 w k D (a + w + k) l := ih (a + w + k) l (by omega) (fun b h3 h4 => h b (by omega) h4)
    rw [i1, i2]
    by_cases c : C a
    · rw [mv_oc_t c, mv_oc_t ((h a h1 (by omega)).mp c)]
    · rw [mv_oc_f c, mv_oc_f (fun h3 => c ((h a h1 (by omega)).mpr h3))]
theorem mv_mn_sh {g : Nat → Option Int} {s : Nat} : ∀ q y, mv_mn (fun a => g (a + s)) q y = mv_mn g q (y + s)
  | 0, _ => rfl
  | q + 1, y => by
    unfold mv_mn
    rw [mv_mn_sh q (y + 1), show y + 1 + s = y + s + 1 by omega]
theorem mv_Fe_tr {w k : Nat} (hw : 1 ≤ w) : ∀ (d f : Nat) (l : Int), l - f ≤ d → mv_Fe w k mv_CT f l = mv_Fe w k mv_CT 0 (l - f) := by
  intro d
  induction d with
  | zero =>
    intro f l hl
    have e1 : mv_Fe w k mv_CT f l = 0 := mv_stv_0 mv_Hf_ok hw (by omega)
    have e2 : mv_Fe w k mv_CT 0 (l - f) = 0 := mv_stv_0 mv_Hf_ok hw (by omega)
    rw [e1, e2]
  | succ d ih =>
    intro f l hl
    have e1 : mv_Fe w k mv_CT f l = _ := mv_stv_eq mv_Hf_ok hw f l
    have e2 : mv_Fe w k mv_CT 0 (l - f) = _ := mv_stv_eq mv_Hf_ok hw 0 (l - f)
    rw [e1, e2, mv_Hf_v, mv_Hf_v]
    have sh := mv_mn_sh (g := fun a => mv_oc (mv_CT a) (1 + mv_stv mv_Hf 1 w k mv_CT f ((a : Int) - k) + mv_stv mv_Hf 1 w k mv_CT (a + w + k) l)) (s := f) (l - w - f + 1).toNat 0
    rw [Nat.zero_add] at sh
    rw [← sh, show (l - f - w - (0 : Nat) + 1).toNat = (l - w - f + 1).toNat by omega]
    congr 1
    refine mv_mn_cg _ _ (fun a h1 h2 => ?_)
    have i1 : mv_stv mv_Hf 1 w k mv_CT f (((a + f : Nat) : Int) - k) = mv_stv mv_Hf 1 w k mv_CT 0 (((a + f : Nat) : Int) - k - f) := ih f _ (by omega)
    have i2 : mv_stv mv_Hf 1 w k mv_CT (a + f + w + k) l = mv_stv mv_Hf 1 w k mv_CT 0 (l - ((a + f + w + k : Nat) : Int)) := ih (a + f + w + k) l (by omega)
    have i3 : mv_stv mv_Hf 1 w k mv_CT (a + w + k) (l - f) = mv_stv mv_Hf 1 w k mv_CT 0 (l - f - ((a + w + k : Nat) : Int)) := ih (a + w + k) (l - f) (by omega)
    rw [i1, i2, i3, show ((a + f : Nat) : Int) - k - f = (a : Int) - k by omega, show l - ((a + f + w + k : Nat) : Int) = l - f - ((a + w + k : Nat) : Int) by omega]
    rw [mv_oc_t (show mv_CT (a + f) from trivial), mv_oc_t (show mv_CT a from trivial)]
/-- the best of the first so many inches, and what there is then -/
noncomputable def mv_br (w k : Nat) (L : Int) : Nat → Int × Int
  | 0 => (0, mv_Fe w k mv_CT 0 L)
  | r + 1 => if (mv_br w k L r).2 < mv_Fe w k (mv_Cr (r + 1) w) 0 L then (((r + 1 : Nat) : Int), mv_Fe w k (mv_Cr (r + 1) w) 0 L) else mv_br w k L r
noncomputable def mv_bre (a : mv_a) (w k : Int) : Int := @ite _ (mv_alk w k) (Classical.propDecidable _) (mv_br w.toNat k.toNat (a 0 0) ((a 0 0).toNat - 1)).1 (-1)
section BR
variable {G : mv_G} {a : mv_a} {w k : Nat}
theorem fx_fill3 (f t v : Nat) (hft : f ≤ t) (ht : t ≤ 60) : mv_Kp (ff_J7_fill_fda19 [.inr (82, 0), .inl f, .inl t, .inl v] G) (fun _ G' => (∀ x, G' 82 0 x = if f ≤ x ∧ x < t then (v : Int) else G 82 0 x) ∧ mv_ch [82] [] G G') := by
  have rc : ff_J7_rangeCheck_23922 [.inl 60, .inl f, .inl t] G = some (0, G) := mv_Kp.eq (mv_Kp.of (mv_JP.of (rg_J7_rangeCheck_23922_0 60 f t G) (mv_J.f (by omega) (mv_J.f (by omega) (mv_J.f (by omega) (mv_J.ret ⟨rfl, rfl⟩))))))
  have key : ∀ (q i : Nat) (G1 : mv_G), i + q = t → f ≤ i → mv_ch [82] [] G G1 → (∀ x, G1 82 0 x = if f ≤ x ∧ x < i then (v : Int) else G 82 0 x) → mv_JP mm_J7_fill_fda19 (fun _ G' => (∀ x, G' 82 0 x = if f ≤ x ∧ x < t then (v : Int) else G 82 0 x) ∧ mv_ch [82] [] G G') 10 [some (.inr (82, 0)), none, some (.inl (t : Int)), some (.inl (v : Int)), some (.inl (i : Int))] G1 := by
    intro q
    induction q with
    | zero =>
      intro i G1 hq hfi hc h
      refine mv_JP.of (rg_J7_fill_fda19_10 _ _ _ G1) (mv_J.f (by omega) (mv_J.ret ⟨?_, hc⟩))
      rw [show t = i by omega]
      exact h
    | succ q ih =>
      intro i G1 hq hfi hc h
      refine mv_JP.of (rg_J7_fill_fda19_10 _ _ _ G1) (mv_J.t (by omega) (mv_J.ck (by omega) (mv_J.cut ?_)))
      rw [Int.toNat_natCast, mv_ws (by omega)]
      refine ih (i + 1) _ (by omega) (by omega) (hc.uc rfl) (fun x => ?_)
      rw [mv_up_at, h x]
      by_cases e : x = i
      · rw [if_pos e, if_pos (by omega)]
      · rw [if_neg e]
        by_cases e2 : f ≤ x ∧ x < i
        · rw [if_pos e2, if_pos (by omega)]
        · rw [if_neg e2, if_neg (by omega)]
  refine mv_Kp.of (mv_JP.of (rg_J7_fill_fda19_0 f t v G) (mv_J.ce rc (mv_J.cut ?_)))
  exact key (t - f) f G (by omega) (Nat.le_refl _) mv_ch.rf (fun x => by rw [if_neg (by omega)])
set_option maxHeartbeats 1000000 in
theorem fx_bestInch (hB : mv_cB G a) (hi : mv_iB a) (h6 : G 81 0 6 = w) (h7 : G 81 0 7 = k) (hw : 1 ≤ w ∧ w ≤ 20) (hk : k ≤ 15) : mv_Kp (ff_X4_bestInchForRest [.inr (81, 0)] G) (fun v G' => v = (mv_br w k (a 0 0) ((a 0 0).toNat - 1)).1 ∧ mv_ch [82, 83] [] G G') := by
  have b1 := hi.1
  obtain ⟨L, hL⟩ : ∃ L : Nat, a 0 0 = L := ⟨(a 0 0).toNat, by omega⟩
  obtain ⟨P, hP⟩ : ∃ P : Int → mv_G → Prop, P = (fun v G' => v = (mv_br w k (a 0 0) ((a 0 0).toNat - 1)).1 ∧ mv_ch [82, 83] [] G G') := ⟨_, rfl⟩
  rw [← hP]
  refine mv_Kp.of (mv_JP.of (rg_X4_bestInchForRest_0 G) ?_)
  rw [hB.1.1, hL]
  rw [hL, Int.toNat_natCast] at hP
  refine mv_J.ce (fx_fill_82 L G) ?_
  have c0 : mv_ch [82, 83] [] G (mv_fl G 82 60 L) := fun a b x h1 h2 => by
    rw [mv_fl_k]
    intro e
    subst e
    revert h1
    decide
  have e0 : ∀ x, x < 60 → (mv_fl G 82 60 L) 82 0 x = L := fun x hx => by rw [mv_fl_at, if_pos hx]
  generalize mv_fl G 82 60 L = G0 at c0 e0
  refine mv_J.cn (fx_fewest_82 (C := mv_CT) (L := L) (by rw [c0.cell 81 rfl]; exact h6) (by rw [c0.cell 81 rfl]; exact h7) hw hk (by omega) (fun x hx => ⟨fun _ => by rw [e0 x (by omega)]; omega, fun _ => trivial⟩) 0 L (Nat.zero_le _) (Nat.le_refl _)) (fun v G1 h1 => mv_J.cut ?_)
  obtain ⟨h1, c1⟩ := h1
  subst h1
  have key : ∀ (q i : Nat) (G2 : mv_G), i + 1 + q = L → mv_ch [82, 83] [] G G2 → (∀ x, i ≤ x → x < 60 → G2 82 0 x = (L : Int)) → mv_JP mm_X4_bestInchForRest P 32 [some (.inr (81, 0)), some (.inl (L : Int)), some (.inl (mv_br w k L i).1), some (.inl (mv_br w k L i).2), some (.inl ((i + 1 : Nat) : Int)), none] G2 := by
    intro q
    induction q with
    | zero =>
      intro i G2 hq hc hr
      refine mv_JP.of (rg_X4_bestInchForRest_32 _ _ _ _ G2) (mv_J.f (by omega) (mv_J.ret ?_))
      rw [hP]
      exact ⟨by rw [show L - 1 = i by omega], hc⟩
    | succ q ih =>
      intro i G2 hq hc hr
      refine mv_JP.of (rg_X4_bestInchForRest_32 _ _ _ _ G2) ?_
      rw [mv_ws (x := ((i + 1 : Nat) : Int) + 1) (by omega)]
      have f1 := fx_fill3 (G := G2) 0 (i + 1) (i + 1) (by omega) (by omega)
      refine mv_J.t (by omega) (mv_J.cn f1 (fun v G4 h4 => ?_))
      have c4 : mv_ch [82, 83] [] G G4 := hc.tr (h4.2.mono rfl rfl)
      have hr4 : ∀ x, i + 1 ≤ x → x < 60 → G4 82 0 x = (L : Int) := fun x g1 g2 => by
        rw [h4.1 x, if_neg (by omega)]
        exact hr x (by omega) g2
      refine mv_J.cn (fx_fewest_82 (C := mv_Cr (i + 1) w) (L := L) (by rw [c4.cell 81 rfl]; exact h6) (by rw [c4.cell 81 rfl]; exact h7) hw hk (by omega) (fun x hx => ?_) 0 L (Nat.zero_le _) (Nat.le_refl _)) (fun v G5 h5 => ?_)
      · unfold mv_Cr
        by_cases e : x < i + 1
        · rw [h4.1 x, if_pos (by omega)]
          constructor
          · intro h; omega
          · intro h; omega
        · rw [hr4 x (by omega) (by omega)]
          constructor
          · intro h; omega
          · intro h; omega
      · obtain ⟨h5, c5⟩ := h5
        subst h5
        have nx := ih (i + 1) G5 (by omega) (c4.tr (c5.mono rfl rfl)) (fun x g1 g2 => by rw [c5.cell 82 rfl]; exact hr4 x g1 g2)
        have est : mv_br w k L (i + 1) = if (mv_br w k L i).2 < mv_Fe w k (mv_Cr (i + 1) w) 0 L then (((i + 1 : Nat) : Int), mv_Fe w k (mv_Cr (i + 1) w) 0 L) else mv_br w k L i := rfl
        rw [est] at nx
        rw [show ((i + 1 + 1 : Nat) : Int) = ((i + 1 : Nat) : Int) + 1 by omega] at nx
        refine mv_J.i (fun h6 => mv_J.cut ?_) (fun h6 => mv_J.cut ?_)
        · rw [if_pos h6] at nx; exact nx
        · rw [if_neg h6] at nx; exact nx
  have := key (L - 1) 0 G1 (by omega) (c0.tr (c1.mono rfl rfl)) (fun x _ g2 => by rw [c1.cell 82 rfl]; exact e0 x g2)
  exact this
theorem fx_bestRest (hB : mv_cB G a) (hi : mv_iB a) (w k : Int) : mv_Kp (ff_X11_bestRest [.inr (0, 0), .inl w, .inl k] G) (fun v G' => v = mv_bre a w k ∧ mv_ch [82, 83] [(81, 6), (81, 7)] G G') := by
  refine mv_Kp.of (mv_JP.of (rg_X11_bestRest_0 w k G) (mv_J.ce (fx_allowed _ _ _) (mv_J.bt (fun h1 => mv_J.ret ⟨(if_neg (fun h => h1 ((mv_alw_0 w).mpr h.1))).symm, mv_ch.rf⟩) (fun h1 => mv_J.ce (fx_allowed _ _ _) (mv_J.bt (fun h2 => mv_J.ret ⟨(if_neg (fun h => h2 ((mv_alw_1 k).mpr h.2))).symm, mv_ch.rf⟩) (fun h2 => ?_))))))
  have hwk : mv_alk w k := ⟨(mv_alw_0 w).mp h1, (mv_alw_1 k).mp h2⟩
  have er : mv_bre a w k = (mv_br w.toNat k.toNat (a 0 0) ((a 0 0).toNat - 1)).1 := if_pos hwk
  obtain ⟨⟨w1, w2⟩, k1, k2⟩ := id hwk
  obtain ⟨x, rfl⟩ : ∃ x : Nat, w = x := ⟨w.toNat, by omega⟩
  obtain ⟨y, rfl⟩ : ∃ y : Nat, k = y := ⟨k.toNat, by omega⟩
  rw [Int.toNat_natCast, Int.toNat_natCast] at er
  refine mv_J.cn (fx_ofAlike G x y (by omega)) (fun v G1 h7 => ?_)
  obtain ⟨e6, e7, c1⟩ := h7
  exact mv_J.cn (fx_bestInch (hB.ch c1 (by decide)) hi e6 e7 (by omega) (by omega)) (fun v G2 h3 => mv_J.ret ⟨by rw [h3.1, er], (c1.mono rfl rfl).tr (h3.2.mono rfl rfl)⟩)
/-! the reference -/
/-- the stretches without a rest -/
def mv_sB (G : mv_G) (w k : Nat) (n : Nat) : Prop := ∀ x : Nat, x < n → G 135 0 x = mv_Fe w k mv_CT 0 x
set_option maxHeartbeats 2000000 in
theorem gx_findsBare (hB : mv_mB G a) (hi : mv_iB a) (hw : 1 ≤ w ∧ w ≤ 20) (hk : k ≤ 15) : mv_Kp (ff_X12_findsBare [.inr (100, 0), .inl w, .inl k] G) (fun _ G' => mv_sB G' w k ((a 0 0).toNat + 1) ∧ mv_ch [135] [] G G') := by
  have b1 := hi.1
  obtain ⟨P, hP⟩ : ∃ P : Int → mv_G → Prop, P = (fun _ G' => mv_sB G' w k ((a 0 0).toNat + 1) ∧ mv_ch [135] [] G G') := ⟨_, rfl⟩
  rw [← hP]
  have key : ∀ (q n : Nat) (G1 : mv_G), (n : Int) + q = a 0 0 + 1 → mv_ch [135] [] G G1 → mv_sB G1 w k n → mv_JP mm_X12_findsBare P 2 [some (.inr (100, 0)), some (.inl (w : Int)), some (.inl (k : Int)), some (.inl (n : Int)), none, none] G1 := by
    intro q
    induction q with
    | zero =>
      intro n G1 hq hc ht
      have hB1 := hB.ch hc (by decide) rfl rfl
      refine mv_JP.of (rg_X12_findsBare_2 _ _ _ G1) (mv_J.ce (gx_length hB1 hi) (mv_J.t (by omega) (mv_J.ret ?_)))
      rw [hP]
      exact ⟨fun x h => ht x (by omega), hc⟩
    | succ q ih =>
      intro n G1 hq hc ht
      have hB1 := hB.ch hc (by decide) rfl rfl
      obtain ⟨iB, hIB⟩ : ∃ iB : Nat → Option Int, iB = fun x => mv_oc (mv_CT x) (1 + mv_stv mv_Hf 1 w k mv_CT 0 ((x : Int) - k) + mv_stv mv_Hf 1 w k mv_CT (x + w + k) (n : Int)) := ⟨_, rfl⟩
      have inner : ∀ (m x : Nat) (G2 : mv_G), x + m = ((n : Int) - w - (0 : Nat) + 1).toNat → mv_ch [135] [] G G2 → mv_sB G2 w k n → G2 135 0 n = mv_z0 (mv_mn iB x 0) → mv_JP mm_X12_findsBare P 20 [some (.inr (100, 0)), some (.inl (w : Int)), some (.inl (k : Int)), some (.inl (n : Int)), some (.inl (x : Int)), none] G2 := by
        intro m
        induction m with
        | zero =>
          intro x G2 hm hc2 ht2 h135
          refine mv_JP.of (rg_X12_findsBare_20 _ _ _ _ G2) ?_
          rw [mv_ws (x := (x : Int) + w) (by omega), mv_ws (x := (n : Int) + 1) (by omega)]
          refine mv_J.t (by omega) (mv_J.cut (ih (n + 1) G2 (by omega) hc2 (fun y hy => ?_)))
          by_cases e : y = n
          · subst e
            have e1 : mv_Fe w k mv_CT 0 (y : Int) = _ := mv_stv_eq mv_Hf_ok hw.1 0 (y : Int)
            rw [e1, h135, ← hm, Nat.add_zero, hIB]
            rfl
          · exact ht2 y (by omega)
        | succ m ihm =>
          intro x G2 hm hc2 ht2 h135
          have hxn : x + w ≤ n := by omega
          have eB : iB (0 + x) = some (1 + mv_Fe w k mv_CT 0 ((x : Int) - k) + mv_Fe w k mv_CT 0 ((n : Int) - x - w - k)) := by
            have tr := mv_Fe_tr (k := k) hw.1 100 (x + w + k) (n : Int) (by omega)
            rw [hIB, Nat.zero_add]
            refine (mv_oc_t (show mv_CT x from trivial)).trans ?_
            rw [show (n : Int) - x - w - k = (n : Int) - ((x + w + k : Nat) : Int) by omega, ← tr]
          have es := mv_mn_s (f := iB) x 0
          rw [eB] at es
          have bF1 := mv_Fe_b (k := k) (C := mv_CT) hw.1 100 0 ((x : Int) - k) (by omega)
          have bF2 := mv_Fe_b (k := k) (C := mv_CT) hw.1 100 0 ((n : Int) - x - w - k) (by omega)
          have put : ∀ v : Int, v = mv_z0 (mv_mn iB (x + 1) 0) → mv_JP mm_X12_findsBare P 20 [some (.inr (100, 0)), some (.inl (w : Int)), some (.inl (k : Int)), some (.inl (n : Int)), some (.inl ((x : Int) + 1)), none] (mv_up G2 135 0 n v) := fun v hv => by
            have := ihm (x + 1) (mv_up G2 135 0 n v) (by omega) (hc2.uc rfl) (fun y hy => by
              rw [mv_up_j (by omega)]
              exact ht2 y hy) (mv_ups_eq.trans hv)
            exact this
          have leaf : ∀ u v : Int, u = mv_Fe w k mv_CT 0 ((x : Int) - k) → v = mv_Fe w k mv_CT 0 ((n : Int) - x - w - k) → mv_J mm_X12_findsBare P (if (x : Int) = 0 then mv_ck (n : Int) 61 (some (.inr (20, [some (.inr (100, 0)), some (.inl (w : Int)), some (.inl (k : Int)), some (.inl (n : Int)), some (.inl (mv_w ((x : Int) + 1))), none], mv_up G2 135 0 (n : Int).toNat (mv_w (mv_w (1 + u) + v))))) else mv_ck (n : Int) 61 (if mv_w (mv_w (1 + u) + v) < G2 135 0 (n : Int).toNat then mv_ck (n : Int) 61 (some (.inr (20, [some (.inr (100, 0)), some (.inl (w : Int)), some (.inl (k : Int)), some (.inl (n : Int)), some (.inl (mv_w ((x : Int) + 1))), none], mv_up G2 135 0 (n : Int).toNat (mv_w (mv_w (1 + u) + v))))) else mv_ck (n : Int) 61 (mv_ck (n : Int) 61 (some (.inr (20, [some (.inr (100, 0)), some (.inl (w : Int)), some (.inl (k : Int)), some (.inl (n : Int)), some (.inl (mv_w ((x : Int) + 1))), none], mv_up G2 135 0 (n : Int).toNat (G2 135 0 (n : Int).toNat))))))) := by
            intro u v hu hv
            rw [hu, hv, Int.toNat_natCast, h135, mv_ws (x := 1 + mv_Fe w k mv_CT 0 ((x : Int) - k)) (by omega), mv_ws (x := 1 + mv_Fe w k mv_CT 0 ((x : Int) - k) + _) (by omega), mv_ws (x := (x : Int) + 1) (by omega)]
            refine mv_J.i (fun h1 => mv_J.ck (by omega) (mv_J.cut (put _ ?_))) (fun h1 => mv_J.ck (by omega) ?_)
            · rw [es, show x = 0 by omega]
              rfl
            · obtain ⟨u2, hu2⟩ : ∃ u2, mv_mn iB x 0 = some u2 := by
                obtain ⟨u2, h2, -⟩ := mv_mn_le (f := iB) (z := 0) (v := 1 + mv_stv mv_Hf 1 w k mv_CT 0 (((0 : Nat) : Int) - k) + mv_stv mv_Hf 1 w k mv_CT (0 + w + k) (n : Int)) (by rw [hIB]; exact mv_oc_t (show mv_CT 0 from trivial)) x 0 (by omega) (by omega)
                exact ⟨u2, h2⟩
              rw [hu2] at es ⊢
              refine mv_J.i (fun h2 => mv_J.ck (by omega) (mv_J.cut (put _ ?_))) (fun h2 => mv_J.ck (by omega) (mv_J.ck (by omega) (mv_J.cut (put _ ?_))))
              · rw [es]; exact (if_pos h2).symm
              · rw [es]; exact (if_neg h2).symm
          refine mv_JP.of (rg_X12_findsBare_20 _ _ _ _ G2) ?_
          rw [show mv_w ((x : Int) + w) = (x : Int) + w by rw [mv_ws (by omega)], show mv_w ((x : Int) - k) = (x : Int) - k by rw [mv_ws (by omega)], show mv_w (mv_w (mv_w ((n : Int) - x) - w) - k) = (n : Int) - x - w - k by rw [mv_ws (x := (n : Int) - x) (by omega), mv_ws (x := (n : Int) - x - w) (by omega), mv_ws (by omega)]]
          have at1 : 0 ≤ (x : Int) - k → G2 135 0 ((x : Int) - k).toNat = mv_Fe w k mv_CT 0 ((x : Int) - k) := fun h => by
            have := ht2 ((x : Int) - k).toNat (by omega)
            rw [show ((((x : Int) - k).toNat : Nat) : Int) = (x : Int) - k by omega] at this
            exact this
          have at2 : 0 ≤ (n : Int) - x - w - k → G2 135 0 ((n : Int) - x - w - k).toNat = mv_Fe w k mv_CT 0 ((n : Int) - x - w - k) := fun h => by
            have := ht2 ((n : Int) - x - w - k).toNat (by omega)
            rw [show ((((n : Int) - x - w - k).toNat : Nat) : Int) = (n : Int) - x - w - k by omega] at this
            exact this
          have z1 : ¬ 0 ≤ (x : Int) - k → (0 : Int) = mv_Fe w k mv_CT 0 ((x : Int) - k) := fun h => (mv_stv_0 mv_Hf_ok hw.1 (by omega)).symm
          have z2 : ¬ 0 ≤ (n : Int) - x - w - k → (0 : Int) = mv_Fe w k mv_CT 0 ((n : Int) - x - w - k) := fun h => (mv_stv_0 mv_Hf_ok hw.1 (by omega)).symm
          refine mv_J.f (by omega) (mv_J.i (fun h1 => mv_J.i (fun h2 => leaf 0 0 (z1 (by omega)) (z2 (by omega))) (fun h2 => mv_J.ck (by omega) (leaf 0 _ (z1 (by omega)) (at2 (by omega))))) (fun h1 => mv_J.ck (by omega) (mv_J.i (fun h2 => leaf _ 0 (at1 (by omega)) (z2 (by omega))) (fun h2 => mv_J.ck (by omega) (leaf _ _ (at1 (by omega)) (at2 (by omega)))))))
      refine mv_JP.of (rg_X12_findsBare_2 _ _ _ G1) (mv_J.ce (gx_length hB1 hi) (mv_J.f (by omega) (mv_J.ck (by omega) (mv_J.cut ?_))))
      rw [Int.toNat_natCast]
      exact inner ((n : Int) - w - (0 : Nat) + 1).toNat 0 _ (by omega) (hc.uc rfl) (fun y hy => by rw [mv_up_j (by omega)]; exact ht y hy) mv_ups_eq
  exact mv_Kp.of (mv_JP.of (rg_X12_findsBare_0 w k G) (mv_J.cut (key ((a 0 0).toNat + 1) 0 G (by omega) mv_ch.rf (fun x hx => by omega))))
/-- the stretches around a rest -/
def mv_sR (G : mv_G) (w k : Nat) (a : mv_a) (rest n f0 : Nat) : Prop := ∀ f l : Nat, f < rest → rest < l → (l : Int) ≤ a 0 0 → (l - f < n ∨ l - f = n ∧ f < f0) → G 132 0 (62 * f + l) = mv_Fe w k (mv_Cr rest w) f l
theorem gx_fewestBy (hi : mv_iB a) (hw : 1 ≤ w) (hb : mv_sB G w k ((a 0 0).toNat + 1)) (rest f : Nat) (l : Int) (hl : l ≤ a 0 0) (hf : f ≤ 100) (ht : f < rest → (rest : Int) < l → G 132 0 (62 * f + l.toNat) = mv_Fe w k (mv_Cr rest w) f l) : ff_X12_fewestBy [.inr (100, 0), .inl rest, .inl f, .inl l] G = some (mv_Fe w k (mv_Cr rest w) f l, G) := by
  have b1 := hi.1
  refine mv_Kp.eq (mv_Kp.of (mv_JP.of (rg_X12_fewestBy_0 rest f l G) ?_))
  refine mv_J.i (fun h1 => mv_J.ret ⟨(mv_stv_0 mv_Hf_ok hw (by omega)).symm, rfl⟩) (fun h1 => ?_)
  have bare : ¬ (f < rest ∧ (rest : Int) < l) → mv_J mm_X12_fewestBy (fun v G' => v = mv_Fe w k (mv_Cr rest w) f l ∧ G' = G) (mv_ck (mv_w (l - f)) 61 (some (.inl (G 135 0 (mv_w (l - f)).toNat, G)))) := fun h => by
    rw [mv_ws (by omega)]
    refine mv_J.ck (by omega) (mv_J.ret ⟨?_, rfl⟩)
    have e := hb (l - f).toNat (by omega)
    rw [e, show (((l - f).toNat : Nat) : Int) = l - f by omega, ← mv_Fe_tr hw 100 f l (by omega)]
    exact mv_Fe_cg hw 100 f l (by omega) (fun x h2 h3 => ⟨fun _ => by unfold mv_Cr; omega, fun _ => trivial⟩)
  refine mv_J.i (fun h2 => mv_J.i (fun h3 => ?_) (fun h3 => bare (by omega))) (fun h2 => bare (by omega))
  have e : mv_w (mv_w (62 * (f : Int)) + l) = ((62 * f + l.toNat : Nat) : Int) := by rw [mv_ws (x := 62 * (f : Int)) (by omega), mv_ws (by omega)]; omega
  rw [e]
  clear e
  rw [mv_ckp (n := 3844) (by omega), Int.toNat_natCast]
  exact mv_J.ret ⟨ht (by omega) h3, rfl⟩
end BR
