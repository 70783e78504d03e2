/-! FILL, the reference: all stretches. -/
theorem mv_mn_s {f : Nat → Option Int} : ∀ q y, mv_mn f (q + 1) y = mv_om (mv_mn f q y) (f (y + q))
  | 0, y => by
    show mv_om (f y) none = mv_om none (f (y + 0))
    rw [Nat.add_zero]
    cases f y <;> rfl
  | q + 1, y => by
    have h := mv_mn_s (f := f) q (y + 1)
    have e1 : mv_mn f (q + 1 + 1) y = mv_om (f y) (mv_mn f (q + 1) (y + 1)) := rfl
    have e2 : mv_mn f (q + 1) y = mv_om (f y) (mv_mn f q (y + 1)) := rfl
    rw [e1, e2, h, mv_om_as, show y + 1 + q = y + (q + 1) by omega]
theorem mv_Hm_s {f : Nat → Option Int} (hp : ∀ a v, f a = some v → 0 ≤ v) : ∀ q y, mv_Hm f (q + 1) y = mv_mx (mv_Hm f q y) (mv_z0 (f (y + q)))
  | 0, y => by
    show (if mv_z0 (f y) < 0 then 0 else mv_z0 (f y)) = if 0 < mv_z0 (f (y + 0)) then mv_z0 (f (y + 0)) else 0
    rw [Nat.add_zero]
    have : 0 ≤ mv_z0 (f y) := by
      cases e : f y with
      | none => exact Int.le_refl _
      | some v => exact hp y v e
    split <;> split <;> omega
  | q + 1, y => by
    have h := mv_Hm_s hp q (y + 1)
    have e1 : mv_Hm f (q + 1 + 1) y = if mv_z0 (f y) < mv_Hm f (q + 1) (y + 1) then mv_Hm f (q + 1) (y + 1) else mv_z0 (f y) := rfl
    have e2 : mv_Hm f (q + 1) y = if mv_z0 (f y) < mv_Hm f q (y + 1) then mv_Hm f q (y + 1) else mv_z0 (f y) := rfl
    rw [e1, e2, h, show y + 1 + q = y + (q + 1) by omega]
    generalize mv_z0 (f (y + (q + 1))) = u
    generalize mv_Hm f q (y + 1) = x
    generalize mv_z0 (f y) = z
    unfold mv_mx
    by_cases h1 : x < u <;> by_cases h2 : z < x <;> by_cases h3 : z < u <;> simp only [h1, h2, h3, if_true, if_false] <;> omega
theorem mv_mn_nN {C : Nat → Prop} {f : Nat → Int} : ∀ q y, 0 ≤ mv_sm (mv_gN C) q y ∧ (mv_mn (fun a => mv_oc (C a) (f a)) q y = none ↔ mv_sm (mv_gN C) q y = 0)
  | 0, y => ⟨Int.le_refl _, ⟨fun _ => rfl, fun _ => rfl⟩⟩
  | q + 1, y => by
    obtain ⟨i1, i2⟩ := mv_mn_nN (C := C) (f := f) q (y + 1)
    have e1 : mv_sm (mv_gN C) (q + 1) y = mv_gN C y + mv_sm (mv_gN C) q (y + 1) := rfl
    have e2 : mv_mn (fun a => mv_oc (C a) (f a)) (q + 1) y = mv_om (mv_oc (C y) (f y)) (mv_mn (fun a => mv_oc (C a) (f a)) q (y + 1)) := rfl
    rw [e1, e2]
    by_cases h : C y
    · have e3 : mv_gN C y = 1 := mv_w1_t h
      rw [e3, mv_oc_t h]
      refine ⟨by omega, ⟨fun h4 => ?_, fun h4 => by omega⟩⟩
      cases e : mv_mn (fun a => mv_oc (C a) (f a)) q (y + 1) with
      | none => rw [e] at h4; cases h4
      | some v => rw [e] at h4; cases h4
    · have e3 : mv_gN C y = 0 := mv_w1_f h
      rw [e3, mv_oc_f h, Int.zero_add]
      refine ⟨i1, ?_⟩
      have : mv_om none (mv_mn (fun a => mv_oc (C a) (f a)) q (y + 1)) = mv_mn (fun a => mv_oc (C a) (f a)) q (y + 1) := by
        cases mv_mn (fun a => mv_oc (C a) (f a)) q (y + 1) <;> rfl
      rw [this]
      exact i2
def mv_sT (G : mv_G) (w k : Nat) (C : Nat → Prop) (f l : Nat) : Prop := G 132 0 (62 * f + l) = mv_Fe w k C f l ∧ G 133 0 (62 * f + l) = mv_Mo w k C f l ∧ G 134 0 (62 * f + l) = mv_Me w k C f l
section MS
variable {G : mv_G} {a : mv_a} {w k : Nat}
theorem gx_stretch (hB : mv_mB G a) (hi : mv_iB a) (f : Nat) (l : Int) (hf : f ≤ 100) (hl : l ≤ a 0 0) : ff_X12_stretch [.inr (100, 0), .inl f, .inl l] G = some (if (f : Int) ≤ l then 62 * (f : Int) + l else -1, G) := by
  have b1 := hi.1
  refine mv_Kp.eq (mv_Kp.of (mv_JP.of (rg_X12_stretch_0 f l G) (mv_J.i (fun h1 => mv_J.ret ⟨(if_neg (by omega)).symm, rfl⟩) (fun h1 => mv_J.ce (gx_length hB hi) (mv_J.f (by omega) (mv_J.f (by omega) (mv_J.ret ⟨?_, rfl⟩)))))))
  rw [if_pos (by omega), mv_ws (x := 62 * (f : Int)) (by omega), mv_ws (by omega)]
theorem gx_ofStretch_132 (hB : mv_mB G a) (hi : mv_iB a) (f : Nat) (l v : Int) (hf : f ≤ 100) (hl : l ≤ a 0 0) (hv : (f : Int) ≤ l → G 132 0 (62 * f + l.toNat) = v) (hz : l < f → v = 0) : ff_X12_ofStretch [.inr (100, 0), .inr (132, 0), .inl f, .inl l] G = some (v, G) := by
  have b1 := hi.1
  refine mv_Kp.eq (mv_Kp.of (mv_JP.of (rg_X12_ofStretch_0_100_132 f l G) (mv_J.ce (gx_stretch hB hi f l hf hl) ?_)))
  by_cases c : (f : Int) ≤ l
  · rw [if_pos c]
    refine mv_J.f (by omega) ?_
    rw [mv_ckp (n := 3844) (by omega), show (62 * (f : Int) + l).toNat = 62 * f + l.toNat by omega]
    exact mv_J.ret ⟨hv c, rfl⟩
  · rw [if_neg c]
    exact mv_J.t rfl (mv_J.ret ⟨(hz (by omega)).symm, rfl⟩)
theorem gx_ofStretch_133 (hB : mv_mB G a) (hi : mv_iB a) (f : Nat) (l v : Int) (hf : f ≤ 100) (hl : l ≤ a 0 0) (hv : (f : Int) ≤ l → G 133 0 (62 * f + l.toNat) = v) (hz : l < f → v = 0) : ff_X12_ofStretch [.inr (100, 0), .inr (133, 0), .inl f, .inl l] G = some (v, G) := by
  have b1 := hi.1
  refine mv_Kp.eq (mv_Kp.of (mv_JP.of (rg_X12_ofStretch_0_100_133 f l G) (mv_J.ce (gx_stretch hB hi f l hf hl) ?_)))
  by_cases c : (f : Int) ≤ l
  · rw [if_pos c]
    refine mv_J.f (by omega) ?_
    rw [mv_ckp (n := 3844) (by omega), show (62 * (f : Int) + l).toNat = 62 * f + l.toNat by omega]
    exact mv_J.ret ⟨hv c, rfl⟩
  · rw [if_neg c]
    exact mv_J.t rfl (mv_J.ret ⟨(hz (by omega)).symm, rfl⟩)
theorem gx_ofStretch_134 (hB : mv_mB G a) (hi : mv_iB a) (f : Nat) (l v : Int) (hf : f ≤ 100) (hl : l ≤ a 0 0) (hv : (f : Int) ≤ l → G 134 0 (62 * f + l.toNat) = v) (hz : l < f → v = 0) : ff_X12_ofStretch [.inr (100, 0), .inr (134, 0), .inl f, .inl l] G = some (v, G) := by
  have b1 := hi.1
  refine mv_Kp.eq (mv_Kp.of (mv_JP.of (rg_X12_ofStretch_0_100_134 f l G) (mv_J.ce (gx_stretch hB hi f l hf hl) ?_)))
  by_cases c : (f : Int) ≤ l
  · rw [if_pos c]
    refine mv_J.f (by omega) ?_
    rw [mv_ckp (n := 3844) (by omega), show (62 * (f : Int) + l).toNat = 62 * f + l.toNat by omega]
    exact mv_J.ret ⟨hv c, rfl⟩
  · rw [if_neg c]
    exact mv_J.t rfl (mv_J.ret ⟨(hz (by omega)).symm, rfl⟩)
set_option maxHeartbeats 4000000 in
set_option maxRecDepth 100000 in
theorem gx_findsStretch (hB : mv_mB G a) (hi : mv_iB a) (hw : 1 ≤ w ∧ w ≤ 20) (hk : k ≤ 15) (f l : Nat) (hfl : f ≤ l) (hl : (l : Int) ≤ a 0 0) (hT : ∀ f2 l2 : Nat, f2 ≤ l2 → (l2 : Int) ≤ a 0 0 → l2 - f2 < l - f → mv_sT G w k (fun x => mv_clr a x w) f2 l2) : mv_Kp (ff_X12_findsStretch [.inr (100, 0), .inl w, .inl k, .inl f, .inl l] G) (fun _ G' => mv_sT G' w k (fun x => mv_clr a x w) f l ∧ (∀ j, j ≠ 62 * f + l → G' 132 0 j = G 132 0 j ∧ G' 133 0 j = G 133 0 j ∧ G' 134 0 j = G 134 0 j) ∧ mv_ch [132, 133, 134] [] G G') := by
  have b1 := hi.1
  obtain ⟨C, hC⟩ : ∃ C : Nat → Prop, C = fun x : Nat => mv_clr a x w := ⟨_, rfl⟩
  rw [← hC] at hT ⊢
  obtain ⟨P, hP⟩ : ∃ P : Int → mv_G → Prop, P = (fun _ G' => mv_sT G' w k C f l ∧ (∀ j, j ≠ 62 * f + l → G' 132 0 j = G 132 0 j ∧ G' 133 0 j = G 133 0 j ∧ G' 134 0 j = G 134 0 j) ∧ mv_ch [132, 133, 134] [] G G') := ⟨_, rfl⟩
  rw [← hP]
  obtain ⟨iF, hF⟩ : ∃ iF : Nat → Option Int, iF = fun x => mv_oc (C x) (1 + mv_Fe w k C f ((x : Int) - k) + mv_Fe w k C (x + w + k) l) := ⟨_, rfl⟩
  obtain ⟨iM, hM⟩ : ∃ iM : Nat → Option Int, iM = fun x => mv_oc (C x) (1 + mv_Mo w k C f ((x : Int) - k) + mv_Mo w k C (x + w + k) l) := ⟨_, rfl⟩
  have pM : ∀ a v, iM a = some v → 0 ≤ v := fun x v h => by
    rw [hM] at h
    by_cases c : C x
    · have h : mv_oc (C x) _ = some v := h
      rw [mv_oc_t c] at h
      have := Option.some.inj h
      have := mv_Mo_p (k := k) (C := C) hw.1 f ((x : Int) - k)
      have := mv_Mo_p (k := k) (C := C) hw.1 (x + w + k) l
      omega
    · have h : mv_oc (C x) _ = some v := h
      rw [mv_oc_f c] at h
      cases h
  have key : ∀ (m q : Nat) (G1 : mv_G), q + m = ((l : Int) - w - f + 1).toNat → mv_ch [132, 133, 134] [] G G1 → (∀ j, j ≠ 62 * f + l → G1 132 0 j = G 132 0 j ∧ G1 133 0 j = G 133 0 j ∧ G1 134 0 j = G 134 0 j) → G1 132 0 (62 * f + l) = mv_z0 (mv_mn iF q f) → G1 133 0 (62 * f + l) = mv_Hm iM q f → G1 134 0 (62 * f + l) = 0 → mv_JP mm_X12_findsStretch P 42 [some (.inr (100, 0)), some (.inl (w : Int)), some (.inl (k : Int)), some (.inl (f : Int)), some (.inl (l : Int)), some (.inl ((62 * f + l : Nat) : Int)), some (.inl (mv_sm (mv_gN C) q f)), some (.inl (1000 * mv_sm (mv_gN C) q f + mv_sm (mv_gL w k C f) q f + mv_sm (mv_gR w k C l) q f)), some (.inl ((f + q : Nat) : Int)), none, none] G1 := by
    intro m
    induction m with
    | zero =>
      intro q G1 hq hc ho e2 e3 e4
      have eM := mv_Me_eq (k := k) (C := C) hw.1 f l
      have eF : mv_Fe w k C f l = mv_z0 (mv_mn iF q f) := by
        have := mv_stv_eq (c := 1) (k := k) (C := C) mv_Hf_ok hw.1 f (l : Int)
        rw [← Nat.add_zero q, hq, hF]
        exact this
      have eO : mv_Mo w k C f l = mv_Hm iM q f := by
        have := mv_stv_eq (c := 1) (k := k) (C := C) mv_Hm_ok hw.1 f (l : Int)
        rw [← Nat.add_zero q, hq, hM]
        exact this
      rw [← hq, Nat.add_zero] at eM
      have bN := mv_sm_b (g := mv_gN C) (B := 1) q f (fun x _ _ => mv_w1_b (by omega))
      have bL := mv_sm_b (g := mv_gL w k C f) (B := 60000) q f (fun x h1 h2 => mv_w1_b (mv_Me_p hw.1 (by omega)))
      have bR := mv_sm_b (g := mv_gR w k C l) (B := 60000) q f (fun x h1 h2 => mv_w1_b (mv_Me_p hw.1 (by omega)))
      rw [Int.mul_one] at bN
      generalize mv_sm (mv_gN C) q f = n at eM bN ⊢
      generalize mv_sm (mv_gL w k C f) q f = x at eM bL ⊢
      generalize mv_sm (mv_gR w k C l) q f = r at eM bR ⊢
      refine mv_JP.of (rg_X12_findsStretch_42 _ _ _ _ _ _ _ _ G1) ?_
      rw [mv_ws (x := ((f + q : Nat) : Int) + w) (by omega), Int.toNat_natCast]
      refine mv_J.t (by omega) (mv_J.i (fun h1 => mv_J.f (by omega) ?_) (fun h1 => mv_J.ret ?_))
      · rw [mv_ckp (n := 3844) (by omega)]
        refine mv_J.ret ?_
        rw [hP]
        refine ⟨⟨?_, ?_, ?_⟩, fun j hj => ?_, hc.uc rfl⟩
        · rw [mv_up_k (by decide), e2, eF]
        · rw [mv_up_k (by decide), e3, eO]
        · rw [mv_ups_eq, eM, if_neg (by omega)]
          refine mv_ws ?_
          rw [Int.tdiv_eq_ediv_of_nonneg (by omega)]
          have q1 := Int.ediv_nonneg (a := 1000 * n + x + r) (b := n) (by omega) (by omega)
          have q2 := Int.ediv_le_self (a := 1000 * n + x + r) n (by omega)
          omega
        · rw [mv_up_k (by decide), mv_up_k (by decide), mv_up_j hj]
          exact ho j hj
      · rw [hP]
        refine ⟨⟨by rw [e2, eF], by rw [e3, eO], ?_⟩, ho, hc⟩
        rw [e4, eM, if_pos (by omega)]
    | succ m ih =>
      intro q G1 hq hc ho e2 e3 e4
      have hB1 := hB.ch hc (by decide) rfl rfl
      have eNs := mv_sm_s (g := mv_gN C) q f
      have eLs := mv_sm_s (g := mv_gL w k C f) q f
      have eRs := mv_sm_s (g := mv_gR w k C l) q f
      have eFs := mv_mn_s (f := iF) q f
      have eMs := mv_Hm_s pM q f
      have bN := mv_sm_b (g := mv_gN C) (B := 1) q f (fun x _ _ => mv_w1_b (by omega))
      have bL := mv_sm_b (g := mv_gL w k C f) (B := 60000) q f (fun x h1 h2 => mv_w1_b (mv_Me_p hw.1 (by omega)))
      have bR := mv_sm_b (g := mv_gR w k C l) (B := 60000) q f (fun x h1 h2 => mv_w1_b (mv_Me_p hw.1 (by omega)))
      rw [Int.mul_one] at bN
      have nz := (mv_mn_nN (C := C) (f := fun x => 1 + mv_Fe w k C f ((x : Int) - k) + mv_Fe w k C (x + w + k) l) q f)
      have hF' : (fun x => mv_oc (C x) ((fun x : Nat => 1 + mv_Fe w k C f ((x : Int) - k) + mv_Fe w k C (x + w + k) l) x)) = iF := hF.symm
      rw [hF'] at nz
      clear hF'
      refine mv_JP.of (rg_X12_findsStretch_42 _ _ _ _ _ _ _ _ G1) ?_
      rw [mv_ws (x := ((f + q : Nat) : Int) + w) (by omega), mv_ws (x := ((f + q : Nat) : Int) + w + k) (by omega), mv_ws (x := ((f + q : Nat) : Int) - k) (by omega), mv_ws (x := ((f + q : Nat) : Int) + 1) (by omega)]
      refine mv_J.f (by omega) (mv_J.ce (gx_isOverRest hB1 hi _ _ (by omega) (by omega) (by omega)) (mv_J.bt (fun h1 => ?_) (fun h1 => mv_J.cut ?_)))
      · have hCx : C (f + q) := by rw [hC]; exact Classical.byContradiction h1
        have g1 : mv_gN C (f + q) = 1 := mv_w1_t hCx
        have g2 : mv_gL w k C f (f + q) = mv_Me w k C f (((f + q : Nat) : Int) - k) := mv_w1_t hCx
        have g3 : mv_gR w k C l (f + q) = mv_Me w k C (f + q + w + k) l := mv_w1_t hCx
        have g4 : iF (f + q) = some (1 + mv_Fe w k C f (((f + q : Nat) : Int) - k) + mv_Fe w k C (f + q + w + k) l) := by rw [hF]; exact mv_oc_t hCx
        have g5 : iM (f + q) = some (1 + mv_Mo w k C f (((f + q : Nat) : Int) - k) + mv_Mo w k C (f + q + w + k) l) := by rw [hM]; exact mv_oc_t hCx
        rw [g1] at eNs
        rw [g2] at eLs
        rw [g3] at eRs
        rw [g4] at eFs
        rw [g5] at eMs
        -- the parts
        have tb : ∀ (G3 : mv_G) (f2 l2 : Nat), mv_ch [132, 133, 134] [] G G3 → (∀ j, j ≠ 62 * f + l → G3 132 0 j = G 132 0 j ∧ G3 133 0 j = G 133 0 j ∧ G3 134 0 j = G 134 0 j) → f2 ≤ l2 → (l2 : Int) ≤ a 0 0 → l2 - f2 < l - f → (f2 ≠ f ∨ l2 ≠ l) → mv_sT G3 w k C f2 l2 := fun G3 f2 l2 c3 o3 h1 h2 h3 h4 => by
          obtain ⟨t1, t2, t3⟩ := hT f2 l2 h1 h2 h3
          obtain ⟨o1, o2, o3⟩ := o3 (62 * f2 + l2) (by omega)
          exact ⟨o1.trans t1, o2.trans t2, o3.trans t3⟩
        have lo : ∀ (G3 : mv_G), mv_ch [132, 133, 134] [] G G3 → (∀ j, j ≠ 62 * f + l → G3 132 0 j = G 132 0 j ∧ G3 133 0 j = G 133 0 j ∧ G3 134 0 j = G 134 0 j) → (f : Int) ≤ ((f + q : Nat) : Int) - k → mv_sT G3 w k C f (((f + q : Nat) : Int) - k).toNat := fun G3 c3 o3 h => tb G3 f _ c3 o3 (by omega) (by omega) (by omega) (by omega)
        have up : ∀ (G3 : mv_G), mv_ch [132, 133, 134] [] G G3 → (∀ j, j ≠ 62 * f + l → G3 132 0 j = G 132 0 j ∧ G3 133 0 j = G 133 0 j ∧ G3 134 0 j = G 134 0 j) → ((f + q + w + k : Nat) : Int) ≤ (l : Int) → mv_sT G3 w k C (f + q + w + k) l := fun G3 c3 o3 h => tb G3 (f + q + w + k) l c3 o3 (by omega) hl (by omega) (by omega)
        have nn : ∀ x : Int, (f : Int) ≤ x → ((x.toNat : Nat) : Int) = x := fun x h => by omega
        have ex : ((f + q : Nat) : Int) + w + k = ((f + q + w + k : Nat) : Int) := by omega
        rw [ex]
        have bF1 := mv_Fe_b (k := k) (C := C) hw.1 100 f (((f + q : Nat) : Int) - k) (by omega)
        have bF2 := mv_Fe_b (k := k) (C := C) hw.1 100 (f + q + w + k) l (by omega)
        have bM1 := mv_Mo_b (k := k) (C := C) hw.1 100 f (((f + q : Nat) : Int) - k) (by omega)
        have bM2 := mv_Mo_b (k := k) (C := C) hw.1 100 (f + q + w + k) l (by omega)
        have bM3 := mv_Mo_p (k := k) (C := C) hw.1 f (((f + q : Nat) : Int) - k)
        have bM4 := mv_Mo_p (k := k) (C := C) hw.1 (f + q + w + k) l
        refine mv_J.ce (gx_ofStretch_132 hB1 hi f _ (mv_Fe w k C f (((f + q : Nat) : Int) - k)) (by omega) (by omega) (fun h => by have := (lo G1 hc ho h).1; rw [nn _ h] at this; exact this) (fun h => mv_stv_0 mv_Hf_ok hw.1 (by omega))) ?_
        refine mv_J.ce (gx_ofStretch_132 hB1 hi (f + q + w + k) _ (mv_Fe w k C (f + q + w + k) l) (by omega) (by omega) (fun h => by have := (up G1 hc ho h).1; rw [Int.toNat_natCast]; exact this) (fun h => mv_stv_0 mv_Hf_ok hw.1 (by omega))) ?_
        refine mv_J.ce (gx_ofStretch_133 hB1 hi f _ (mv_Mo w k C f (((f + q : Nat) : Int) - k)) (by omega) (by omega) (fun h => by have := (lo G1 hc ho h).2.1; rw [nn _ h] at this; exact this) (fun h => mv_stv_0 mv_Hm_ok hw.1 (by omega))) ?_
        refine mv_J.ce (gx_ofStretch_133 hB1 hi (f + q + w + k) _ (mv_Mo w k C (f + q + w + k) l) (by omega) (by omega) (fun h => by have := (up G1 hc ho h).2.1; rw [Int.toNat_natCast]; exact this) (fun h => mv_stv_0 mv_Hm_ok hw.1 (by omega))) ?_
        rw [mv_ws (x := 1 + mv_Fe w k C f (((f + q : Nat) : Int) - k)) (by omega), mv_ws (x := 1 + mv_Fe w k C f (((f + q : Nat) : Int) - k) + _) (by omega), mv_ws (x := 1 + mv_Mo w k C f (((f + q : Nat) : Int) - k)) (by omega), mv_ws (x := 1 + mv_Mo w k C f (((f + q : Nat) : Int) - k) + _) (by omega)]
        refine mv_J.cut ?_
        have s168 : ∀ G3 : mv_G, mv_ch [132, 133, 134] [] G G3 → (∀ j, j ≠ 62 * f + l → G3 132 0 j = G 132 0 j ∧ G3 133 0 j = G 133 0 j ∧ G3 134 0 j = G 134 0 j) → G3 132 0 (62 * f + l) = mv_z0 (mv_mn iF (q + 1) f) → G3 133 0 (62 * f + l) = mv_Hm iM q f → G3 134 0 (62 * f + l) = 0 → mv_JP mm_X12_findsStretch P 168 [some (.inr (100, 0)), some (.inl (w : Int)), some (.inl (k : Int)), some (.inl (f : Int)), some (.inl (l : Int)), some (.inl ((62 * f + l : Nat) : Int)), some (.inl (mv_sm (mv_gN C) q f)), some (.inl (1000 * mv_sm (mv_gN C) q f + mv_sm (mv_gL w k C f) q f + mv_sm (mv_gR w k C l) q f)), some (.inl ((f + q : Nat) : Int)), none, some (.inl (1 + mv_Mo w k C f (((f + q : Nat) : Int) - k) + mv_Mo w k C (f + q + w + k) l))] G3 := by
          intro G3 hc3 ho3 e23 e33 e43
          refine mv_JP.of (rg_X12_findsStretch_168 _ _ _ _ _ _ _ _ _ G3) ?_
          rw [mv_ckp (n := 3844) (by omega), Int.toNat_natCast, e33]
          refine mv_J.ce (gx_greater _ _ _) ?_
          rw [mv_ckp (n := 3844) (by omega)]
          have e335 : (if mv_Hm iM q f < 1 + mv_Mo w k C f (((f + q : Nat) : Int) - k) + mv_Mo w k C (f + q + w + k) l then 1 + mv_Mo w k C f (((f + q : Nat) : Int) - k) + mv_Mo w k C (f + q + w + k) l else mv_Hm iM q f) = mv_Hm iM (q + 1) f := eMs.symm
          rw [e335]
          have hc5 : mv_ch [132, 133, 134] [] G (mv_up G3 133 0 (62 * f + l) (mv_Hm iM (q + 1) f)) := hc3.uc rfl
          have e25 : (mv_up G3 133 0 (62 * f + l) (mv_Hm iM (q + 1) f)) 132 0 (62 * f + l) = mv_z0 (mv_mn iF (q + 1) f) := by rw [mv_up_k (by decide)]; exact e23
          have e35 : (mv_up G3 133 0 (62 * f + l) (mv_Hm iM (q + 1) f)) 133 0 (62 * f + l) = mv_Hm iM (q + 1) f := mv_ups_eq
          have e45 : (mv_up G3 133 0 (62 * f + l) (mv_Hm iM (q + 1) f)) 134 0 (62 * f + l) = 0 := by rw [mv_up_k (by decide)]; exact e43
          have ho5 : ∀ j, j ≠ 62 * f + l → (mv_up G3 133 0 (62 * f + l) (mv_Hm iM (q + 1) f)) 132 0 j = G 132 0 j ∧ (mv_up G3 133 0 (62 * f + l) (mv_Hm iM (q + 1) f)) 133 0 j = G 133 0 j ∧ (mv_up G3 133 0 (62 * f + l) (mv_Hm iM (q + 1) f)) 134 0 j = G 134 0 j := fun j hj => by
            rw [mv_up_k (by decide : (132 : Nat) ≠ 133), mv_up_j hj, mv_up_k (by decide : (134 : Nat) ≠ 133)]
            exact ho3 j hj
          generalize mv_up G3 133 0 (62 * f + l) (mv_Hm iM (q + 1) f) = G5 at hc5 e25 e35 e45 ho5
          have hB5 := hB.ch hc5 (by decide) rfl rfl
          have bE1 := mv_Me_p (s := f) (k := k) (C := C) hw.1 (show ((f + q : Nat) : Int) - k ≤ 60 by omega)
          have bE2 := mv_Me_p (s := f + q + w + k) (k := k) (C := C) hw.1 (show (l : Int) ≤ 60 by omega)
          rw [mv_ws (x := ((f + q : Nat) : Int) - k) (by omega), mv_ws (x := ((f + q : Nat) : Int) + w) (by omega), mv_ws (x := ((f + q : Nat) : Int) + w + k) (by omega), ex, mv_ws (x := ((f + q : Nat) : Int) + 1) (by omega)]
          refine mv_J.ce (gx_ofStretch_134 hB5 hi f _ (mv_Me w k C f (((f + q : Nat) : Int) - k)) (by omega) (by omega) (fun h => by have := (lo G5 hc5 ho5 h).2.2; rw [nn _ h] at this; exact this) (fun h => mv_stv_0 mv_Ha_ok hw.1 (by omega))) ?_
          refine mv_J.ce (gx_ofStretch_134 hB5 hi (f + q + w + k) _ (mv_Me w k C (f + q + w + k) l) (by omega) (by omega) (fun h => by have := (up G5 hc5 ho5 h).2.2; rw [Int.toNat_natCast]; exact this) (fun h => mv_stv_0 mv_Ha_ok hw.1 (by omega))) (mv_J.cut ?_)
          have := ih (q + 1) G5 (by omega) hc5 ho5 e25 e35 e45
          rw [eNs, eLs, eRs] at this
          rw [mv_ws (x := mv_sm (mv_gN C) q f + 1) (by omega), mv_ws (x := 1000 * mv_sm (mv_gN C) q f + mv_sm (mv_gL w k C f) q f + mv_sm (mv_gR w k C l) q f + 1000) (by omega), mv_ws (x := 1000 * mv_sm (mv_gN C) q f + mv_sm (mv_gL w k C f) q f + mv_sm (mv_gR w k C l) q f + 1000 + _) (by omega), mv_ws (by omega)]
          rw [show 1000 * mv_sm (mv_gN C) q f + mv_sm (mv_gL w k C f) q f + mv_sm (mv_gR w k C l) q f + 1000 + mv_Me w k C f (((f + q : Nat) : Int) - k) + mv_Me w k C (f + q + w + k) l = 1000 * (mv_sm (mv_gN C) q f + 1) + (mv_sm (mv_gL w k C f) q f + mv_Me w k C f (((f + q : Nat) : Int) - k)) + (mv_sm (mv_gR w k C l) q f + mv_Me w k C (f + q + w + k) l) by omega]
          rw [show ((f + (q + 1) : Nat) : Int) = ((f + q : Nat) : Int) + 1 by omega] at this
          exact this
        -- the fewest
        have put : ∀ v : Int, v = mv_z0 (mv_mn iF (q + 1) f) → mv_JP mm_X12_findsStretch P 168 [some (.inr (100, 0)), some (.inl (w : Int)), some (.inl (k : Int)), some (.inl (f : Int)), some (.inl (l : Int)), some (.inl ((62 * f + l : Nat) : Int)), some (.inl (mv_sm (mv_gN C) q f)), some (.inl (1000 * mv_sm (mv_gN C) q f + mv_sm (mv_gL w k C f) q f + mv_sm (mv_gR w k C l) q f)), some (.inl ((f + q : Nat) : Int)), none, some (.inl (1 + mv_Mo w k C f (((f + q : Nat) : Int) - k) + mv_Mo w k C (f + q + w + k) l))] (mv_up G1 132 0 (62 * f + l) v) := fun v hv => by
          refine s168 _ (hc.uc rfl) (fun j hj => ?_) (mv_ups_eq.trans hv) ?_ ?_
          · rw [mv_up_j hj, mv_up_k (by decide), mv_up_k (by decide)]
            exact ho j hj
          · rw [mv_up_k (by decide)]; exact e3
          · rw [mv_up_k (by decide)]; exact e4
        refine mv_JP.of (rg_X12_findsStretch_132 _ _ _ _ _ _ _ _ _ _ G1) ?_
        rw [mv_ckp (n := 3844) (by omega), mv_ckp (n := 3844) (by omega), mv_ckp (n := 3844) (by omega), mv_ckp (n := 3844) (by omega), Int.toNat_natCast, e2]
        cases ho2 : mv_mn iF q f with
        | none =>
          rw [ho2] at eFs
          refine mv_J.t (nz.2.mp ho2) (mv_J.cut (put _ ?_))
          rw [eFs]
          rfl
        | some u =>
          rw [ho2] at eFs
          refine mv_J.f (fun h => by have := nz.2.mpr h; rw [ho2] at this; cases this) (mv_J.i (fun h2 => mv_J.cut (put _ ?_)) (fun h2 => mv_J.cut (put _ ?_)))
          · rw [eFs]
            exact (if_pos h2).symm
          · rw [eFs]
            exact (if_neg h2).symm
      · have hnC : ¬ C (f + q) := by rw [hC]; exact h1
        have g1 : mv_gN C (f + q) = 0 := mv_w1_f hnC
        have g2 : mv_gL w k C f (f + q) = 0 := mv_w1_f hnC
        have g3 : mv_gR w k C l (f + q) = 0 := mv_w1_f hnC
        have g4 : iF (f + q) = none := by rw [hF]; exact mv_oc_f hnC
        have g5 : iM (f + q) = none := by rw [hM]; exact mv_oc_f hnC
        have o1 : mv_om (mv_mn iF q f) none = mv_mn iF q f := by cases mv_mn iF q f <;> rfl
        have o2 : mv_mx (mv_Hm iM q f) (mv_z0 none) = mv_Hm iM q f := by
          have := mv_Hm_nn pM q f
          unfold mv_mx
          exact if_neg (by show ¬ mv_Hm iM q f < 0; omega)
        rw [g1, Int.add_zero] at eNs
        rw [g2, Int.add_zero] at eLs
        rw [g3, Int.add_zero] at eRs
        rw [g4, o1] at eFs
        rw [g5, o2] at eMs
        have := ih (q + 1) G1 (by omega) hc ho (by rw [eFs]; exact e2) (by rw [eMs]; exact e3) e4
        rw [eNs, eLs, eRs, show ((f + (q + 1) : Nat) : Int) = ((f + q : Nat) : Int) + 1 by omega] at this
        exact this
  refine mv_Kp.of (mv_JP.of (rg_X12_findsStretch_0 w k f l G) ?_)
  have ei : mv_w (mv_w (62 * (f : Int)) + l) = ((62 * f + l : Nat) : Int) := by rw [mv_ws (x := 62 * (f : Int)) (by omega), mv_ws (by omega)]; omega
  rw [ei]
  clear ei
  rw [mv_ckp (n := 3844) (by omega), mv_ckp (n := 3844) (by omega), mv_ckp (n := 3844) (by omega), Int.toNat_natCast]
  refine mv_J.cut ?_
  have := key ((l : Int) - w - f + 1).toNat 0 (mv_up (mv_up (mv_up G 132 0 (62 * f + l) 0) 133 0 (62 * f + l) 0) 134 0 (62 * f + l) 0) (by omega) (((mv_ch.rf.uc rfl).uc rfl).uc rfl) (fun j hj => by
    rw [mv_up_k (by decide : (132 : Nat) ≠ 134), mv_up_k (by decide : (132 : Nat) ≠ 133), mv_up_j hj, mv_up_k (by decide : (133 : Nat) ≠ 134), mv_up_j hj, mv_up_k (by decide : (133 : Nat) ≠ 132), mv_up_j hj, mv_up_k (by decide : (134 : Nat) ≠ 133), mv_up_k (by decide : (134 : Nat) ≠ 132)]
    exact ⟨rfl, rfl, rfl⟩) (by rw [mv_up_k (by decide), mv_up_k (by decide), mv_ups_eq]; rfl) (by rw [mv_up_k (by decide), mv_ups_eq]; rfl) mv_ups_eq
  exact this
end MS
