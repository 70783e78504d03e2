/-! FILL: tables of stretches. -/
noncomputable def mv_oc (c : Prop) (v : Int) : Option Int := @ite _ c (Classical.propDecidable c) (some v) none
theorem mv_oc_t {c : Prop} {v : Int} (h : c) : mv_oc c v = some v := if_pos h
theorem mv_oc_f {c : Prop} {v : Int} (h : ¬ c) : mv_oc c v = none := if_neg h
noncomputable def mv_tt (H : (Nat → Option Int) → Nat → Nat → Int) (c : Int) (w k : Nat) (C : Nat → Prop) : Nat → Nat → Int → Int
  | 0, _, _ => 0
  | d + 1, f, l => H (fun a => mv_oc (C a) (c + mv_tt H c w k C d f ((a : Int) - k) + mv_tt H c w k C d (a + w + k) l)) (l - w - f + 1).toNat f
/-- what a stretch holds -/
noncomputable def mv_stv (H : (Nat → Option Int) → Nat → Nat → Int) (c : Int) (w k : Nat) (C : Nat → Prop) (f : Nat) (l : Int) : Int := mv_tt H c w k C ((l + 1).toNat - f) f l
def mv_Hok (H : (Nat → Option Int) → Nat → Nat → Int) : Prop := (∀ f g q y, (∀ a, y ≤ a → a < y + q → f a = g a) → H f q y = H g q y) ∧ ∀ f y, H f 0 y = 0
section TT
variable {H : (Nat → Option Int) → Nat → Nat → Int} {c : Int} {w k : Nat} {C : Nat → Prop}
theorem mv_tt_st (hH : mv_Hok H) (hw : 1 ≤ w) : ∀ (d d2 f : Nat) (l : Int), (l + 1).toNat - f ≤ d → (l + 1).toNat - f ≤ d2 → mv_tt H c w k C d f l = mv_tt H c w k C d2 f l := by
  intro d
  induction d with
  | zero =>
    intro d2 f l h1 h2
    cases d2 with
    | zero => rfl
    | succ d2 =>
      unfold mv_tt
      rw [show (l - w - f + 1).toNat = 0 by omega, hH.2]
  | succ d ih =>
    intro d2 f l h1 h2
    cases d2 with
    | zero =>
      unfold mv_tt
      rw [show (l - w - f + 1).toNat = 0 by omega, hH.2]
    | succ d2 =>
      unfold mv_tt
      refine hH.1 _ _ _ _ (fun a h3 h4 => ?_)
      by_cases hC : C a
      · rw [mv_oc_t hC, mv_oc_t hC, ih d2 f _ (by omega) (by omega), ih d2 (a + w + k) l (by omega) (by omega)]
      · rw [mv_oc_f hC, mv_oc_f hC]
theorem mv_stv_eq (hH : mv_Hok H) (hw : 1 ≤ w) (f : Nat) (l : Int) : mv_stv H c w k C f l = H (fun a => mv_oc (C a) (c + mv_stv H c w k C f ((a : Int) - k) + mv_stv H c w k C (a + w + k) l)) (l - w - f + 1).toNat f := by
  unfold mv_stv
  rw [mv_tt_st hH hw _ ((l + 1).toNat - f + 1) f l (Nat.le_refl _) (by omega)]
  conv => lhs; unfold mv_tt
  refine hH.1 _ _ _ _ (fun a h3 h4 => ?_)
  by_cases hC : C a
  · rw [mv_oc_t hC, mv_oc_t hC, mv_tt_st hH hw _ ((((a : Int) - k) + 1).toNat - f) f _ (by omega) (Nat.le_refl _), mv_tt_st hH hw _ ((l + 1).toNat - (a + w + k)) (a + w + k) l (by omega) (Nat.le_refl _)]
  · rw [mv_oc_f hC, mv_oc_f hC]
theorem mv_stv_0 (hH : mv_Hok H) (hw : 1 ≤ w) {f : Nat} {l : Int} (h : l < (f : Int) + w) : mv_stv H c w k C f l = 0 := by
  rw [mv_stv_eq hH hw, show (l - w - f + 1).toNat = 0 by omega, hH.2]
end TT
/-! the three ways -/
def mv_z0 (o : Option Int) : Int := match o with | some v => v | none => 0
def mv_Hf (f : Nat → Option Int) (q y : Nat) : Int := mv_z0 (mv_mn f q y)
def mv_Hm (f : Nat → Option Int) : Nat → Nat → Int
  | 0, _ => 0
  | q + 1, y => if mv_z0 (f y) < mv_Hm f q (y + 1) then mv_Hm f q (y + 1) else mv_z0 (f y)
def mv_hc (f : Nat → Option Int) : Nat → Nat → Int
  | 0, _ => 0
  | q + 1, y => (match f y with | some _ => 1 | none => 0) + mv_hc f q (y + 1)
def mv_hs (f : Nat → Option Int) : Nat → Nat → Int
  | 0, _ => 0
  | q + 1, y => mv_z0 (f y) + mv_hs f q (y + 1)
def mv_Ha (f : Nat → Option Int) (q y : Nat) : Int := if mv_hc f q y = 0 then 0 else Int.tdiv (mv_hs f q y) (mv_hc f q y)
theorem mv_mn_cg {f g : Nat → Option Int} : ∀ q y, (∀ a, y ≤ a → a < y + q → f a = g a) → mv_mn f q y = mv_mn g q y
  | 0, _, _ => rfl
  | q + 1, y, h => by
    unfold mv_mn
    rw [h y (Nat.le_refl _) (by omega), mv_mn_cg q (y + 1) (fun a h1 h2 => h a (by omega) (by omega))]
theorem mv_Hf_v (f : Nat → Option Int) (q y : Nat) : mv_Hf f q y = mv_z0 (mv_mn f q y) := rfl
theorem mv_Hf_ok : mv_Hok mv_Hf := ⟨fun f g q y h => by unfold mv_Hf; rw [mv_mn_cg q y h], fun f y => rfl⟩
theorem mv_Hm_cg {f g : Nat → Option Int} : ∀ q y, (∀ a, y ≤ a → a < y + q → f a = g a) → mv_Hm f q y = mv_Hm g q y
  | 0, _, _ => rfl
  | q + 1, y, h => by
    unfold mv_Hm
    rw [h y (Nat.le_refl _) (by omega), mv_Hm_cg q (y + 1) (fun a h1 h2 => h a (by omega) (by omega))]
theorem mv_Hm_ok : mv_Hok mv_Hm := ⟨fun f g q y h => mv_Hm_cg q y h, fun f y => rfl⟩
theorem mv_hc_cg {f g : Nat → Option Int} : ∀ q y, (∀ a, y ≤ a → a < y + q → f a = g a) → mv_hc f q y = mv_hc g q y
  | 0, _, _ => rfl
  | q + 1, y, h => by
    unfold mv_hc
    rw [h y (Nat.le_refl _) (by omega), mv_hc_cg q (y + 1) (fun a h1 h2 => h a (by omega) (by omega))]
theorem mv_hs_cg {f g : Nat → Option Int} : ∀ q y, (∀ a, y ≤ a → a < y + q → f a = g a) → mv_hs f q y = mv_hs g q y
  | 0, _, _ => rfl
  | q + 1, y, h => by
    unfold mv_hs
    rw [h y (Nat.le_refl _) (by omega), mv_hs_cg q (y + 1) (fun a h1 h2 => h a (by omega) (by omega))]
theorem mv_Ha_ok : mv_Hok mv_Ha := ⟨fun f g q y h => by unfold mv_Ha; rw [mv_hc_cg q y h, mv_hs_cg q y h], fun f y => rfl⟩
/-! the fewest -/
theorem mv_mn_le {f : Nat → Option Int} {z : Nat} {v : Int} (hz : f z = some v) : ∀ q y, y ≤ z → z < y + q → ∃ u, mv_mn f q y = some u ∧ u ≤ v
  | 0, y, h1, h2 => by omega
  | q + 1, y, h1, h2 => by
    unfold mv_mn
    by_cases e : y = z
    · subst e
      rw [hz]
      cases mv_mn f q (y + 1) with
      | none => exact ⟨v, rfl, by omega⟩
      | some u =>
        refine ⟨_, rfl, ?_⟩
        split <;> omega
    · obtain ⟨u, h3, h4⟩ := mv_mn_le hz q (y + 1) (by omega) (by omega)
      rw [h3]
      cases f y with
      | none => exact ⟨u, rfl, h4⟩
      | some x =>
        refine ⟨_, rfl, ?_⟩
        split <;> omega
theorem mv_mn_none {f : Nat → Option Int} : ∀ q y, (∀ a, y ≤ a → a < y + q → f a = none) → mv_mn f q y = none
  | 0, _, _ => rfl
  | q + 1, y, h => by
    unfold mv_mn
    rw [h y (by omega) (by omega), mv_mn_none q (y + 1) (fun a h1 h2 => h a (by omega) (by omega))]
    rfl
/-- a place -/
def mv_plc (C : Nat → Prop) (w : Nat) (s : Nat) (l : Int) (a : Nat) : Prop := C a ∧ s ≤ a ∧ (a : Int) + w ≤ l
section FE
variable {w k : Nat} {C : Nat → Prop}
noncomputable abbrev mv_Fe (w k : Nat) (C : Nat → Prop) : Nat → Int → Int := mv_stv mv_Hf 1 w k C
theorem mv_Fe_0 (hw : 1 ≤ w) {s : Nat} {l : Int} (h : ∀ a, ¬ mv_plc C w s l a) : mv_Fe w k C s l = 0 := by
  unfold mv_Fe
  rw [mv_stv_eq mv_Hf_ok hw]
  rw [mv_Hf_v]
  rw [mv_mn_none]
  · rfl
  · intro a h1 h2
    exact mv_oc_f (fun hC => h a ⟨hC, h1, by omega⟩)
theorem mv_Fe_le (hw : 1 ≤ w) {s : Nat} {l : Int} {q : Nat} (h : mv_plc C w s l q) : mv_Fe w k C s l ≤ 1 + mv_Fe w k C s ((q : Int) - k) + mv_Fe w k C (q + w + k) l := by
  obtain ⟨h1, h2, h3⟩ := h
  unfold mv_Fe
  rw [mv_stv_eq mv_Hf_ok hw s l]
  rw [mv_Hf_v]
  obtain ⟨u, h4, h5⟩ := mv_mn_le (f := fun a => mv_oc (C a) (1 + mv_stv mv_Hf 1 w k C s ((a : Int) - k) + mv_stv mv_Hf 1 w k C (a + w + k) l)) (z := q) (mv_oc_t h1) (l - w - s + 1).toNat s h2 (by omega)
  rw [h4]
  exact h5
theorem mv_Fe_at (hw : 1 ≤ w) {s : Nat} {l : Int} {p : Nat} (h : mv_plc C w s l p) : ∃ q, mv_plc C w s l q ∧ mv_Fe w k C s l = 1 + mv_Fe w k C s ((q : Int) - k) + mv_Fe w k C (q + w + k) l := by
  obtain ⟨h1, h2, h3⟩ := h
  unfold mv_Fe
  rw [mv_stv_eq mv_Hf_ok hw s l]
  rw [mv_Hf_v]
  obtain ⟨u, h4, h5⟩ := mv_mn_le (f := fun a => mv_oc (C a) (1 + mv_stv mv_Hf 1 w k C s ((a : Int) - k) + mv_stv mv_Hf 1 w k C (a + w + k) l)) (z := p) (mv_oc_t h1) (l - w - s + 1).toNat s h2 (by omega)
  rw [h4]
  obtain ⟨z, h6, h7, h8⟩ := mv_mn_at _ _ _ h4
  by_cases hC : C z
  · rw [mv_oc_t hC] at h8
    cases h8
    exact ⟨z, ⟨hC, h6, by omega⟩, rfl⟩
  · rw [mv_oc_f hC] at h8
    cases h8
/-- the first one can sit so that none fits ahead -/
theorem mv_Fe_first (hw : 1 ≤ w) : ∀ (d s : Nat) (l : Int), l ≤ d → (∃ p, mv_plc C w s l p) → ∃ a, mv_plc C w s l a ∧ (∀ b, ¬ mv_plc C w s ((a : Int) - k) b) ∧ 1 + mv_Fe w k C (a + w + k) l ≤ mv_Fe w k C s l := by
  intro d
  induction d with
  | zero =>
    rintro s l hl ⟨p, h1, h2, h3⟩
    omega
  | succ d ih =>
    rintro s l hl ⟨p, hp⟩
    obtain ⟨q, hq, he⟩ := mv_Fe_at (k := k) hw hp
    by_cases hn : ∃ b, mv_plc C w s ((q : Int) - k) b
    · have hq2 := hq
      obtain ⟨q1, q2, q3⟩ := hq2
      obtain ⟨a, ⟨a1, a2, a3⟩, h2, h3⟩ := ih s ((q : Int) - k) (by omega) hn
      refine ⟨a, ⟨a1, a2, by omega⟩, h2, ?_⟩
      have := mv_Fe_le (k := k) hw (s := a + w + k) (l := l) (q := q) ⟨q1, by omega, q3⟩
      omega
    · have hn2 : ∀ b, ¬ mv_plc C w s ((q : Int) - k) b := fun b h => hn ⟨b, h⟩
      refine ⟨q, hq, hn2, ?_⟩
      rw [he, mv_Fe_0 hw hn2]
      omega
theorem mv_Fe_b (hw : 1 ≤ w) : ∀ (d s : Nat) (l : Int), l - s ≤ d → 0 ≤ mv_Fe w k C s l ∧ (mv_Fe w k C s l = 0 ∨ mv_Fe w k C s l ≤ l - s) := by
  intro d
  induction d with
  | zero =>
    intro s l hl
    rw [mv_Fe_0 hw (fun a h => by have := h.2; omega)]
    omega
  | succ d ih =>
    intro s l hl
    by_cases hn : ∃ b, mv_plc C w s l b
    · obtain ⟨b, hb⟩ := hn
      obtain ⟨q, ⟨q1, q2, q3⟩, he⟩ := mv_Fe_at (k := k) hw hb
      have i1 := ih s ((q : Int) - k) (by omega)
      have i3 := ih (q + w + k) l (by omega)
      omega
    · rw [mv_Fe_0 hw (fun a h => hn ⟨a, h⟩)]
      omega
/-- what the first one's choice gives -/
theorem mv_Fe_right (hw : 1 ≤ w) {s : Nat} {l : Int} {a : Nat} (h : mv_plc C w s l a) (hn : ∀ b, ¬ mv_plc C w s ((a : Int) - k) b) : mv_Fe w k C s l ≤ 1 + mv_Fe w k C (a + w + k) l := by
  have := mv_Fe_le (k := k) hw h
  rw [mv_Fe_0 hw hn] at this
  omega
/-- so it is, as the class finds it: p the first place -/
theorem mv_Fe_min (hw : 1 ≤ w) {s : Nat} {l : Int} {p : Nat} (hp : mv_plc C w s l p) (hf : ∀ b, mv_plc C w s l b → p ≤ b) {v : Int} (h1 : ∃ a, mv_plc C w s l a ∧ a < p + w + k ∧ v = 1 + mv_Fe w k C (a + w + k) l) (h2 : ∀ a, mv_plc C w s l a → a < p + w + k → v ≤ 1 + mv_Fe w k C (a + w + k) l) : v = mv_Fe w k C s l := by
  obtain ⟨a, a1, a2, a3⟩ := mv_Fe_first (k := k) hw l.toNat s l (by omega) ⟨p, hp⟩
  have hlt : a < p + w + k := by
    rcases Nat.lt_or_ge a (p + w + k) with h | h
    · exact h
    · exact absurd ⟨hp.1, hp.2.1, by omega⟩ (a2 p)
  have g1 := h2 a a1 hlt
  obtain ⟨b, b1, b2, b3⟩ := h1
  have g2 := mv_Fe_right (k := k) hw b1 (fun x hx => by
    have := hf x ⟨hx.1, hx.2.1, by have := hx.2.2; have := b1.2.2; omega⟩
    have := hx.2.2
    omega)
  omega
end FE
/-! the most -/
theorem mv_Hm_ge {f : Nat → Option Int} {z : Nat} {v : Int} (hz : f z = some v) : ∀ q y, y ≤ z → z < y + q → v ≤ mv_Hm f q y
  | 0, y, h1, h2 => by omega
  | q + 1, y, h1, h2 => by
    unfold mv_Hm
    by_cases e : y = z
    · subst e
      rw [hz]
      show v ≤ if v < _ then _ else v
      split <;> omega
    · have := mv_Hm_ge hz q (y + 1) (by omega) (by omega)
      split <;> omega
theorem mv_Hm_nn {f : Nat → Option Int} (h : ∀ a v, f a = some v → 0 ≤ v) : ∀ q y, 0 ≤ mv_Hm f q y
  | 0, y => Int.le_refl _
  | q + 1, y => by
    unfold mv_Hm
    have := mv_Hm_nn h q (y + 1)
    split
    · omega
    · cases e : f y with
      | none => exact Int.le_refl _
      | some v => exact h y v e
theorem mv_Hm_at {f : Nat → Option Int} : ∀ q y, mv_Hm f q y = 0 ∨ ∃ z, y ≤ z ∧ z < y + q ∧ f z = some (mv_Hm f q y)
  | 0, y => Or.inl rfl
  | q + 1, y => by
    unfold mv_Hm
    split
    · rcases mv_Hm_at (f := f) q (y + 1) with h | ⟨z, h1, h2, h3⟩
      · exact Or.inl h
      · exact Or.inr ⟨z, by omega, by omega, h3⟩
    · cases e : f y with
      | none => exact Or.inl rfl
      | some v => exact Or.inr ⟨y, Nat.le_refl _, by omega, e⟩
section MO
variable {w k : Nat} {C : Nat → Prop}
noncomputable abbrev mv_Mo (w k : Nat) (C : Nat → Prop) : Nat → Int → Int := mv_stv mv_Hm 1 w k C
theorem mv_Mo_nn (hw : 1 ≤ w) : ∀ (d s : Nat) (l : Int), l - s ≤ d → 0 ≤ mv_Mo w k C s l := by
  intro d
  induction d with
  | zero =>
    intro s l hl
    unfold mv_Mo
    rw [mv_stv_0 mv_Hm_ok hw (by omega)]
    omega
  | succ d ih =>
    intro s l hl
    unfold mv_Mo
    rw [mv_stv_eq mv_Hm_ok hw]
    rcases mv_Hm_at (f := fun a => mv_oc (C a) (1 + mv_stv mv_Hm 1 w k C s ((a : Int) - k) + mv_stv mv_Hm 1 w k C (a + w + k) l)) (l - w - s + 1).toNat s with h | ⟨z, h1, h2, h3⟩
    · omega
    · by_cases hC : C z
      · rw [mv_oc_t hC] at h3
        have i1 : 0 ≤ mv_stv mv_Hm 1 w k C s ((z : Int) - k) := ih s ((z : Int) - k) (by omega)
        have i2 : 0 ≤ mv_stv mv_Hm 1 w k C (z + w + k) l := ih (z + w + k) l (by omega)
        have := Option.some.inj h3
        omega
      · rw [mv_oc_f hC] at h3
        cases h3
theorem mv_Mo_p (hw : 1 ≤ w) (s : Nat) (l : Int) : 0 ≤ mv_Mo w k C s l := mv_Mo_nn hw (l - s).toNat s l (by omega)
theorem mv_Mo_0 (hw : 1 ≤ w) {s : Nat} {l : Int} (h : ∀ a, ¬ mv_plc C w s l a) : mv_Mo w k C s l = 0 := by
  unfold mv_Mo
  rw [mv_stv_eq mv_Hm_ok hw]
  rcases mv_Hm_at (f := fun a => mv_oc (C a) (1 + mv_stv mv_Hm 1 w k C s ((a : Int) - k) + mv_stv mv_Hm 1 w k C (a + w + k) l)) (l - w - s + 1).toNat s with h2 | ⟨z, h1, h2, h3⟩
  · exact h2
  · by_cases hC : C z
    · exact absurd ⟨hC, h1, by omega⟩ (h z)
    · rw [mv_oc_f hC] at h3
      cases h3
theorem mv_Mo_ge (hw : 1 ≤ w) {s : Nat} {l : Int} {q : Nat} (h : mv_plc C w s l q) : 1 + mv_Mo w k C s ((q : Int) - k) + mv_Mo w k C (q + w + k) l ≤ mv_Mo w k C s l := by
  obtain ⟨h1, h2, h3⟩ := h
  unfold mv_Mo
  rw [mv_stv_eq mv_Hm_ok hw s l]
  exact mv_Hm_ge (z := q) (mv_oc_t h1) (l - w - s + 1).toNat s h2 (by omega)
theorem mv_Mo_at (hw : 1 ≤ w) {s : Nat} {l : Int} {p : Nat} (h : mv_plc C w s l p) : ∃ q, mv_plc C w s l q ∧ mv_Mo w k C s l = 1 + mv_Mo w k C s ((q : Int) - k) + mv_Mo w k C (q + w + k) l := by
  have hge := mv_Mo_ge (k := k) hw h
  have p1 := mv_Mo_p (k := k) (C := C) hw s ((p : Int) - k)
  have p2 := mv_Mo_p (k := k) (C := C) hw (p + w + k) l
  have e : mv_Mo w k C s l = mv_Hm (fun a => mv_oc (C a) (1 + mv_stv mv_Hm 1 w k C s ((a : Int) - k) + mv_stv mv_Hm 1 w k C (a + w + k) l)) (l - w - s + 1).toNat s := mv_stv_eq mv_Hm_ok hw s l
  rcases mv_Hm_at (f := fun a => mv_oc (C a) (1 + mv_stv mv_Hm 1 w k C s ((a : Int) - k) + mv_stv mv_Hm 1 w k C (a + w + k) l)) (l - w - s + 1).toNat s with h2 | ⟨z, h1, h2, h3⟩
  · omega
  · by_cases hC : C z
    · rw [mv_oc_t hC] at h3
      have := Option.some.inj h3
      exact ⟨z, ⟨hC, h1, by omega⟩, by rw [e]; exact this.symm⟩
    · rw [mv_oc_f hC] at h3
      cases h3
theorem mv_Mo_mono (hw : 1 ≤ w) : ∀ (d s s2 : Nat) (l : Int), l ≤ d → s ≤ s2 → mv_Mo w k C s2 l ≤ mv_Mo w k C s l := by
  intro d
  induction d with
  | zero =>
    intro s s2 l hl hs
    rw [mv_Mo_0 hw (fun a h => by have := h.2; omega)]
    exact mv_Mo_p hw s l
  | succ d ih =>
    intro s s2 l hl hs
    by_cases hn : ∃ b, mv_plc C w s2 l b
    · obtain ⟨b, hb⟩ := hn
      obtain ⟨q, ⟨q1, q2, q3⟩, he⟩ := mv_Mo_at (k := k) hw hb
      have i1 := ih s s2 ((q : Int) - k) (by omega) hs
      have i2 := mv_Mo_ge (k := k) hw (s := s) (l := l) (q := q) ⟨q1, by omega, q3⟩
      omega
    · rw [mv_Mo_0 hw (fun a h => hn ⟨a, h⟩)]
      exact mv_Mo_p hw s l
/-- one after another, each as far left as can be -/
theorem mv_Mo_first (hw : 1 ≤ w) : ∀ (d s : Nat) (l : Int) (p : Nat), l ≤ d → mv_plc C w s l p → (∀ b, mv_plc C w s l b → p ≤ b) → mv_Mo w k C s l = 1 + mv_Mo w k C (p + w + k) l := by
  intro d
  induction d with
  | zero =>
    intro s l p hl hp hf
    have := hp.2
    omega
  | succ d ih =>
    intro s l p hl hp hf
    have g1 := mv_Mo_ge (k := k) hw hp
    have g0 := mv_Mo_p (k := k) (C := C) hw s ((p : Int) - k)
    obtain ⟨q, hq, he⟩ := mv_Mo_at (k := k) hw hp
    have hpq := hf q hq
    obtain ⟨q1, q2, q3⟩ := hq
    by_cases hn : ∃ b, mv_plc C w s ((q : Int) - k) b
    · obtain ⟨b, hb⟩ := hn
      have hpb := hf b ⟨hb.1, hb.2.1, by have := hb.2.2; omega⟩
      have i1 := ih s ((q : Int) - k) p (by omega) ⟨hp.1, hp.2.1, by have := hb.2.2; omega⟩ (fun x hx => hf x ⟨hx.1, hx.2.1, by have := hx.2.2; omega⟩)
      have g2 := mv_Mo_ge (k := k) hw (s := p + w + k) (l := l) (q := q) ⟨q1, by have := hb.2.2; omega, q3⟩
      omega
    · rw [mv_Mo_0 hw (fun a h => hn ⟨a, h⟩)] at he
      have := mv_Mo_mono (k := k) (C := C) hw l.toNat (p + w + k) (q + w + k) l (by omega) (by omega)
      omega
theorem mv_Mo_skip (hw : 1 ≤ w) {s : Nat} {l : Int} (h : ¬ C s) : mv_Mo w k C s l = mv_Mo w k C (s + 1) l := by
  have m := mv_Mo_mono (k := k) (C := C) hw l.toNat s (s + 1) l (by omega) (by omega)
  by_cases hn : ∃ b, mv_plc C w s l b
  · have hex : ∃ p, mv_plc C w s l p ∧ ∀ b, mv_plc C w s l b → p ≤ b := by
      obtain ⟨b, hb⟩ := hn
      induction b using Nat.strongRecOn with
      | _ b ih =>
        by_cases c : ∃ x, mv_plc C w s l x ∧ x < b
        · obtain ⟨x, h1, h2⟩ := c
          exact ih x h2 h1
        · exact ⟨b, hb, fun x hx => by
            rcases Nat.lt_or_ge x b with h3 | h3
            · exact absurd ⟨x, hx, h3⟩ c
            · exact h3⟩
    obtain ⟨p, hp, hf⟩ := hex
    have hps : p ≠ s := fun e => h (e ▸ hp.1)
    have e1 := mv_Mo_first (k := k) hw l.toNat s l p (by omega) hp hf
    have e2 := mv_Mo_first (k := k) hw l.toNat (s + 1) l p (by omega) ⟨hp.1, by have := hp.2.1; omega, hp.2.2⟩ (fun x hx => hf x ⟨hx.1, by have := hx.2.1; omega, hx.2.2⟩)
    omega
  · rw [mv_Mo_0 hw (fun a h => hn ⟨a, h⟩)] at m ⊢
    have := mv_Mo_p (k := k) (C := C) hw (s + 1) l
    omega
end MO
