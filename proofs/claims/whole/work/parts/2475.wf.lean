/-! TEXT: what a law is read as runs well. -/
theorem mv_tc_cg {q : Nat → Bool} {c1 c2 : Nat → Int} : ∀ (k c : Nat) (x : Nat × (Nat → Bool)), (∀ i, c - 1 ≤ i → i < c + k → c1 i = c2 i) → mv_tc q c1 k c x = mv_tc q c2 k c x
  | 0, _, _, _ => rfl
  | k + 1, c, x, h => by
    show (match mv_t1 q (c1 c) (c1 (c - 1)) x.1 x.2 with
      | some y => mv_tc q c1 k (c + 1) y
      | none => none) = match mv_t1 q (c2 c) (c2 (c - 1)) x.1 x.2 with
      | some y => mv_tc q c2 k (c + 1) y
      | none => none
    rw [h c (by omega) (by omega), h (c - 1) (by omega) (by omega)]
    cases mv_t1 q (c2 c) (c2 (c - 1)) x.1 x.2 with
    | none => rfl
    | some y => exact mv_tc_cg k (c + 1) y (fun i h1 h2 => h i (by omega) (by omega))
theorem mv_tc_sn {q : Nat → Bool} {cd : Nat → Int} : ∀ (k c : Nat) (x y z : Nat × (Nat → Bool)), mv_tc q cd k c x = some y → mv_t1 q (cd (c + k)) (cd (c + k - 1)) y.1 y.2 = some z → mv_tc q cd (k + 1) c x = some z
  | 0, c, x, y, z, h1, h2 => by
    cases h1
    show (match mv_t1 q (cd c) (cd (c - 1)) x.1 x.2 with
      | some y => mv_tc q cd 0 (c + 1) y
      | none => none) = some z
    have h2 : mv_t1 q (cd c) (cd (c - 1)) x.1 x.2 = some z := h2
    rw [h2]
    rfl
  | k + 1, c, x, y, z, h1, h2 => by
    have h1 : (match mv_t1 q (cd c) (cd (c - 1)) x.1 x.2 with
      | some y => mv_tc q cd k (c + 1) y
      | none => none) = some y := h1
    show (match mv_t1 q (cd c) (cd (c - 1)) x.1 x.2 with
      | some y => mv_tc q cd (k + 1) (c + 1) y
      | none => none) = some z
    cases hm : mv_t1 q (cd c) (cd (c - 1)) x.1 x.2 with
    | none => rw [hm] at h1; cases h1
    | some w =>
      rw [hm] at h1
      exact mv_tc_sn k (c + 1) w y z h1 (by rw [show c + 1 + k = c + (k + 1) by omega]; exact h2)
def pr_W (q : Nat → Bool) (c0 : Nat) (S : pr_S) (n : Nat) (ty : Nat → Bool) : Prop := c0 ≤ S.2.1 ∧ mv_tc q S.2.2 (S.2.1 - c0) c0 (0, fun _ => false) = some (n, ty)
section WF
variable {q : Nat → Bool} {I : Nat → Int} {kd : Nat} {c0 : Nat}
theorem pr_W.push {S : pr_S} {n : Nat} {ty : Nat → Bool} {y : Nat × (Nat → Bool)} {v : Int} (h : pr_W q c0 S n ty) (hv : mv_t1 q v (mv_sp S.2.2 S.2.1 v (S.2.1 - 1)) n ty = some y) : pr_W q c0 (pr_ad S v) y.1 y.2 := by
  obtain ⟨h1, h2⟩ := h
  refine ⟨show c0 ≤ S.2.1 + 1 by omega, ?_⟩
  show mv_tc q (mv_sp S.2.2 S.2.1 v) (S.2.1 + 1 - c0) c0 (0, fun _ => false) = some y
  rw [show S.2.1 + 1 - c0 = S.2.1 - c0 + 1 by omega]
  refine mv_tc_sn (S.2.1 - c0) c0 _ (n, ty) y ?_ ?_
  · rw [← h2]
    refine mv_tc_cg _ _ _ (fun i g1 g2 => ?_)
    exact if_neg (by omega)
  · rw [show c0 + (S.2.1 - c0) = S.2.1 by omega]
    have e : mv_sp S.2.2 S.2.1 v S.2.1 = v := if_pos rfl
    rw [e]
    exact hv
theorem pr_W.st {S : pr_S} {n : Nat} {ty : Nat → Bool} (h : pr_W q c0 S n ty) : pr_W q c0 (pr_st S) n ty := h
/-- a unit -/
theorem pr_W.un {S : pr_S} {n : Nat} {ty : Nat → Bool} {v : Int} (hq : ∀ v, pr_tm kd v → q (v - 20009).toNat = true) (h : pr_W q c0 S n ty) (hv : pr_nb v ∨ pr_tm kd v) (hn : n < 40) : pr_W q c0 (pr_ad S (pr_un v)) (n + 1) (fun j => if j = n then false else ty j) := by
  have hu : 0 ≤ pr_un v ∧ pr_un v < 10012 ∧ (pr_un v < 10000 ∨ q (pr_un v - 10000).toNat = true) := by
    by_cases c : pr_nb v
    · have e : pr_un v = v := pr_t c
      have := c.1
      have := c.2
      rw [e]
      omega
    · have e : pr_un v = v - 10009 := pr_f c
      have ht := hv.resolve_left c
      have := ht.1
      have := ht.2.1
      rw [e]
      refine ⟨by omega, by omega, Or.inr ?_⟩
      rw [show v - 10009 - 10000 = v - 20009 by omega]
      exact hq v ht
  have := h.push (v := pr_un v) (y := (n + 1, fun j => if j = n then false else ty j)) (by unfold mv_t1; rw [if_pos hu, if_pos hn])
  exact this
theorem pr_W.ar {S : pr_S} {n : Nat} {ty : Nat → Bool} {v : Int} (h : pr_W q c0 S (n + 2) ty) (hv : v = 30042 ∨ v = 30043 ∨ v = 30045 ∨ (v = 30047 ∧ 0 < S.2.1 ∧ 0 < S.2.2 (S.2.1 - 1) ∧ S.2.2 (S.2.1 - 1) < 10000)) : pr_W q c0 (pr_ad S v) (n + 1) (fun j => if j = n then false else ty j) := by
  have := h.push (v := v) (y := (n + 1, fun j => if j = n then false else ty j)) (by
    unfold mv_t1
    rw [if_neg (by omega), if_neg (by omega), if_neg (by omega), if_neg (by omega), if_pos (by
      rcases hv with h | h | h | ⟨h1, h2, h3, h4⟩
      · omega
      · omega
      · omega
      · have e : mv_sp S.2.2 S.2.1 v (S.2.1 - 1) = S.2.2 (S.2.1 - 1) := if_neg (by omega)
        rw [e]
        omega), if_pos (by omega)]
    rfl)
  exact this
theorem pr_W.cm {S : pr_S} {n : Nat} {ty : Nat → Bool} {v : Int} (h : pr_W q c0 S (n + 2) ty) (hv : pr_cmp v) : pr_W q c0 (pr_ad S v) (n + 1) (fun j => if j = n then true else ty j) := by
  unfold pr_cmp at hv
  have := h.push (v := v) (y := (n + 1, fun j => if j = n then true else ty j)) (by
    unfold mv_t1
    rw [if_neg (by omega), if_neg (by omega), if_neg (by omega), if_pos hv, if_pos (by omega)]
    rfl)
  exact this
theorem pr_W.nn {S : pr_S} {n : Nat} {ty : Nat → Bool} (h : pr_W q c0 S (n + 1) ty) (ht : ty n = true) : pr_W q c0 (pr_ad S 20005) (n + 1) ty := by
  have := h.push (v := 20005) (y := (n + 1, ty)) (by
    unfold mv_t1
    rw [if_neg (by omega), if_pos rfl, if_pos ⟨by omega, ht⟩])
  exact this
theorem pr_W.jn {S : pr_S} {n : Nat} {ty : Nat → Bool} {v : Int} (h : pr_W q c0 S (n + 2) ty) (hv : v = 20003 ∨ v = 20004) (h1 : ty n = true) (h2 : ty (n + 1) = true) : pr_W q c0 (pr_ad S v) (n + 1) ty := by
  have := h.push (v := v) (y := (n + 1, ty)) (by
    unfold mv_t1
    rw [if_neg (by omega), if_neg (by omega), if_pos hv, if_pos ⟨by omega, h1, h2⟩]
    rfl)
  exact this
/-- nothing that was there is changed -/
def pr_K (S S2 : pr_S) : Prop := S.2.1 ≤ S2.2.1 ∧ ∀ i, i < S.2.1 → S2.2.2 i = S.2.2 i
theorem pr_K.rf {S : pr_S} : pr_K S S := ⟨Nat.le_refl _, fun _ _ => rfl⟩
theorem pr_K.tr {S S2 S3 : pr_S} (h : pr_K S S2) (h2 : pr_K S2 S3) : pr_K S S3 := ⟨Nat.le_trans h.1 h2.1, fun i hi => (h2.2 i (Nat.lt_of_lt_of_le hi h.1)).trans (h.2 i hi)⟩
theorem pr_K.ad {S : pr_S} {v : Int} : pr_K S (pr_ad S v) := ⟨Nat.le_succ _, fun i hi => if_neg (by omega)⟩
theorem pr_K.st {S : pr_S} : pr_K S (pr_st S) := ⟨Nat.le_refl _, fun _ _ => rfl⟩
theorem pr_K.sg {S : pr_S} {v : Int} : pr_K S (pr_sg S v) := by
  unfold pr_sg
  split
  · exact pr_K.rf
  · exact pr_K.ad
theorem pr_pp_w (hq : ∀ v, pr_tm kd v → q (v - 20009).toNat = true) : ∀ (f : Nat) (sg : Int) (S S2 : pr_S) (n : Nat) (ty : Nat → Bool), pr_pp I kd f sg S = .inl S2 → (sg = 0 ∨ sg = 30042 ∨ sg = 30047) → pr_W q c0 S (n + (if sg = 0 then 0 else 1)) ty → n + 2 ≤ 40 → pr_K S S2 ∧ ∃ ty2, pr_W q c0 S2 (n + 1) ty2 ∧ ∀ j, j < n → ty2 j = ty j
  | 0, sg, S, S2, n, ty, h, _, _, _ => by cases h
  | f + 1, sg, S, S2, n, ty, h, hsg, hW, hn => by
    rw [pr_pp_s] at h
    by_cases c1 : ¬ pr_nb (I S.1) ∧ (sg = 30047 ∨ ¬ pr_tm kd (I S.1))
    · rw [pr_t c1] at h; cases h
    · rw [pr_f c1] at h
      by_cases c2 : sg = 30047 ∧ I S.1 = 0
      · rw [pr_t c2] at h; cases h
      · rw [pr_f c2] at h
        have hg : pr_nb (I S.1) ∨ pr_tm kd (I S.1) := by
          by_cases g : pr_nb (I S.1)
          · exact Or.inl g
          · exact Or.inr (Classical.byContradiction fun g2 => c1 ⟨g, Or.inr g2⟩)
        have hU := hW.un hq hg (by split <;> omega)
        -- the unit, and the sign
        have hV : ∃ ty2, pr_W q c0 (pr_sg (pr_ad S (pr_un (I S.1))) sg) (n + 1) ty2 ∧ ∀ j, j < n → ty2 j = ty j := by
          by_cases g : sg = 0
          · have e : pr_sg (pr_ad S (pr_un (I S.1))) sg = pr_ad S (pr_un (I S.1)) := if_pos g
            rw [e]
            rw [if_pos g] at hU
            exact ⟨_, hU, fun j hj => if_neg (by omega)⟩
          · have e : pr_sg (pr_ad S (pr_un (I S.1))) sg = pr_ad (pr_ad S (pr_un (I S.1))) sg := if_neg g
            rw [e]
            rw [if_neg g] at hU
            have := hU.ar (v := sg) (by
              rcases hsg with h | h | h
              · exact absurd h g
              · exact Or.inl h
              · have hnb : pr_nb (I S.1) := Classical.byContradiction fun g2 => c1 ⟨g2, Or.inl h⟩
                have e2 : pr_un (I S.1) = I S.1 := pr_t hnb
                have e3 : (pr_ad S (pr_un (I S.1))).2.2 ((pr_ad S (pr_un (I S.1))).2.1 - 1) = pr_un (I S.1) := if_pos rfl
                refine Or.inr (Or.inr (Or.inr ⟨h, Nat.succ_pos _, ?_, ?_⟩))
                · rw [e3, e2]
                  have := hnb.1
                  have : I S.1 ≠ 0 := fun g3 => c2 ⟨h, g3⟩
                  omega
                · rw [e3, e2]
                  have := hnb.2
                  omega)
            exact ⟨_, this, fun j hj => (if_neg (by omega)).trans (if_neg (by omega))⟩
        obtain ⟨ty2, hV, hV2⟩ := hV
        have hK : pr_K S (pr_sg (pr_ad S (pr_un (I S.1))) sg) := pr_K.ad.tr pr_K.sg
        by_cases c3 : I (S.1 + 1) = 30042 ∨ I (S.1 + 1) = 30047
        · rw [pr_t c3] at h
          obtain ⟨k, ty3, g1, g2⟩ := pr_pp_w hq f _ _ S2 n ty2 h (Or.inr c3) (by rw [if_neg (show ¬ I (S.1 + 1) = 0 by omega)]; exact hV) hn
          exact ⟨(hK.tr pr_K.st).tr (pr_K.st.tr k), ty3, g1, fun j hj => (g2 j hj).trans (hV2 j hj)⟩
        · rw [pr_f c3] at h
          cases h
          exact ⟨hK.tr pr_K.st, ty2, hV, hV2⟩
theorem pr_ps_w (hq : ∀ v, pr_tm kd v → q (v - 20009).toNat = true) : ∀ (f : Nat) (sg : Int) (S S2 : pr_S) (n : Nat) (ty : Nat → Bool), pr_ps I kd f sg S = .inl S2 → (sg = 0 ∨ sg = 30043 ∨ sg = 30045) → pr_W q c0 S (n + (if sg = 0 then 0 else 1)) ty → n + 3 ≤ 40 → pr_K S S2 ∧ ∃ ty2, pr_W q c0 S2 (n + 1) ty2 ∧ ∀ j, j < n → ty2 j = ty j
  | 0, sg, S, S2, n, ty, h, _, _, _ => by cases h
  | f + 1, sg, S, S2, n, ty, h, hsg, hW, hn => by
    rw [pr_ps_s] at h
    cases hp : pr_pp I kd 500 0 S with
    | inr e => rw [hp] at h; cases h
    | inl S1 =>
      rw [hp] at h
      have h : pr_if (I S1.1 = 30043 ∨ I S1.1 = 30045) (pr_ps I kd f (I S1.1) (pr_st (pr_sg S1 sg))) (.inl (pr_sg S1 sg)) = Sum.inl S2 := h
      obtain ⟨k1, ty1, w1, w2⟩ := pr_pp_w hq 500 0 S S1 (n + (if sg = 0 then 0 else 1)) ty hp (Or.inl rfl) hW (by split <;> omega)
      have hV : ∃ ty2, pr_W q c0 (pr_sg S1 sg) (n + 1) ty2 ∧ ∀ j, j < n → ty2 j = ty j := by
        by_cases g : sg = 0
        · have e : pr_sg S1 sg = S1 := if_pos g
          rw [e]
          rw [if_pos g] at w1 w2
          exact ⟨_, w1, w2⟩
        · have e : pr_sg S1 sg = pr_ad S1 sg := if_neg g
          rw [e]
          rw [if_neg g] at w1 w2
          have := w1.ar (v := sg) (by omega)
          exact ⟨_, this, fun j hj => (if_neg (by omega)).trans (w2 j (by omega))⟩
      obtain ⟨ty2, hV, hV2⟩ := hV
      have hK := k1.tr (pr_K.sg (v := sg))
      by_cases c3 : I S1.1 = 30043 ∨ I S1.1 = 30045
      · rw [pr_t c3] at h
        obtain ⟨k, ty3, g1, g2⟩ := pr_ps_w hq f _ _ S2 n ty2 h (Or.inr c3) (by rw [if_neg (show ¬ I S1.1 = 0 by omega)]; exact hV) hn
        exact ⟨hK.tr (pr_K.st.tr k), ty3, g1, fun j hj => (g2 j hj).trans (hV2 j hj)⟩
      · rw [pr_f c3] at h
        cases h
        exact ⟨hK, ty2, hV, hV2⟩
theorem pr_cl_w (hq : ∀ v, pr_tm kd v → q (v - 20009).toNat = true) : ∀ (f w o : Nat) (b : Bool) (S S2 : pr_S) (n : Nat) (ty : Nat → Bool), (b = true → w ≠ 0) → w ≤ 2 → pr_cl I kd f w o b S = .inl S2 → pr_W q c0 S (n + (if b = true then 1 else 0)) ty → (b = true → ty n = true) → o ≤ 8 → n + 4 + w + 2 * (8 - o) ≤ 40 → pr_K S S2 ∧ ∃ ty2, pr_W q c0 S2 (n + 1) ty2 ∧ ty2 n = true ∧ ∀ j, j < n → ty2 j = ty j
  | 0, w, o, b, S, S2, n, ty, _, _, h, _, _, _, _ => by cases w <;> cases h
  | f + 1, 0, o, b, S, S2, n, ty, hb, _, h, hW, _, ho, hn => by
    have hbf : b = false := by
      cases b
      · rfl
      · exact absurd rfl (hb rfl)
    subst hbf
    rw [pr_cl_0] at h
    have hW : pr_W q c0 S n ty := hW
    by_cases c1 : I S.1 = 20005 ∨ I S.1 = 30040
    · rw [pr_t c1] at h
      by_cases c2 : 8 ≤ o
      · rw [pr_t c2] at h; cases h
      · rw [pr_f c2] at h
        by_cases c3 : I S.1 = 20005
        · rw [pr_t c3] at h
          cases hp : pr_cl I kd f 0 (o + 1) false (pr_st S) with
          | inr e => rw [hp] at h; cases h
          | inl S1 =>
            rw [hp] at h
            have h : Sum.inl (pr_ad S1 20005) = (Sum.inl S2 : pr_R) := h
            cases h
            obtain ⟨k, ty2, g1, g2, g3⟩ := pr_cl_w hq f 0 (o + 1) false (pr_st S) S1 n ty (fun h => by cases h) (by decide) hp hW (fun h => by cases h) (by omega) (by omega)
            exact ⟨(pr_K.st.tr k).tr pr_K.ad, ty2, g1.nn g2, g2, g3⟩
        · rw [pr_f c3] at h
          cases hp : pr_cl I kd f 2 (o + 1) false (pr_st S) with
          | inr e => rw [hp] at h; cases h
          | inl S1 =>
            rw [hp] at h
            have h : pr_if (I S1.1 = 30041) (.inl (pr_st S1)) (.inr (1, S1.1)) = (Sum.inl S2 : pr_R) := h
            obtain ⟨k, ty2, g1, g2, g3⟩ := pr_cl_w hq f 2 (o + 1) false (pr_st S) S1 n ty (fun h => by cases h) (by decide) hp hW (fun h => by cases h) (by omega) (by omega)
            by_cases c4 : I S1.1 = 30041
            · rw [pr_t c4] at h
              cases h
              exact ⟨(pr_K.st.tr k).tr pr_K.st, ty2, g1, g2, g3⟩
            · rw [pr_f c4] at h; cases h
    · rw [pr_f c1] at h
      unfold pr_cp at h
      cases hp : pr_ps I kd 500 0 S with
      | inr e => rw [hp] at h; cases h
      | inl S1 =>
        rw [hp] at h
        have h : pr_if (pr_cmp (I S1.1)) (pr_bd (pr_ps I kd 500 0 (pr_st S1)) fun S2 => .inl (pr_ad S2 (I S1.1))) (.inr (1, S1.1)) = Sum.inl S2 := h
        obtain ⟨k1, ty1, w1, w2⟩ := pr_ps_w hq 500 0 S S1 n ty hp (Or.inl rfl) hW (by omega)
        by_cases c4 : pr_cmp (I S1.1)
        · rw [pr_t c4] at h
          cases hp2 : pr_ps I kd 500 0 (pr_st S1) with
          | inr e => rw [hp2] at h; cases h
          | inl S3 =>
            rw [hp2] at h
            have h : Sum.inl (pr_ad S3 (I S1.1)) = (Sum.inl S2 : pr_R) := h
            cases h
            obtain ⟨k3, ty3, w3, w4⟩ := pr_ps_w hq 500 0 (pr_st S1) S3 (n + 1) ty1 hp2 (Or.inl rfl) w1 (by omega)
            exact ⟨(k1.tr (pr_K.st.tr k3)).tr pr_K.ad, _, w3.cm c4, if_pos rfl, fun j hj => (if_neg (by omega)).trans ((w4 j (by omega)).trans (w2 j hj))⟩
        · rw [pr_f c4] at h; cases h
  | f + 1, w + 1, o, b, S, S2, n, ty, hb, hw, h, hW, hty, ho, hn => by
    rw [pr_cl_s] at h
    have hwd : pr_wd (w + 1) ≠ 0 ∧ (pr_wd (w + 1) = 20003 ∨ pr_wd (w + 1) = 20004) := by unfold pr_wd; split <;> decide
    cases hp : pr_cl I kd f w o false S with
    | inr e => rw [hp] at h; cases h
    | inl S1 =>
      rw [hp] at h
      have h : pr_if (I S1.1 = pr_wd (w + 1)) (pr_cl I kd f (w + 1) o true (pr_st (pr_sg S1 (if b = true then pr_wd (w + 1) else 0)))) (.inl (pr_sg S1 (if b = true then pr_wd (w + 1) else 0))) = Sum.inl S2 := h
      obtain ⟨k1, ty1, w1, w2, w3⟩ := pr_cl_w hq f w o false S S1 (n + (if b = true then 1 else 0)) ty (fun h => by cases h) (by omega) hp hW (fun h => by cases h) ho (by split <;> omega)
      have hV : ∃ ty2, pr_W q c0 (pr_sg S1 (if b = true then pr_wd (w + 1) else 0)) (n + 1) ty2 ∧ ty2 n = true ∧ ∀ j, j < n → ty2 j = ty j := by
        cases b with
        | false => exact ⟨ty1, w1, w2, w3⟩
        | true =>
          have e : pr_sg S1 (if true = true then pr_wd (w + 1) else 0) = pr_ad S1 (pr_wd (w + 1)) := by rw [if_pos rfl]; exact if_neg hwd.1
          rw [e]
          have t1 : ty1 n = true := (w3 n (show n < n + 1 by omega)).trans (hty rfl)
          exact ⟨ty1, w1.jn hwd.2 t1 w2, t1, fun j hj => w3 j (show j < n + 1 by omega)⟩
      obtain ⟨ty2, hV1, hV2, hV3⟩ := hV
      have hK := k1.tr (pr_K.sg (v := if b = true then pr_wd (w + 1) else 0))
      by_cases c : I S1.1 = pr_wd (w + 1)
      · rw [pr_t c] at h
        obtain ⟨k, ty3, g1, g2, g3⟩ := pr_cl_w hq f (w + 1) o true _ S2 n ty2 (fun _ => by omega) hw h hV1 (fun _ => hV2) ho hn
        exact ⟨hK.tr (pr_K.st.tr k), ty3, g1, g2, fun j hj => (g3 j hj).trans (hV3 j hj)⟩
      · rw [pr_f c] at h
        cases h
        exact ⟨hK, ty2, hV1, hV2, hV3⟩
/-- a law that is read, is a good one -/
def pr_G (q : Nat → Bool) (j : Nat) (S : pr_S) (F W T : Nat → Int) : Prop := ∀ l, l < j → 0 ≤ F l ∧ F l ≤ W l ∧ W l ≤ T l ∧ T l ≤ (S.2.1 : Int) ∧ mv_sg q S.2.2 (F l).toNat (W l).toNat ∧ (W l = T l ∨ mv_sg q S.2.2 (W l).toNat (T l).toNat)
theorem mv_sg_K {S S2 : pr_S} {a b : Nat} (h : mv_sg q S.2.2 a b) (hb : b ≤ S.2.1) (k : pr_K S S2) : mv_sg q S2.2.2 a b := by
  obtain ⟨h1, ty, h2⟩ := h
  refine ⟨h1, ty, ?_⟩
  rw [← h2]
  by_cases e : b - a = 0
  · rw [e]; rfl
  · exact mv_tc_cg _ _ _ (fun i g1 g2 => k.2 i (by omega))
theorem pr_lw_w {m : Nat} (hm : I m = -2) (hq : ∀ v, pr_tm kd v → q (v - 20009).toNat = true) : ∀ (f j : Nat) (S : pr_S) (F W T : Nat → Int) (j2 : Nat) (S2 : pr_S) (F2 W2 T2 : Nat → Int), pr_lw I kd f j S F W T = .inl (j2, S2, F2, W2, T2) → S.1 ≤ m → S.2.1 ≤ S.1 → j ≤ 16 → pr_G q j S F W T → j2 ≤ 16 ∧ S2.2.1 ≤ m ∧ pr_G q j2 S2 F2 W2 T2
  | 0, j, S, F, W, T, j2, S2, F2, W2, T2, h, _, _, _, _ => by cases h
  | f + 1, j, S, F, W, T, j2, S2, F2, W2, T2, h, hk, hz, hj, hG => by
    unfold pr_lw at h
    by_cases c1 : I S.1 = -2
    · rw [pr_t c1] at h
      cases h
      exact ⟨hj, by omega, hG⟩
    · rw [pr_f c1] at h
      by_cases c2 : I S.1 = 20000 + (kd : Int)
      · rw [pr_f (fun h => h c2)] at h
        by_cases c3 : 16 ≤ j
        · rw [pr_t c3] at h; cases h
        · rw [pr_f c3] at h
          have hkm : S.1 < m := by
            rcases Nat.lt_or_eq_of_le hk with h | h
            · exact h
            · exact absurd (h ▸ hm) c1
          cases hp : pr_ps I kd 500 0 (pr_st S) with
          | inr e => rw [hp] at h; cases h
          | inl S1 =>
            rw [hp] at h
            have b1 := pr_ps_b hm 500 0 (pr_st S) S1 1 (show S.1 + 1 ≤ m by omega) (show S.2.1 + 1 + 0 ≤ S.1 + 1 by omega) hp
            have e1 : (pr_st S).1 = S.1 + 1 := rfl
            have e2 : (pr_st S).2.1 = S.2.1 := rfl
            obtain ⟨k1, ty1, w1, w2⟩ := pr_ps_w (c0 := S.2.1) hq 500 0 (pr_st S) S1 0 (fun _ => false) hp (Or.inl rfl) ⟨Nat.le_refl _, by rw [e2, Nat.sub_self]; rfl⟩ (by decide)
            have g1 : mv_sg q S1.2.2 S.2.1 S1.2.1 := ⟨w1.1, ty1, w1.2⟩
            cases hp2 : pr_if (I S1.1 = 20002) (pr_cl I kd 2000 2 0 false (pr_st S1)) (.inl S1) with
            | inr e =>
              dsimp only at h
              rw [hp2] at h
              cases h
            | inl S3 =>
              dsimp only at h
              rw [hp2] at h
              have h : pr_if (I S3.1 = 30059) (pr_lw I kd f (j + 1) (pr_st S3) (mv_sp F j (S.2.1 : Int)) (mv_sp W j (S1.2.1 : Int)) (mv_sp T j (S3.2.1 : Int))) (.inr (1, S3.1)) = .inl (j2, S2, F2, W2, T2) := h
              have q2 : S3.1 ≤ m ∧ S3.2.1 + 1 ≤ S3.1 ∧ pr_K S1 S3 ∧ (S1.2.1 = S3.2.1 ∨ mv_sg q S3.2.2 S1.2.1 S3.2.1) := by
                by_cases c4 : I S1.1 = 20002
                · rw [pr_t c4] at hp2
                  have hk3 : S1.1 ≠ m := fun e => by rw [e, hm] at c4; omega
                  have b2 := pr_cl_b hm 2000 2 0 false (pr_st S1) S3 1 (show S1.1 + 1 ≤ m by omega) (show S1.2.1 + 1 + 0 ≤ S1.1 + 1 by omega) hp2
                  have e3 : (pr_st S1).2.1 = S1.2.1 := rfl
                  obtain ⟨k2, ty2, w3, w4, w5⟩ := pr_cl_w (c0 := S1.2.1) hq 2000 2 0 false (pr_st S1) S3 0 (fun _ => false) (fun h => by cases h) (by decide) hp2 ⟨Nat.le_refl _, by rw [e3, Nat.sub_self]; rfl⟩ (fun h => by cases h) (by decide) (by decide)
                  exact ⟨b2.2.1, b2.2.2.1, pr_K.st.tr k2, Or.inr ⟨w3.1, ty2, w3.2⟩⟩
                · rw [pr_f c4] at hp2
                  cases hp2
                  exact ⟨b1.2.1, b1.2.2.1, pr_K.rf, Or.inl rfl⟩
              obtain ⟨q3, q4, q5, q6⟩ := q2
              by_cases c5 : I S3.1 = 30059
              · rw [pr_t c5] at h
                have hk4 : S3.1 ≠ m := fun e => by rw [e, hm] at c5; omega
                refine pr_lw_w hm hq f (j + 1) (pr_st S3) _ _ _ j2 S2 F2 W2 T2 h (show S3.1 + 1 ≤ m by omega) (show S3.2.1 ≤ S3.1 + 1 by omega) (by omega) (fun l hl => ?_)
                have hK : pr_K S (pr_st S3) := (pr_K.st.tr k1).tr (q5.tr pr_K.st)
                have le1 := k1.1
                have le2 := q5.1
                have e4 : (pr_st S3).2.1 = S3.2.1 := rfl
                by_cases e : l = j
                · subst e
                  have f1 : mv_sp F l (S.2.1 : Int) l = (S.2.1 : Int) := if_pos rfl
                  have f2 : mv_sp W l (S1.2.1 : Int) l = (S1.2.1 : Int) := if_pos rfl
                  have f3 : mv_sp T l (S3.2.1 : Int) l = (S3.2.1 : Int) := if_pos rfl
                  rw [f1, f2, f3, Int.toNat_natCast, Int.toNat_natCast, Int.toNat_natCast, e4]
                  refine ⟨by omega, by omega, by omega, by omega, mv_sg_K g1 (Nat.le_refl _) (q5.tr pr_K.st), ?_⟩
                  rcases q6 with q6 | q6
                  · exact Or.inl (by omega)
                  · exact Or.inr (mv_sg_K q6 (Nat.le_refl _) pr_K.st)
                · have f1 : mv_sp F j (S.2.1 : Int) l = F l := if_neg e
                  have f2 : mv_sp W j (S1.2.1 : Int) l = W l := if_neg e
                  have f3 : mv_sp T j (S3.2.1 : Int) l = T l := if_neg e
                  obtain ⟨r1, r2, r3, r4, r5, r6⟩ := hG l (by omega)
                  rw [f1, f2, f3]
                  have hk1 := hK.1
                  refine ⟨r1, r2, r3, by omega, mv_sg_K r5 (by omega) hK, ?_⟩
                  rcases r6 with r6 | r6
                  · exact Or.inl r6
                  · exact Or.inr (mv_sg_K r6 (by omega) hK)
              · rw [pr_f c5] at h; cases h
      · rw [pr_t c2] at h; cases h
end WF
