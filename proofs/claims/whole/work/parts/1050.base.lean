/-! Pure part: words, answers with a property, cells that stay. -/
theorem mv_ws {x : Int} (h : -2147483648 ≤ x ∧ x < 2147483648) : mv_w x = x := by
  unfold mv_w Int.bmod
  simp only []
  split <;> omega
theorem mv_ckp {x : Int} {n : Nat} {a : Option mv_O} (h : 0 ≤ x ∧ x < n) : mv_ck x n a = a := if_pos h
theorem mv_cns {r : Int} {G : mv_G} {k : Int → mv_G → Option mv_O} : mv_cn (some (r, G)) k = k r G := rfl
theorem mv_rzp {lo hi v : Int} {a : Option mv_O} (h : lo ≤ v ∧ v ≤ hi) : mv_rzc lo hi v a = a := if_pos h
theorem mv_ups_eq {G : mv_G} {k i j : Nat} {v : Int} : mv_up G k i j v k i j = v := if_pos ⟨rfl, rfl, rfl⟩
theorem mv_up_j {G : mv_G} {k i j b : Nat} {v : Int} (h : b ≠ j) : mv_up G k i j v k i b = G k i b := if_neg fun e => h e.2.2
theorem mv_up_k {G : mv_G} {k i j a : Nat} {v : Int} (h : a ≠ k) : mv_up G k i j v a = G a := funext fun _ => funext fun _ => if_neg fun e => h e.1
theorem mv_up_i {G : mv_G} {k i j b : Nat} {v : Int} (h : b ≠ i) : mv_up G k i j v k b = G k b := funext fun _ => if_neg fun e => h e.2.1
theorem mv_up_at {G : mv_G} {k i j b : Nat} {v : Int} : mv_up G k i j v k i b = if b = j then v else G k i b := by
  unfold mv_up
  by_cases h : b = j
  · rw [if_pos ⟨rfl, rfl, h⟩, if_pos h]
  · rw [if_neg (fun e => h e.2.2), if_neg h]
/-- a method answers, with a property of answer and contents -/
def mv_Kp (f : Option (Int × mv_G)) (P : Int → mv_G → Prop) : Prop := ∃ r G', f = some (r, G') ∧ P r G'
/-- from a cut on -/
def mv_JP (M : mv_M) (P : Int → mv_G → Prop) (pc : Nat) (ls : mv_L) (G : mv_G) : Prop := ∃ r G', mv_Ev mv_rc M mv_sh 400 pc ls G (r, G') ∧ P r G'
/-- in a region -/
def mv_J (M : mv_M) (P : Int → mv_G → Prop) (o : Option mv_O) : Prop := match o with
  | some (.inl x) => P x.1 x.2
  | some (.inr x) => mv_JP M P x.1 x.2.1 x.2.2
  | none => False
section PU
variable {M : mv_M} {P : Int → mv_G → Prop} {pc : Nat} {ls : mv_L} {G : mv_G}
theorem mv_JP.of {o : Option mv_O} (e : mv_rg mv_rc M mv_sh 400 pc ls [] G = o) (h : mv_J M P o) : mv_JP M P pc ls G := by
  subst e
  unfold mv_J at h
  split at h
  · next x e => exact ⟨x.1, x.2, mv_Ev.ret e, h⟩
  · next x e =>
    obtain ⟨r, G', h1, h2⟩ := h
    exact ⟨r, G', mv_Ev.cut e h1, h2⟩
  · exact h.elim
theorem mv_Kp.of {nL : Nat} {as : List mv_A} (h : mv_JP M P 0 (mv_in0l nL as) G) : mv_Kp (mv_fn mv_rc M mv_sh 400 nL as G) P := by
  obtain ⟨r, G', h1, h2⟩ := h
  exact ⟨r, G', mv_fn_of h1, h2⟩
theorem mv_Kp.eq {r : Int} {G2 : mv_G} {f : Option (Int × mv_G)} (h : mv_Kp f (fun a b => a = r ∧ b = G2)) : f = some (r, G2) := by
  obtain ⟨a, b, e, rfl, rfl⟩ := h
  exact e
theorem mv_Kp.mono {P2 : Int → mv_G → Prop} {f : Option (Int × mv_G)} (h : mv_Kp f P) (k : ∀ r G', P r G' → P2 r G') : mv_Kp f P2 := by
  obtain ⟨a, b, e, h1⟩ := h
  exact ⟨a, b, e, k _ _ h1⟩
theorem mv_Kp.mk {r : Int} {G2 : mv_G} {f : Option (Int × mv_G)} (e : f = some (r, G2)) (h : P r G2) : mv_Kp f P := ⟨r, G2, e, h⟩
theorem mv_JP.mono {P2 : Int → mv_G → Prop} (h : mv_JP M P pc ls G) (k : ∀ r G', P r G' → P2 r G') : mv_JP M P2 pc ls G := by
  obtain ⟨a, b, e, h1⟩ := h
  exact ⟨a, b, e, k _ _ h1⟩
theorem mv_J.cn {o : Option (Int × mv_G)} {kk : Int → mv_G → Option mv_O} {Pc : Int → mv_G → Prop} (h : mv_Kp o Pc) (k : ∀ r G', Pc r G' → mv_J M P (kk r G')) : mv_J M P (mv_cn o kk) := by
  obtain ⟨r, G', e, h1⟩ := h
  rw [e]
  exact k r G' h1
theorem mv_J.ce {o : Option (Int × mv_G)} {kk : Int → mv_G → Option mv_O} {r : Int} {G2 : mv_G} (h : o = some (r, G2)) (k : mv_J M P (kk r G2)) : mv_J M P (mv_cn o kk) := by
  rw [h]
  exact k
theorem mv_J.ck {x : Int} {n : Nat} {a : Option mv_O} (h : 0 ≤ x ∧ x < n) (k : mv_J M P a) : mv_J M P (mv_ck x n a) := by
  rw [mv_ckp h]
  exact k
theorem mv_J.rz {lo hi v : Int} {a : Option mv_O} (h : lo ≤ v ∧ v ≤ hi) (k : mv_J M P a) : mv_J M P (mv_rzc lo hi v a) := by
  rw [mv_rzp h]
  exact k
theorem mv_J.i {c : Prop} [Decidable c] {a b : Option mv_O} (h1 : c → mv_J M P a) (h2 : ¬ c → mv_J M P b) : mv_J M P (if c then a else b) := by
  by_cases h : c
  · rw [if_pos h]; exact h1 h
  · rw [if_neg h]; exact h2 h
theorem mv_J.t {c : Prop} [Decidable c] {a b : Option mv_O} (h : c) (k : mv_J M P a) : mv_J M P (if c then a else b) := by
  rw [if_pos h]; exact k
theorem mv_J.f {c : Prop} [Decidable c] {a b : Option mv_O} (h : ¬ c) (k : mv_J M P b) : mv_J M P (if c then a else b) := by
  rw [if_neg h]; exact k
theorem mv_J.ret {r : Int} {G2 : mv_G} (h : P r G2) : mv_J M P (some (.inl (r, G2))) := h
theorem mv_J.r0 {r : Int} {G2 : mv_G} (h0 : r = 0 ∨ r = 1) (h : P r G2) : mv_J M P (mv_rzc 0 1 r (some (.inl (r, G2)))) := by
  rw [mv_rzp (by omega)]
  exact h
theorem mv_J.cut {pc2 : Nat} {ls2 : mv_L} {G2 : mv_G} (h : mv_JP M P pc2 ls2 G2) : mv_J M P (some (.inr (pc2, ls2, G2))) := h
end PU
/-- the truth value as a number -/
noncomputable def mv_b (c : Prop) : Int := @ite _ c (Classical.propDecidable c) 1 0
theorem mv_b1 {c : Prop} (h : c) : mv_b c = 1 := if_pos h
theorem mv_b0 {c : Prop} (h : ¬ c) : mv_b c = 0 := if_neg h
theorem mv_b_z {c : Prop} : mv_b c = 0 ↔ ¬ c := by
  by_cases h : c
  · rw [mv_b1 h]; simp [h]
  · rw [mv_b0 h]; simp [h]
theorem mv_b_o {c : Prop} : mv_b c = 1 ↔ c := by
  by_cases h : c
  · rw [mv_b1 h]; simp [h]
  · rw [mv_b0 h]; simp [h]
theorem mv_b_or (c : Prop) : mv_b c = 0 ∨ mv_b c = 1 := by
  by_cases h : c
  · exact Or.inr (mv_b1 h)
  · exact Or.inl (mv_b0 h)
theorem mv_b_cg {c d : Prop} (h : c ↔ d) : mv_b c = mv_b d := by rw [propext h]
theorem mv_b_eq {c : Prop} {x : Int} (h0 : x = 0 ∨ x = 1) (h : x = 1 ↔ c) : x = mv_b c := by
  rcases h0 with rfl | rfl
  · rw [mv_b0 (fun hc => by have := h.mpr hc; omega)]
  · rw [mv_b1 (h.mp rfl)]
/-- all cells but these stay; of an object, all slots but these -/
def mv_ch (S : List Nat) (T : List (Nat × Nat)) (G G2 : mv_G) : Prop := ∀ k i j, S.contains k = false → T.contains (k, j) = false → G2 k i j = G k i j
section CH
variable {S S2 : List Nat} {T T2 : List (Nat × Nat)} {G G2 G3 : mv_G}
theorem mv_ch.rf : mv_ch S T G G := fun _ _ _ _ _ => rfl
theorem mv_ch.tr (h : mv_ch S T G G2) (h2 : mv_ch S T G2 G3) : mv_ch S T G G3 := fun k i j a b => (h2 k i j a b).trans (h k i j a b)
theorem mv_ch.cell (h : mv_ch S T G G2) (k : Nat) (h1 : (S.contains k || T.any fun q => q.1 == k) = false) : G2 k = G k := by
  rw [Bool.or_eq_false_iff] at h1
  refine funext fun i => funext fun j => h k i j h1.1 ?_
  cases hc : T.contains (k, j) with
  | false => rfl
  | true =>
    have := List.any_eq_false.mp h1.2 (k, j) (List.contains_iff_mem.mp hc)
    simp at this
theorem mv_ch.slot (h : mv_ch S T G G2) (k j : Nat) (h1 : (S.contains k || T.contains (k, j)) = false) {i : Nat} : G2 k i j = G k i j := by
  rw [Bool.or_eq_false_iff] at h1
  exact h k i j h1.1 h1.2
theorem mv_ch.mono (h : mv_ch S T G G2) (h1 : (S.all fun k => S2.contains k) = true) (h2 : (T.all fun q => S2.contains q.1 || T2.contains q) = true) : mv_ch S2 T2 G G2 := by
  intro k i j a b
  refine h k i j ?_ ?_
  · cases hc : S.contains k with
    | false => rfl
    | true =>
      have := List.all_eq_true.mp h1 k (List.contains_iff_mem.mp hc)
      rw [a] at this
      cases this
  · cases hc : T.contains (k, j) with
    | false => rfl
    | true =>
      have := List.all_eq_true.mp h2 (k, j) (List.contains_iff_mem.mp hc)
      dsimp only at this
      rw [a, b] at this
      cases this
theorem mv_ch.up (h : mv_ch S T G G2) {k i j : Nat} {v : Int} (h1 : (S.contains k || T.contains (k, j)) = true) : mv_ch S T G (mv_up G2 k i j v) := by
  intro a b c ha hb
  refine Eq.trans (if_neg ?_) (h a b c ha hb)
  rintro ⟨rfl, rfl, rfl⟩
  rw [ha, hb] at h1
  cases h1
theorem mv_ch.uc (h : mv_ch S T G G2) {k i j : Nat} {v : Int} (h1 : S.contains k = true) : mv_ch S T G (mv_up G2 k i j v) := h.up (by rw [h1]; rfl)
end CH
/-- a counting loop: from n on downwards -/
theorem mv_dn {Q : Nat → Prop} (h0 : Q 0) (hs : ∀ n, Q n → Q (n + 1)) : ∀ n, Q n
  | 0 => h0
  | n + 1 => hs n (mv_dn h0 hs n)
