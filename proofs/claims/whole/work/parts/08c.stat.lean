theorem mv_stok : mv_St mv_sh := by
  have h : mv_wl.all (fun x => match x.2 with
    | .inr (ci, _) => Nat.ble 1000 x.1 == Nat.ble 100 ci
    | .inl (t, _, _) => (!(Nat.beq t 3 || Nat.beq t 1) || !Nat.ble 1000 x.1) && (!Nat.beq t 2 || Nat.ble 1000 x.1)) = true := by decide +kernel
  have h1 : ∀ (k : Nat) (q : mv_S), mv_sh k = some q → _ := fun k q hq => List.all_eq_true.mp h (k, q) (mv_lk_mem hq)
  refine ⟨fun k ci fs hs hb => ?_, fun k hb n w hs => ?_, fun k hb n w hs => ?_, fun k hb n w hs => ?_, fun k ci fs hs hb => ?_⟩
  · have := h1 k _ hs
    simp only [hb, beq_iff_eq] at this
    exact this.symm
  · have := h1 k _ hs
    simp [hb] at this
  · have := h1 k _ hs
    simp [hb] at this
  · have := h1 k _ hs
    simp [hb] at this
  · have := h1 k _ hs
    simp only [hb, beq_iff_eq] at this
    exact this.symm
def mv_tx90 : String := "sit cost when or and not come go beg wide keep bag group hour at left right warm friends sitting moved "
def mv_tx82 : String := ";+-*/()<=>"
/-- statics and texts, as they are from the first on -/
def mv_EX (ad : Nat → Nat → Value) (A : Nat → Prop) (U : State) : Prop := va_Z "MoveUp" "MOST" "[I" (ad 1001 0) A U U.heap ∧ va_Z "MoveUp" "LEAST" "[I" (ad 1000 0) A U U.heap ∧ va_Z "java/lang/String" "COMPACT_STRINGS" "Z" (.int 1) A U U.heap ∧ va_Z "jdk/internal/util/Preconditions" "SIOOBE_FORMATTER" "Ljava/util/function/BiFunction;" (ad 999 0) A U U.heap ∧
  (∃ q, ad 1002 0 = .ref q ∧ vk_R "MoveUp$Reader" 90 mv_tx90 q U) ∧ (∃ q, ad 1004 0 = .ref q ∧ vk_R "MoveUp$Reader" 82 mv_tx82 q U)
theorem mv_EX_ok {ad : Nat → Nat → Value} {A : Nat → Prop} : mv_EXok A (mv_EX ad A) := by
  refine ⟨fun U g mq a h => ?_, fun s U h hW hq => ?_⟩
  · obtain ⟨h1, h2, h3, h4, ⟨q5, e5, h5⟩, q6, e6, h6⟩ := h
    exact ⟨va_Z.moved (u := U) (U := U.calling g mq a) (Vm.Alike.refl U.vm) h1, va_Z.moved (u := U) (U := U.calling g mq a) (Vm.Alike.refl U.vm) h2, va_Z.moved (u := U) (U := U.calling g mq a) (Vm.Alike.refl U.vm) h3, va_Z.moved (u := U) (U := U.calling g mq a) (Vm.Alike.refl U.vm) h4, ⟨q5, e5, vk_R.same (u := U) rfl h5⟩, q6, e6, vk_R.same (u := U) rfl h6⟩
  · obtain ⟨h1, h2, h3, h4, ⟨q5, e5, h5⟩, q6, e6, h6⟩ := h
    exact ⟨(va_Z.moved hW.alike h1).kept hq, (va_Z.moved hW.alike h2).kept hq, (va_Z.moved hW.alike h3).kept hq, (va_Z.moved hW.alike h4).kept hq, ⟨q5, e5, vk_R.warm hW h5⟩, q6, e6, vk_R.warm hW h6⟩
section MV
variable {p : Program} {l : Launch} {e : Env} {R : Room} {s : State} {m : MethodId} {args : Array Value} {below : List Frame} {meth : Method} {c : Code} {cells slots : Nat} {Q : State → Prop}
variable {cc : ByteArray} {nL : Nat} {sh : Nat → Option mv_S} {ids ros : List (Nat × Nat)} {ad : Nat → Nat → Value} {cA : Nat → ClassId} {cl : List vw_C} {D : va_G} {tys : List (ClassId × FieldType)} {A : Nat → Prop} {rc : mv_G} {M : mv_M} {own : String} {Ts : List Cond}
def mv_cs1 (p : Program) (l : Launch) (e : Env) (R : Room) (s : State) (m : MethodId) (args : Array Value) (below : List Frame) (meth : Method) (c : Code) (cells slots : Nat) (Q : State → Prop) (cc : ByteArray) (ids ros : List (Nat × Nat)) (ad : Nat → Nat → Value) (A : Nat → Prop) (M : mv_M) (x : Nat × mv_A) : Prop :=
  mv_okV ids ros x.2 ∧ ∀ (pc : Nat) (H : Heap) (locs : List Loc) (lsC : Array Slot) (rest : List Value), va_S A s.heap H locs →
    ((pc, Instr.ldc x.1, 2) ∈ M.1 → decode cc pc = .ok (.ldc x.1, 2) → W p l e R s m args below meth c H locs cells slots Q (F0 m (pc + 2) lsC (mv_V ad x.2 :: rest)) → W p l e R s m args below meth c H locs cells slots Q (F0 m pc lsC rest)) ∧
    ((pc, Instr.ldc_w x.1, 3) ∈ M.1 → decode cc pc = .ok (.ldc_w x.1, 3) → W p l e R s m args below meth c H locs cells slots Q (F0 m (pc + 3) lsC (mv_V ad x.2 :: rest)) → W p l e R s m args below meth c H locs cells slots Q (F0 m pc lsC rest))
def mv_st1 (p : Program) (l : Launch) (e : Env) (R : Room) (s : State) (m : MethodId) (args : Array Value) (below : List Frame) (meth : Method) (c : Code) (cells slots : Nat) (Q : State → Prop) (cc : ByteArray) (ids ros : List (Nat × Nat)) (ad : Nat → Nat → Value) (A : Nat → Prop) (x : Nat × mv_A) : Prop :=
  mv_okV ids ros x.2 ∧ ∀ (pc : Nat) (H : Heap) (locs : List Loc) (lsC : Array Slot) (rest : List Value), va_S A s.heap H locs →
    (decode cc pc = .ok (.getstatic x.1, 3) → W p l e R s m args below meth c H locs cells slots Q (F0 m (pc + 3) lsC (mv_V ad x.2 :: rest)) → W p l e R s m args below meth c H locs cells slots Q (F0 m pc lsC rest))
theorem mv_cs_i {idx : Nat} {v : Int} (hBg : mv_Bg p s m args c cc nL own Ts) (hw : Cond.constant own idx (Int32.ofInt v) ∈ Ts) (hv : -2147483648 ≤ v ∧ v < 2147483648) : mv_cs1 p l e R s m args below meth c cells slots Q cc ids ros ad A M (idx, .inl v) :=
  ⟨hv, fun pc H locs lsC rest _ => ⟨fun _ hdg k => lv_ldc hBg.1 hBg.2.1 hBg.2.2.1 (hBg.2.2.2.1 _ hw) hdg k, fun _ hdg k => lv_ldcw hBg.1 hBg.2.1 hBg.2.2.1 (hBg.2.2.2.1 _ hw) hdg k⟩⟩
def mv_nlw (i : Instr) : Bool := match i with | .ldc_w _ => false | _ => true
theorem mv_cs_s {idx k : Nat} {tx : String} (hBg : mv_Bg p s m args c cc nL own Ts) (hk : (k, 0) ∈ ids ++ ros) (hv : ∃ q, ad k 0 = .ref q ∧ vk_R own idx tx q s) (hno : M.1.all (fun x => mv_nlw x.2.1) = true) : mv_cs1 p l e R s m args below meth c cells slots Q cc ids ros ad A M (idx, .inr (k, 0)) := by
  obtain ⟨q, e1, h1⟩ := hv
  refine ⟨Or.inl hk, fun pc H locs lsC rest _ => ⟨fun _ hdg kk => ?_, fun hm => ?_⟩⟩
  · have e2 : mv_V ad (.inr (k, 0)) = .ref q := e1
    rw [e2] at kk
    exact va_ldcS hBg.1 hBg.2.1 hBg.2.2.1 h1 hdg kk
  · have := List.all_eq_true.mp hno _ hm
    cases this
theorem mv_st_z {idx : Nat} {x : mv_A} {C n d : String} (hBg : mv_Bg p s m args c cc nL own Ts) (hx : mv_okV ids ros x) (hw : Cond.fieldLink own idx C n d ∈ Ts) (hZ : va_Z C n d (mv_V ad x) A s s.heap) : mv_st1 p l e R s m args below meth c cells slots Q cc ids ros ad A (idx, x) :=
  ⟨hx, fun pc H locs lsC rest hS hdg k => va_gets hBg.1 hBg.2.1 hZ hS hBg.2.2.1 (hBg.2.2.2.1 _ hw) (fun _ h => h) hdg k⟩
/-- the length of an array of ints, by its cell -/
def mv_al (sh : Nat → Option mv_S) (k i : Nat) : Option Nat := match sh k, i with
  | some (.inl (0, n, _)), 0 => some n
  | some (.inl (3, _, w)), _ + 1 => some w
  | _, _ => none
def mv_cpy (G : mv_G) (k i s k2 i2 d n : Nat) : mv_G := fun a b c => if a = k2 ∧ b = i2 ∧ d ≤ c ∧ c < d + n then G k i (s + (c - d)) else G a b c
/-- System.arraycopy over arrays of ints -/
def mv_acp (sh : Nat → Option mv_S) : mv_F := fun as G => match as with
  | [.inr (k, i), .inl s, .inr (k2, i2), .inl d, .inl n] => match mv_al sh k i, mv_al sh k2 i2 with
    | some a, some b => bif Nat.ble 1000 k || Nat.ble 1000 k2 then none else (if 0 ≤ s ∧ 0 ≤ d ∧ 0 ≤ n ∧ s + n ≤ a ∧ d + n ≤ b then some (0, mv_cpy G k i s.toNat k2 i2 d.toNat n.toNat) else none)
    | _, _ => none
  | _ => none
theorem mv_acp_in {sh : Nat → Option mv_S} {k i a : Nat} (h : mv_al sh k i = some a) : (i = 0 ∧ ∃ w, sh k = some (.inl (0, a, w))) ∨ (∃ i', i = i' + 1 ∧ ∃ n, sh k = some (.inl (3, n, a))) := by
  unfold mv_al at h
  split at h
  · next n w e => cases h; exact Or.inl ⟨rfl, _, e⟩
  · next n w i' e => cases h; exact Or.inr ⟨_, rfl, _, e⟩
  · cases h
theorem mv_acp_cell {sh : Nat → Option mv_S} {G : mv_G} {k i a : Nat} (h : mv_al sh k i = some a) : mv_cel sh ad cA G k i = (mv_ra (ad k i), .inl (cA 0, a, .inl (fun j => Int32.ofInt (G k i j)))) := by
  rcases mv_acp_in h with ⟨rfl, w, e⟩ | ⟨i', rfl, n, e⟩ <;> simp only [mv_cel, e]
theorem mv_cpy_ne {G : mv_G} {k i s k2 i2 d n a b : Nat} (h : ¬ (a, b) = (k2, i2)) : mv_cpy G k i s k2 i2 d n a b = G a b := by
  funext c
  unfold mv_cpy
  rw [if_neg]
  rintro ⟨h1, h2, -⟩
  exact h (by rw [h1, h2])
theorem mv_cel_cg {sh : Nat → Option mv_S} {G G2 : mv_G} {a b : Nat} (h : G a b = G2 a b) : mv_cel sh ad cA G a b = mv_cel sh ad cA G2 a b := by
  unfold mv_cel
  split <;> simp_all
theorem mv_cal_acp {idx : Nat} {cr : mv_R} (hF : mv_Fix sh ids ros ad cA tys A rc) (hBg : mv_Bg p s m args c cc nL own Ts) (hK : va_K D cl tys s) (hw : Cond.methodLink own idx arraycopyName ∈ Ts ∧ Cond.native arraycopyName ∈ Ts ∧ Cond.static arraycopyName ∈ Ts ∧ Cond.initialized "java/lang/System" ∈ Ts)
    (hR : 1 ≤ R.frames ∧ 8 + (nativeFrameWords "java/lang/System" "arraycopy" 5 + 11) ≤ R.locals) : mv_Cal p l e R s m args below meth c cells slots Q cc nL sh ids ros ad cA cl D A idx 5 none true (mv_acp sh) := by
  intro pc lsC as rest G G' r H locs hsz hdg hlen has hrv hrl hrc hf hW hS kk
  unfold mv_acp at hf
  split at hf <;> try contradiction
  next k i sp k2 i2 dp n =>
  split at hf <;> try contradiction
  next a b ha hb =>
  cases hro : (Nat.ble 1000 k || Nat.ble 1000 k2) with
  | true => rw [hro] at hf; cases hf
  | false =>
  rw [hro] at hf
  dsimp only [cond] at hf
  split at hf <;> try contradiction
  next hin =>
  cases hf
  simp only [Bool.or_eq_false_iff] at hro
  have hm : ∀ {k i a : Nat}, mv_al sh k i = some a → mv_okV ids ros (.inr (k, i)) → (k, i) ∈ ids ++ ros := fun h ho => by
    rcases mv_acp_in h with ⟨-, w, e⟩ | ⟨-, -, n, e⟩ <;> exact mv_no999 hF e ho
  have o1 := has (.inr (k, i)) (by simp)
  have o2 := has (.inl sp) (by simp)
  have o3 := has (.inr (k2, i2)) (by simp)
  have o4 := has (.inl dp) (by simp)
  have o5 := has (.inl n) (by simp)
  have m1 := hm ha o1
  have m2 := hm hb o3
  obtain ⟨q0, hq0, hg0⟩ := mv_getcell hF hW m1 hro.1
  obtain ⟨q1, hq1, hg1⟩ := mv_getcell hF hW m2 hro.2
  rw [mv_acp_cell ha] at hg0
  rw [mv_acp_cell hb] at hg1
  have ht : tys[0]? = some (cA 0, .int) := by
    rcases mv_acp_in ha with ⟨-, w, e⟩ | ⟨-, -, n, e⟩
    · exact ((hF.1 _ _ _ _ _ m1 e).2.2 hro.1).1
    · exact (((hF.1 _ _ _ _ _ m1 e).2.2 hro.1).2 rfl).1
  have hsum : (rest.map fun v => v.category).sum ≤ 8 := by
    have : ∀ r : List Value, (∀ v ∈ r, v.category = 1) → (r.map fun v => v.category).sum = r.length := by
      intro r
      induction r with
      | nil => intro _; rfl
      | cons v r ih =>
        intro h
        simp only [List.map_cons, List.sum_cons, List.length_cons]
        rw [h v List.mem_cons_self, ih fun w hw => h w (List.mem_cons_of_mem _ hw)]
        omega
    rw [this rest hrc]
    exact hrl
  show W p l e R s m args below meth c H locs cells slots Q (F0 m pc lsC (.int (Int32.ofInt n) :: .int (Int32.ofInt dp) :: ad k2 i2 :: .int (Int32.ofInt sp) :: ad k i :: rest))
  rw [show ad k i = .ref (mv_ra (ad k i)) from mv_ref_of hF m1, show ad k2 i2 = .ref (mv_ra (ad k2 i2)) from mv_ref_of hF m2]
  have neg : ∀ {x : Int}, mv_in x → 0 ≤ x → ¬ Int32.ofInt x < 0 := fun hx h0 h => by
    have := (mv_lt hx mv_in0).mp h
    omega
  refine va_copyi hBg.1 hBg.2.1 (hBg.2.2.2.2.trans hsz.symm) hBg.2.2.1 (hBg.2.2.2.1 _ hw.1) (hBg.2.2.2.1 _ hw.2.1) (hBg.2.2.2.1 _ hw.2.2.1) (hBg.2.2.2.1 _ hw.2.2.2) hK hW.1 hW.2.1 hS q0 q1 0 0 hg0 hg1 ht ht rfl (neg o2 hin.1) (neg o4 hin.2.1) (neg o5 hin.2.2.1)
    (by rw [mv_clamp o2 hin.1, mv_clamp o5 hin.2.2.1]; omega) (by rw [mv_clamp o4 hin.2.1, mv_clamp o5 hin.2.2.1]; omega) (fun _ _ => rfl) hR.1 (Nat.le_trans (Nat.add_le_add_right hsum _) hR.2) hdg (fun H1 locs1 hP1 hD1 hS1 => ?_)
  rw [mv_clamp o2 hin.1, mv_clamp o4 hin.2.1, mv_clamp o5 hin.2.2.1] at hP1 hD1
  have hset : (mv_wd sh ad cA ids G).set q1 (mv_ra (ad k2 i2), .inl (cA 0, b, .inl (va_cpy (fun j => Int32.ofInt (G k i j)) (fun j => Int32.ofInt (G k2 i2 j)) sp.toNat dp.toNat n.toNat))) = mv_wd sh ad cA ids (mv_cpy G k i sp.toNat k2 i2 dp.toNat n.toNat) := by
    refine List.ext_getElem? fun x => ?_
    by_cases e : x = q1
    · subst e
      obtain ⟨hl, hv⟩ := List.getElem?_eq_some_iff.mp hq1
      rw [List.getElem?_set_self (by simpa [mv_wd] using hl)]
      simp only [mv_wd, List.getElem?_map, hq1, Option.map_some]
      rw [mv_acp_cell hb]
      congr 6
      funext j
      simp only [va_cpy, mv_cpy, true_and]
      split <;> rfl
    · rw [List.getElem?_set_ne (fun h => e h.symm)]
      simp only [mv_wd, List.getElem?_map]
      cases hmx : ids[x]? with
      | none => rfl
      | some q =>
        obtain ⟨u, w⟩ := q
        show some (mv_cel sh ad cA G u w) = some (mv_cel sh ad cA _ u w)
        rw [mv_cel_cg (mv_cpy_ne _).symm]
        rintro hab
        rw [hab] at hmx
        exact e ((List.getElem?_inj (List.getElem?_eq_some_iff.mp hmx).1 hF.2.2.2.2.1).mp (hmx.trans hq1.symm))
  rw [hset] at hP1 hD1
  refine kk H1 locs1 ⟨hP1, hD1, fun a b c => ?_⟩ hS1 (fun h => by cases h)
  unfold mv_cpy
  split
  · exact hW.2.2 _ _ _
  · exact hW.2.2 _ _ _
end MV
