/-! One step of the interpreter is one of the machine. -/
section MV
variable {p : Program} {l : Launch} {e : Env} {R : Room} {s : State} {m : MethodId} {args : Array Value} {below : List Frame} {meth : Method} {c : Code} {cells slots : Nat} {Q : State → Prop}
variable {cc : ByteArray} {nL : Nat} {sh : Nat → Option mv_S} {ids ros : List (Nat × Nat)} {ad : Nat → Nat → Value} {cA : Nat → ClassId} {cl : List vw_C} {D : va_G} {tys : List (ClassId × FieldType)} {A : Nat → Prop} {rc : mv_G} {M : mv_M}
/-- what an outcome leaves to be shown -/
def mv_Fin (p : Program) (l : Launch) (e : Env) (R : Room) (s : State) (m : MethodId) (args : Array Value) (below : List Frame) (meth : Method) (c : Code) (cells slots : Nat) (Q : State → Prop) (cc : ByteArray) (nL : Nat) (sh : Nat → Option mv_S) (ids ros : List (Nat × Nat)) (ad : Nat → Nat → Value) (cA : Nat → ClassId) (cl : List vw_C) (D : va_G) (A : Nat → Prop) (M : mv_M) (out : mv_O) : Prop := match out with
  | .inl (v, G) => ∀ (H : Heap) (locs : List Loc) (lsC : Array Slot) (pc : Nat), mv_Wd sh ids ad cA cl D A G H → va_S A s.heap H locs →
      (mv_in v → (∀ lo hi, M.2.2.2.2.2.2 = some (lo, hi) → lo ≤ v ∧ v ≤ hi) → (pc, Instr.ireturn, 1) ∈ M.1 → decode cc pc = .ok (.ireturn, 1) → W p l e R s m args below meth c H locs cells slots Q (F0 m pc lsC [.int (Int32.ofInt v)])) ∧ (v = 0 → (pc, Instr.return_, 1) ∈ M.1 → decode cc pc = .ok (.return_, 1) → W p l e R s m args below meth c H locs cells slots Q (F0 m pc lsC []))
  | .inr (pc, ls, G) => ∀ (H : Heap) (locs : List Loc) (lsC : Array Slot), mv_Wd sh ids ad cA cl D A G H → va_S A s.heap H locs → mv_LR ids ros ad nL ls lsC → W p l e R s m args below meth c H locs cells slots Q (F0 m pc lsC [])
/-- from this state of the interpreter on -/
def mv_Snd (p : Program) (l : Launch) (e : Env) (R : Room) (s : State) (m : MethodId) (args : Array Value) (below : List Frame) (meth : Method) (c : Code) (cells slots : Nat) (Q : State → Prop) (cc : ByteArray) (nL : Nat) (sh : Nat → Option mv_S) (ids ros : List (Nat × Nat)) (ad : Nat → Nat → Value) (cA : Nat → ClassId) (cl : List vw_C) (D : va_G) (A : Nat → Prop) (M : mv_M) (pc : Nat) (ls : mv_L) (st : List mv_A) (G : mv_G) (o : Option mv_O) : Prop :=
  ∀ out, o = some out → mv_Fin p l e R s m args below meth c cells slots Q cc nL sh ids ros ad cA cl D A M out → ∀ (H : Heap) (locs : List Loc) (lsC : Array Slot), mv_Wd sh ids ad cA cl D A G H → va_S A s.heap H locs → mv_LR ids ros ad nL ls lsC → (∀ v ∈ st, mv_okV ids ros v) → W p l e R s m args below meth c H locs cells slots Q (F0 m pc lsC (st.map (mv_V ad)))
def mv_len (i : Instr) : Nat := match i with
  | .iload _ | .aload _ | .istore _ | .astore _ | .bipush _ | .ldc _ => 2
  | .sipush _ | .iinc _ _ | .ldc_w _ | .getstatic _ | .getfield _ | .putfield _ | .goto _ | .ifCond _ _ | .if_icmp _ _ | .invokevirtual _ | .invokestatic _ => 3
  | _ => 1
/-- what a program decides of a row of code -/
def mv_iok (pc : Nat) (i : Instr) (len : Nat) : Bool := match i with
  | .bipush n => decide (-128 ≤ n ∧ n < 128) && Nat.beq len 2
  | .sipush n => decide (-32768 ≤ n ∧ n < 32768) && Nat.beq len 3
  | .iconst n => decide (-128 ≤ n ∧ n < 128) && Nat.beq len 1
  | .iinc _ n => decide (-32768 ≤ n ∧ n < 32768) && Nat.beq len 3
  | .goto off | .ifCond _ off | .if_icmp _ off => decide (0 ≤ (pc : Int) + off) && Nat.beq len 3
  | .lookupswitch d ps => decide (0 ≤ (pc : Int) + d) && ps.toList.all (fun q => decide (0 ≤ (pc : Int) + q.2)) && (ps.toList.zip (ps.toList.drop 1)).all (fun (a, next) => a.1 < next.1)
  | .tableswitch d lo hi ofs => decide (0 ≤ (pc : Int) + d) && ofs.toList.all (fun q => decide (0 ≤ (pc : Int) + q)) && decide (hi = lo + ofs.toList.length - 1)
  | i => Nat.beq len (mv_len i)
def mv_inv (rv : Option Nat) (idx : Nat) : Instr := match rv with | some _ => .invokevirtual idx | none => .invokestatic idx
/-- a call's contract, as a rule of the walk -/
def mv_Cal (p : Program) (l : Launch) (e : Env) (R : Room) (s : State) (m : MethodId) (args : Array Value) (below : List Frame) (meth : Method) (c : Code) (cells slots : Nat) (Q : State → Prop) (cc : ByteArray) (nL : Nat) (sh : Nat → Option mv_S) (ids ros : List (Nat × Nat)) (ad : Nat → Nat → Value) (cA : Nat → ClassId) (cl : List vw_C) (D : va_G) (A : Nat → Prop) (idx n : Nat) (rv : Option Nat) (vo : Bool) (f : mv_F) : Prop :=
  ∀ (pc : Nat) (lsC : Array Slot) (as : List mv_A) (rest : List Value) (G G' : mv_G) (r : Int) (H : Heap) (locs : List Loc), lsC.size = nL →
    decode cc pc = .ok (mv_inv rv idx, 3) → as.length = n → (∀ v ∈ as, mv_okV ids ros v) → (∀ ci, rv = some ci → ∃ k as' fs, as = .inr (k, 0) :: as' ∧ (k, 0) ∈ ids ++ ros ∧ sh k = some (.inr (ci, fs))) →
    rest.length ≤ 8 → (∀ v ∈ rest, v.category = 1) → f as G = some (r, G') → mv_Wd sh ids ad cA cl D A G H → va_S A s.heap H locs →
    (∀ (H1 : Heap) (locs1 : List Loc), mv_Wd sh ids ad cA cl D A G' H1 → va_S A s.heap H1 locs1 → (vo = false → mv_in r) → W p l e R s m args below meth c H1 locs1 cells slots Q (F0 m (pc + 3) lsC ((bif vo then [] else [.int (Int32.ofInt r)]) ++ rest))) →
    W p l e R s m args below meth c H locs cells slots Q (F0 m pc lsC ((as.map (mv_V ad)).reverse ++ rest))
/-- the fixed part of a walk -/
def mv_Ctx (p : Program) (s : State) (m : MethodId) (args : Array Value) (c : Code) (cc : ByteArray) (nL : Nat) (sh : Nat → Option mv_S) (cl : List vw_C) (D : va_G) (tys : List (ClassId × FieldType)) (own : String) (Ts : List Cond) (cr : mv_R) (M : mv_M) : Prop :=
  p.tables.exec = Jvm.exec ∧ c.code = cc ∧ s.vm.findClass own = some m.cls ∧ (∀ w ∈ Ts, w.before args s = true) ∧ va_K D cl tys s ∧ c.maxLocals = nL ∧
  (∀ (ci : Nat) (q : vw_C), cl[ci]? = some q → (∀ w ∈ u_ws q.1 q.2.1 q.2.2, w ∈ Ts) ∧ (∃ ty0 : Nat → FieldType, ∀ k, k < q.2.2 → parseFieldDescriptor (q.2.1 k).2.2.1 = some (ty0 k)) ∧ (∀ a, a < q.2.2 → ∀ b, b < q.2.2 → a ≠ b → (q.2.1 a).2.1 ≠ (q.2.1 b).2.1)) ∧
  (∀ x ∈ M.1, decode cc x.1 = .ok (x.2.1, x.2.2) ∧ mv_iok x.1 x.2.1 x.2.2 = true) ∧
  (∀ x ∈ M.2.1, (Nat.ble 100 x.2.1 = true → (Cond.fieldLink own x.1 (cr x.2.1).1 ((cr x.2.1).2 x.2.2.1).1 ((cr x.2.1).2 x.2.2.1).2).before args s = true) ∧ (Nat.ble 100 x.2.1 = false → ∃ q : vw_C, cl[x.2.1]? = some q ∧ x.2.2.1 < q.2.2 ∧ (Cond.fieldLink own x.1 (q.2.1 x.2.2.1).1 (q.2.1 x.2.2.1).2.1 (q.2.1 x.2.2.1).2.2.1).before args s = true ∧
    (x.2.2.2 = 0 ∨ x.2.2.2 = 1 → (q.2.1 x.2.2.1).2.2.2 = false ∧ parseFieldDescriptor (q.2.1 x.2.2.1).2.2.1 = some (if x.2.2.2 = 1 then .boolean else .int))))
theorem mv_lk_mem {α : Type} {l : List (Nat × α)} {k : Nat} {v : α} (h : mv_lk l k = some v) : (k, v) ∈ l := by
  induction l with
  | nil => cases h
  | cons q l ih =>
    obtain ⟨a, b⟩ := q
    simp only [mv_lk] at h
    cases hb : Nat.beq a k with
    | true =>
      rw [hb] at h
      cases h
      cases Nat.eq_of_beq_eq_true hb
      exact List.mem_cons_self
    | false =>
      rw [hb] at h
      exact List.mem_cons_of_mem _ (ih h)
theorem mv_tg_of {pc : Nat} {off : Int} (h : 0 ≤ (pc : Int) + off) : (pc : Int) + off = (mv_tg pc off : Int) := (Int.toNat_of_nonneg h).symm
theorem mv_if_snd {x y : Int} {cnd : ClassFile.Cond} {a b : Option mv_O} {out : mv_O} {P : Prop} (hx : mv_in x) (hy : mv_in y) (h : mv_if cnd x y a b = some out) (ht : ∀ h1 : a = some out, Op.if_icmp.holds cnd (Int32.ofInt x) (Int32.ofInt y) = true → P) (hf : ∀ h1 : b = some out, Op.if_icmp.holds cnd (Int32.ofInt x) (Int32.ofInt y) = false → P) : P := by
  have h1 := mv_lt hx hy
  have h2 := mv_lt hy hx
  have h3 := mv_eq hx hy
  have h4 : Int32.ofInt x ≤ Int32.ofInt y ↔ ¬ y < x := by rw [← h2, Int32.not_lt]
  have h5 : Int32.ofInt y ≤ Int32.ofInt x ↔ ¬ x < y := by rw [← h1, Int32.not_lt]
  cases cnd <;> simp only [mv_if] at h <;> split at h <;> first
    | exact ht h (by simp_all [Op.if_icmp.holds])
    | exact hf h (by simp_all [Op.if_icmp.holds])
    | skip
theorem mv_icmp {H : Heap} {locs : List Loc} {pc tgt : Nat} {ls : Array Slot} {rest : List Value} {x y : Int32} {off : Int} {cnd : ClassFile.Cond} (hx : p.tables.exec = Jvm.exec) (hb : c.code = cc) (hdg : decode cc pc = .ok (.if_icmp cnd off, 3)) (ht : (pc : Int) + off = (tgt : Int))
    (kt : Op.if_icmp.holds cnd x y = true → W p l e R s m args below meth c H locs cells slots Q (F0 m tgt ls rest)) (kf : Op.if_icmp.holds cnd x y = false → W p l e R s m args below meth c H locs cells slots Q (F0 m (pc + 3) ls rest)) : W p l e R s m args below meth c H locs cells slots Q (F0 m pc ls (.int y :: .int x :: rest)) := by
  cases cnd
  · exact lv_icmp_eq hx hb hdg ht (fun h => kt (by simp [Op.if_icmp.holds, h])) (fun h => kf (by simp [Op.if_icmp.holds, h]))
  · exact lv_icmp_ne hx hb hdg ht (fun h => kt (by simp [Op.if_icmp.holds, h])) (fun h => kf (by simpa [Op.if_icmp.holds] using h))
  · exact lv_icmp_lt hx hb hdg ht (fun h => kt (by simp [Op.if_icmp.holds, h])) (fun h => kf (by simpa [Op.if_icmp.holds] using h))
  · exact lv_icmp_ge hx hb hdg ht (fun h => kt (by simpa [Op.if_icmp.holds] using h)) (fun h => kf (by simpa [Op.if_icmp.holds] using h))
  · exact lv_icmp_gt hx hb hdg ht (fun h => kt (by simpa [Op.if_icmp.holds] using h)) (fun h => kf (by simpa [Op.if_icmp.holds] using h))
  · exact lv_icmp_le hx hb hdg ht (fun h => kt (by simpa [Op.if_icmp.holds] using h)) (fun h => kf (by simpa [Op.if_icmp.holds] using h))
theorem mv_ifc {H : Heap} {locs : List Loc} {pc tgt : Nat} {ls : Array Slot} {rest : List Value} {x : Int32} {off : Int} {cnd : ClassFile.Cond} (hx : p.tables.exec = Jvm.exec) (hb : c.code = cc) (hdg : decode cc pc = .ok (.ifCond cnd off, 3)) (ht : (pc : Int) + off = (tgt : Int))
    (kt : Op.if_icmp.holds cnd x 0 = true → W p l e R s m args below meth c H locs cells slots Q (F0 m tgt ls rest)) (kf : Op.if_icmp.holds cnd x 0 = false → W p l e R s m args below meth c H locs cells slots Q (F0 m (pc + 3) ls rest)) : W p l e R s m args below meth c H locs cells slots Q (F0 m pc ls (.int x :: rest)) := by
  cases cnd
  · exact lv_if_eq hx hb hdg ht (fun h => kt (by simp [Op.if_icmp.holds, h])) (fun h => kf (by simp [Op.if_icmp.holds, h]))
  · exact lv_if_ne hx hb hdg ht (fun h => kt (by simp [Op.if_icmp.holds, h])) (fun h => kf (by simpa [Op.if_icmp.holds] using h))
  · exact lv_if_lt hx hb hdg ht (fun h => kt (by simpa [Op.if_icmp.holds] using h)) (fun h => kf (by simpa [Op.if_icmp.holds] using h))
  · exact lv_if_ge hx hb hdg ht (fun h => kt (by simpa [Op.if_icmp.holds] using h)) (fun h => kf (by simpa [Op.if_icmp.holds] using h))
  · exact lv_if_gt hx hb hdg ht (fun h => kt (by simpa [Op.if_icmp.holds] using h)) (fun h => kf (by simpa [Op.if_icmp.holds] using h))
  · exact lv_if_le hx hb hdg ht (fun h => kt (by simpa [Op.if_icmp.holds] using h)) (fun h => kf (by simpa [Op.if_icmp.holds] using h))
theorem mv_okc {v : mv_A} {r : List mv_A} (h : ∀ w ∈ v :: r, mv_okV ids ros w) : mv_okV ids ros v ∧ ∀ w ∈ r, mv_okV ids ros w := ⟨h v List.mem_cons_self, fun w hw => h w (List.mem_cons_of_mem _ hw)⟩
theorem mv_oks {v : mv_A} {r : List mv_A} (h : mv_okV ids ros v) (hr : ∀ w ∈ r, mv_okV ids ros w) : ∀ w ∈ v :: r, mv_okV ids ros w := fun w hw => by
  rcases List.mem_cons.mp hw with rfl | hw
  · exact h
  · exact hr w hw
/-- instructions that touch the stack alone -/
theorem mv_op_snd {H : Heap} {locs : List Loc} {pc : Nat} {lsC : Array Slot} {i : Instr} {len : Nat} {st st' : List mv_A} (hF : mv_Fix sh ids ros ad cA tys A rc) (hx : p.tables.exec = Jvm.exec) (hb : c.code = cc) (hdg : decode cc pc = .ok (i, len)) (hi : mv_iok pc i len = true) (h : mv_op i st = some st') (hst : ∀ v ∈ st, mv_okV ids ros v)
    (kk : (∀ v ∈ st', mv_okV ids ros v) → W p l e R s m args below meth c H locs cells slots Q (F0 m (pc + len) lsC (st'.map (mv_V ad)))) : W p l e R s m args below meth c H locs cells slots Q (F0 m pc lsC (st.map (mv_V ad))) := by
  cases i <;> simp only [mv_op, reduceCtorEq] at h
  case iconst n =>
    cases h
    simp only [mv_iok, Bool.and_eq_true, decide_eq_true_eq] at hi
    cases Nat.eq_of_beq_eq_true hi.2
    exact lv_iconst hx hb hdg rfl (kk (mv_oks (by show mv_in n; unfold mv_in; omega) hst))
  case bipush n =>
    cases h
    simp only [mv_iok, Bool.and_eq_true, decide_eq_true_eq] at hi
    cases Nat.eq_of_beq_eq_true hi.2
    refine lv_bipush (v := Int32.ofInt n) hx hb hdg ?_ (kk (mv_oks (by show mv_in n; unfold mv_in; omega) hst))
    apply Int32.toInt_inj.mp
    rw [mv_toInt (by unfold mv_in; omega), Int8.toInt_toInt32, Int8.toInt_ofInt_of_le (by omega) (by omega)]
  case sipush n =>
    cases h
    simp only [mv_iok, Bool.and_eq_true, decide_eq_true_eq] at hi
    cases Nat.eq_of_beq_eq_true hi.2
    refine lv_sipush (v := Int32.ofInt n) hx hb hdg ?_ (kk (mv_oks (by show mv_in n; unfold mv_in; omega) hst))
    apply Int32.toInt_inj.mp
    rw [mv_toInt (by unfold mv_in; omega), Int16.toInt_toInt32, Int16.toInt_ofInt_of_le (by omega) (by omega)]
  all_goals (simp only [mv_iok, mv_len] at hi; cases Nat.eq_of_beq_eq_true hi; split at h <;> try contradiction)
  all_goals (cases h)
  all_goals (first | obtain ⟨h1, h2⟩ := mv_okc hst)
  all_goals first
    | (refine lv_iadd hx hb hdg ?_; simpa only [List.map_cons, mv_V, mv_w_of, Int32.ofInt_add] using kk (mv_oks (mv_w_in _) (mv_okc h2).2); done)
    | (refine lv_isub hx hb hdg ?_; simpa only [List.map_cons, mv_V, mv_w_of, Int32.ofInt_sub] using kk (mv_oks (mv_w_in _) (mv_okc h2).2); done)
    | (refine lv_imul hx hb hdg ?_; simpa only [List.map_cons, mv_V, mv_w_of, Int32.ofInt_mul] using kk (mv_oks (mv_w_in _) (mv_okc h2).2); done)
    | (refine lv_ineg hx hb hdg ?_; simpa only [List.map_cons, mv_V, mv_w_of, Int32.ofInt_neg] using kk (mv_oks (mv_w_in _) h2); done)
    | (refine lv_iand hx hb hdg ?_; simpa only [List.map_cons, mv_V, mv_and, Int32.ofInt_toInt] using kk (mv_oks (mv_ii _) (mv_okc h2).2); done)
    | (refine lv_ior hx hb hdg ?_; simpa only [List.map_cons, mv_V, mv_or, Int32.ofInt_toInt] using kk (mv_oks (mv_ii _) (mv_okc h2).2); done)
    | (refine lv_ixor hx hb hdg ?_; simpa only [List.map_cons, mv_V, mv_xor, Int32.ofInt_toInt] using kk (mv_oks (mv_ii _) (mv_okc h2).2); done)
    | (refine lv_ishl hx hb hdg ?_; simpa only [List.map_cons, mv_V, mv_shl, Int32.ofInt_toInt] using kk (mv_oks (mv_ii _) (mv_okc h2).2); done)
    | (refine lv_ishr hx hb hdg ?_; simpa only [List.map_cons, mv_V, mv_shr, Int32.ofInt_toInt] using kk (mv_oks (mv_ii _) (mv_okc h2).2); done)
    | (refine lv_iushr hx hb hdg rfl ?_; simpa only [List.map_cons, mv_V, mv_ushr, Int32.ofInt_toInt] using kk (mv_oks (mv_ii _) (mv_okc h2).2); done)
    | (refine lv_i2c hx hb hdg rfl ?_; simpa only [List.map_cons, mv_V, mv_i2c, Int32.ofInt_toInt] using kk (mv_oks (mv_ii _) h2); done)
    | (refine lv_i2b hx hb hdg rfl ?_; simpa only [List.map_cons, mv_V, mv_i2b, Int32.ofInt_toInt] using kk (mv_oks (mv_ii _) h2); done)
    | (exact lv_dup hx hb hdg (mv_okcat hF) (kk (mv_oks h1 hst)))
    | (exact lv_pop hx hb hdg (mv_okcat hF) (kk h2))
    | (exact lv_dup2_11 hx hb hdg (mv_okcat hF) (mv_okcat hF) (kk (mv_oks h1 (mv_oks (mv_okc h2).1 hst))))
end MV
