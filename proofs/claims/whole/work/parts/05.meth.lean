/-! A method as a flat machine over its cuts; its contract. -/
def mv_go (rc : mv_G) (M : mv_M) (sh : Nat → Option mv_S) (N : Nat) : Nat → Nat → mv_L → mv_G → Option (Int × mv_G)
  | 0, _, _, _ => none
  | f + 1, pc, ls, G => match mv_rg rc M sh N pc ls [] G with
    | none => none
    | some (.inl r) => some r
    | some (.inr (pc', ls', G')) => mv_go rc M sh N f pc' ls' G'
def mv_Ev (rc : mv_G) (M : mv_M) (sh : Nat → Option mv_S) (N : Nat) (pc : Nat) (ls : mv_L) (G : mv_G) (x : Int × mv_G) : Prop := ∃ f, mv_go rc M sh N f pc ls G = some x
def mv_in0l (nL : Nat) (as : List mv_A) : mv_L := as.map some ++ List.replicate (nL - as.length) none
noncomputable def mv_fn (rc : mv_G) (M : mv_M) (sh : Nat → Option mv_S) (N nL : Nat) : mv_F := fun as G =>
  @dite _ (∃ x, mv_Ev rc M sh N 0 (mv_in0l nL as) G x) (Classical.propDecidable _) (fun h => some h.choose) (fun _ => none)
theorem mv_go_mono {rc : mv_G} {M : mv_M} {sh : Nat → Option mv_S} {N : Nat} {x : Int × mv_G} : ∀ {f g pc : Nat} {ls : mv_L} {G : mv_G}, f ≤ g → mv_go rc M sh N f pc ls G = some x → mv_go rc M sh N g pc ls G = some x
  | 0, _, _, _, _, _, h => by cases h
  | f + 1, 0, _, _, _, hle, _ => by omega
  | f + 1, g + 1, pc, ls, G, hle, h => by
    simp only [mv_go] at h ⊢
    split at h
    · cases h
    · exact h
    · exact mv_go_mono (by omega) h
theorem mv_Ev_det {rc : mv_G} {M : mv_M} {sh : Nat → Option mv_S} {N pc : Nat} {ls : mv_L} {G : mv_G} {x y : Int × mv_G} (h1 : mv_Ev rc M sh N pc ls G x) (h2 : mv_Ev rc M sh N pc ls G y) : x = y := by
  obtain ⟨f, h1⟩ := h1
  obtain ⟨g, h2⟩ := h2
  have a := mv_go_mono (Nat.le_max_left f g) h1
  have b := mv_go_mono (Nat.le_max_right f g) h2
  exact Option.some.inj (a.symm.trans b)
theorem mv_fn_of {rc : mv_G} {M : mv_M} {sh : Nat → Option mv_S} {N nL : Nat} {as : List mv_A} {G : mv_G} {x : Int × mv_G} (h : mv_Ev rc M sh N 0 (mv_in0l nL as) G x) : mv_fn rc M sh N nL as G = some x := by
  have h1 : ∃ x, mv_Ev rc M sh N 0 (mv_in0l nL as) G x := ⟨x, h⟩
  unfold mv_fn
  rw [dif_pos h1]
  exact congrArg some (mv_Ev_det h1.choose_spec h)
theorem mv_fn_to {rc : mv_G} {M : mv_M} {sh : Nat → Option mv_S} {N nL : Nat} {as : List mv_A} {G : mv_G} {x : Int × mv_G} (h : mv_fn rc M sh N nL as G = some x) : mv_Ev rc M sh N 0 (mv_in0l nL as) G x := by
  unfold mv_fn at h
  split at h
  · next h1 =>
    cases h
    exact h1.choose_spec
  · cases h
theorem mv_Ev.ret {rc : mv_G} {M : mv_M} {sh : Nat → Option mv_S} {N pc : Nat} {ls : mv_L} {G : mv_G} {x : Int × mv_G} (h : mv_rg rc M sh N pc ls [] G = some (.inl x)) : mv_Ev rc M sh N pc ls G x := ⟨1, by simp only [mv_go, h]⟩
theorem mv_Ev.cut {rc : mv_G} {M : mv_M} {sh : Nat → Option mv_S} {N pc pc' : Nat} {ls ls' : mv_L} {G G' : mv_G} {x : Int × mv_G} (h : mv_rg rc M sh N pc ls [] G = some (.inr (pc', ls', G'))) (k : mv_Ev rc M sh N pc' ls' G' x) : mv_Ev rc M sh N pc ls G x := by
  obtain ⟨f, k⟩ := k
  exact ⟨f + 1, by simp only [mv_go, h]; exact k⟩
section MV
variable {p : Program} {l : Launch} {e : Env} {R : Room} {s : State} {m : MethodId} {args : Array Value} {below : List Frame} {meth : Method} {c : Code} {cells slots : Nat} {Q : State → Prop}
variable {cc : ByteArray} {nL : Nat} {sh : Nat → Option mv_S} {ids ros : List (Nat × Nat)} {ad : Nat → Nat → Value} {cA : Nat → ClassId} {cl : List vw_C} {D : va_G} {tys : List (ClassId × FieldType)} {A : Nat → Prop} {rc : mv_G} {M : mv_M}
variable {H : Heap} {locs : List Loc} {lsC : Array Slot} {pc : Nat} {ls : mv_L} {st : List mv_A} {G : mv_G} {out : mv_O} {K : mv_K}
theorem mv_msk_len : ∀ (b : List Bool) (ls : mv_L), (mv_msk b ls).length = ls.length
  | [], _ => rfl
  | true :: b, v :: ls => by simp [mv_msk, mv_msk_len b ls]
  | false :: b, v :: ls => by simp [mv_msk, mv_msk_len b ls]
  | true :: _, [] => rfl
  | false :: _, [] => rfl
theorem mv_msk_get : ∀ {b : List Bool} {ls : mv_L} {i : Nat} {v : mv_A}, (mv_msk b ls)[i]? = some (some v) → ls[i]? = some (some v)
  | [], _, _, _, h => h
  | true :: b, w :: ls, 0, _, h => h
  | true :: b, w :: ls, i + 1, v, h => mv_msk_get (b := b) (ls := ls) (i := i) h
  | false :: b, w :: ls, 0, _, h => by simp [mv_msk] at h
  | false :: b, w :: ls, i + 1, v, h => mv_msk_get (b := b) (ls := ls) (i := i) h
  | true :: _, [], _, _, h => by simp [mv_msk] at h
  | false :: _, [], _, _, h => by simp [mv_msk] at h
theorem mv_LR_msk {b : List Bool} (h : mv_LR ids ros ad nL ls lsC) : mv_LR ids ros ad nL (mv_msk b ls) lsC := ⟨by rw [mv_msk_len]; exact h.1, h.2.1, h.2.2.1, fun i v hv => h.2.2.2 i v (mv_msk_get hv)⟩
theorem mv_nx_snd (hK : ∀ pc ls st G, mv_Snd p l e R s m args below meth c cells slots Q cc nL sh ids ros ad cA cl D A M pc ls st G (K pc ls st G)) : ∀ pc ls st G, mv_Snd p l e R s m args below meth c cells slots Q cc nL sh ids ros ad cA cl D A M pc ls st G (mv_nx M K pc ls st G) := by
  intro pc ls st G out h hfin H locs lsC hW hS hL hst
  unfold mv_nx at h
  split at h
  · exact hK pc ls st G out h hfin H locs lsC hW hS hL hst
  · split at h <;> try contradiction
    cases h
    exact hfin H locs lsC hW hS (mv_LR_msk hL)
/-- the world's fixed part, decided once -/
def mv_St (sh : Nat → Option mv_S) : Prop := (∀ k ci fs, sh k = some (.inr (ci, fs)) → Nat.ble 1000 k = true → Nat.ble 100 ci = true) ∧ (∀ k, Nat.ble 1000 k = true → ∀ n w, ¬ sh k = some (.inl (3, n, w))) ∧ (∀ k, Nat.ble 1000 k = false → ∀ n w, ¬ sh k = some (.inl (2, n, w))) ∧ (∀ k, Nat.ble 1000 k = true → ∀ n w, ¬ sh k = some (.inl (1, n, w))) ∧ (∀ k ci fs, sh k = some (.inr (ci, fs)) → Nat.ble 1000 k = false → Nat.ble 100 ci = false)
theorem mv_rg_snd {own : String} {Ts : List Cond} {cr : mv_R} (hX : mv_Ctx p s m args c cc nL sh cl D tys own Ts cr M) (hF : mv_Fix sh ids ros ad cA tys A rc) (hR : mv_RO sh ros ad A rc cr s) (hs : mv_St sh)
    (hC : mv_cst p l e R s m args below meth c cells slots Q cc ids ros ad A M) (hCal : ∀ x ∈ M.2.2.2.2.1, mv_Cal p l e R s m args below meth c cells slots Q cc nL sh ids ros ad cA cl D A x.1 x.2.1 x.2.2.1 x.2.2.2.1 x.2.2.2.2) :
    ∀ (n : Nat) pc ls st G, mv_Snd p l e R s m args below meth c cells slots Q cc nL sh ids ros ad cA cl D A M pc ls st G (mv_rg rc M sh n pc ls st G)
  | 0, _, _, _, _ => fun out h => by cases h
  | n + 1, pc, ls, st, G => mv_step_snd hX hF hR hs.1 hs.2.1 hs.2.2.1 hs.2.2.2.1 hs.2.2.2.2 hC hCal (mv_nx_snd (mv_rg_snd hX hF hR hs hC hCal n))
theorem mv_go_snd {own : String} {Ts : List Cond} {cr : mv_R} (hX : mv_Ctx p s m args c cc nL sh cl D tys own Ts cr M) (hF : mv_Fix sh ids ros ad cA tys A rc) (hR : mv_RO sh ros ad A rc cr s) (hs : mv_St sh)
    (hC : mv_cst p l e R s m args below meth c cells slots Q cc ids ros ad A M) (hCal : ∀ x ∈ M.2.2.2.2.1, mv_Cal p l e R s m args below meth c cells slots Q cc nL sh ids ros ad cA cl D A x.1 x.2.1 x.2.2.1 x.2.2.2.1 x.2.2.2.2) {N : Nat} {x : Int × mv_G} :
    ∀ {f pc : Nat} {ls : mv_L} {G : mv_G}, mv_go rc M sh N f pc ls G = some x → mv_Fin p l e R s m args below meth c cells slots Q cc nL sh ids ros ad cA cl D A M (.inl x) → ∀ (H : Heap) (locs : List Loc) (lsC : Array Slot), mv_Wd sh ids ad cA cl D A G H → va_S A s.heap H locs → mv_LR ids ros ad nL ls lsC → W p l e R s m args below meth c H locs cells slots Q (F0 m pc lsC [])
  | 0, _, _, _, h => by cases h
  | f + 1, pc, ls, G, h => by
    intro hfin H locs lsC hW hS hL
    simp only [mv_go] at h
    split at h
    · cases h
    · next r e =>
      cases h
      exact mv_rg_snd hX hF hR hs hC hCal N pc ls [] G _ e hfin H locs lsC hW hS hL (fun v hv => by cases hv)
    · next pc' ls' G' e =>
      exact mv_rg_snd hX hF hR hs hC hCal N pc ls [] G _ e (fun H1 locs1 lsC1 h1 h2 h3 => mv_go_snd hX hF hR hs hC hCal h hfin H1 locs1 lsC1 h1 h2 h3) H locs lsC hW hS hL (fun v hv => by cases hv)
/-- the world, as a contract has it -/
def mv_Wo (sh : Nat → Option mv_S) (ids ros : List (Nat × Nat)) (ad : Nat → Nat → Value) (cA : Nat → ClassId) (cl : List vw_C) (D : va_G) (tys : List (ClassId × FieldType)) (A : Nat → Prop) (rc : mv_G) (cr : mv_R) (EX : State → Prop) (G : mv_G) (U : State) : Prop :=
  mv_Wd sh ids ad cA cl D A G U.heap ∧ va_K D cl tys U ∧ mv_RO sh ros ad A rc cr U ∧ EX U
/-- the contract of a method -/
def mv_Met (l : Launch) (y : MethodName) (bytes : ByteArray) (maxL : Nat) (ret : Option FieldType) (Ts : List Cond) (rm : Room) (n : Nat) (vo : Bool) (sh : Nat → Option mv_S) (ids ros : List (Nat × Nat)) (ad : Nat → Nat → Value) (cA : Nat → ClassId) (cl : List vw_C) (D : va_G) (tys : List (ClassId × FieldType)) (A : Nat → Prop) (rc : mv_G) (cr : mv_R) (EX : State → Prop) (f : mv_F) : Prop :=
  ∀ (as : List mv_A) (G G' : mv_G) (r : Int), as.length = n → (∀ v ∈ as, mv_okV ids ros v) → f as G = some (r, G') →
    Met l y (.code y bytes maxL ret :: Ts) rm (va_Pc (as.map (mv_V ad)) (mv_Wo sh ids ros ad cA cl D tys A rc cr EX G))
      (match vo with | true => va_Qv (fun _ : Unit => True) (fun _ t => mv_Wd sh ids ad cA cl D A G' t.heap) A | false => va_Qi (fun (q : Int32) (_ : Unit) => q = Int32.ofInt r ∧ mv_in r) (fun _ t => mv_Wd sh ids ad cA cl D A G' t.heap) A) 0 0 A
theorem mv_sl {vs : List Value} (h : ∀ v ∈ vs, v.category = 1) : lg_sl vs = vs.map Slot.val := by
  induction vs with
  | nil => rfl
  | cons v vs ih =>
    have h1 := h v List.mem_cons_self
    have h2 := ih fun w hw => h w (List.mem_cons_of_mem _ hw)
    show (if v.category = 2 then [Slot.val v, .second] else [.val v]) ++ lg_sl vs = _
    rw [h1, h2]
    rfl
theorem mv_in0_get {as : List mv_A} {nL i : Nat} {v : mv_A} (h : (mv_in0l nL as)[i]? = some (some v)) : as[i]? = some v := by
  unfold mv_in0l at h
  by_cases hi : i < (as.map some).length
  · rw [List.getElem?_append_left hi, List.getElem?_map] at h
    cases hv : as[i]? with
    | none => rw [hv] at h; cases h
    | some w => rw [hv] at h; cases h; rfl
  · rw [List.getElem?_append_right (by omega), List.getElem?_replicate] at h
    split at h <;> cases h
/-- the narrowing that an answer bears -/
def mv_rz (vo : Bool) (ret : Option FieldType) (M : mv_M) : Prop := match vo with
  | true => ret = none ∧ ∀ x ∈ M.1, x.2.1 ≠ .ireturn
  | false => (∃ ty, ret = some ty ∧ ∀ v : Int, mv_in v → (∀ lo hi, M.2.2.2.2.2.2 = some (lo, hi) → lo ≤ v ∧ v ≤ hi) → narrow ty (.int (Int32.ofInt v)) = .int (Int32.ofInt v)) ∧ ∀ x ∈ M.1, x.2.1 ≠ .return_
/-- what is known where a method's body begins -/
def mv_Bg (p : Program) (s : State) (m : MethodId) (args : Array Value) (c : Code) (cc : ByteArray) (nL : Nat) (own : String) (Ts : List Cond) : Prop := p.tables.exec = Jvm.exec ∧ c.code = cc ∧ s.vm.findClass own = some m.cls ∧ (∀ w ∈ Ts, w.before args s = true) ∧ c.maxLocals = nL
theorem mv_met_of {y : MethodName} {ret : Option FieldType} {Ts : List Cond} {rm : Room} {n : Nat} {vo : Bool} {cr : mv_R} {EX : State → Prop} {N : Nat} (hy : plainName y.cls = true) (hn : n ≤ nL) (hF : mv_Fix sh ids ros ad cA tys A rc) (hs : mv_St sh) (hrz : mv_rz vo ret M)
    (hcls : ∀ (ci : Nat) (q : vw_C), cl[ci]? = some q → (∀ w ∈ u_ws q.1 q.2.1 q.2.2, w ∈ Ts) ∧ (∃ ty0 : Nat → FieldType, ∀ k, k < q.2.2 → parseFieldDescriptor (q.2.1 k).2.2.1 = some (ty0 k)) ∧ (∀ a, a < q.2.2 → ∀ b, b < q.2.2 → a ≠ b → (q.2.1 a).2.1 ≠ (q.2.1 b).2.1))
    (hcode : ∀ x ∈ M.1, decode cc x.1 = .ok (x.2.1, x.2.2) ∧ mv_iok x.1 x.2.1 x.2.2 = true)
    (hfld : ∀ x ∈ M.2.1, (Nat.ble 100 x.2.1 = true → Cond.fieldLink y.cls x.1 (cr x.2.1).1 ((cr x.2.1).2 x.2.2.1).1 ((cr x.2.1).2 x.2.2.1).2 ∈ Ts) ∧ (Nat.ble 100 x.2.1 = false → ∃ q : vw_C, cl[x.2.1]? = some q ∧ x.2.2.1 < q.2.2 ∧ Cond.fieldLink y.cls x.1 (q.2.1 x.2.2.1).1 (q.2.1 x.2.2.1).2.1 (q.2.1 x.2.2.1).2.2.1 ∈ Ts ∧
      (x.2.2.2 = 0 ∨ x.2.2.2 = 1 → (q.2.1 x.2.2.1).2.2.2 = false ∧ parseFieldDescriptor (q.2.1 x.2.2.1).2.2.1 = some (if x.2.2.2 = 1 then .boolean else .int))))
    (hC : ∀ (p : Program) (e : Env) (s : State) (m : MethodId) (args : Array Value) (below : List Frame) (meth : Method) (c : Code) (Q : State → Prop), mv_Bg p s m args c cc nL y.cls Ts → EX s → mv_RO sh ros ad A rc cr s → mv_cst p l e rm s m args below meth c 0 0 Q cc ids ros ad A M)
    (hCal : ∀ (p : Program) (e : Env) (s : State) (m : MethodId) (args : Array Value) (below : List Frame) (meth : Method) (c : Code) (Q : State → Prop), mv_Bg p s m args c cc nL y.cls Ts → EX s → mv_RO sh ros ad A rc cr s → va_K D cl tys s → ∀ x ∈ M.2.2.2.2.1, mv_Cal p l e rm s m args below meth c 0 0 Q cc nL sh ids ros ad cA cl D A x.1 x.2.1 x.2.2.1 x.2.2.2.1 x.2.2.2.2) :
    mv_Met l y cc nL ret Ts rm n vo sh ids ros ad cA cl D tys A rc cr EX (mv_fn rc M sh N nL) := by
  intro as G G' r hlen has hf
  obtain ⟨fu, hgo⟩ := mv_fn_to hf
  refine Met.ofW (cc := cc) (maxL := nL) (ret := ret) hy rfl ?_
  intro p e s m args below meth c s₁ B hml hv
  obtain ⟨rfl, hW, hK, hR, hE⟩ := hv
  have hx := B.exec
  have hb := B.bytes
  have hr := B.returns
  have hlocks := B.notSynchronized
  have hts0 := atoms_spec (ws := .code y cc nL ret :: Ts) B.pre
  have hts : ∀ w ∈ Ts, w.before (as.map (mv_V ad)).toArray s = true := fun w h => hts0 w (List.mem_cons_of_mem _ h)
  have hown : s.vm.findClass y.cls = some m.cls := findClass_of_methodNamed B.named
  have hcat : ∀ v ∈ as.map (mv_V ad), v.category = 1 := fun v hv => by
    obtain ⟨w, -, rfl⟩ := List.mem_map.mp hv
    exact mv_okcat hF
  have hlsl : (lg_sl (as.map (mv_V ad))).length = n := by rw [mv_sl hcat]; simp [hlen]
  have hl := lv_entry (as.map (mv_V ad)) (n := nL) (by rw [hlsl]; exact hn)
  have hL : mv_LR ids ros ad nL (mv_in0l nL as) ((lg_sl (as.map (mv_V ad)) ++ List.replicate (nL - (lg_sl (as.map (mv_V ad))).length) Slot.unset).toArray) := by
    refine ⟨by simp [mv_in0l]; omega, hl.1, hl.2.1, fun i v hi => ?_⟩
    have h1 := mv_in0_get hi
    refine ⟨?_, has v (List.mem_of_getElem? h1)⟩
    have h2 := (List.getElem?_eq_some_iff.mp h1).1
    rw [List.getElem?_toArray, mv_sl hcat, List.getElem?_append_left (by simp; omega)]
    simp [h1]
  rw [lg_entry_eq]
  have hBg : mv_Bg p s m (as.map (mv_V ad)).toArray c cc nL y.cls Ts := ⟨hx, hb, hown, hts, hml⟩
  refine mv_go_snd (own := y.cls) (Ts := Ts) (cr := cr) (M := M) ⟨hx, hb, hown, hts, hK, hml, hcls, hcode, fun x h => ⟨fun h1 => hts _ ((hfld x h).1 h1), fun h1 => ?_⟩⟩ hF hR hs (hC p e s m _ below meth c _ hBg hE hR) (hCal p e s m _ below meth c _ hBg hE hR hK) hgo ?_ s.heap [] _ hW va_S.rf hL
  · obtain ⟨q, e1, e2, e3, e4⟩ := (hfld x h).2 h1
    exact ⟨q, e1, e2, hts _ e3, e4⟩
  · intro H locs lsC pc hW1 hS1
    cases vo with
    | true =>
      obtain ⟨hret, hno⟩ := hrz
      refine ⟨fun _ _ hm _ => absurd rfl (hno _ hm), fun _ _ hdg => ?_⟩
      exact W.vret hx hb (hr.trans hret) (fun t ht hW => ⟨⟨(), rfl, trivial, by show mv_Wd sh ids ad cA cl D A G' t.heap; rw [ht]; exact hW1⟩, hS1.F ht⟩) hS1.2.2 hdg
    | false =>
      obtain ⟨⟨ty, hret, hnr⟩, hno⟩ := hrz
      refine ⟨fun hin hbd hm hdg => ?_, fun _ hm _ => absurd rfl (hno _ hm)⟩
      exact W.zret (ty := ty) hx hb (hr.trans hret) (hnr _ hin hbd) (fun t ht hW => ⟨⟨_, (), rfl, ⟨rfl, hin⟩, by show mv_Wd sh ids ad cA cl D A G' t.heap; rw [ht]; exact hW1⟩, hS1.F ht⟩) hS1.2.2 hdg
theorem mv_RO.go {s U : State} {cr : mv_R} (h : mv_RO sh ros ad A rc cr s) (hvm : s.vm.Alike U.vm) (hq : ∀ a : Nat, a < s.heap.size → ¬ A a → U.heap[a]? = s.heap[a]?) : mv_RO sh ros ad A rc cr U := by
  intro k hk
  have h1 := h k hk
  split at h1
  · exact (va_T.moved hvm h1).kept hq
  · exact (va_T.moved hvm h1).kept hq
  · exact ⟨(va_O.moved hvm h1.1).kept hq, fun j r hr => (va_OF.moved hvm (h1.2 j r hr)).kept hq⟩
  · trivial
/-- the outer conditions bear calls -/
def mv_EXok (A : Nat → Prop) (EX : State → Prop) : Prop := (∀ (U : State) (g : JFrame) (mk : MethodId) (a : Array Value), EX U → EX (U.calling g mk a)) ∧ ∀ s U : State, EX s → s.WarmedH U.vm → (∀ a : Nat, a < s.heap.size → ¬ A a → U.heap[a]? = s.heap[a]?) → EX U
theorem mv_Wo_blind {cr : mv_R} {EX : State → Prop} {av : List Value} (hE : mv_EXok A EX) : FrameBlind (va_Pc av (mv_Wo sh ids ros ad cA cl D tys A rc cr EX G)) := fun a U g mk q =>
  ⟨q.1, q.2.1, va_K.moved (u := U) (U := U.calling g mk a) (Vm.Alike.refl U.vm) q.2.2.1, mv_RO.go (s := U) (U := U.calling g mk a) q.2.2.2.1 (Vm.Alike.refl U.vm) (fun _ _ _ => rfl), hE.1 U g mk a q.2.2.2.2⟩
theorem mv_Wo_at {cr : mv_R} {EX : State → Prop} {U : State} (hE : mv_EXok A EX) (hK : va_K D cl tys s) (hR : mv_RO sh ros ad A rc cr s) (hX : EX s) (hW : mv_Wd sh ids ad cA cl D A G H) (hS : va_S A s.heap H locs) (hU : U.heap = H) (hW1 : s.WarmedH U.vm) : mv_Wo sh ids ros ad cA cl D tys A rc cr EX G U := by
  have hq : ∀ a : Nat, a < s.heap.size → ¬ A a → U.heap[a]? = s.heap[a]? := fun a h1 h2 => by rw [hU]; exact hS.2.1 a h1 h2
  exact ⟨by rw [hU]; exact hW, va_K.moved hW1.alike hK, mv_RO.go hR hW1.alike hq, hE.2 s U hX hW1 hq⟩
def mv_nat (p : Option Nat) : Bool := match p with | some _ => true | none => false
theorem mv_cal_of {y : MethodName} {by2 : ByteArray} {mL : Nat} {ret : Option FieldType} {Ts : List Cond} {rm : Room} {n idx : Nat} {rv : Option Nat} {vo : Bool} {cr : mv_R} {EX : State → Prop} {f : mv_F} {own : String} (hM : mv_Met l y by2 mL ret Ts rm n vo sh ids ros ad cA cl D tys A rc cr EX f)
    (hBg : mv_Bg p s m args c cc nL own Ts) (hX : EX s) (hR : mv_RO sh ros ad A rc cr s) (hK : va_K D cl tys s) (hE : mv_EXok A EX) (hF : mv_Fix sh ids ros ad cA tys A rc) (hgood : ∀ w ∈ Ts, goodWord w = true) (hs : mv_St sh)
    (hw : Cond.code y by2 mL ret ∈ Ts ∧ Cond.methodLink own idx y ∈ Ts ∧ Cond.initialized y.cls ∈ Ts ∧ (∀ ci, rv = some ci → Cond.instanceMethod y ∈ Ts ∧ Cond.selects y.cls y y ∈ Ts) ∧ (rv = none → Cond.static y ∈ Ts))
    (hy : y.cls ≠ "java/lang/invoke/MethodHandle" ∧ y.cls ≠ "java/lang/invoke/VarHandle" ∧ (parseMethodDescriptor y.desc).map (fun d => d.parameters.length) = some (match rv with | some _ => n - 1 | none => n))
    (hci : ∀ ci, rv = some ci → (Nat.ble 100 ci = true → (cr ci).1 = y.cls) ∧ (Nat.ble 100 ci = false → ∃ q : vw_C, cl[ci]? = some q ∧ q.1 = y.cls))
    (hrm : rm.cells = 0 ∧ rm.slots = 0 ∧ rm.frames + 1 ≤ R.frames ∧ 8 + (mL + 11) + rm.locals ≤ R.locals) (hro : cells ≤ R.cells ∧ slots ≤ R.slots) :
    mv_Cal p l e R s m args below meth c cells slots Q cc nL sh ids ros ad cA cl D A idx n rv vo f := by
  intro pc lsC as rest G G' r H locs hsz hdg hlen has hrv hrl hrc hf hW hS kk
  have hMet := hM as G G' r hlen has hf
  obtain ⟨hx, hb, hown, hts, hml⟩ := hBg
  obtain ⟨w1, w2, w3, w4, w5⟩ := hw
  obtain ⟨r1, r2, r3, r4⟩ := hrm
  have hgi : GoodIn Ts (.code y by2 mL ret :: Ts) := fun w h => by
    rcases List.mem_cons.mp h with rfl | h
    · exact ⟨w1, good_of_word (hgood _ w1)⟩
    · exact ⟨h, good_of_word (hgood _ h)⟩
  have hroom : 2 * (F0 m pc lsC ((as.map (mv_V ad)).reverse ++ rest)).monitorRoom + (rest.map fun v => v.category).sum ≤ 8 := by
    refine lv_room ?_
    have : ∀ r : List Value, (∀ v ∈ r, v.category = 1) → (r.map fun v => v.category).sum = r.length := by
      intro r
      induction r with
      | nil => intro _; rfl
      | cons v r ih =>
        intro h
        simp only [List.map_cons, List.sum_cons, List.length_cons]
        rw [h v List.mem_cons_self, ih fun w hw => h w (List.mem_cons_of_mem _ hw)]
        omega
    rw [this rest hrc]
    exact hrl
  have hA : ∀ q, q < H.size → A q → A q := fun _ _ h => h
  have run : va_Run p l e R s m args below meth c H locs cells slots 0 0 (F0 m pc lsC ((as.map (mv_V ad)).reverse ++ rest)) rest ((match vo with | true => va_Qv (fun _ : Unit => True) (fun _ t => mv_Wd sh ids ad cA cl D A G' t.heap) A | false => va_Qi (fun (q : Int32) (_ : Unit) => q = Int32.ofInt r ∧ mv_in r) (fun _ t => mv_Wd sh ids ad cA cl D A G' t.heap) A) (as.map (mv_V ad)).toArray) A := by
    cases rv with
    | none =>
      refine va_runS (As := as.map (mv_V ad)) (own := own) (Ts := Ts) (n := n) ⟨hx, hb, hml, hown, hts⟩ hMet ⟨callB_of n hts hgi rfl r1 r2 (hts _ w3) (hts _ w2) hy ⟨r3, r4⟩, hts _ (w5 rfl)⟩ ⟨mv_Wo_blind hE, fun U hU hW1 => ⟨rfl, mv_Wo_at hE hK hR hX hW hS hU hW1⟩⟩ rfl (by simp [hlen]) hsz rfl hroom hdg ⟨by omega, by omega⟩
    | some ci =>
      obtain ⟨k, as', fs, rfl, hk, hsh⟩ := hrv ci rfl
      have eV : mv_V ad (.inr (k, 0)) = .ref (mv_ra (ad k 0)) := mv_ref_of hF hk
      have hcell : ∃ cellB : Cell, H[mv_ra (ad k 0)]? = some cellB ∧ cellB.vm.isStatics = false ∧ s.vm.findClass y.cls = some cellB.cls := by
        cases hb1 : Nat.ble 1000 k with
        | true =>
          have hR1 := hR k (mv_getro hF hk hb1).1
          simp only [hsh] at hR1
          obtain ⟨cell, g1, g2, g3, -⟩ := hR1.1.kept hS.2.1
          exact ⟨cell, g1, g2, by rw [← (hci ci rfl).1 (hs.1 _ _ _ hsh hb1)]; exact g3⟩
        | false =>
          obtain ⟨q, q1, q2⟩ := (hci ci rfl).2 (hs.2.2.2.2 _ _ _ hsh hb1)
          obtain ⟨q0, hq0, hg⟩ := mv_getcell hF hW hk hb1
          simp only [mv_cel, hsh] at hg
          have := va_recv hK hW.1 q1 hg
          rw [q2] at this
          exact this
      obtain ⟨w6, w7⟩ := w4 ci rfl
      rw [List.map_cons, eV] at hMet ⊢
      refine va_runV (As := as'.map (mv_V ad)) (own := own) (Ts := Ts) (C := y.cls) (b := mv_ra (ad k 0)) (n := n - 1) ⟨hx, hb, hml, hown, hts⟩ hMet ⟨callB_of (n - 1) hts hgi rfl r1 r2 (hts _ w3) (hts _ w2) hy ⟨r3, r4⟩, hts _ w6, hts _ w7⟩ ⟨mv_Wo_blind hE, hcell, fun U hU hW1 => ⟨rfl, mv_Wo_at hE hK hR hX hW hS hU hW1⟩⟩ rfl (by simp only [List.length_map]; simp only [List.length_cons] at hlen; omega) hsz (by simp) (by simpa using hroom) hdg ⟨by omega, by omega⟩
  cases vo with
  | true => exact va_callv run hS hA (fun _ h => h) fun u t H1 locs1 ht hvm hp hB hz hk hS1 => kk H1 locs1 (by rw [← ht]; exact hB) hS1 (fun h => by cases h)
  | false =>
    refine va_calli run hS hA (fun _ h => h) fun q u t H1 locs1 ht hvm hp hB hz hk hS1 => ?_
    obtain ⟨rfl, hin⟩ := hp
    exact kk H1 locs1 (by rw [← ht]; exact hB) hS1 (fun _ => hin)
end MV
