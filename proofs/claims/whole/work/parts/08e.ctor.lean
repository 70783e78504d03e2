/-! Constructors: straight code that makes cells. -/
abbrev mv_U : Type := List (Option mv_A) × List (Nat × Nat) × List (Nat × Nat) × List (Nat × Nat × Int) × Nat × Nat
def mv_Gu (Gs : mv_G) (l : List (Nat × Nat × Int)) : mv_G := l.foldl (fun G x => mv_up G x.1 0 x.2.1 x.2.2) Gs
def mv_Vo (ad : Nat → Nat → Value) (v : Option mv_A) : Value := match v with | some v => mv_V ad v | none => .null
/-- a class's fields at first -/
def mv_nf (ci : Nat) : List (Option mv_A) := match mv_cl[ci]? with
  | some q => (List.range q.2.2).map fun j => match parseFieldDescriptor (q.2.1 j).2.2.1 with | some .int => some (.inl 0) | some .boolean => some (.inl 0) | _ => none
  | none => []
def mv_kn (ks : List Nat) (v : Option mv_A) : Bool := match v with | some (.inr q) => !ks.contains q.1 | _ => true
/-- none of the cells ks is one of these, nor is referred to by them -/
def mv_fr (ks : List Nat) (ids : List (Nat × Nat)) : Bool := ids.all fun q => !ks.contains q.1 && (match mv_sh q.1 with
  | some (.inr (_, fs)) => fs.all fun r => match r with | some t => !ks.contains t | none => true
  | _ => true)
def mv_fu (ks : List Nat) (st : List mv_A) (u : mv_U) : Bool := st.all (fun v => mv_kn ks (some v)) && u.1.all (mv_kn ks) && u.2.1.all (fun q => !ks.contains q.1)
def mv_gr (k n : Nat) : List (Nat × Nat) := (List.range (n + 1)).map fun i => (k, i)
/-- code; fields (slot, what: 0 a number, 1 a reference); which cell is made where; which constructors are called where (how many arguments, the cell, its class, the cells that come, cells and slots that it takes); (zero so far, how many cells and slots at most) come last -/
abbrev mv_TT : Type := List (Nat × Instr × Nat) × List (Nat × Nat × Nat) × List (Nat × Nat) × List (Nat × List mv_A × Nat × Nat × List (Nat × Nat) × Nat × Nat) × Bool × Nat × Nat
def mv_hd (k : Nat) (l : List mv_A) : Bool := match l with | .inr (a, 0) :: _ => Nat.beq a k | _ => false
def mv_hp (k cj : Nat) (l : List (Nat × Nat)) : Bool := match l with | (a, b) :: _ => Nat.beq a k && Nat.beq b cj | _ => false
def mv_wk1 (v : mv_A) (w : Nat) : Bool := match v with | .inl _ => Nat.beq w 0 | .inr _ => Nat.beq w 1
def mv_cs (T : mv_TT) (k0 : Nat) (ls : List mv_A) : Nat → Nat → List mv_A → mv_U → Nat × List mv_A × mv_U
  | 0, pc, st, u => (pc, st, u)
  | n + 1, pc, st, u => match mv_lk T.1 pc with
    | none => (pc, st, u)
    | some (i, len) => match i with
      | .aload_n k => match ls[k.val]? with | some (.inr q) => mv_cs T k0 ls n (pc + len) (.inr q :: st) u | _ => (pc, st, u)
      | .aload k => match ls[k]? with | some (.inr q) => mv_cs T k0 ls n (pc + len) (.inr q :: st) u | _ => (pc, st, u)
      | .iconst x => mv_cs T k0 ls n (pc + len) (.inl x :: st) u
      | .bipush x => mv_cs T k0 ls n (pc + len) (.inl x :: st) u
      | .sipush x => mv_cs T k0 ls n (pc + len) (.inl x :: st) u
      | .dup => match st with | v :: r => mv_cs T k0 ls n (pc + len) (v :: v :: r) u | _ => (pc, st, u)
      | .invokespecial _ => match mv_lk T.2.2.2.1 pc with
        | none => match st with
          | .inr (a, 0) :: r => bif Nat.beq a k0 && Nat.ble r.length 8 then mv_cs T k0 ls n (pc + len) r u else (pc, st, u)
          | _ => (pc, st, u)
        | some (as, k, cj, ids, nc, ns) => bif decide ((st.take as.length).reverse = as) && mv_hd k (st.drop as.length) && u.2.2.2.1.isEmpty && mv_hp k cj u.2.1 && mv_fu ((ids.map fun q => q.1).filter fun a => !Nat.beq a k) (st.drop (as.length + 1)) (u.1, u.2.1.drop 1, u.2.2) && mv_fr (ids.map fun q => q.1) u.2.2.1 && !u.2.1.tail.any (fun q => Nat.beq q.1 k) && Nat.ble (u.2.2.2.2.1 + nc) T.2.2.2.2.2.1 && Nat.ble (u.2.2.2.2.2 + ns) T.2.2.2.2.2.2 && Nat.ble st.length 8 then
            mv_cs T k0 ls n (pc + len) (st.drop (as.length + 1)) (u.1, u.2.1.drop 1, u.2.2.1 ++ ids, u.2.2.2.1, u.2.2.2.2.1 + nc, u.2.2.2.2.2 + ns) else (pc, st, u)
      | .new _ => match mv_lk T.2.2.1 pc with
        | some k => match mv_sh k with
          | some (.inr (ci, _)) => bif mv_fu [k] st u && mv_fr [k] u.2.2.1 && Nat.ble (u.2.2.2.2.1 + 1) T.2.2.2.2.2.1 && Nat.ble (u.2.2.2.2.2 + (mv_nf ci).length) T.2.2.2.2.2.2 then mv_cs T k0 ls n (pc + len) (.inr (k, 0) :: st) (u.1, (k, ci) :: u.2.1, u.2.2.1, u.2.2.2.1, u.2.2.2.2.1 + 1, u.2.2.2.2.2 + (mv_nf ci).length) else (pc, st, u)
          | _ => (pc, st, u)
        | none => (pc, st, u)
      | .newarray .int => match mv_lk T.2.2.1 pc, st with
        | some k, .inl x :: r => match mv_sh k with
          | some (.inl (0, w, _)) => bif decide (x = w) && T.2.2.2.2.1 && u.2.2.2.1.all (fun q => !Nat.beq q.1 k) && mv_fu [k] r u && mv_fr [k] u.2.2.1 && Nat.ble (u.2.2.2.2.1 + 1) T.2.2.2.2.2.1 && Nat.ble (u.2.2.2.2.2 + w) T.2.2.2.2.2.2 && Nat.blt w 100000 then mv_cs T k0 ls n (pc + len) (.inr (k, 0) :: r) (u.1, u.2.1, u.2.2.1 ++ [(k, 0)], u.2.2.2.1, u.2.2.2.2.1 + 1, u.2.2.2.2.2 + w) else (pc, st, u)
          | _ => (pc, st, u)
        | _, _ => (pc, st, u)
      | .newarray .boolean => match mv_lk T.2.2.1 pc, st with
        | some k, .inl x :: r => match mv_sh k with
          | some (.inl (1, w, _)) => bif decide (x = w) && T.2.2.2.2.1 && u.2.2.2.1.all (fun q => !Nat.beq q.1 k) && mv_fu [k] r u && mv_fr [k] u.2.2.1 && Nat.ble (u.2.2.2.2.1 + 1) T.2.2.2.2.2.1 && Nat.ble (u.2.2.2.2.2 + w) T.2.2.2.2.2.2 && Nat.blt w 100000 then mv_cs T k0 ls n (pc + len) (.inr (k, 0) :: r) (u.1, u.2.1, u.2.2.1 ++ [(k, 0)], u.2.2.2.1, u.2.2.2.2.1 + 1, u.2.2.2.2.2 + w) else (pc, st, u)
          | _ => (pc, st, u)
        | _, _ => (pc, st, u)
      | .multianewarray _ _ => match mv_lk T.2.2.1 pc, st with
        | some k, .inl y :: .inl x :: r => match mv_sh k with
          | some (.inl (3, a, b)) => bif decide (x = a) && decide (y = b) && T.2.2.2.2.1 && u.2.2.2.1.all (fun q => !Nat.beq q.1 k) && mv_fu [k] r u && mv_fr [k] u.2.2.1 && Nat.ble (u.2.2.2.2.1 + (1 + a)) T.2.2.2.2.2.1 && Nat.ble (u.2.2.2.2.2 + (a + a * b)) T.2.2.2.2.2.2 && Nat.blt a 100000 && Nat.blt b 100000 then mv_cs T k0 ls n (pc + len) (.inr (k, 0) :: r) (u.1, u.2.1, u.2.2.1 ++ mv_gr k a, u.2.2.2.1, u.2.2.2.2.1 + (1 + a), u.2.2.2.2.2 + (a + a * b)) else (pc, st, u)
          | _ => (pc, st, u)
        | _, _ => (pc, st, u)
      | .getstatic _ => mv_cs T k0 ls n (pc + len) (.inr (1001, 0) :: st) u
      | .arraylength => match st with
        | .inr (1001, 0) :: r => mv_cs T k0 ls n (pc + len) (.inl 5 :: r) u
        | _ => (pc, st, u)
      | .putfield x => match st, mv_lk T.2.1 x with
        | v :: .inr (a, 0) :: r, some (j, w) => bif Nat.beq a k0 && Nat.blt j u.1.length && mv_wk1 v w then mv_cs T k0 ls n (pc + len) r (u.1.set j (some v), u.2) else (pc, st, u)
        | _, _ => (pc, st, u)
      | .getfield x => match st, mv_lk T.2.1 x with
        | .inr (a, 0) :: r, some (j, _) => bif Nat.beq a k0 then (match u.1[j]? with | some (some v) => mv_cs T k0 ls n (pc + len) (v :: r) u | _ => (pc, st, u)) else (pc, st, u)
        | _, _ => (pc, st, u)
      | .iastore => match st with
        | .inl v :: .inl x :: .inr (k, 0) :: r => match mv_sh k with
          | some (.inl (0, w, _)) => bif decide (0 ≤ x ∧ x < w) && u.2.2.1.contains (k, 0) && Nat.blt k 990 then mv_cs T k0 ls n (pc + len) r (u.1, u.2.1, u.2.2.1, u.2.2.2.1 ++ [(k, x.toNat, v)], u.2.2.2.2) else (pc, st, u)
          | _ => (pc, st, u)
        | _ => (pc, st, u)
      | _ => (pc, st, u)
/-- the cells that may come -/
def mv_ks (T : mv_TT) : List Nat := T.2.2.1.map (fun q => q.2) ++ T.2.2.2.1.flatMap (fun q => q.2.2.2.2.1.map fun x => x.1)
section MV
variable {p : Program} {l : Launch} {e : Env} {R : Room} {s : State} {m : MethodId} {args : Array Value} {below : List Frame} {meth : Method} {c : Code} {cells slots : Nat} {Q : State → Prop}
variable {cc : ByteArray} {nL : Nat} {ad ad2 : Nat → Nat → Value} {cA : Nat → ClassId} {D : va_G} {tys : List (ClassId × FieldType)} {A : Nat → Prop} {H : Heap} {locs : List Loc} {ws ws2 : va_W} {ids : List (Nat × Nat)} {G : mv_G}
def mv_PP (D : va_G) (ws : va_W) (H : Heap) : Prop := ∀ x ∈ ws, va_at D mv_cl x H
def mv_DD (A : Nat → Prop) (ws : va_W) : Prop := (ws.map fun x => x.1).Nodup ∧ ∀ x ∈ ws, A x.1
theorem mv_PP_iff : va_P D mv_cl ws H ↔ mv_PP D ws H := ⟨fun h x hx => by
  obtain ⟨k, hk⟩ := List.getElem?_of_mem hx
  exact h k x hk, fun h k x hk => h x (List.mem_of_getElem? hk)⟩
theorem mv_DD_iff : va_D A ws ↔ mv_DD A ws := by
  refine ⟨fun h => ⟨?_, fun x hx => ?_⟩, fun h => ⟨fun i j p q hi hj e => ?_, fun k x hk => h.2 x (List.mem_of_getElem? hk)⟩⟩
  · refine List.pairwise_iff_getElem.mpr fun i j hi hj hij => ?_
    intro e
    rw [List.length_map] at hi hj
    rw [List.getElem_map, List.getElem_map] at e
    have := h.1 i j ws[i] ws[j] (List.getElem?_eq_getElem hi) (List.getElem?_eq_getElem hj) e
    omega
  · obtain ⟨k, hk⟩ := List.getElem?_of_mem hx
    exact h.2 k x hk
  · have hi' : (ws.map fun x => x.1)[i]? = some p.1 := by rw [List.getElem?_map, hi]; rfl
    have hj' : (ws.map fun x => x.1)[j]? = some p.1 := by rw [List.getElem?_map, hj, e]; rfl
    exact (List.getElem?_inj (List.getElem?_eq_some_iff.mp hi').1 h.1).mp (hi'.trans hj'.symm)
theorem mv_PP_perm (h : List.Perm ws ws2) (hp : mv_PP D ws H) : mv_PP D ws2 H := fun x hx => hp x (h.mem_iff.mpr hx)
theorem mv_DD_perm (h : List.Perm ws ws2) (hp : mv_DD A ws) : mv_DD A ws2 := ⟨(h.map _).nodup_iff.mp hp.1, fun x hx => hp.2 x (h.mem_iff.mpr hx)⟩
theorem mv_nc {ks : List Nat} {a : Nat} (h : (!ks.contains a) = true) : a ∉ ks := by
  intro hm
  rw [Bool.not_eq_true'] at h
  have := List.contains_iff_mem.mpr hm
  rw [h] at this
  cases this
/-- cells that the new ones don't concern -/
theorem mv_wd_ag {ks : List Nat} (hf : mv_fr ks ids = true) (h : ∀ a, a ∉ ks → ∀ b, ad2 a b = ad a b) : mv_wd mv_sh ad2 cA ids G = mv_wd mv_sh ad cA ids G := by
  refine List.map_congr_left fun q hq => ?_
  have h1 := List.all_eq_true.mp hf q hq
  simp only [Bool.and_eq_true] at h1
  have h2 : ∀ b, ad2 q.1 b = ad q.1 b := h _ (mv_nc h1.1)
  have key : ∀ (ci : Nat) (fs : List (Option Nat)), mv_sh q.1 = some (.inr (ci, fs)) → mv_fs ad2 (G q.1 0) fs = mv_fs ad (G q.1 0) fs := by
    intro ci fs hs
    rw [hs] at h1
    unfold mv_fs
    refine List.map_congr_left fun j hj => ?_
    have hj := List.mem_range.mp hj
    have h3 := List.all_eq_true.mp h1.2 (fs.getD j none) (by rw [List.getD_eq_getElem?_getD, List.getElem?_eq_getElem hj]; exact List.getElem_mem hj)
    cases hr : fs.getD j none with
    | none => rfl
    | some t =>
      rw [hr] at h3
      exact h t (mv_nc h3) 0
  unfold mv_cel
  simp only [h2]
  congr 1
  split <;> try rfl
  rename mv_sh q.1 = some (.inr _) => hs
  rw [key _ _ hs]
theorem mv_Vo_ag {ks : List Nat} {v : Option mv_A} (hf : mv_kn ks v = true) (h : ∀ a, a ∉ ks → ∀ b, ad2 a b = ad a b) : mv_Vo ad2 v = mv_Vo ad v := by
  cases v with
  | none => rfl
  | some v =>
    cases v with
    | inl x => rfl
    | inr q => exact h _ (mv_nc hf) _
/-- a good value: a number in range, a reference that stands -/
def mv_gv (ad : Nat → Nat → Value) (v : mv_A) : Prop := match v with | .inl x => mv_in x | .inr q => ∃ a, ad q.1 q.2 = .ref a
def mv_go1 (ad : Nat → Nat → Value) (v : Option mv_A) : Prop := match v with | some v => mv_gv ad v | none => True
def mv_ow (ad : Nat → Nat → Value) (k0 ci : Nat) (u : mv_U) : va_W := (mv_ra (ad k0 0), .inr (ci, u.1.map (mv_Vo ad))) :: u.2.1.map fun q => (mv_ra (ad q.1 0), .inr (q.2, (mv_nf q.2).map (mv_Vo ad)))
/-- the world of a constructor -/
def mv_WU (ad : Nat → Nat → Value) (cA : Nat → ClassId) (D : va_G) (A : Nat → Prop) (Gs : mv_G) (k0 ci : Nat) (u : mv_U) (H : Heap) : Prop :=
  mv_PP D (mv_ow ad k0 ci u ++ mv_wd mv_sh ad cA u.2.2.1 (mv_Gu Gs u.2.2.2.1)) H ∧ mv_DD A (mv_ow ad k0 ci u ++ mv_wd mv_sh ad cA u.2.2.1 (mv_Gu Gs u.2.2.2.1)) ∧ (∀ k i j, mv_in (mv_Gu Gs u.2.2.2.1 k i j)) ∧
  (∃ a, ad k0 0 = .ref a) ∧ (∀ q ∈ u.2.1, ∃ a, ad q.1 0 = .ref a) ∧ (∀ q ∈ u.2.2.1, ∃ a, ad q.1 q.2 = .ref a) ∧ (∀ v ∈ u.1, mv_go1 ad v) ∧ ∀ a b, (ad a b).category = 1
/-- the words of nest mates, that no list of words holds -/
def mv_nsl : List Cond := [.fieldLinkNest "MoveUp$Bench" 21 "MoveUp" "MOST" "[I" "MoveUp", .methodLinkNest "MoveUp$Bench" 37 ⟨"MoveUp$Law", "<init>", "()V"⟩ "MoveUp", .methodLinkNest "MoveUp$Bench" 47 ⟨"MoveUp$Day", "<init>", "()V"⟩ "MoveUp", .methodLinkNest "MoveUp" 21 ⟨"MoveUp$Past", "<init>", "()V"⟩ "MoveUp", .methodLinkNest "MoveUp" 28 ⟨"MoveUp$Reader", "<init>", "()V"⟩ "MoveUp", .methodLinkNest "MoveUp$Reader" 17 ⟨"MoveUp$Law", "<init>", "()V"⟩ "MoveUp", .methodLinkNest "MoveUp$Reader" 24 ⟨"MoveUp$Day", "<init>", "()V"⟩ "MoveUp", .methodLinkNest "MoveUp" 35 ⟨"MoveUp$Row", "<init>", "()V"⟩ "MoveUp"]
def mv_NS (U : State) : Prop := ∀ w ∈ mv_nsl, va_Nw w U
theorem mv_NS.warm {U : State} (hW : s.WarmedH U.vm) (h : mv_NS s) : mv_NS U := by
  intro w hw
  have h1 := h w hw
  simp only [mv_nsl, List.mem_cons, List.not_mem_nil, or_false] at hw
  rcases hw with rfl | rfl | rfl | rfl | rfl | rfl | rfl | rfl
  · exact va_Nw.warmF hW h1
  all_goals exact va_Nw.warmM hW h1
theorem mv_NS.same {u U : State} (hv : u.vm = U.vm) (h : mv_NS u) : mv_NS U := by
  intro w hw
  have h1 := h w hw
  refine va_Nw.same ?_ hv h1
  simp only [mv_nsl, List.mem_cons, List.not_mem_nil, or_false] at hw
  rcases hw with rfl | rfl | rfl | rfl | rfl | rfl | rfl | rfl <;> rfl
/-- arrays of rows of ints: that no list of words holds -/
def mv_AO (U : State) : Prop := (Cond.arrayOver (.array .int)).before #[] U = true
theorem mv_AO.moved {u U : State} (hvm : u.vm.Alike U.vm) (h : mv_AO u) : mv_AO U := Cond.overAtom_setVm (args := #[]) hvm (.arrayOver (.array .int)) rfl h
/-- what a constructor finds -/
def mv_Pi (ad : Nat → Nat → Value) (D : va_G) (tys : List (ClassId × FieldType)) (A : Nat → Prop) (k ci sz : Nat) (U : State) : Prop :=
  U.heap.size = sz ∧ mv_PP D [(mv_ra (ad k 0), .inr (ci, (mv_nf ci).map (mv_Vo ad)))] U.heap ∧ va_K D mv_cl tys U ∧ mv_RO mv_sh mv_ros ad A mv_rc mv_cr U ∧ mv_EX ad A U ∧ mv_NS U ∧ mv_AO U
/-- a constructor's contract -/
def mv_Ini (l : Launch) (y : MethodName) (by2 : ByteArray) (mL : Nat) (rm : Room) (cA : Nat → ClassId) (D : va_G) (tys : List (ClassId × FieldType)) (Gs : mv_G) (k ci : Nat) (as : List mv_A) (ids : List (Nat × Nat)) : Prop :=
  ∀ (ad : Nat → Nat → Value) (sz : Nat), (∃ a, ad k 0 = .ref a) → (∀ a b, (ad a b).category = 1) → (∀ v ∈ as, mv_gv ad v) → (∀ q ∈ mv_ros, ∃ a, ad q.1 q.2 = .ref a) →
    Met l y (.code y by2 mL none :: mv_Ts) rm (va_Pc ((.inr (k, 0) :: as).map (mv_V ad)) (mv_Pi ad D tys (fun a => a = mv_ra (ad k 0) ∨ sz ≤ a) k ci sz))
      (va_Qv (fun ad2 : Nat → Nat → Value => (∀ b, ad2 k b = ad k b) ∧ (∀ a, a ∉ ids.map (fun q => q.1) → ∀ b, ad2 a b = ad a b) ∧ (∀ q ∈ ids, ∃ a, ad2 q.1 q.2 = .ref a) ∧ ∀ a b, (ad2 a b).category = 1)
        (fun ad2 t => mv_Wd mv_sh ids ad2 cA mv_cl D (fun a => a = mv_ra (ad k 0) ∨ sz ≤ a) Gs t.heap) (fun a => a = mv_ra (ad k 0) ∨ sz ≤ a)) rm.cells rm.slots (fun a => a = mv_ra (ad k 0) ∨ sz ≤ a)
def mv_il (i : Instr) : Nat := match i with | .aload_n _ | .iconst _ | .dup | .arraylength | .iastore => 1 | .aload _ | .bipush _ | .newarray _ => 2 | .multianewarray _ _ => 4 | _ => 3
def mv_ik (i : Instr) (len : Nat) : Bool := Nat.beq len (mv_il i) && (match i with | .iconst x | .bipush x => decide (-128 ≤ x ∧ x < 128) | .sipush x => decide (-32768 ≤ x ∧ x < 32768) | _ => true)
/-- what is fixed where a constructor's body runs -/
def mv_Cx (l : Launch) (p : Program) (s : State) (m : MethodId) (args : Array Value) (meth : Method) (c : Code) (cc : ByteArray) (nL : Nat) (own : String) (R : Room) (cA : Nat → ClassId) (D : va_G) (tys : List (ClassId × FieldType)) (Gs : mv_G) (ci : Nat) (T : mv_TT) : Prop :=
  mv_Bg p s m args c cc nL own mv_Ts ∧ va_K D mv_cl tys s ∧ meth.name = "<init>" ∧ mv_NS s ∧ (tys[0]? = some (cA 0, .int) ∧ tys[1]? = some (cA 1, .boolean) ∧ tys[3]? = some (cA 3, .array .int)) ∧
  (∀ x ∈ T.1, decode cc x.1 = .ok (x.2.1, x.2.2) ∧ mv_ik x.2.1 x.2.2 = true) ∧
  (∃ q : vw_C, mv_cl[ci]? = some q ∧ ∀ x ∈ T.2.1, x.2.1 < q.2.2 ∧ Cond.fieldLink own x.1 (q.2.1 x.2.1).1 (q.2.1 x.2.1).2.1 (q.2.1 x.2.1).2.2.1 ∈ mv_Ts ∧ (x.2.2 = 0 → (q.2.1 x.2.1).2.2.2 = false ∧ parseFieldDescriptor (q.2.1 x.2.1).2.2.1 = some .int) ∧
    (x.2.2 = 1 → (q.2.1 x.2.1).2.2.2 = true ∧ (q.2.1 x.2.1).1 = own ∧ ∃ ty, parseFieldDescriptor (q.2.1 x.2.1).2.2.1 = some ty ∧ (∀ a, narrow ty (.ref a) = .ref a) ∧ ∀ a, fits ty (.ref a) = true)) ∧
  (∀ pc idx len k cj fs, mv_lk T.1 pc = some (.new idx, len) → mv_lk T.2.2.1 pc = some k → mv_sh k = some (.inr (cj, fs)) → ∃ q : vw_C, mv_cl[cj]? = some q ∧ Cond.classLink own idx q.1 ∈ mv_Ts ∧ Cond.instantiable q.1 q.2.2 ∈ mv_Ts ∧ Cond.initialized q.1 ∈ mv_Ts ∧ (∃ ty0 : Nat → FieldType, (∀ j, j < q.2.2 → parseFieldDescriptor (q.2.1 j).2.2.1 = some (ty0 j)) ∧ ∀ (ad : Nat → Nat → Value) j, j < q.2.2 → defaultValue (ty0 j) = vp_V ((mv_nf cj).map (mv_Vo ad)) j) ∧ (mv_nf cj).length = q.2.2) ∧
  (∀ pc idx len, mv_lk T.1 pc = some (.invokespecial idx, len) → mv_lk T.2.2.2.1 pc = none → Cond.methodLink own idx Lib.objectInit ∈ mv_Ts ∧ Cond.instanceMethod Lib.objectInit ∈ mv_Ts ∧ Cond.code Lib.objectInit ⟨#[0xb1]⟩ 1 none ∈ mv_Ts) ∧
  (∀ pc idx len as k cj ids nc ns, mv_lk T.1 pc = some (.invokespecial idx, len) → mv_lk T.2.2.2.1 pc = some (as, k, cj, ids, nc, ns) → ∃ (y : MethodName) (by2 : ByteArray) (mL : Nat) (rm : Room), mv_Ini l y by2 mL rm cA D tys Gs k cj as ids ∧ rm.cells = nc ∧ rm.slots = ns ∧ rm.frames + 1 ≤ R.frames ∧ 8 + (mL + 11) + rm.locals ≤ R.locals ∧
    Cond.code y by2 mL none ∈ mv_Ts ∧ Cond.initialized y.cls ∈ mv_Ts ∧ Cond.instanceMethod y ∈ mv_Ts ∧ y.name = "<init>" ∧ (y.cls ≠ "java/lang/invoke/MethodHandle" ∧ y.cls ≠ "java/lang/invoke/VarHandle" ∧ (parseMethodDescriptor y.desc).map (fun d => d.parameters.length) = some as.length) ∧
    (Cond.methodLink own idx y ∈ mv_Ts ∨ ∃ host, Cond.methodLinkNest own idx y host ∈ mv_nsl) ∧ (k, 0) ∈ ids) ∧
  mv_AO s ∧ (∀ pc idx n len, mv_lk T.1 pc = some (.multianewarray idx n, len) → n = 2 ∧ Cond.classLink own idx ("[" ++ (FieldType.array .int).toString) ∈ mv_Ts) ∧ (∀ pc idx len, mv_lk T.1 pc = some (.getstatic idx, len) → Cond.fieldLinkNest own idx "MoveUp" "MOST" "[I" "MoveUp" ∈ mv_nsl) ∧ Cond.arrayClass .int ∈ mv_Ts ∧ Cond.arrayClass .boolean ∈ mv_Ts ∧ T.2.2.2.2.2.1 ≤ R.cells ∧ T.2.2.2.2.2.2 ≤ R.slots ∧ 1 ≤ R.frames ∧ 32 ≤ R.locals ∧ (T.2.2.2.2.1 = true → ∀ k i j, Gs k i j = 0)
theorem mv_lks_in {T : mv_TT} {pc k : Nat} (h : mv_lk T.2.2.1 pc = some k) : k ∈ mv_ks T := List.mem_append_left _ (List.mem_map.mpr ⟨(pc, k), mv_lk_mem h, rfl⟩)
theorem mv_fu_st {ks : List Nat} {st : List mv_A} {u : mv_U} (hf : mv_fu ks st u = true) (h : ∀ a, a ∉ ks → ∀ b, ad2 a b = ad a b) : st.map (mv_V ad2) = st.map (mv_V ad) ∧ (∀ v ∈ st, mv_gv ad v → mv_gv ad2 v) := by
  unfold mv_fu at hf
  simp only [Bool.and_eq_true] at hf
  have e : ∀ v ∈ st, mv_V ad2 v = mv_V ad v := fun v hv => mv_Vo_ag (v := some v) (List.all_eq_true.mp hf.1.1 v hv) h
  refine ⟨List.map_congr_left e, fun v hv hg => ?_⟩
  cases v with
  | inl x => exact hg
  | inr q =>
    obtain ⟨a, ha⟩ := hg
    exact ⟨a, (e _ hv).trans ha⟩
theorem mv_ow_ag {ks : List Nat} {st : List mv_A} {k0 ci : Nat} {u : mv_U} (hk : k0 ∉ ks) (hf : mv_fu ks st u = true) (h : ∀ a, a ∉ ks → ∀ b, ad2 a b = ad a b) : mv_ow ad2 k0 ci u = mv_ow ad k0 ci u := by
  unfold mv_fu at hf
  simp only [Bool.and_eq_true] at hf
  unfold mv_ow
  rw [h k0 hk, List.map_congr_left (fun v hv => mv_Vo_ag (List.all_eq_true.mp hf.1.2 v hv) h)]
  congr 1
  refine List.map_congr_left fun q hq => ?_
  rw [h q.1 (mv_nc (List.all_eq_true.mp hf.2 q hq))]
  congr 3
  refine List.map_congr_left fun v hv => ?_
  unfold mv_nf at hv
  split at hv
  · obtain ⟨j, -, rfl⟩ := List.mem_map.mp hv
    split <;> rfl
  · cases hv
theorem mv_go1_ag {ks : List Nat} {v : Option mv_A} (hf : mv_kn ks v = true) (h : ∀ a, a ∉ ks → ∀ b, ad2 a b = ad a b) (hg : mv_go1 ad v) : mv_go1 ad2 v := by
  cases v with
  | none => trivial
  | some v =>
    cases v with
    | inl x => exact hg
    | inr q =>
      obtain ⟨a, ha⟩ := hg
      exact ⟨a, (h _ (mv_nc hf) _).trans ha⟩
theorem mv_fr_no {ks : List Nat} (hf : mv_fr ks ids = true) {q : Nat × Nat} (hq : q ∈ ids) : q.1 ∉ ks := by
  have h1 := List.all_eq_true.mp hf q hq
  simp only [Bool.and_eq_true] at h1
  exact mv_nc h1.1
/-- new addresses, and cells behind -/
theorem mv_WU_add {ks : List Nat} {st : List mv_A} {Gs : mv_G} {k0 ci : Nat} {u u2 : mv_U} {H1 : Heap} (hW : mv_WU ad cA D A Gs k0 ci u H) (hk : k0 ∉ ks) (hf : mv_fu ks st u = true) (hfr : mv_fr ks u.2.2.1 = true) (h : ∀ a, a ∉ ks → ∀ b, ad2 a b = ad a b) (hc : ∀ a b, (ad2 a b).category = 1)
    (e1 : u2.1 = u.1) (e2 : u2.2.1 = u.2.1) (nw : List (Nat × Nat)) (e3 : u2.2.2.1 = u.2.2.1 ++ nw) (e4 : u2.2.2.2.1 = u.2.2.2.1) (hnw : ∀ q ∈ nw, ∃ a, ad2 q.1 q.2 = .ref a)
    (hP : mv_PP D ((mv_ow ad k0 ci u ++ mv_wd mv_sh ad cA u.2.2.1 (mv_Gu Gs u.2.2.2.1)) ++ mv_wd mv_sh ad2 cA nw (mv_Gu Gs u.2.2.2.1)) H1) (hD : mv_DD A ((mv_ow ad k0 ci u ++ mv_wd mv_sh ad cA u.2.2.1 (mv_Gu Gs u.2.2.2.1)) ++ mv_wd mv_sh ad2 cA nw (mv_Gu Gs u.2.2.2.1))) : mv_WU ad2 cA D A Gs k0 ci u2 H1 := by
  obtain ⟨-, -, w3, ⟨a0, w4⟩, w5, w6, w7, w8⟩ := hW
  have f := hf
  unfold mv_fu at f
  simp only [Bool.and_eq_true] at f
  have eo : mv_ow ad2 k0 ci u2 = mv_ow ad k0 ci u := by
    rw [← mv_ow_ag hk hf h]
    unfold mv_ow
    rw [e1, e2]
  have ew : mv_wd mv_sh ad2 cA u2.2.2.1 (mv_Gu Gs u2.2.2.2.1) = mv_wd mv_sh ad cA u.2.2.1 (mv_Gu Gs u.2.2.2.1) ++ mv_wd mv_sh ad2 cA nw (mv_Gu Gs u.2.2.2.1) := by
    rw [e3, e4]
    unfold mv_wd
    rw [List.map_append]
    congr 1
    exact mv_wd_ag hfr h
  rw [List.append_assoc] at hP hD
  refine ⟨by rw [eo, ew]; exact hP, by rw [eo, ew]; exact hD, by rw [e4]; exact w3, ⟨a0, by rw [h k0 hk]; exact w4⟩, fun q hq => ?_, fun q hq => ?_, fun v hv => ?_, hc⟩
  · rw [e2] at hq
    obtain ⟨a, ha⟩ := w5 q hq
    exact ⟨a, by rw [h _ (mv_nc (List.all_eq_true.mp f.2 q hq))]; exact ha⟩
  · rw [e3] at hq
    rcases List.mem_append.mp hq with hq | hq
    · obtain ⟨a, ha⟩ := w6 q hq
      exact ⟨a, by rw [h _ (mv_fr_no hfr hq)]; exact ha⟩
    · exact hnw q hq
  · rw [e1] at hv
    exact mv_go1_ag (List.all_eq_true.mp f.1.2 v hv) h (w7 v hv)
theorem mv_Gu_0 {k i : Nat} : ∀ {l : List (Nat × Nat × Int)}, l.all (fun q => !Nat.beq q.1 k) = true → ∀ {Gs : mv_G}, (∀ j, Gs k i j = 0) → ∀ j, mv_Gu Gs l k i j = 0
  | [], _, _, h0, j => h0 j
  | x :: l, h, Gs, h0, j => by
    simp only [List.all_cons, Bool.and_eq_true] at h
    refine mv_Gu_0 (l := l) h.2 (Gs := mv_up Gs x.1 0 x.2.1 x.2.2) (fun j => ?_) j
    show (if k = x.1 ∧ i = 0 ∧ j = x.2.1 then x.2.2 else Gs k i j) = 0
    rw [if_neg]
    · exact h0 j
    · rintro ⟨e, -⟩
      have := h.1
      rw [← e, Bool.not_eq_true', Nat.beq_refl] at this
      cases this
theorem mv_r_newa {atype : ArrayType} {t : Nat} {Gs : mv_G} {k0 ci k w z pc : Nat} {u : mv_U} {st : List mv_A} {lsC : Array Slot} (hty : newarray.typeOf atype = mv_ty t) (ht01 : t = 0 ∨ t = 1) (hx : p.tables.exec = Jvm.exec) (hb : c.code = cc) (harr : (Cond.arrayClass (newarray.typeOf atype)).before args s = true) (hK : va_K D mv_cl tys s) (ht : tys[t]? = some (cA t, mv_ty t)) (hA : ∀ q, s.heap.size ≤ q → A q)
    (hW : mv_WU ad cA D A Gs k0 ci u H) (hS : va_S A s.heap H locs) (hsh : mv_sh k = some (.inl (t, w, z))) (hk0 : k0 ≠ k) (hf : mv_fu [k] st u = true) (hfr : mv_fr [k] u.2.2.1 = true) (hz : ∀ j, mv_Gu Gs u.2.2.2.1 k 0 j = 0) (hw : w < 100000) (hc : cells + 1 ≤ R.cells) (hs : slots + w ≤ R.slots) (hdg : decode cc pc = .ok (.newarray atype, 2)) {x y : Nat}
    (kk : ∀ (ad2 : Nat → Nat → Value) (H1 : Heap), (∀ a, a ≠ k → ∀ b, ad2 a b = ad a b) → (∃ a, ad2 k 0 = .ref a) → mv_WU ad2 cA D A Gs k0 ci (u.1, u.2.1, u.2.2.1 ++ [(k, 0)], u.2.2.2.1, x, y) H1 → va_S A s.heap H1 locs → W p l e R s m args below meth c H1 locs (cells + 1) (slots + w) Q (F0 m (pc + 2) lsC (mv_V ad2 (.inr (k, 0)) :: st.map (mv_V ad2)))) :
    W p l e R s m args below meth c H locs cells slots Q (F0 m pc lsC (.int (Int32.ofInt w) :: st.map (mv_V ad))) := by
  have hin : mv_in (w : Int) := by unfold mv_in; omega
  have hcl : (Int32.ofInt (w : Int)).toNatClampNeg = w := by rw [mv_clamp hin (by omega)]; rfl
  refine va_newa (ty := mv_ty t) hx hb harr hty hK (mv_PP_iff.mpr hW.1) (mv_DD_iff.mpr hW.2.1) hS hA (a0 := (w, .inl (fun _ => 0))) (N' := w) (fun cA => by rcases ht01 with rfl | rfl <;> rfl) (fun h => by have := (mv_lt hin mv_in0).mp h; omega) hcl (by rcases ht01 with rfl | rfl <;> (simp only [mv_ty, componentBytes]; omega)) hc hs hdg (fun q cA' H1 hK1 hP1 hD1 hS1 => ?_)
  have hc' : cA' = cA t := by
    have h1 := (hK1.2 tys.length (cA', mv_ty t) (by simp)).2
    have h2 := (hK.2 t _ ht).2
    rcases ht01 with rfl | rfl
    · exact Option.some.inj ((show s.vm.findClass _ = some cA' from h1).symm.trans h2)
    · exact Option.some.inj ((show s.vm.findClass _ = some cA' from h1).symm.trans h2)
  subst hc'
  have hag : ∀ a, a ∉ [k] → ∀ b, (fun a b => if a = k then (.ref q : Value) else ad a b) a b = ad a b := fun a ha b => if_neg (fun e => ha (by simp [e]))
  have := kk (fun a b => if a = k then .ref q else ad a b) H1 (fun a ha b => if_neg ha) ⟨q, if_pos rfl⟩
    (mv_WU_add (ks := [k]) (st := st) hW (fun h => hk0 (by simpa using h)) hf hfr hag (fun a b => by show (if a = k then (.ref q : Value) else ad a b).category = 1; split; rfl; exact hW.2.2.2.2.2.2.2 a b) rfl rfl [(k, 0)] rfl rfl (fun q' hq' => by
      rw [List.mem_singleton] at hq'
      subst hq'
      exact ⟨q, if_pos rfl⟩) ?_ ?_) hS1
  · rw [(mv_fu_st hf hag).1] at this
    have e : mv_V (fun a b => if a = k then (.ref q : Value) else ad a b) (.inr (k, 0)) = .ref q := if_pos rfl
    rw [e] at this
    exact this
  all_goals
    have ec : mv_wd mv_sh (fun a b => if a = k then (.ref q : Value) else ad a b) cA [(k, 0)] (mv_Gu Gs u.2.2.2.1) = [(q, .inl (cA t, w, .inl (fun _ => 0)))] := by
      show [mv_cel _ _ _ _ k 0] = _
      congr 1
      rcases ht01 with rfl | rfl
      · simp only [mv_cel, hsh, if_true, mv_ra, hz]
        rfl
      · simp only [mv_cel, hsh, if_true, mv_ra, hz]
        rfl
    rw [ec]
  · exact mv_PP_iff.mp hP1
  · exact mv_DD_iff.mp hD1
theorem mv_outer (c : ClassId) (N h0 : Nat) : ∀ i : Nat, Jvm.Free.Multi.outerC c N h0 i = arrV c N (fun j => va_rf (if j < i then some (h0 + 1 + j) else none))
  | 0 => by
    show ({ cls := c, slots := Array.replicate N .null, vm := .none } : Cell) = _
    rw [arrV_new]
    refine congrArg (arrV c N) (funext fun j => ?_)
    simp [va_rf]
  | i + 1 => by
    show (Jvm.Free.Multi.outerC c N h0 i).setSlot i (.ref (h0 + 1 + i)) = _
    rw [mv_outer c N h0 i, arrV_store]
    refine congrArg (arrV c N) (funext fun j => ?_)
    by_cases e : j = i
    · subst e
      simp [updV, va_rf]
    · by_cases h : j < i
      · simp [updV, e, h, Nat.lt_succ_of_lt h]
      · simp [updV, e, h, show ¬ j < i + 1 by omega]
theorem mv_r_multi {Gs : mv_G} {k0 ci k w z pc idx : Nat} {u : mv_U} {st : List mv_A} {lsC : Array Slot} {own : String} (hx : p.tables.exec = Jvm.exec) (hb : c.code = cc) (hown : s.vm.findClass own = some m.cls) (hcl : (Cond.classLink own idx ("[" ++ (FieldType.array .int).toString)).before args s = true) (hover : (Cond.arrayOver (.array .int)).before args s = true) (harr : (Cond.arrayClass .int).before args s = true) (hK : va_K D mv_cl tys s) (ht0 : tys[0]? = some (cA 0, .int)) (ht3 : tys[3]? = some (cA 3, .array .int)) (hA : ∀ q, s.heap.size ≤ q → A q)
    (hW : mv_WU ad cA D A Gs k0 ci u H) (hS : va_S A s.heap H locs) (hsh : mv_sh k = some (.inl (3, w, z))) (hk0 : k0 ≠ k) (hf : mv_fu [k] st u = true) (hfr : mv_fr [k] u.2.2.1 = true) (hz : ∀ i j, mv_Gu Gs u.2.2.2.1 k i j = 0) (hw : w < 100000) (hz2 : z < 100000) (hc : cells + (1 + w) ≤ R.cells) (hs : slots + (w + w * z) ≤ R.slots) (hdg : decode cc pc = .ok (.multianewarray idx 2, 4)) {x y : Nat}
    (kk : ∀ (ad2 : Nat → Nat → Value) (H1 : Heap), (∀ a, a ≠ k → ∀ b, ad2 a b = ad a b) → (∃ a, ad2 k 0 = .ref a) → mv_WU ad2 cA D A Gs k0 ci (u.1, u.2.1, u.2.2.1 ++ mv_gr k w, u.2.2.2.1, x, y) H1 → va_S A s.heap H1 locs → W p l e R s m args below meth c H1 locs (cells + (1 + w)) (slots + (w + w * z)) Q (F0 m (pc + 4) lsC (mv_V ad2 (.inr (k, 0)) :: st.map (mv_V ad2)))) :
    W p l e R s m args below meth c H locs cells slots Q (F0 m pc lsC (.int (Int32.ofInt z) :: .int (Int32.ofInt w) :: st.map (mv_V ad))) := by
  have hin : mv_in (w : Int) := by unfold mv_in; omega
  have hin2 : mv_in (z : Int) := by unfold mv_in; omega
  have hcw : (Int32.ofInt (w : Int)).toNatClampNeg = w := by rw [mv_clamp hin (by omega)]; rfl
  have hcz : (Int32.ofInt (z : Int)).toNatClampNeg = z := by rw [mv_clamp hin2 (by omega)]; rfl
  intro T hT Xs
  obtain ⟨vm₁, c3, comp, -, fA, fC, hO, -, X', step⟩ := Xs.multianewarray2F hx hown hcl hover harr (g := F0 m pc lsC (.int (Int32.ofInt z) :: .int (Int32.ofInt w) :: st.map (mv_V ad))) rfl (by rw [hb]; exact hdg) rfl (fun h => by have := (mv_lt hin mv_in0).mp h; omega) (fun h => by have := (mv_lt hin2 mv_in0).mp h; omega) (by rw [hcw]; omega) (by rw [hcz]; show z * 4 ≤ _; omega) (by rw [hcz]; omega) rfl rfl (by rw [hcw]; exact hc) (by rw [hcw, hcz]; exact hs)
  rw [hcw, hcz] at X' step
  generalize hF : Jvm.Free.Multi.fill (T.setVm vm₁) c3 comp w z (defaultValue .int) w = F at X' step
  have hTh : (T.setVm vm₁).heap = H := hT
  obtain ⟨f1, f2, -, -⟩ := Jvm.Free.Multi.fill_facts (T.setVm vm₁) c3 comp w z (defaultValue .int) w
  rw [hF, hTh] at f1 f2
  have hold : ∀ x : Nat, x < H.size → F.heap[x]? = H[x]? := fun x hx => by
    have := Jvm.Free.Multi.fill_old (T.setVm vm₁) c3 comp w z (defaultValue .int) (a := x) (by rw [hTh]; exact hx) w
    rw [hF, hTh] at this
    exact this
  have hrow : ∀ j : Nat, j < w → F.heap[H.size + 1 + j]? = some (Jvm.Free.Multi.innerC comp z (defaultValue .int)) := fun j hj => by
    have := Jvm.Free.Multi.fill_inner (T.setVm vm₁) c3 comp w z (defaultValue .int) w j hj
    rw [hF, hTh] at this
    exact this
  have ec : c3 = cA 3 := by
    have h2 := (hK.2 3 _ ht3).2
    exact Option.some.inj (fA.symm.trans h2)
  have e0 : comp = cA 0 := by
    have h2 := (hK.2 0 _ ht0).2
    exact Option.some.inj (fC.symm.trans h2)
  subst ec
  subst e0
  have hag : ∀ a, a ∉ [k] → ∀ b, (fun a b => if a = k then (.ref (H.size + b) : Value) else ad a b) a b = ad a b := fun a ha b => if_neg (fun e => ha (by simp [e]))
  have hcat : ∀ a b, ((fun a b => if a = k then (.ref (H.size + b) : Value) else ad a b) a b).category = 1 := fun a b => by
    dsimp only
    split
    · rfl
    · exact hW.2.2.2.2.2.2.2 a b
  have hlt : ∀ x ∈ mv_ow ad k0 ci u ++ mv_wd mv_sh ad cA u.2.2.1 (mv_Gu Gs u.2.2.2.1), x.1 < H.size := fun x hx => (hW.1 x hx).lt
  have hnew : ∀ x ∈ mv_wd mv_sh (fun a b => if a = k then (.ref (H.size + b) : Value) else ad a b) cA (mv_gr k w) (mv_Gu Gs u.2.2.2.1), H.size ≤ x.1 ∧ va_at D mv_cl x F.heap := by
    intro x hx
    obtain ⟨q, hq, rfl⟩ := List.mem_map.mp hx
    obtain ⟨i, hi, rfl⟩ := List.mem_map.mp hq
    have hi := List.mem_range.mp hi
    cases i with
    | zero =>
      simp only [mv_cel, hsh, if_true, mv_ra]
      refine ⟨by omega, ?_⟩
      show F.heap[H.size + 0]? = some (vp_cell _ _)
      rw [Nat.add_zero, f2, vp_cell_q]
      refine congrArg some ?_
      rw [mv_outer]
      refine congrArg (arrV _ _) (funext fun j => ?_)
      by_cases h3 : j < w
      · simp [h3, mv_ra, Nat.add_assoc, Nat.add_comm 1 j]
      · simp [h3]
    | succ i =>
      simp only [mv_cel, hsh, if_true, mv_ra]
      refine ⟨by omega, ?_⟩
      show F.heap[H.size + (i + 1)]? = some (vp_cell _ _)
      rw [show H.size + (i + 1) = H.size + 1 + i by omega, hrow i (by omega)]
      refine congrArg some ?_
      simp only [hz]
      show _ = arrV (cA 0) z fun _ => .int (Int32.ofInt 0)
      unfold arrV Jvm.Free.Multi.innerC
      congr 1
      refine Array.ext (by simp) fun j h1 h2 => ?_
      simp
      rfl
  have hS1 : va_S A s.heap F.heap locs := ⟨by rw [f1]; have := hS.1; omega, fun x h1 h2 => (hold x (Nat.lt_of_lt_of_le h1 hS.1)).trans (hS.2.1 x h1 h2), hS.2.2⟩
  have hWn : mv_WU (fun a b => if a = k then (.ref (H.size + b) : Value) else ad a b) cA D A Gs k0 ci (u.1, u.2.1, u.2.2.1 ++ mv_gr k w, u.2.2.2.1, x, y) F.heap := by
    refine mv_WU_add (ks := [k]) (st := st) hW (fun h => hk0 (by simpa using h)) hf hfr hag hcat rfl rfl (mv_gr k w) rfl rfl (fun q hq => ?_) (fun x hx => ?_) ⟨?_, fun x hx => ?_⟩
    · obtain ⟨i, -, rfl⟩ := List.mem_map.mp hq
      exact ⟨_, if_pos rfl⟩
    · rcases List.mem_append.mp hx with hx | hx
      · exact (hW.1 x hx).kept (hold x.1 (hlt x hx))
      · exact (hnew x hx).2
    · rw [List.map_append]
      refine List.nodup_append.mpr ⟨hW.2.1.1, ?_, fun a ha b hb e => ?_⟩
      · have : (mv_wd mv_sh (fun a b => if a = k then (.ref (H.size + b) : Value) else ad a b) cA (mv_gr k w) (mv_Gu Gs u.2.2.2.1)).map (fun x => x.1) = (List.range (w + 1)).map fun i => H.size + i := by
          simp only [mv_wd, mv_gr, List.map_map]
          refine List.map_congr_left fun i _ => ?_
          show mv_ra (if k = k then _ else _) = _
          rw [if_pos rfl]
          rfl
        rw [this]
        refine List.pairwise_map.mpr (List.nodup_range.imp fun h e => h (by omega))
      · obtain ⟨x, hx, rfl⟩ := List.mem_map.mp ha
        obtain ⟨y, hy, rfl⟩ := List.mem_map.mp hb
        have := hlt x hx
        have := (hnew y hy).1
        omega
    · rcases List.mem_append.mp hx with hx | hx
      · exact hW.2.1.2 x hx
      · exact hA _ (Nat.le_trans hS.1 (hnew x hx).1)
  have key := kk (fun a b => if a = k then .ref (H.size + b) else ad a b) F.heap (fun a ha b => if_neg ha) ⟨_, if_pos rfl⟩ hWn hS1
  rw [(mv_fu_st hf hag).1] at key
  have e : mv_V (fun a b => if a = k then (.ref (H.size + b) : Value) else ad a b) (.inr (k, 0)) = .ref H.size := if_pos rfl
  rw [e] at key
  obtain ⟨t, a1, b1⟩ := key F rfl (by rw [← Nat.add_assoc, ← Nat.add_assoc]; exact X')
  refine ⟨t, step t ?_, b1⟩
  have e9 : T.heap.size = H.size := by rw [hT]
  rw [e9]
  exact a1
theorem mv_r_new {Gs : mv_G} {k0 ci k cj pc idx : Nat} {u : mv_U} {st : List mv_A} {lsC : Array Slot} {own : String} {q : vw_C} {ty0 : Nat → FieldType} (hBg : mv_Bg p s m args c cc nL own mv_Ts) (hK : va_K D mv_cl tys s) (hA : ∀ q, s.heap.size ≤ q → A q)
    (hW : mv_WU ad cA D A Gs k0 ci u H) (hS : va_S A s.heap H locs) (hk0 : k0 ≠ k) (hf : mv_fu [k] st u = true) (hfr : mv_fr [k] u.2.2.1 = true) (hq : mv_cl[cj]? = some q) (hcl : Cond.classLink own idx q.1 ∈ mv_Ts) (hin : Cond.instantiable q.1 q.2.2 ∈ mv_Ts) (hini : Cond.initialized q.1 ∈ mv_Ts) (hty : ∀ j, j < q.2.2 → parseFieldDescriptor (q.2.1 j).2.2.1 = some (ty0 j)) (hdef : ∀ (ad : Nat → Nat → Value) j, j < q.2.2 → defaultValue (ty0 j) = vp_V ((mv_nf cj).map (mv_Vo ad)) j) (hnl : (mv_nf cj).length = q.2.2)
    (hc : cells + 1 ≤ R.cells) (hs : slots + (mv_nf cj).length ≤ R.slots) (hdg : decode cc pc = .ok (.new idx, 3)) {x y : Nat}
    (kk : ∀ (ad2 : Nat → Nat → Value) (H1 : Heap), (∀ a, a ≠ k → ∀ b, ad2 a b = ad a b) → (∃ a, ad2 k 0 = .ref a) → mv_WU ad2 cA D A Gs k0 ci (u.1, (k, cj) :: u.2.1, u.2.2.1, u.2.2.2.1, x, y) H1 → va_S A s.heap H1 locs → W p l e R s m args below meth c H1 locs (cells + 1) (slots + (mv_nf cj).length) Q (F0 m (pc + 3) lsC (mv_V ad2 (.inr (k, 0)) :: st.map (mv_V ad2)))) :
    W p l e R s m args below meth c H locs cells slots Q (F0 m pc lsC (st.map (mv_V ad))) := by
  obtain ⟨hx, hb, hown, hts, hml⟩ := hBg
  rw [hnl] at hs kk
  refine va_new (ci := cj) (fs := (mv_nf cj).map (mv_Vo ad)) (C := q.1) (T := q.2.1) (N := q.2.2) hx hb hts (mv_clok cj q hq).1 ty0 hty hown (hts _ hcl) (hts _ hin) (hts _ hini) hK (mv_PP_iff.mpr hW.1) (mv_DD_iff.mpr hW.2.1) hS hA hq (hdef ad) hc hs hdg (fun a H1 hP1 hD1 hS1 => ?_)
  have hag : ∀ a', a' ∉ [k] → ∀ b, (fun a' b => if a' = k then (.ref a : Value) else ad a' b) a' b = ad a' b := fun a' ha b => if_neg (fun e => ha (by simp [e]))
  have f := hf
  unfold mv_fu at f
  simp only [Bool.and_eq_true] at f
  obtain ⟨w1, w2, w3, ⟨a0, w4⟩, w5, w6, w7, w8⟩ := hW
  have hk0' : k0 ∉ [k] := fun h => hk0 (by simpa using h)
  have eo := mv_ow_ag (ci := ci) hk0' hf hag
  have ew : mv_wd mv_sh (fun a' b => if a' = k then (.ref a : Value) else ad a' b) cA u.2.2.1 (mv_Gu Gs u.2.2.2.1) = mv_wd mv_sh ad cA u.2.2.1 (mv_Gu Gs u.2.2.2.1) := mv_wd_ag hfr hag
  have en : (mv_nf cj).map (mv_Vo (fun a' b => if a' = k then (.ref a : Value) else ad a' b)) = (mv_nf cj).map (mv_Vo ad) := by
    refine List.map_congr_left fun v hv => ?_
    unfold mv_nf at hv
    split at hv
    · obtain ⟨j, -, rfl⟩ := List.mem_map.mp hv
      split <;> rfl
    · cases hv
  have hperm : List.Perm ((mv_ow ad k0 ci u ++ mv_wd mv_sh ad cA u.2.2.1 (mv_Gu Gs u.2.2.2.1)) ++ [(a, .inr (cj, (mv_nf cj).map (mv_Vo ad)))]) (mv_ow (fun a' b => if a' = k then (.ref a : Value) else ad a' b) k0 ci (u.1, (k, cj) :: u.2.1, u.2.2.1, u.2.2.2.1, x, y) ++ mv_wd mv_sh (fun a' b => if a' = k then (.ref a : Value) else ad a' b) cA u.2.2.1 (mv_Gu Gs u.2.2.2.1)) := by
    rw [ew]
    have e1 : mv_ow (fun a' b => if a' = k then (.ref a : Value) else ad a' b) k0 ci (u.1, (k, cj) :: u.2.1, u.2.2.1, u.2.2.2.1, x, y) = (mv_ra (ad k0 0), .inr (ci, u.1.map (mv_Vo ad))) :: (a, .inr (cj, (mv_nf cj).map (mv_Vo ad))) :: u.2.1.map (fun q => (mv_ra (ad q.1 0), .inr (q.2, (mv_nf q.2).map (mv_Vo ad)))) := by
      have eo' := eo
      unfold mv_ow at eo'
      obtain ⟨g1, g2⟩ := List.cons.inj eo'
      unfold mv_ow
      rw [g1]
      congr 1
      show (mv_ra (if k = k then (.ref a : Value) else ad k 0), _) :: _ = _
      rw [if_pos rfl]
      show (a, _) :: _ = _
      congr 1
      rw [en]
    rw [e1]
    unfold mv_ow
    simp only [List.cons_append]
    refine List.Perm.cons _ ?_
    exact List.perm_append_comm (l₂ := [_])
  have key := kk (fun a' b => if a' = k then .ref a else ad a' b) H1 (fun a' ha b => if_neg ha) ⟨a, if_pos rfl⟩
    ⟨mv_PP_perm hperm (mv_PP_iff.mp hP1), mv_DD_perm hperm (mv_DD_iff.mp hD1), w3, ⟨a0, by rw [hag k0 hk0']; exact w4⟩, fun p hp => by
      rcases List.mem_cons.mp hp with rfl | hp
      · exact ⟨a, if_pos rfl⟩
      · obtain ⟨a2, ha2⟩ := w5 p hp
        exact ⟨a2, by rw [hag _ (mv_nc (List.all_eq_true.mp f.2 p hp))]; exact ha2⟩, fun p hp => by
      obtain ⟨a2, ha2⟩ := w6 p hp
      exact ⟨a2, by rw [hag _ (mv_fr_no hfr hp)]; exact ha2⟩, fun v hv => mv_go1_ag (List.all_eq_true.mp f.1.2 v hv) hag (w7 v hv), fun a' b => by
      dsimp only
      split
      · rfl
      · exact w8 a' b⟩ hS1
  rw [(mv_fu_st hf hag).1] at key
  have e : mv_V (fun a' b => if a' = k then (.ref a : Value) else ad a' b) (.inr (k, 0)) = .ref a := if_pos rfl
  rw [e] at key
  exact key
/-- an own field is set -/
theorem mv_WU_put {Gs : mv_G} {k0 ci j : Nat} {u : mv_U} {v : mv_A} {H1 : Heap} (hW : mv_WU ad cA D A Gs k0 ci u H) (hg : mv_gv ad v)
    (hP : va_P D mv_cl ((mv_ow ad k0 ci u ++ mv_wd mv_sh ad cA u.2.2.1 (mv_Gu Gs u.2.2.2.1)).set 0 (mv_ra (ad k0 0), .inr (ci, (u.1.map (mv_Vo ad)).set j (mv_V ad v)))) H1) (hD : va_D A ((mv_ow ad k0 ci u ++ mv_wd mv_sh ad cA u.2.2.1 (mv_Gu Gs u.2.2.2.1)).set 0 (mv_ra (ad k0 0), .inr (ci, (u.1.map (mv_Vo ad)).set j (mv_V ad v))))) : mv_WU ad cA D A Gs k0 ci (u.1.set j (some v), u.2) H1 := by
  obtain ⟨w1, w2, w3, w4, w5, w6, w7, w8⟩ := hW
  have e : (mv_ow ad k0 ci u ++ mv_wd mv_sh ad cA u.2.2.1 (mv_Gu Gs u.2.2.2.1)).set 0 (mv_ra (ad k0 0), .inr (ci, (u.1.map (mv_Vo ad)).set j (mv_V ad v))) = mv_ow ad k0 ci (u.1.set j (some v), u.2) ++ mv_wd mv_sh ad cA u.2.2.1 (mv_Gu Gs u.2.2.2.1) := by
    unfold mv_ow
    simp only [List.cons_append, List.set_cons_zero, List.map_set]
    rfl
  rw [e] at hP hD
  refine ⟨mv_PP_iff.mp hP, mv_DD_iff.mp hD, w3, w4, w5, w6, fun w hw => ?_, w8⟩
  rcases List.mem_or_eq_of_mem_set hw with hw | rfl
  · exact w7 w hw
  · exact hg
theorem mv_RO.narrow {U : State} {B : Nat → Prop} (h : mv_RO mv_sh mv_ros ad A mv_rc mv_cr U) (hAB : ∀ q, B q → A q) : mv_RO mv_sh mv_ros ad B mv_rc mv_cr U := by
  intro k hk
  have h1 := h k hk
  split at h1
  · exact va_T.narrow h1 hAB
  · exact va_T.narrow h1 hAB
  · exact ⟨va_O.narrow h1.1 hAB, fun j r hr => va_OF.narrow (h1.2 j r hr) hAB⟩
  · trivial
theorem mv_EX.narrow {U : State} {B : Nat → Prop} (h : mv_EX ad A U) (hAB : ∀ q, B q → A q) : mv_EX ad B U := ⟨va_Z.narrow h.1 hAB, va_Z.narrow h.2.1 hAB, va_Z.narrow h.2.2.1 hAB, va_Z.narrow h.2.2.2.1 hAB, h.2.2.2.2⟩
theorem mv_Pi_blind {av : List Value} {k cj sz : Nat} {B : Nat → Prop} : FrameBlind (va_Pc av (mv_Pi ad D tys B k cj sz)) := fun a U g mq q =>
  ⟨q.1, q.2.1, q.2.2.1, va_K.moved (u := U) (U := U.calling g mq a) (Vm.Alike.refl U.vm) q.2.2.2.1, mv_RO.go (s := U) (U := U.calling g mq a) q.2.2.2.2.1 (Vm.Alike.refl U.vm) (fun _ _ _ => rfl), mv_EX_ok.1 U g mq a q.2.2.2.2.2.1, mv_NS.same (u := U) rfl q.2.2.2.2.2.2.1, mv_AO.moved (u := U) (Vm.Alike.refl U.vm) q.2.2.2.2.2.2.2⟩
theorem mv_r_init {Gs : mv_G} {k0 ci k cj pc idx mL : Nat} {u : mv_U} {pd : List (Nat × Nat)} {as st : List mv_A} {lsC : Array Slot} {own : String} {y : MethodName} {by2 : ByteArray} {rm : Room} {H : Heap} {locs : List Loc} (hI : mv_Ini l y by2 mL rm cA D tys Gs k cj as ids) (hBg : mv_Bg p s m args c cc nL own mv_Ts) (hK : va_K D mv_cl tys s) (hA : ∀ q, s.heap.size ≤ q → A q) (hNS : mv_NS s) (hR : mv_RO mv_sh mv_ros ad A mv_rc mv_cr s) (hX : mv_EX ad A s) (hAO : mv_AO s) (hro : ∀ q ∈ mv_ros, ∃ a, ad q.1 q.2 = .ref a)
    (hrm : rm.frames + 1 ≤ R.frames ∧ 8 + (mL + 11) + rm.locals ≤ R.locals) (hw : Cond.code y by2 mL none ∈ mv_Ts ∧ Cond.initialized y.cls ∈ mv_Ts ∧ Cond.instanceMethod y ∈ mv_Ts ∧ y.name = "<init>") (hy : y.cls ≠ "java/lang/invoke/MethodHandle" ∧ y.cls ≠ "java/lang/invoke/VarHandle" ∧ (parseMethodDescriptor y.desc).map (fun d => d.parameters.length) = some as.length) (hl : Cond.methodLink own idx y ∈ mv_Ts ∨ ∃ host, Cond.methodLinkNest own idx y host ∈ mv_nsl)
    (hW : mv_WU ad cA D A Gs k0 ci u H) (hS : va_S A s.heap H locs) (hpd : u.2.1 = (k, cj) :: pd) (hup : u.2.2.2.1 = []) (hga : ∀ v ∈ as, mv_gv ad v) (hk0 : k0 ∉ ids.map fun q => q.1) (hf : mv_fu ((ids.map fun q => q.1).filter fun a => !Nat.beq a k) st (u.1, pd, u.2.2) = true) (hfr : mv_fr (ids.map fun q => q.1) u.2.2.1 = true) (hki : (k, 0) ∈ ids) (hc : cells + rm.cells ≤ R.cells) (hs : slots + rm.slots ≤ R.slots) (hsz : lsC.size = nL) (hst : st.length ≤ 8) (hcst : ∀ v ∈ st, (mv_V ad v).category = 1) (hdg : decode cc pc = .ok (.invokespecial idx, 3)) {nx nz : Nat}
    (kk : ∀ (ad2 : Nat → Nat → Value) (H1 : Heap) (locs1 : List Loc), (∀ a, a ∉ (ids.map fun q => q.1) → ∀ b, ad2 a b = ad a b) → (∀ b, ad2 k b = ad k b) → mv_WU ad2 cA D A Gs k0 ci (u.1, pd, u.2.2.1 ++ ids, u.2.2.2.1, nx, nz) H1 → va_S A s.heap H1 locs1 → W p l e R s m args below meth c H1 locs1 (cells + rm.cells) (slots + rm.slots) Q (F0 m (pc + 3) lsC (st.map (mv_V ad2)))) :
    W p l e R s m args below meth c H locs cells slots Q (F0 m pc lsC ((as.map (mv_V ad)).reverse ++ mv_V ad (.inr (k, 0)) :: st.map (mv_V ad))) := by
  obtain ⟨hx, hb, hown, hts, hml⟩ := hBg
  obtain ⟨w1, w2, w3, ⟨a0, w4⟩, w5, w6, w7, w8⟩ := hW
  obtain ⟨q, hq⟩ := w5 (k, cj) (by rw [hpd]; exact List.mem_cons_self)
  dsimp only at hq
  have hMet := hI ad H.size ⟨q, hq⟩ w8 hga hro
  have hcellk : (mv_ra (ad k 0), (.inr (cj, (mv_nf cj).map (mv_Vo ad)) : va_E)) ∈ mv_ow ad k0 ci u ++ mv_wd mv_sh ad cA u.2.2.1 (mv_Gu Gs u.2.2.2.1) := by
    refine List.mem_append_left _ ?_
    unfold mv_ow
    rw [hpd]
    simp
  have hB : ∀ a, a = mv_ra (ad k 0) ∨ H.size ≤ a → A a := fun a h => by
    rcases h with rfl | h
    · exact w2.2 _ hcellk
    · exact hA _ (Nat.le_trans hS.1 h)
  have hgi : GoodIn mv_Ts (.code y by2 mL none :: mv_Ts) := fun w h => by
    rcases List.mem_cons.mp h with rfl | h
    · exact ⟨hw.1, good_of_word (mv_good _ hw.1)⟩
    · exact ⟨h, good_of_word (mv_good _ h)⟩
  have hroom : 2 * (F0 m pc lsC ((as.map (mv_V ad)).reverse ++ mv_V ad (.inr (k, 0)) :: st.map (mv_V ad))).monitorRoom + ((st.map (mv_V ad)).map fun v => v.category).sum ≤ 8 := by
    refine lv_room ?_
    rw [mv_sum1 _ (fun v hv => by
      obtain ⟨w, hw, rfl⟩ := List.mem_map.mp hv
      exact hcst w hw)]
    simpa using hst
  have hpre : PreS s H (va_Pc ((.inr (k, 0) :: as).map (mv_V ad)) (mv_Pi ad D tys (fun a => a = mv_ra (ad k 0) ∨ H.size ≤ a) k cj H.size)) ((.inr (k, 0) :: as).map (mv_V ad)) :=
    ⟨mv_Pi_blind, fun U hU hW1 => ⟨rfl, by rw [hU], fun x hx => by
      rw [List.mem_singleton] at hx
      subst hx
      rw [hU]
      exact w1 _ hcellk, va_K.moved hW1.alike hK, (mv_RO.go hR hW1.alike (fun a h1 h2 => by rw [hU]; exact hS.2.1 a h1 h2)).narrow hB, (mv_EX_ok.2 s U hX hW1 (fun a h1 h2 => by rw [hU]; exact hS.2.1 a h1 h2)).narrow hB, hNS.warm hW1, hAO.moved hW1.alike⟩⟩
  have eV : mv_V ad (.inr (k, 0)) = .ref q := hq
  have run : va_Run p l e R s m args below meth c H locs cells slots rm.cells rm.slots (F0 m pc lsC ((as.map (mv_V ad)).reverse ++ .ref q :: st.map (mv_V ad))) (st.map (mv_V ad)) ((va_Qv (fun ad2 : Nat → Nat → Value => (∀ b, ad2 k b = ad k b) ∧ (∀ a, a ∉ ids.map (fun q => q.1) → ∀ b, ad2 a b = ad a b) ∧ (∀ q ∈ ids, ∃ a, ad2 q.1 q.2 = .ref a) ∧ ∀ a b, (ad2 a b).category = 1)
        (fun ad2 t => mv_Wd mv_sh ids ad2 cA mv_cl D (fun a => a = mv_ra (ad k 0) ∨ H.size ≤ a) Gs t.heap) (fun a => a = mv_ra (ad k 0) ∨ H.size ≤ a)) (Value.ref q :: as.map (mv_V ad)).toArray) (fun a => a = mv_ra (ad k 0) ∨ H.size ≤ a) := by
    rw [List.map_cons, eV] at hMet hpre
    rw [eV] at hroom
    rcases hl with hl | ⟨host, hl⟩
    · exact va_runI (As := as.map (mv_V ad)) (own := own) (Ts := mv_Ts) (n := as.length) ⟨hx, hb, hml, hown, hts⟩ hMet ⟨callB_of as.length hts hgi rfl rfl rfl (hts _ hw.2.1) (hts _ hl) hy hrm, hw.2.2.2, hts _ hw.2.2.1⟩ hpre rfl (by simp) hsz rfl hroom hdg ⟨hc, hs⟩
    · exact va_runIN (As := as.map (mv_V ad)) (own := own) (host := host) (Ts := mv_Ts) (n := as.length) ⟨hx, hb, hml, hown, hts⟩ hMet ⟨va_cnB as.length hts hgi rfl rfl rfl (hNS _ hl) (hts _ hw.2.1) hy hrm, hw.2.2.2, hts _ hw.2.2.1⟩ hpre rfl (by simp) hsz rfl hroom hdg ⟨hc, hs⟩
  rw [eV]
  refine va_callv run hS (fun a _ h => hB a h) hB fun ad2 t H1 locs1 ht hvm hp hBt hz hk hS1 => ?_
  obtain ⟨p1, p2, p3, p4⟩ := hp
  have hWd : mv_Wd mv_sh ids ad2 cA mv_cl D (fun a => a = mv_ra (ad k 0) ∨ H.size ≤ a) Gs H1 := by rw [← ht]; exact hBt
  have hag : ∀ a, a ∉ ((ids.map fun q => q.1).filter fun a => !Nat.beq a k) → ∀ b, ad2 a b = ad a b := fun a ha b => by
    by_cases e : a = k
    · subst e; exact p1 b
    · refine p2 a (fun h => ha (List.mem_filter.mpr ⟨h, ?_⟩)) b
      cases h2 : Nat.beq a k with
      | false => rfl
      | true => exact absurd (Nat.eq_of_beq_eq_true h2) e
  have hk0' : k0 ∉ ((ids.map fun q => q.1).filter fun a => !Nat.beq a k) := fun h => hk0 (List.mem_filter.mp h).1
  have eo := mv_ow_ag (ci := ci) hk0' hf hag
  have ew : mv_wd mv_sh ad2 cA u.2.2.1 (mv_Gu Gs u.2.2.2.1) = mv_wd mv_sh ad cA u.2.2.1 (mv_Gu Gs u.2.2.2.1) := mv_wd_ag hfr p2
  have f := hf
  unfold mv_fu at f
  simp only [Bool.and_eq_true] at f
  have hsub : List.Perm (mv_ow ad k0 ci u ++ mv_wd mv_sh ad cA u.2.2.1 (mv_Gu Gs u.2.2.2.1)) ((mv_ra (ad k 0), .inr (cj, (mv_nf cj).map (mv_Vo ad))) :: (mv_ow ad2 k0 ci (u.1, pd, u.2.2.1 ++ ids, u.2.2.2.1, nx, nz) ++ mv_wd mv_sh ad2 cA u.2.2.1 (mv_Gu Gs u.2.2.2.1))) := by
    rw [ew]
    have e1 : mv_ow ad2 k0 ci (u.1, pd, u.2.2.1 ++ ids, u.2.2.2.1, nx, nz) = mv_ow ad k0 ci (u.1, pd, u.2.2) := eo
    rw [e1]
    unfold mv_ow
    rw [hpd]
    exact List.Perm.swap _ _ _
  have hP2 := mv_PP_perm hsub w1
  have hD2 := mv_DD_perm hsub w2
  have hn := hD2.1
  rw [List.map_cons, List.nodup_cons] at hn
  have hlt : ∀ x ∈ mv_ow ad2 k0 ci (u.1, pd, u.2.2.1 ++ ids, u.2.2.2.1, nx, nz) ++ mv_wd mv_sh ad2 cA u.2.2.1 (mv_Gu Gs u.2.2.2.1), x.1 < H.size ∧ x.1 ≠ mv_ra (ad k 0) := fun x hx => ⟨(hP2 x (List.mem_cons_of_mem _ hx)).lt, fun e => hn.1 (List.mem_map.mpr ⟨x, hx, e⟩)⟩
  have eG : mv_Gu Gs u.2.2.2.1 = Gs := by rw [hup]; rfl
  have hPn := mv_PP_iff.mp hWd.1
  have hDn := mv_DD_iff.mp hWd.2.1
  have enw : mv_wd mv_sh ad2 cA (u.2.2.1 ++ ids) (mv_Gu Gs u.2.2.2.1) = mv_wd mv_sh ad2 cA u.2.2.1 (mv_Gu Gs u.2.2.2.1) ++ mv_wd mv_sh ad2 cA ids Gs := by
    rw [eG]
    exact List.map_append
  have key := kk ad2 H1 locs1 p2 p1 ⟨by
      show mv_PP D (_ ++ mv_wd mv_sh ad2 cA (u.2.2.1 ++ ids) (mv_Gu Gs u.2.2.2.1)) H1
      rw [enw, ← List.append_assoc]
      intro x hx
      rcases List.mem_append.mp hx with hx | hx
      · obtain ⟨h1, h2⟩ := hlt x hx
        exact (hP2 x (List.mem_cons_of_mem _ hx)).kept (hk x.1 h1 (fun h => by rcases h with h | h; exact h2 h; omega))
      · exact hPn x hx, by
      show mv_DD A (_ ++ mv_wd mv_sh ad2 cA (u.2.2.1 ++ ids) (mv_Gu Gs u.2.2.2.1))
      rw [enw, ← List.append_assoc]
      refine ⟨?_, fun x hx => ?_⟩
      · rw [List.map_append]
        refine List.nodup_append.mpr ⟨hn.2, hDn.1, fun a ha b hb e => ?_⟩
        obtain ⟨x, hx, rfl⟩ := List.mem_map.mp ha
        obtain ⟨y, hy, rfl⟩ := List.mem_map.mp hb
        obtain ⟨h1, h2⟩ := hlt x hx
        have h3 := hDn.2 y hy
        dsimp only at h3
        rw [← e] at h3
        rcases h3 with h3 | h3
        · exact h2 h3
        · omega
      · rcases List.mem_append.mp hx with hx | hx
        · exact hD2.2 x (List.mem_cons_of_mem _ hx)
        · exact hB _ (hDn.2 x hx), w3, ⟨a0, by rw [hag k0 hk0']; exact w4⟩, fun p hp => by
      obtain ⟨a2, ha2⟩ := w5 p (by rw [hpd]; exact List.mem_cons_of_mem _ hp)
      exact ⟨a2, by rw [hag _ (mv_nc (List.all_eq_true.mp f.2 p hp))]; exact ha2⟩, fun p hp => by
      rcases List.mem_append.mp hp with hp | hp
      · obtain ⟨a2, ha2⟩ := w6 p hp
        exact ⟨a2, by rw [p2 _ (mv_fr_no hfr hp)]; exact ha2⟩
      · exact p3 p hp, fun v hv => mv_go1_ag (List.all_eq_true.mp f.1.2 v hv) hag (w7 v hv), p4⟩ hS1
  rw [(mv_fu_st hf hag).1] at key
  exact key
theorem mv_RO_ag {cr : mv_R} (h : ∀ a, Nat.ble 990 a = true → ∀ b, ad2 a b = ad a b) (hr : mv_RO mv_sh mv_ros ad A mv_rc cr s) : mv_RO mv_sh mv_ros ad2 A mv_rc cr s := by
  intro k hk
  have h1 := hr k hk
  simp only [mv_ros, List.mem_cons, Prod.mk.injEq, and_true, List.not_mem_nil, or_false] at hk
  rcases hk with rfl | rfl | rfl | rfl | rfl | rfl
  · rw [h _ rfl]; exact h1
  · rw [h _ rfl]; exact h1
  · rw [h _ rfl]
    refine ⟨h1.1, fun j r hj => ?_⟩
    have h2 := h1.2 j r hj
    match j, hj with
    | 0, hj => cases hj; simp only [mv_fv] at h2 ⊢; rw [h _ rfl]; exact h2
    | 1, hj => cases hj; exact h2
    | j + 2, hj => simp at hj
  · rw [h _ rfl]; exact h1
  · rw [h _ rfl]
    refine ⟨h1.1, fun j r hj => ?_⟩
    have h2 := h1.2 j r hj
    match j, hj with
    | 0, hj => cases hj; simp only [mv_fv] at h2 ⊢; rw [h _ rfl]; exact h2
    | 1, hj => cases hj; exact h2
    | j + 2, hj => simp at hj
  · rw [h _ rfl]; exact h1
theorem mv_EX_ag {U : State} (h : ∀ a, Nat.ble 990 a = true → ∀ b, ad2 a b = ad a b) (hr : mv_EX ad A U) : mv_EX ad2 A U := by
  unfold mv_EX at hr ⊢
  rw [h 1001 rfl, h 1000 rfl, h 999 rfl, h 1002 rfl, h 1004 rfl]
  exact hr
theorem mv_gv_cat {v : mv_A} (h : mv_gv ad v) : (mv_V ad v).category = 1 := by
  cases v with
  | inl x => rfl
  | inr q =>
    obtain ⟨a, ha⟩ := h
    show (ad q.1 q.2).category = 1
    rw [ha]
    rfl
theorem mv_cs_snd {T : mv_TT} {Gs : mv_G} {k0 ci : Nat} {ls : List mv_A} {lsC : Array Slot} {own : String} (hX : mv_Cx l p s m args meth c cc nL own R cA D tys Gs ci T) (hA : ∀ q, s.heap.size ≤ q → A q) (hsz : lsC.size = nL) (hks : ∀ a ∈ mv_ks T, Nat.ble 990 a = false ∧ a ≠ k0 ∧ ∀ v ∈ ls, mv_kn [a] (some v) = true) :
    ∀ (n pc : Nat) (st : List mv_A) (u : mv_U) (ad : Nat → Nat → Value) (H : Heap) (locs : List Loc), mv_WU ad cA D A Gs k0 ci u H → va_S A s.heap H locs → (∀ q ∈ mv_ros, ∃ a, ad q.1 q.2 = .ref a) → mv_RO mv_sh mv_ros ad A mv_rc mv_cr s → mv_EX ad A s →
      (∀ (i : Nat) (v : mv_A), ls[i]? = some v → lsC[i]? = some (.val (mv_V ad v)) ∧ mv_gv ad v) → (∀ v ∈ st, mv_gv ad v) →
      (∀ (ad2 : Nat → Nat → Value) (H2 : Heap) (locs2 : List Loc), (∀ a, a ∉ mv_ks T → ∀ b, ad2 a b = ad a b) → mv_WU ad2 cA D A Gs k0 ci (mv_cs T k0 ls n pc st u).2.2 H2 → va_S A s.heap H2 locs2 → (∀ v ∈ (mv_cs T k0 ls n pc st u).2.1, mv_gv ad2 v) →
        W p l e R s m args below meth c H2 locs2 (mv_cs T k0 ls n pc st u).2.2.2.2.2.2.1 (mv_cs T k0 ls n pc st u).2.2.2.2.2.2.2 Q (F0 m (mv_cs T k0 ls n pc st u).1 lsC ((mv_cs T k0 ls n pc st u).2.1.map (mv_V ad2)))) →
      W p l e R s m args below meth c H locs u.2.2.2.2.1 u.2.2.2.2.2 Q (F0 m pc lsC (st.map (mv_V ad)))
  | 0, pc, st, u, ad, H, locs, hW, hS, hro, hR, hE, hls, hst, kk => kk ad H locs (fun _ _ _ => rfl) hW hS hst
  | n + 1, pc, st, u, ad, H, locs, hW, hS, hro, hR, hE, hls, hst, kk => by
    have IH := mv_cs_snd hX hA hsz hks n
    obtain ⟨hBg, hK, hin, hNS, ⟨ht0, ht1, ht3⟩, hcode, ⟨qc, hqc, hfl⟩, hnew, hobj, hsub, hAO, hmul, hget, hac, hab, hrc, hrs, hfr1, hlo, hz⟩ := hX
    have stay : mv_cs T k0 ls (n + 1) pc st u = (pc, st, u) → W p l e R s m args below meth c H locs u.2.2.2.2.1 u.2.2.2.2.2 Q (F0 m pc lsC (st.map (mv_V ad))) := fun h => by
      have := kk ad H locs (fun _ _ _ => rfl)
      rw [h] at this
      exact this hW hS hst
    have go : ∀ {pc2 : Nat} {st2 : List mv_A} {u2 : mv_U}, mv_cs T k0 ls (n + 1) pc st u = mv_cs T k0 ls n pc2 st2 u2 → ∀ (ad2 : Nat → Nat → Value) (H2 : Heap) (locs2 : List Loc), (∀ a, a ∉ mv_ks T → ∀ b, ad2 a b = ad a b) → mv_WU ad2 cA D A Gs k0 ci u2 H2 → va_S A s.heap H2 locs2 → (∀ v ∈ st2, mv_gv ad2 v) → W p l e R s m args below meth c H2 locs2 u2.2.2.2.2.1 u2.2.2.2.2.2 Q (F0 m pc2 lsC (st2.map (mv_V ad2))) := by
      intro pc2 st2 u2 he ad2 H2 locs2 hag hW2 hS2 hst2
      have h990 : ∀ a, Nat.ble 990 a = true → ∀ b, ad2 a b = ad a b := fun a ha b => hag a (fun h => absurd ((hks a h).1.symm.trans ha) (by decide)) b
      have hlsag : ∀ v ∈ ls, mv_V ad2 v = mv_V ad v := fun v hv => by
        cases v with
        | inl x => rfl
        | inr q =>
          refine hag q.1 (fun h => ?_) q.2
          have := mv_nc ((hks _ h).2.2 _ hv)
          exact this (by simp)
      refine IH pc2 st2 u2 ad2 H2 locs2 hW2 hS2 (fun q hq => ?_) (mv_RO_ag h990 hR) (mv_EX_ag h990 hE) (fun i v hi => ?_) hst2 (fun ad3 H3 locs3 hag3 hW3 hS3 hst3 => ?_)
      · obtain ⟨a, ha⟩ := hro q hq
        refine ⟨a, ?_⟩
        rw [h990 _ ?_]
        · exact ha
        · simp only [mv_ros, List.mem_cons, List.not_mem_nil, or_false] at hq
          rcases hq with rfl | rfl | rfl | rfl | rfl | rfl <;> rfl
      · obtain ⟨h1, h2⟩ := hls i v hi
        have e := hlsag v (List.mem_of_getElem? hi)
        refine ⟨by rw [e]; exact h1, ?_⟩
        cases v with
        | inl x => exact h2
        | inr q =>
          obtain ⟨a, ha⟩ := h2
          exact ⟨a, e.trans ha⟩
      · have := kk ad3 H3 locs3 (fun a ha b => (hag3 a ha b).trans (hag a ha b))
        rw [he] at this
        exact this hW3 hS3 hst3
    cases hlk : mv_lk T.1 pc with
    | none => exact stay (by simp only [mv_cs, hlk])
    | some il =>
      obtain ⟨i, len⟩ := il
      obtain ⟨hdg, hik⟩ := hcode _ (mv_lk_mem hlk)
      dsimp only at hdg hik
      unfold mv_ik at hik
      simp only [Bool.and_eq_true] at hik
      have hlen := Nat.eq_of_beq_eq_true hik.1
      obtain ⟨hx, hb, hown, hts, hml⟩ := id hBg
      have same : ∀ a, a ∉ mv_ks T → ∀ b, ad a b = ad a b := fun _ _ _ => rfl
      have cons : ∀ {v : mv_A} {r : List mv_A}, mv_gv ad v → (∀ w ∈ r, mv_gv ad w) → ∀ w ∈ v :: r, mv_gv ad w := fun h1 h2 w hw => by
        rcases List.mem_cons.mp hw with rfl | hw
        · exact h1
        · exact h2 w hw
      cases i
      case aload_n k =>
        have hlen : len = 1 := hlen
        subst hlen
        cases hv : ls[k.val]? with
        | none => exact stay (by simp only [mv_cs, hlk, hv])
        | some v =>
          cases v with
          | inl x => exact stay (by simp only [mv_cs, hlk, hv])
          | inr q =>
            obtain ⟨a, ha⟩ := (hls _ _ hv).2
            have g := go (pc2 := pc + 1) (st2 := .inr q :: st) (u2 := u) (by simp only [mv_cs, hlk, hv]) ad H locs same hW hS (cons (hls _ _ hv).2 hst)
            have e1 : mv_V ad (.inr q) = .ref a := ha
            rw [List.map_cons, e1] at g
            exact lv_aload_n hx hb hdg rfl (by rw [(hls _ _ hv).1, e1]) g
      case aload k =>
        have hlen : len = 2 := hlen
        subst hlen
        cases hv : ls[k]? with
        | none => exact stay (by simp only [mv_cs, hlk, hv])
        | some v =>
          cases v with
          | inl x => exact stay (by simp only [mv_cs, hlk, hv])
          | inr q =>
            obtain ⟨a, ha⟩ := (hls _ _ hv).2
            have g := go (pc2 := pc + 2) (st2 := .inr q :: st) (u2 := u) (by simp only [mv_cs, hlk, hv]) ad H locs same hW hS (cons (hls _ _ hv).2 hst)
            have e1 : mv_V ad (.inr q) = .ref a := ha
            rw [List.map_cons, e1] at g
            exact lv_aload hx hb hdg (by rw [(hls _ _ hv).1, e1]) g
      case iconst x =>
        have hlen : len = 1 := hlen
        subst hlen
        have hr := of_decide_eq_true hik.2
        exact lv_iconst hx hb hdg rfl (go (pc2 := pc + 1) (st2 := .inl x :: st) (u2 := u) (by simp only [mv_cs, hlk]) ad H locs same hW hS (cons (show mv_in x by unfold mv_in; omega) hst))
      case bipush x =>
        have hlen : len = 2 := hlen
        subst hlen
        have hr := of_decide_eq_true hik.2
        refine lv_bipush (v := Int32.ofInt x) hx hb hdg ?_ (go (pc2 := pc + 2) (st2 := .inl x :: st) (u2 := u) (by simp only [mv_cs, hlk]) ad H locs same hW hS (cons (show mv_in x by unfold mv_in; omega) hst))
        apply Int32.toInt_inj.mp
        rw [mv_toInt (by unfold mv_in; omega), Int8.toInt_toInt32, Int8.toInt_ofInt_of_le (by omega) (by omega)]
      case sipush x =>
        have hlen : len = 3 := hlen
        subst hlen
        have hr := of_decide_eq_true hik.2
        refine lv_sipush (v := Int32.ofInt x) hx hb hdg ?_ (go (pc2 := pc + 3) (st2 := .inl x :: st) (u2 := u) (by simp only [mv_cs, hlk]) ad H locs same hW hS (cons (show mv_in x by unfold mv_in; omega) hst))
        apply Int32.toInt_inj.mp
        rw [mv_toInt (by unfold mv_in; omega), Int16.toInt_toInt32, Int16.toInt_ofInt_of_le (by omega) (by omega)]
      case dup =>
        have hlen : len = 1 := hlen
        subst hlen
        cases st with
        | nil => exact stay (by simp only [mv_cs, hlk])
        | cons v r =>
          have hv := hst v List.mem_cons_self
          exact lv_dup hx hb hdg (mv_gv_cat hv) (go (pc2 := pc + 1) (st2 := v :: v :: r) (u2 := u) (by simp only [mv_cs, hlk]) ad H locs same hW hS (cons hv hst))
      case getstatic idx =>
        have hlen : len = 3 := hlen
        subst hlen
        have hw := hget _ _ _ hlk
        obtain ⟨a, ha⟩ := hro (1001, 0) (by simp [mv_ros])
        have g := go (pc2 := pc + 3) (st2 := .inr (1001, 0) :: st) (u2 := u) (by simp only [mv_cs, hlk]) ad H locs same hW hS (cons ⟨a, ha⟩ hst)
        exact va_getsN hx hb hE.1 hS hown (va_Nw.use rfl (hNS _ hw)) (fun _ h => h) hdg g
      case arraylength =>
        have hlen : len = 1 := hlen
        subst hlen
        by_cases hs : ∃ r, st = .inr (1001, 0) :: r
        · obtain ⟨r, rfl⟩ := hs
          have h1 := hR 1001 (by simp [mv_ros])
          obtain ⟨a, ha⟩ := hro (1001, 0) (by simp [mv_ros])
          have g := go (pc2 := pc + 1) (st2 := .inl 5 :: r) (u2 := u) (by simp only [mv_cs, hlk]) ad H locs same hW hS (cons (show mv_in 5 by unfold mv_in; omega) (fun w hw => hst w (List.mem_cons_of_mem _ hw)))
          have e1 : mv_V ad (.inr (1001, 0)) = .ref (mv_ra (ad 1001 0)) := by
            show ad 1001 0 = _
            have ha : ad 1001 0 = .ref a := ha
            rw [ha]; rfl
          rw [List.map_cons, e1]
          exact va_tlen hx hb (show va_T .int _ 5 _ A s s.heap from h1) hS rfl hdg g
        · refine stay ?_
          simp only [mv_cs, hlk]
          split
          · next r => exact absurd ⟨_, rfl⟩ hs
          · rfl
      case new idx =>
        have hlen : len = 3 := hlen
        subst hlen
        cases hal : mv_lk T.2.2.1 pc with
        | none => exact stay (by simp only [mv_cs, hlk, hal])
        | some k =>
          cases hs : mv_sh k with
          | none => exact stay (by simp only [mv_cs, hlk, hal, hs])
          | some sq =>
            cases sq with
            | inl t => exact stay (by simp only [mv_cs, hlk, hal, hs])
            | inr o =>
              obtain ⟨cj, fs⟩ := o
              cases hc : (mv_fu [k] st u && mv_fr [k] u.2.2.1 && Nat.ble (u.2.2.2.2.1 + 1) T.2.2.2.2.2.1 && Nat.ble (u.2.2.2.2.2 + (mv_nf cj).length) T.2.2.2.2.2.2) with
              | false => exact stay (by simp only [mv_cs, hlk, hal, hs, hc, cond])
              | true =>
                have hc' := hc
                simp only [Bool.and_eq_true] at hc'
                obtain ⟨⟨⟨c1, c2⟩, c3⟩, c4⟩ := hc'
                have c3 := Nat.le_of_ble_eq_true c3
                have c4 := Nat.le_of_ble_eq_true c4
                obtain ⟨q, hq, n1, n2, n3, ⟨ty0, n4, n5⟩, n6⟩ := hnew _ _ _ _ _ _ hlk hal hs
                have hk := hks k (mv_lks_in hal)
                refine mv_r_new (k := k) (x := u.2.2.2.2.1 + 1) (y := u.2.2.2.2.2 + (mv_nf cj).length) hBg hK hA hW hS (fun e => hk.2.1 e.symm) c1 c2 hq n1 n2 n3 n4 n5 n6 (Nat.le_trans c3 hrc) (Nat.le_trans c4 hrs) hdg (fun ad2 H1 h1 h2 h3 h4 => ?_)
                have hag : ∀ a, a ∉ [k] → ∀ b, ad2 a b = ad a b := fun a ha b => h1 a (fun e => ha (by simp [e])) b
                exact go (pc2 := pc + 3) (st2 := .inr (k, 0) :: st) (u2 := (u.1, (k, cj) :: u.2.1, u.2.2.1, u.2.2.2.1, u.2.2.2.2.1 + 1, u.2.2.2.2.2 + (mv_nf cj).length)) (by simp only [mv_cs, hlk, hal, hs, hc, cond]) ad2 H1 locs (fun a ha b => h1 a (fun e => ha (e ▸ mv_lks_in hal)) b) h3 h4 (fun v hv => by
                  rcases List.mem_cons.mp hv with rfl | hv
                  · exact h2
                  · exact (mv_fu_st c1 hag).2 v hv (hst v hv))
      case newarray aty =>
        cases aty
        case int =>
          have hlen : len = 2 := hlen
          subst hlen
          cases hal : mv_lk T.2.2.1 pc with
          | none => exact stay (by simp only [mv_cs, hlk, hal])
          | some k =>
            by_cases hst0 : ∃ x r, st = .inl x :: r
            · obtain ⟨x, r, rfl⟩ := hst0
              by_cases hs0 : ∃ w z, mv_sh k = some (.inl (0, w, z))
              · obtain ⟨w, z, hs⟩ := hs0
                cases hc : (decide (x = (w : Int)) && T.2.2.2.2.1 && u.2.2.2.1.all (fun q => !Nat.beq q.1 k) && mv_fu [k] r u && mv_fr [k] u.2.2.1 && Nat.ble (u.2.2.2.2.1 + 1) T.2.2.2.2.2.1 && Nat.ble (u.2.2.2.2.2 + w) T.2.2.2.2.2.2 && Nat.blt w 100000) with
                | false => exact stay (by simp only [mv_cs, hlk, hal, hs, hc, cond])
                | true =>
                  have hc' := hc
                  simp only [Bool.and_eq_true] at hc'
                  obtain ⟨⟨⟨⟨⟨⟨⟨c1, c2⟩, c3⟩, c4⟩, c5⟩, c6⟩, c7⟩, c8⟩ := hc'
                  have c1 := of_decide_eq_true c1
                  have c6 := Nat.le_of_ble_eq_true c6
                  have c7 := Nat.le_of_ble_eq_true c7
                  have c8 : w < 100000 := Nat.le_of_ble_eq_true c8
                  have hk := hks k (mv_lks_in hal)
                  rw [List.map_cons, show mv_V ad (.inl x) = .int (Int32.ofInt w) by rw [c1]; rfl]
                  refine mv_r_newa (atype := .int) (t := 0) rfl (Or.inl rfl) hx hb (hts _ hac) hK ht0 hA hW hS hs (fun e => hk.2.1 e.symm) c4 c5 (mv_Gu_0 c3 (fun j => hz c2 k 0 j)) c8 (Nat.le_trans c6 hrc) (Nat.le_trans c7 hrs) hdg (x := u.2.2.2.2.1 + 1) (y := u.2.2.2.2.2 + w) (fun ad2 H1 h1 h2 h3 h4 => ?_)
                  have hag : ∀ a, a ∉ [k] → ∀ b, ad2 a b = ad a b := fun a ha b => h1 a (fun e => ha (by simp [e])) b
                  exact go (pc2 := pc + 2) (st2 := .inr (k, 0) :: r) (u2 := (u.1, u.2.1, u.2.2.1 ++ [(k, 0)], u.2.2.2.1, u.2.2.2.2.1 + 1, u.2.2.2.2.2 + w)) (by simp only [mv_cs, hlk, hal, hs, hc, cond]) ad2 H1 locs (fun a ha b => h1 a (fun e => ha (e ▸ mv_lks_in hal)) b) h3 h4 (fun v hv => by
                    rcases List.mem_cons.mp hv with rfl | hv
                    · exact h2
                    · exact (mv_fu_st c4 hag).2 v hv (hst v (List.mem_cons_of_mem _ hv)))
              · refine stay ?_
                simp only [mv_cs, hlk, hal]
                split
                · next w z e => exact absurd ⟨w, z, e⟩ hs0
                · rfl
            · refine stay ?_
              simp only [mv_cs, hlk, hal]
              split
              · next e => exact absurd ⟨_, _, rfl⟩ hst0
              · rfl
        case boolean =>
          have hlen : len = 2 := hlen
          subst hlen
          cases hal : mv_lk T.2.2.1 pc with
          | none => exact stay (by simp only [mv_cs, hlk, hal])
          | some k =>
            by_cases hst0 : ∃ x r, st = .inl x :: r
            · obtain ⟨x, r, rfl⟩ := hst0
              by_cases hs0 : ∃ w z, mv_sh k = some (.inl (1, w, z))
              · obtain ⟨w, z, hs⟩ := hs0
                cases hc : (decide (x = (w : Int)) && T.2.2.2.2.1 && u.2.2.2.1.all (fun q => !Nat.beq q.1 k) && mv_fu [k] r u && mv_fr [k] u.2.2.1 && Nat.ble (u.2.2.2.2.1 + 1) T.2.2.2.2.2.1 && Nat.ble (u.2.2.2.2.2 + w) T.2.2.2.2.2.2 && Nat.blt w 100000) with
                | false => exact stay (by simp only [mv_cs, hlk, hal, hs, hc, cond])
                | true =>
                  have hc' := hc
                  simp only [Bool.and_eq_true] at hc'
                  obtain ⟨⟨⟨⟨⟨⟨⟨c1, c2⟩, c3⟩, c4⟩, c5⟩, c6⟩, c7⟩, c8⟩ := hc'
                  have c1 := of_decide_eq_true c1
                  have c6 := Nat.le_of_ble_eq_true c6
                  have c7 := Nat.le_of_ble_eq_true c7
                  have c8 : w < 100000 := Nat.le_of_ble_eq_true c8
                  have hk := hks k (mv_lks_in hal)
                  rw [List.map_cons, show mv_V ad (.inl x) = .int (Int32.ofInt w) by rw [c1]; rfl]
                  refine mv_r_newa (atype := .boolean) (t := 1) rfl (Or.inr rfl) hx hb (hts _ hab) hK ht1 hA hW hS hs (fun e => hk.2.1 e.symm) c4 c5 (mv_Gu_0 c3 (fun j => hz c2 k 0 j)) c8 (Nat.le_trans c6 hrc) (Nat.le_trans c7 hrs) hdg (x := u.2.2.2.2.1 + 1) (y := u.2.2.2.2.2 + w) (fun ad2 H1 h1 h2 h3 h4 => ?_)
                  have hag : ∀ a, a ∉ [k] → ∀ b, ad2 a b = ad a b := fun a ha b => h1 a (fun e => ha (by simp [e])) b
                  exact go (pc2 := pc + 2) (st2 := .inr (k, 0) :: r) (u2 := (u.1, u.2.1, u.2.2.1 ++ [(k, 0)], u.2.2.2.1, u.2.2.2.2.1 + 1, u.2.2.2.2.2 + w)) (by simp only [mv_cs, hlk, hal, hs, hc, cond]) ad2 H1 locs (fun a ha b => h1 a (fun e => ha (e ▸ mv_lks_in hal)) b) h3 h4 (fun v hv => by
                    rcases List.mem_cons.mp hv with rfl | hv
                    · exact h2
                    · exact (mv_fu_st c4 hag).2 v hv (hst v (List.mem_cons_of_mem _ hv)))
              · refine stay ?_
                simp only [mv_cs, hlk, hal]
                split
                · next w z e => exact absurd ⟨w, z, e⟩ hs0
                · rfl
            · refine stay ?_
              simp only [mv_cs, hlk, hal]
              split
              · next e => exact absurd ⟨_, _, rfl⟩ hst0
              · rfl
        all_goals exact stay (by simp only [mv_cs, hlk])
      case multianewarray idx nd =>
        have hlen : len = 4 := hlen
        subst hlen
        obtain ⟨rfl, hw⟩ := hmul _ _ _ _ hlk
        cases hal : mv_lk T.2.2.1 pc with
        | none => exact stay (by simp only [mv_cs, hlk, hal])
        | some k =>
          by_cases hst0 : ∃ y x r, st = .inl y :: .inl x :: r
          · obtain ⟨y, x, r, rfl⟩ := hst0
            by_cases hs0 : ∃ w z, mv_sh k = some (.inl (3, w, z))
            · obtain ⟨w, z, hs⟩ := hs0
              cases hc : (decide (x = (w : Int)) && decide (y = (z : Int)) && T.2.2.2.2.1 && u.2.2.2.1.all (fun q => !Nat.beq q.1 k) && mv_fu [k] r u && mv_fr [k] u.2.2.1 && Nat.ble (u.2.2.2.2.1 + (1 + w)) T.2.2.2.2.2.1 && Nat.ble (u.2.2.2.2.2 + (w + w * z)) T.2.2.2.2.2.2 && Nat.blt w 100000 && Nat.blt z 100000) with
              | false => exact stay (by simp only [mv_cs, hlk, hal, hs, hc, cond])
              | true =>
                have hc' := hc
                simp only [Bool.and_eq_true] at hc'
                obtain ⟨⟨⟨⟨⟨⟨⟨⟨⟨c1, c0⟩, c2⟩, c3⟩, c4⟩, c5⟩, c6⟩, c7⟩, c8⟩, c9⟩ := hc'
                have c1 := of_decide_eq_true c1
                have c0 := of_decide_eq_true c0
                have c6 := Nat.le_of_ble_eq_true c6
                have c7 := Nat.le_of_ble_eq_true c7
                have c8 : w < 100000 := Nat.le_of_ble_eq_true c8
                have c9 : z < 100000 := Nat.le_of_ble_eq_true c9
                have hk := hks k (mv_lks_in hal)
                rw [List.map_cons, List.map_cons, show mv_V ad (.inl x) = .int (Int32.ofInt w) by rw [c1]; rfl, show mv_V ad (.inl y) = .int (Int32.ofInt z) by rw [c0]; rfl]
                have hz0 : ∀ i j, mv_Gu Gs u.2.2.2.1 k i j = 0 := fun i => mv_Gu_0 c3 (fun j => hz c2 k i j)
                refine mv_r_multi hx hb hown (hts _ hw) hAO (hts _ hac) hK ht0 ht3 hA hW hS hs (fun e => hk.2.1 e.symm) c4 c5 hz0 c8 c9 (Nat.le_trans c6 hrc) (Nat.le_trans c7 hrs) hdg (x := u.2.2.2.2.1 + (1 + w)) (y := u.2.2.2.2.2 + (w + w * z)) (fun ad2 H1 h1 h2 h3 h4 => ?_)
                have hag : ∀ a, a ∉ [k] → ∀ b, ad2 a b = ad a b := fun a ha b => h1 a (fun e => ha (by simp [e])) b
                exact go (pc2 := pc + 4) (st2 := .inr (k, 0) :: r) (u2 := (u.1, u.2.1, u.2.2.1 ++ mv_gr k w, u.2.2.2.1, u.2.2.2.2.1 + (1 + w), u.2.2.2.2.2 + (w + w * z))) (by simp only [mv_cs, hlk, hal, hs, hc, cond]) ad2 H1 locs (fun a ha b => h1 a (fun e => ha (e ▸ mv_lks_in hal)) b) h3 h4 (fun v hv => by
                  rcases List.mem_cons.mp hv with rfl | hv
                  · exact h2
                  · exact (mv_fu_st c4 hag).2 v hv (hst v (List.mem_cons_of_mem _ (List.mem_cons_of_mem _ hv))))
            · refine stay ?_
              simp only [mv_cs, hlk, hal]
              split
              · next w z e => exact absurd ⟨w, z, e⟩ hs0
              · rfl
          · refine stay ?_
            simp only [mv_cs, hlk, hal]
            split
            · next e => exact absurd ⟨_, _, _, rfl⟩ hst0
            · rfl
      case putfield idx =>
        have hlen : len = 3 := hlen
        subst hlen
        by_cases hst0 : ∃ v a r, st = v :: .inr (a, 0) :: r
        · obtain ⟨v, a, r, rfl⟩ := hst0
          cases hfd : mv_lk T.2.1 idx with
          | none => exact stay (by simp only [mv_cs, hlk, hfd])
          | some jw =>
            obtain ⟨j, w⟩ := jw
            cases hc : (Nat.beq a k0 && Nat.blt j u.1.length && mv_wk1 v w) with
            | false => exact stay (by simp only [mv_cs, hlk, hfd, hc, cond])
            | true =>
              have hc' := hc
              simp only [Bool.and_eq_true] at hc'
              obtain ⟨⟨c1, c2⟩, c3⟩ := hc'
              have c1 := Nat.eq_of_beq_eq_true c1
              subst c1
              have c2 : j < u.1.length := Nat.le_of_ble_eq_true c2
              obtain ⟨f1, f2, f3, f4⟩ := hfl _ (mv_lk_mem hfd)
              have hv := hst v List.mem_cons_self
              obtain ⟨a0, ha0⟩ := hW.2.2.2.1
              have e1 : mv_V ad (.inr (a, 0)) = .ref (mv_ra (ad a 0)) := by
                show ad a 0 = _
                rw [ha0]; rfl
              obtain ⟨ty0, g2⟩ := (mv_clok ci qc hqc).2.1
              have he : (mv_ow ad a ci u ++ mv_wd mv_sh ad cA u.2.2.1 (mv_Gu Gs u.2.2.2.1))[0]? = some (mv_ra (ad a 0), .inr (ci, u.1.map (mv_Vo ad))) := rfl
              have kont : ∀ (H1 : Heap) (locs1 : List Loc), va_P D mv_cl ((mv_ow ad a ci u ++ mv_wd mv_sh ad cA u.2.2.1 (mv_Gu Gs u.2.2.2.1)).set 0 (mv_ra (ad a 0), .inr (ci, (u.1.map (mv_Vo ad)).set j (mv_V ad v)))) H1 → va_D A ((mv_ow ad a ci u ++ mv_wd mv_sh ad cA u.2.2.1 (mv_Gu Gs u.2.2.2.1)).set 0 (mv_ra (ad a 0), .inr (ci, (u.1.map (mv_Vo ad)).set j (mv_V ad v)))) → va_S A s.heap H1 locs1 → W p l e R s m args below meth c H1 locs1 u.2.2.2.2.1 u.2.2.2.2.2 Q (F0 m (pc + 3) lsC (r.map (mv_V ad))) := fun H1 locs1 hP1 hD1 hS1 =>
                go (pc2 := pc + 3) (st2 := r) (u2 := (u.1.set j (some v), u.2)) (by simp only [mv_cs, hlk, hfd, hc, cond]) ad H1 locs1 same (mv_WU_put hW hv hP1 hD1) hS1 (fun w hw => hst w (List.mem_cons_of_mem _ (List.mem_cons_of_mem _ hw)))
              rw [List.map_cons, List.map_cons, e1]
              cases v with
              | inl x =>
                have c3 := Nat.eq_of_beq_eq_true c3
                obtain ⟨f5, f6⟩ := f3 c3
                exact va_put (C := qc.1) (T := qc.2.1) (N := qc.2.2) (ty := .int) hx hb hts (mv_clok ci qc hqc).1 ty0 g2 (mv_clok ci qc hqc).2.2 hown hK (mv_PP_iff.mpr hW.1) (mv_DD_iff.mpr hW.2.1) hS 0 he hqc j f1 (hts _ f2) (fun _ h => h) f5 f6 rfl rfl (by rw [List.length_map]; exact c2) hdg kont
              | inr q =>
                have c3 := Nat.eq_of_beq_eq_true c3
                obtain ⟨f5, f6, ty, f7, f8, f9⟩ := f4 c3
                obtain ⟨b, hb2⟩ := hv
                have e2 : mv_V ad (.inr q) = .ref b := hb2
                rw [e2] at kont ⊢
                exact va_putF (C := qc.1) (T := qc.2.1) (N := qc.2.2) (ty := ty) hx hb hts (mv_clok ci qc hqc).1 ty0 g2 (mv_clok ci qc hqc).2.2 hown hK (mv_PP_iff.mpr hW.1) (mv_DD_iff.mpr hW.2.1) hS 0 he hqc j f1 (hts _ f2) (fun _ h => h) f5 hin f6 f7 (f8 b) (f9 b) (by rw [List.length_map]; exact c2) hdg kont
        · refine stay ?_
          simp only [mv_cs, hlk]
          split
          · next e => exact absurd ⟨_, _, _, rfl⟩ hst0
          · rfl
      case getfield idx =>
        have hlen : len = 3 := hlen
        subst hlen
        by_cases hst0 : ∃ a r, st = .inr (a, 0) :: r
        · obtain ⟨a, r, rfl⟩ := hst0
          cases hfd : mv_lk T.2.1 idx with
          | none => exact stay (by simp only [mv_cs, hlk, hfd])
          | some jw =>
            obtain ⟨j, w⟩ := jw
            cases hc : Nat.beq a k0 with
            | false => exact stay (by simp only [mv_cs, hlk, hfd, hc, cond])
            | true =>
              have c1 := Nat.eq_of_beq_eq_true hc
              cases hv : u.1[j]? with
              | none => exact stay (by simp only [mv_cs, hlk, hfd, hc, cond, hv])
              | some ov =>
                cases ov with
                | none => exact stay (by simp only [mv_cs, hlk, hfd, hc, cond, hv])
                | some v =>
                  have hg := hW.2.2.2.2.2.2.1 _ (List.mem_of_getElem? hv)
                  obtain ⟨f1, f2, f3, f4⟩ := hfl _ (mv_lk_mem hfd)
                  obtain ⟨a0, ha0⟩ := hW.2.2.2.1
                  have g := go (pc2 := pc + 3) (st2 := v :: r) (u2 := u) (by simp only [mv_cs, hlk, hfd, hc, cond, hv]) ad H locs same hW hS (cons hg (fun w hw => hst w (List.mem_cons_of_mem _ hw)))
                  have e1 : mv_V ad (.inr (a, 0)) = .ref (mv_ra (ad k0 0)) := by
                    show ad a 0 = _
                    rw [c1, ha0]; rfl
                  rw [List.map_cons, e1]
                  have he : (mv_ow ad k0 ci u ++ mv_wd mv_sh ad cA u.2.2.1 (mv_Gu Gs u.2.2.2.1))[0]? = some (mv_ra (ad k0 0), .inr (ci, u.1.map (mv_Vo ad))) := rfl
                  exact va_get (C := qc.1) (T := qc.2.1) (N := qc.2.2) hx hb hts (mv_clok ci qc hqc).1 hown hK (mv_PP_iff.mpr hW.1) 0 he hqc j f1 (hts _ f2) (fun _ h => h) (by rw [List.getElem?_map, hv]; rfl) hdg g
        · refine stay ?_
          simp only [mv_cs, hlk]
          split
          · next e => exact absurd ⟨_, _, rfl⟩ hst0
          · rfl
      case invokespecial idx =>
        have hlen : len = 3 := hlen
        subst hlen
        cases hsb : mv_lk T.2.2.2.1 pc with
        | none =>
          by_cases hst0 : ∃ a r, st = .inr (a, 0) :: r
          · obtain ⟨a, r, rfl⟩ := hst0
            cases hc : (Nat.beq a k0 && Nat.ble r.length 8) with
            | false => exact stay (by simp only [mv_cs, hlk, hsb, hc, cond])
            | true =>
              have hc' := hc
              simp only [Bool.and_eq_true] at hc'
              have hrl := Nat.le_of_ble_eq_true hc'.2
              obtain ⟨o1, o2, o3⟩ := hobj _ _ _ hlk hsb
              obtain ⟨b, hb2⟩ := hst (.inr (a, 0)) List.mem_cons_self
              have g := go (pc2 := pc + 3) (st2 := r) (u2 := u) (by simp only [mv_cs, hlk, hsb, hc, cond]) ad H locs same hW hS (fun w hw => hst w (List.mem_cons_of_mem _ hw))
              have e1 : mv_V ad (.inr (a, 0)) = .ref b := hb2
              rw [List.map_cons, e1]
              refine W.objInit hx hb hown (hts _ o1) (hts _ o2) (hts _ o3) rfl (hsz.trans hml.symm) rfl hdg hfr1 ?_ g
              have h8 : 2 * (F0 m pc lsC (.ref b :: r.map (mv_V ad))).monitorRoom + ((r.map (mv_V ad)).map fun v => v.category).sum ≤ 8 := by
                refine lv_room ?_
                rw [mv_sum1 _ (fun v hv => by
                  obtain ⟨w, hw, rfl⟩ := List.mem_map.mp hv
                  exact mv_gv_cat (hst w (List.mem_cons_of_mem _ hw)))]
                simpa using hrl
              omega
          · refine stay ?_
            simp only [mv_cs, hlk, hsb]
            split
            · next e => exact absurd ⟨_, _, rfl⟩ hst0
            · rfl
        | some tp =>
          obtain ⟨as, k, cj, ids, nc, ns⟩ := tp
          cases hc : (decide ((st.take as.length).reverse = as) && mv_hd k (st.drop as.length) && u.2.2.2.1.isEmpty && mv_hp k cj u.2.1 && mv_fu ((ids.map fun q => q.1).filter fun a => !Nat.beq a k) (st.drop (as.length + 1)) (u.1, u.2.1.drop 1, u.2.2) && mv_fr (ids.map fun q => q.1) u.2.2.1 && !u.2.1.tail.any (fun q => Nat.beq q.1 k) && Nat.ble (u.2.2.2.2.1 + nc) T.2.2.2.2.2.1 && Nat.ble (u.2.2.2.2.2 + ns) T.2.2.2.2.2.2 && Nat.ble st.length 8) with
          | false => exact stay (by simp only [mv_cs, hlk, hsb, hc, cond])
          | true =>
            have hc' := hc
            simp only [Bool.and_eq_true] at hc'
            obtain ⟨⟨⟨⟨⟨⟨⟨⟨⟨c1, c2⟩, c3⟩, c4⟩, c5⟩, c6⟩, c7⟩, c8⟩, c9⟩, c10⟩ := hc'
            have c1 := of_decide_eq_true c1
            have c3 := List.isEmpty_iff.mp c3
            have c8 := Nat.le_of_ble_eq_true c8
            have c9 := Nat.le_of_ble_eq_true c9
            have c10 := Nat.le_of_ble_eq_true c10
            obtain ⟨r, hr⟩ : ∃ r, st.drop as.length = .inr (k, 0) :: r := by
              unfold mv_hd at c2
              split at c2
              · next a r e => exact ⟨r, by rw [e, Nat.eq_of_beq_eq_true c2]⟩
              · cases c2
            obtain ⟨pd, hpd⟩ : ∃ pd, u.2.1 = (k, cj) :: pd := by
              unfold mv_hp at c4
              split at c4
              · next a b pd e =>
                simp only [Bool.and_eq_true] at c4
                exact ⟨pd, by rw [e, Nat.eq_of_beq_eq_true c4.1, Nat.eq_of_beq_eq_true c4.2]⟩
              · cases c4
            have hr2 : st.drop (as.length + 1) = r := by
              rw [← List.drop_drop, hr]
              rfl
            have hp2 : u.2.1.drop 1 = pd := by rw [hpd]; rfl
            have hst2 : st = as.reverse ++ .inr (k, 0) :: r := by
              rw [← hr, ← c1, List.reverse_reverse, c1, List.take_append_drop]
            obtain ⟨y, by2, mL, rm, hI, rfl, rfl, r3, r4, w1, w2, w3, w4, w5, w6, w7⟩ := hsub _ _ _ _ _ _ _ _ _ hlk hsb
            have hin2 : ∀ a, a ∈ ids.map (fun q => q.1) → a ∈ mv_ks T := fun a ha => List.mem_append_right _ (List.mem_flatMap.mpr ⟨_, mv_lk_mem hsb, ha⟩)
            rw [hr2, hp2] at c5
            have hsm : st.map (mv_V ad) = (as.map (mv_V ad)).reverse ++ mv_V ad (.inr (k, 0)) :: r.map (mv_V ad) := by
              rw [hst2]
              simp
            rw [hsm]
            have hrm : ∀ v ∈ r, v ∈ st := fun v hv => by rw [hst2]; simp [hv]
            refine mv_r_init hI hBg hK hA hNS hR hE hAO hro ⟨r3, r4⟩ ⟨w1, w2, w3, w4⟩ w5 w6 hW hS hpd c3 (fun v hv => hst v (by rw [hst2]; simp [hv])) (fun h => (hks _ (hin2 _ h)).2.1 rfl) c5 c6 w7 (Nat.le_trans c8 hrc) (Nat.le_trans c9 hrs) hsz (by rw [hst2] at c10; simp at c10; omega) (fun v hv => mv_gv_cat (hst v (hrm v hv))) hdg (nx := u.2.2.2.2.1 + rm.cells) (nz := u.2.2.2.2.2 + rm.slots) (fun ad2 H1 locs1 h1 h2 h3 h4 => ?_)
            have hag : ∀ a, a ∉ ((ids.map fun q => q.1).filter fun a => !Nat.beq a k) → ∀ b, ad2 a b = ad a b := fun a ha b => by
              by_cases e : a = k
              · subst e; exact h2 b
              · refine h1 a (fun h => ha (List.mem_filter.mpr ⟨h, ?_⟩)) b
                cases h2 : Nat.beq a k with
                | false => rfl
                | true => exact absurd (Nat.eq_of_beq_eq_true h2) e
            exact go (pc2 := pc + 3) (st2 := r) (u2 := (u.1, pd, u.2.2.1 ++ ids, u.2.2.2.1, u.2.2.2.2.1 + rm.cells, u.2.2.2.2.2 + rm.slots)) (by simp only [mv_cs, hlk, hsb, hc, cond]; rw [hr2, hp2]) ad2 H1 locs1 (fun a ha b => h1 a (fun h => ha (hin2 a h)) b) h3 h4 (fun v hv => (mv_fu_st c5 hag).2 v hv (hst v (hrm v hv)))
      case iastore =>
        have hlen : len = 1 := hlen
        subst hlen
        by_cases hst0 : ∃ v x k r, st = .inl v :: .inl x :: .inr (k, 0) :: r
        · obtain ⟨v, x, k, r, rfl⟩ := hst0
          by_cases hs0 : ∃ w z, mv_sh k = some (.inl (0, w, z))
          · obtain ⟨w, z, hs⟩ := hs0
            cases hc : (decide (0 ≤ x ∧ x < w) && u.2.2.1.contains (k, 0) && Nat.blt k 990) with
            | false => exact stay (by simp only [mv_cs, hlk, hs, hc, cond])
            | true =>
              have hc' := hc
              simp only [Bool.and_eq_true] at hc'
              obtain ⟨⟨c1, c2⟩, c3⟩ := hc'
              have c1 := of_decide_eq_true c1
              have c2 : (k, 0) ∈ u.2.2.1 := List.contains_iff_mem.mp c2
              have ov := hst (.inl v) (by simp)
              have ox := hst (.inl x) (by simp)
              obtain ⟨a0, ha0⟩ := hst (.inr (k, 0)) (by simp)
              have e1 : mv_V ad (.inr (k, 0)) = .ref (mv_ra (ad k 0)) := by
                show ad k 0 = _
                have ha0 : ad k 0 = .ref a0 := ha0
                rw [ha0]; rfl
              obtain ⟨q0, hq, hgq⟩ := mv_wd_get (sh := mv_sh) (ad := ad) (cA := cA) (G := mv_Gu Gs u.2.2.2.1) c2
              have hnd : u.2.2.1.Nodup := by
                have h1 := hW.2.1.1
                rw [List.map_append] at h1
                have h2 := (List.nodup_append.mp h1).2.1
                unfold mv_wd at h2
                rw [List.map_map] at h2
                exact List.Pairwise.imp_of_mem (fun {a b} _ _ hab e => hab (by rw [e])) (List.pairwise_map.mp h2)
              have hge : (mv_ow ad k0 ci u ++ mv_wd mv_sh ad cA u.2.2.1 (mv_Gu Gs u.2.2.2.1))[(mv_ow ad k0 ci u).length + q0]? = some (mv_ra (ad k 0), .inl (cA 0, w, .inl (fun j => Int32.ofInt (mv_Gu Gs u.2.2.2.1 k 0 j)))) := by
                rw [List.getElem?_append_right (by omega), Nat.add_sub_cancel_left, hgq]
                simp only [mv_cel, hs]
              rw [List.map_cons, List.map_cons, List.map_cons, e1]
              refine va_iast hx hb hK (mv_PP_iff.mpr hW.1) (mv_DD_iff.mpr hW.2.1) hS _ 0 hge ht0 (mv_vpin ox c1) hdg (fun H1 locs1 hP1 hD1 hS1 => ?_)
              rw [mv_clamp ox c1.1, List.set_append_right _ _ (by omega), Nat.add_sub_cancel_left, mv_wd_set (j := x.toNat) (v := v) hnd hq (by simp only [mv_cel, hs, mv_upd])] at hP1 hD1
              have eG : mv_Gu Gs (u.2.2.2.1 ++ [(k, x.toNat, v)]) = mv_up (mv_Gu Gs u.2.2.2.1) k 0 x.toNat v := by
                unfold mv_Gu
                rw [List.foldl_append]
                rfl
              refine go (pc2 := pc + 1) (st2 := r) (u2 := (u.1, u.2.1, u.2.2.1, u.2.2.2.1 ++ [(k, x.toNat, v)], u.2.2.2.2)) (by simp only [mv_cs, hlk, hs, hc, cond]) ad H1 locs1 same ⟨?_, ?_, ?_, hW.2.2.2.1, hW.2.2.2.2.1, hW.2.2.2.2.2.1, hW.2.2.2.2.2.2.1, hW.2.2.2.2.2.2.2⟩ hS1 (fun w hw => hst w (by simp [hw]))
              · rw [eG]; exact mv_PP_iff.mp hP1
              · rw [eG]; exact mv_DD_iff.mp hD1
              · intro a b c
                rw [eG]
                unfold mv_up
                split
                · exact ov
                · exact hW.2.2.1 a b c
          · refine stay ?_
            simp only [mv_cs, hlk]
            split
            · next w z e => exact absurd ⟨w, z, e⟩ hs0
            · rfl
        · refine stay ?_
          simp only [mv_cs, hlk]
          split
          · next e => exact absurd ⟨_, _, _, _, rfl⟩ hst0
          · rfl
      all_goals exact stay (by simp only [mv_cs, hlk])
end MV
