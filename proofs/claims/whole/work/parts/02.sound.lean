/-! The interpreter's answers are the machine's. -/
def mv_in (x : Int) : Prop := -2147483648 ≤ x ∧ x < 2147483648
def mv_ra (v : Value) : Nat := match v with | .ref a => a | _ => 0
def mv_V (ad : Nat → Nat → Value) (v : mv_A) : Value := match v with | .inl x => .int (Int32.ofInt x) | .inr q => ad q.1 q.2
def mv_fv (ad : Nat → Nat → Value) (g : Nat → Int) (j : Nat) (r : Option Nat) : Value := match r with | none => .int (Int32.ofInt (g j)) | some t => ad t 0
def mv_fs (ad : Nat → Nat → Value) (g : Nat → Int) (fs : List (Option Nat)) : List Value := (List.range fs.length).map fun j => mv_fv ad g j (fs.getD j none)
def mv_cel (sh : Nat → Option mv_S) (ad : Nat → Nat → Value) (cA : Nat → ClassId) (G : mv_G) (k i : Nat) : Nat × va_E := (mv_ra (ad k i), match sh k, i with
  | some (.inl (0, n, _)), 0 => .inl (cA 0, n, .inl (fun j => Int32.ofInt (G k 0 j)))
  | some (.inl (1, n, _)), 0 => .inl (cA 1, n, .inl (fun j => Int32.ofInt (G k 0 j)))
  | some (.inl (2, n, _)), 0 => .inl (cA 2, n, .inl (fun j => Int32.ofInt (G k 0 j)))
  | some (.inl (3, n, _)), 0 => .inl (cA 3, n, .inr (.inr (.inr (.inr (fun j => if j < n then some (mv_ra (ad k (j + 1))) else none)))))
  | some (.inl (3, _, m)), i + 1 => .inl (cA 0, m, .inl (fun j => Int32.ofInt (G k (i + 1) j)))
  | some (.inr (ci, fs)), 0 => .inr (ci, mv_fs ad (G k 0) fs)
  | _, _ => .inr (0, []))
def mv_wd (sh : Nat → Option mv_S) (ad : Nat → Nat → Value) (cA : Nat → ClassId) (ids : List (Nat × Nat)) (G : mv_G) : va_W := ids.map fun q => mv_cel sh ad cA G q.1 q.2
theorem mv_cel_ne {sh : Nat → Option mv_S} {ad : Nat → Nat → Value} {cA : Nat → ClassId} {G : mv_G} {k i j : Nat} {v : Int} {a b : Nat} (h : ¬ (a, b) = (k, i)) : mv_cel sh ad cA (mv_up G k i j v) a b = mv_cel sh ad cA G a b := by
  have e : ∀ c, mv_up G k i j v a b c = G a b c := fun c => by
    unfold mv_up
    rw [if_neg]
    rintro ⟨h1, h2, -⟩
    exact h (by rw [h1, h2])
  have e0 : mv_up G k i j v a b = G a b := funext e
  unfold mv_cel
  split <;> simp_all
theorem mv_wd_get {sh : Nat → Option mv_S} {ad : Nat → Nat → Value} {cA : Nat → ClassId} {ids : List (Nat × Nat)} {G : mv_G} {k i : Nat} (h : (k, i) ∈ ids) : ∃ q0 : Nat, ids[q0]? = some (k, i) ∧ (mv_wd sh ad cA ids G)[q0]? = some (mv_cel sh ad cA G k i) := by
  obtain ⟨q0, hq⟩ := List.getElem?_of_mem h
  exact ⟨q0, hq, by simp [mv_wd, hq]⟩
theorem mv_wd_set {sh : Nat → Option mv_S} {ad : Nat → Nat → Value} {cA : Nat → ClassId} {ids : List (Nat × Nat)} {G : mv_G} {k i j q0 : Nat} {v : Int} (hn : ids.Nodup) (hq : ids[q0]? = some (k, i)) {x : Nat × va_E} (hx : x = mv_cel sh ad cA (mv_up G k i j v) k i) :
    (mv_wd sh ad cA ids G).set q0 x = mv_wd sh ad cA ids (mv_up G k i j v) := by
  subst hx
  refine List.ext_getElem? fun n => ?_
  by_cases e : n = q0
  · subst e
    obtain ⟨hl, hv⟩ := List.getElem?_eq_some_iff.mp hq
    simp [mv_wd, hl, hv]
  · rw [List.getElem?_set_ne (fun h => e h.symm)]
    simp only [mv_wd, List.getElem?_map]
    cases hm : ids[n]? with
    | none => rfl
    | some q =>
      obtain ⟨a, b⟩ := q
      show some (mv_cel sh ad cA G a b) = some (mv_cel sh ad cA (mv_up G k i j v) a b)
      rw [mv_cel_ne]
      rintro hab
      rw [hab] at hm
      exact e ((List.getElem?_inj (List.getElem?_eq_some_iff.mp hm).1 hn).mp (hm.trans hq.symm))
theorem mv_fs_len {ad : Nat → Nat → Value} {g : Nat → Int} {fs : List (Option Nat)} : (mv_fs ad g fs).length = fs.length := by simp [mv_fs]
theorem mv_fs_get {ad : Nat → Nat → Value} {g : Nat → Int} {fs : List (Option Nat)} {j : Nat} {r : Option Nat} (h : fs[j]? = some r) : (mv_fs ad g fs)[j]? = some (mv_fv ad g j r) := by
  obtain ⟨hl, hv⟩ := List.getElem?_eq_some_iff.mp h
  simp [mv_fs, hl, hv]
theorem mv_fs_set {ad : Nat → Nat → Value} {G : mv_G} {k : Nat} {fs : List (Option Nat)} {j : Nat} {v : Int} (h : fs[j]? = some none) : (mv_fs ad (G k 0) fs).set j (.int (Int32.ofInt v)) = mv_fs ad (mv_up G k 0 j v k 0) fs := by
  refine List.ext_getElem? fun n => ?_
  by_cases e : n = j
  · subst e
    obtain ⟨hl, hv⟩ := List.getElem?_eq_some_iff.mp h
    rw [List.getElem?_set_self (by rw [mv_fs_len]; exact hl), mv_fs_get h]
    simp [mv_fv, mv_up]
  · rw [List.getElem?_set_ne (fun h => e h.symm)]
    cases hm : fs[n]? with
    | none =>
      rw [List.getElem?_eq_none (by rw [mv_fs_len]; exact List.getElem?_eq_none_iff.mp hm), List.getElem?_eq_none (by rw [mv_fs_len]; exact List.getElem?_eq_none_iff.mp hm)]
    | some r =>
      rw [mv_fs_get hm, mv_fs_get hm]
      cases r <;> simp [mv_fv, mv_up, e]
theorem mv_toInt {x : Int} (h : mv_in x) : (Int32.ofInt x).toInt = x := Int32.toInt_ofInt_of_le h.1 h.2
theorem mv_clamp {x : Int} (h : mv_in x) (h0 : 0 ≤ x) : (Int32.ofInt x).toNatClampNeg = x.toNat := by
  rw [← Int32.toNat_toInt, mv_toInt h]
theorem mv_vpin {x : Int} {n : Nat} (h : mv_in x) (h0 : 0 ≤ x ∧ x < n) : vp_in (Int32.ofInt x) n := by
  rw [vp_in_iff, mv_toInt h]
  exact h0
theorem mv_w_in (x : Int) : mv_in (mv_w x) := by
  have h1 := Int.le_bmod (x := x) (m := 4294967296) (by decide)
  have h2 := Int.bmod_lt (x := x) (m := 4294967296) (by decide)
  unfold mv_w mv_in
  omega
theorem mv_w_of (x : Int) : Int32.ofInt (mv_w x) = Int32.ofInt x := by
  apply Int32.toInt_inj.mp
  simp [mv_w, Int32.toInt_ofInt, Int.bmod_bmod]
theorem mv_lt {x y : Int} (hx : mv_in x) (hy : mv_in y) : Int32.ofInt x < Int32.ofInt y ↔ x < y := by
  rw [Int32.lt_iff_toInt_lt, mv_toInt hx, mv_toInt hy]
theorem mv_eq {x y : Int} (hx : mv_in x) (hy : mv_in y) : Int32.ofInt x = Int32.ofInt y ↔ x = y := by
  rw [← Int32.toInt_inj, mv_toInt hx, mv_toInt hy]
theorem mv_ii (x : Int32) : mv_in x.toInt := ⟨Int32.le_toInt x, Int32.toInt_lt x⟩

section MV
variable {p : Program} {l : Launch} {e : Env} {R : Room} {s : State} {m : MethodId} {args : Array Value} {below : List Frame} {meth : Method} {c : Code} {cells slots : Nat} {Q : State → Prop}
variable {cc : ByteArray} {nL : Nat} {sh : Nat → Option mv_S} {ids ros : List (Nat × Nat)} {ad : Nat → Nat → Value} {cA : Nat → ClassId} {cl : List vw_C} {D : va_G} {tys : List (ClassId × FieldType)} {A : Nat → Prop} {rc : mv_G} {M : mv_M}
def mv_ty (t : Nat) : FieldType := match t with | 0 => .int | 1 => .boolean | 2 => .byte | _ => .array .int
/-- what is fixed of a world: kinds of arrays, addresses; cells from 1000 on are only read; 990 .. 999 are references that nobody follows -/
def mv_Fix (sh : Nat → Option mv_S) (ids ros : List (Nat × Nat)) (ad : Nat → Nat → Value) (cA : Nat → ClassId) (tys : List (ClassId × FieldType)) (A : Nat → Prop) (rc : mv_G) : Prop :=
  (∀ k i t n w, (k, i) ∈ ids ++ ros → sh k = some (.inl (t, n, w)) → n < 2147483648 ∧ w < 2147483648 ∧ (Nat.ble 1000 k = false → tys[t]? = some (cA t, mv_ty t) ∧ (t = 3 → tys[0]? = some (cA 0, .int) ∧ ∀ i, i < n → (k, i + 1) ∈ ids))) ∧
  (∀ k ci fs, (k, 0) ∈ ids ++ ros → sh k = some (.inr (ci, fs)) → ∀ (j t : Nat), fs[j]? = some (some t) → (t, 0) ∈ ids ++ ros) ∧
  (∀ q ∈ ids ++ ros, ∃ a, ad q.1 q.2 = .ref a) ∧ (∀ k i, (ad k i).category = 1) ∧ ids.Nodup ∧ (∀ q ∈ ids, A (mv_ra (ad q.1 q.2)) ∧ Nat.ble 1000 q.1 = false) ∧ (∀ q ∈ ros, Nat.ble 1000 q.1 = true ∧ q.2 = 0) ∧ (∀ k i j, mv_in (rc k i j)) ∧ (∀ k, Nat.ble 990 k = true → Nat.ble 1000 k = false → sh k = none)
def mv_okV (ids ros : List (Nat × Nat)) (v : mv_A) : Prop := match v with | .inl x => mv_in x | .inr q => q ∈ ids ++ ros ∨ (Nat.ble 990 q.1 = true ∧ Nat.ble 1000 q.1 = false)
/-- the names of a class of cells that are only read: its own, its fields' and their types' -/
abbrev mv_R : Type := Nat → String × (Nat → String × String)
/-- the cells that are only read -/
def mv_RO (sh : Nat → Option mv_S) (ros : List (Nat × Nat)) (ad : Nat → Nat → Value) (A : Nat → Prop) (rc : mv_G) (cr : mv_R) (s : State) : Prop := ∀ k, (k, 0) ∈ ros → match sh k with
  | some (.inl (0, n, _)) => va_T .int (mv_ra (ad k 0)) n (fun j => .int (Int32.ofInt (rc k 0 j))) A s s.heap
  | some (.inl (2, n, _)) => va_T .byte (mv_ra (ad k 0)) n (fun j => .int (Int32.ofInt (rc k 0 j))) A s s.heap
  | some (.inr (ci, fs)) => va_O (cr ci).1 (mv_ra (ad k 0)) A s s.heap ∧ ∀ (j : Nat) (r : Option Nat), fs[j]? = some r → va_OF (cr ci).1 ((cr ci).2 j).1 ((cr ci).2 j).2 (mv_fv ad (rc k 0) j r) (mv_ra (ad k 0)) A s s.heap
  | _ => True
/-- the world, with the contents G -/
def mv_Wd (sh : Nat → Option mv_S) (ids : List (Nat × Nat)) (ad : Nat → Nat → Value) (cA : Nat → ClassId) (cl : List vw_C) (D : va_G) (A : Nat → Prop) (G : mv_G) (H : Heap) : Prop :=
  va_P D cl (mv_wd sh ad cA ids G) H ∧ va_D A (mv_wd sh ad cA ids G) ∧ ∀ k i j, mv_in (G k i j)
/-- the locals -/
def mv_LR (ids ros : List (Nat × Nat)) (ad : Nat → Nat → Value) (nL : Nat) (ls : mv_L) (lsC : Array Slot) : Prop :=
  ls.length = nL ∧ lsC.size = nL ∧ lv_wf lsC ∧ ∀ (i : Nat) (v : mv_A), ls[i]? = some (some v) → lsC[i]? = some (.val (mv_V ad v)) ∧ mv_okV ids ros v
theorem mv_okcat {v : mv_A} (hF : mv_Fix sh ids ros ad cA tys A rc) : (mv_V ad v).category = 1 := by
  cases v with
  | inl x => rfl
  | inr q => exact hF.2.2.2.1 _ _
theorem mv_getcell {G : mv_G} {H : Heap} {k i : Nat} (hF : mv_Fix sh ids ros ad cA tys A rc) (hW : mv_Wd sh ids ad cA cl D A G H) (h : (k, i) ∈ ids ++ ros) (hb : Nat.ble 1000 k = false) :
    ∃ q0 : Nat, ids[q0]? = some (k, i) ∧ (mv_wd sh ad cA ids G)[q0]? = some (mv_cel sh ad cA G k i) := by
  rcases List.mem_append.mp h with h | h
  · exact mv_wd_get h
  · exact absurd ((hF.2.2.2.2.2.2.1 _ h).1.symm.trans hb) (by decide)
theorem mv_getro {k i : Nat} (hF : mv_Fix sh ids ros ad cA tys A rc) (h : (k, i) ∈ ids ++ ros) (hb : Nat.ble 1000 k = true) : (k, 0) ∈ ros ∧ i = 0 := by
  rcases List.mem_append.mp h with h | h
  · exact absurd ((hF.2.2.2.2.2.1 _ h).2.symm.trans hb) (by decide)
  · have := (hF.2.2.2.2.2.2.1 _ h).2
    dsimp only at this
    subst this
    exact ⟨h, rfl⟩
theorem mv_rd_rw {G : mv_G} {k : Nat} (hb : Nat.ble 1000 k = false) : mv_rd rc G k = G k := by funext a b; simp [mv_rd, hb]
theorem mv_rd_ro {G : mv_G} {k : Nat} (hb : Nat.ble 1000 k = true) : mv_rd rc G k = rc k := by funext a b; simp [mv_rd, hb]
theorem mv_LR_set {ls : mv_L} {lsC ls' : Array Slot} {k : Nat} {v : mv_A} {lv : List (Nat × Value)} (hF : mv_Fix sh ids ros ad cA tys A rc) (h : mv_LR ids ros ad nL ls lsC) (hv : mv_okV ids ros v) (hlv : ∀ i w, ls[i]? = some (some w) → (i, mv_V ad w) ∈ lv)
    (h' : lv_has ls' nL ((k, mv_V ad v) :: lv.filter (fun q => !(q.1 == k) && !(q.1 + 1 == k && q.2.category == 2)))) : mv_LR ids ros ad nL (ls.set k (some v)) ls' := by
  refine ⟨by rw [List.length_set]; exact h.1, h'.1, h'.2.1, fun i w hi => ?_⟩
  by_cases e : i = k
  · subst e
    have hl : i < ls.length := by
      have := (List.getElem?_eq_some_iff.mp hi).1
      rwa [List.length_set] at this
    rw [List.getElem?_set_self hl] at hi
    cases hi
    exact ⟨h'.2.2 _ List.mem_cons_self, hv⟩
  · rw [List.getElem?_set_ne (fun q => e q.symm)] at hi
    refine ⟨h'.2.2 (i, mv_V ad w) (List.mem_cons_of_mem _ (List.mem_filter.mpr ⟨hlv i w hi, ?_⟩)), (h.2.2.2 i w hi).2⟩
    simp [e, mv_okcat hF]
def mv_ll (ad : Nat → Nat → Value) (ls : mv_L) : List (Nat × Value) := (List.range ls.length).filterMap fun i => match ls[i]? with | some (some v) => some (i, mv_V ad v) | _ => none
theorem mv_ll_mem {ls : mv_L} {i : Nat} {w : mv_A} (h : ls[i]? = some (some w)) : (i, mv_V ad w) ∈ mv_ll ad ls := by
  refine List.mem_filterMap.mpr ⟨i, List.mem_range.mpr (List.getElem?_eq_some_iff.mp h).1, ?_⟩
  rw [h]
theorem mv_ll_has {ls : mv_L} {lsC : Array Slot} (h : mv_LR ids ros ad nL ls lsC) : lv_has lsC nL (mv_ll ad ls) := by
  refine ⟨h.2.1, h.2.2.1, fun q hq => ?_⟩
  obtain ⟨i, -, hi⟩ := List.mem_filterMap.mp hq
  split at hi
  · next v hv =>
    cases hi
    exact (h.2.2.2 i v hv).1
  · cases hi
end MV
