/-! What a program decides of a constructor's tables. -/
def mv_dk2 (cc : ByteArray) (l : List (Nat × Instr × Nat)) : Bool := l.all fun x => decide (decode cc x.1 = .ok (x.2.1, x.2.2)) && mv_ik x.2.1 x.2.2
theorem mv_dk2_ok {cc : ByteArray} {l : List (Nat × Instr × Nat)} (h : mv_dk2 cc l = true) : ∀ x ∈ l, decode cc x.1 = .ok (x.2.1, x.2.2) ∧ mv_ik x.2.1 x.2.2 = true := fun x hx => by
  have h1 := List.all_eq_true.mp h x hx
  simp only [Bool.and_eq_true, decide_eq_true_eq] at h1
  exact h1
def mv_rt (t : Option FieldType) : Bool := match t with | some (.object _) => true | some (.array _) => true | _ => false
theorem mv_rt_ok {t : Option FieldType} (h : mv_rt t = true) : ∃ ty, t = some ty ∧ (∀ a, narrow ty (.ref a) = .ref a) ∧ ∀ a, fits ty (.ref a) = true := by
  unfold mv_rt at h
  split at h
  · exact ⟨_, rfl, fun _ => rfl, fun _ => rfl⟩
  · exact ⟨_, rfl, fun _ => rfl, fun _ => rfl⟩
  · cases h
/-- own fields: place, then the row -/
def mv_fk2 (own : String) (q : vw_C) (l : List (Nat × Nat × Nat × Nat)) : Bool := l.all fun x => decide (x.2.2.1 < q.2.2) && mv_wd1 x.1 (.fieldLink own x.2.1 (q.2.1 x.2.2.1).1 (q.2.1 x.2.2.1).2.1 (q.2.1 x.2.2.1).2.2.1) &&
  (!Nat.beq x.2.2.2 0 || (!(q.2.1 x.2.2.1).2.2.2 && decide (parseFieldDescriptor (q.2.1 x.2.2.1).2.2.1 = some .int))) && (!Nat.beq x.2.2.2 1 || ((q.2.1 x.2.2.1).2.2.2 && decide ((q.2.1 x.2.2.1).1 = own) && mv_rt (parseFieldDescriptor (q.2.1 x.2.2.1).2.2.1)))
theorem mv_fk2_ok {own : String} {q : vw_C} {l : List (Nat × Nat × Nat × Nat)} (h : mv_fk2 own q l = true) : ∀ x ∈ l.map (fun x => x.2), x.2.1 < q.2.2 ∧ Cond.fieldLink own x.1 (q.2.1 x.2.1).1 (q.2.1 x.2.1).2.1 (q.2.1 x.2.1).2.2.1 ∈ mv_Ts ∧ (x.2.2 = 0 → (q.2.1 x.2.1).2.2.2 = false ∧ parseFieldDescriptor (q.2.1 x.2.1).2.2.1 = some .int) ∧
    (x.2.2 = 1 → (q.2.1 x.2.1).2.2.2 = true ∧ (q.2.1 x.2.1).1 = own ∧ ∃ ty, parseFieldDescriptor (q.2.1 x.2.1).2.2.1 = some ty ∧ (∀ a, narrow ty (.ref a) = .ref a) ∧ ∀ a, fits ty (.ref a) = true) := by
  intro x hx
  obtain ⟨y, hy, rfl⟩ := List.mem_map.mp hx
  have h1 := List.all_eq_true.mp h y hy
  simp only [Bool.and_eq_true, decide_eq_true_eq, Bool.or_eq_true, Bool.not_eq_true'] at h1
  obtain ⟨⟨⟨h1, h2⟩, h3⟩, h4⟩ := h1
  refine ⟨h1, mv_Td h2, fun e => ?_, fun e => ?_⟩
  · rcases h3 with h3 | h3
    · rw [e] at h3; cases h3
    · exact h3
  · rcases h4 with h4 | h4
    · rw [e] at h4; cases h4
    · exact ⟨h4.1.1, h4.1.2, mv_rt_ok h4.2⟩
def mv_pt (t : Option FieldType) : Bool := match t with | some .int => true | some .boolean => true | some (.object _) => true | some (.array _) => true | _ => false
theorem mv_pts : mv_cl.all (fun q => (List.range q.2.2).all fun j => mv_pt (parseFieldDescriptor (q.2.1 j).2.2.1)) = true := by decide +kernel
theorem mv_nf_len {cj : Nat} {q : vw_C} (hq : mv_cl[cj]? = some q) : (mv_nf cj).length = q.2.2 := by
  unfold mv_nf
  rw [hq]
  simp
theorem mv_nf_def {cj : Nat} {q : vw_C} (hq : mv_cl[cj]? = some q) : ∃ ty0 : Nat → FieldType, (∀ j, j < q.2.2 → parseFieldDescriptor (q.2.1 j).2.2.1 = some (ty0 j)) ∧ ∀ (ad : Nat → Nat → Value) j, j < q.2.2 → defaultValue (ty0 j) = vp_V ((mv_nf cj).map (mv_Vo ad)) j := by
  obtain ⟨ty0, h0⟩ := (mv_clok cj q hq).2.1
  refine ⟨ty0, h0, fun ad j hj => ?_⟩
  have h1 := List.all_eq_true.mp mv_pts q (List.mem_of_getElem? hq)
  have h2 := List.all_eq_true.mp h1 j (List.mem_range.mpr hj)
  unfold vp_V mv_nf
  rw [hq, List.getD_eq_getElem?_getD]
  simp only [List.getElem?_map, List.getElem?_range hj, Option.map_some, Option.getD_some]
  rw [h0 j hj] at h2 ⊢
  cases hty : ty0 j <;> rw [hty] at h2 <;> first | rfl | (cases h2)
/-- what is made where: pc to the places of its words -/
def mv_nk (own : String) (T : mv_TT) (pl : List (Nat × Nat × Nat × Nat)) : Bool := T.2.2.1.all fun x => match mv_lk T.1 x.1 with
  | some (.new idx, _) => (match mv_sh x.2 with
    | some (.inr (cj, _)) => (match mv_cl[cj]?, mv_lk pl x.1 with
      | some q, some (a, b, c) => mv_wd1 a (.classLink own idx q.1) && mv_wd1 b (.instantiable q.1 q.2.2) && mv_wd1 c (.initialized q.1)
      | _, _ => false)
    | _ => false)
  | _ => true
theorem mv_nk_ok {own : String} {T : mv_TT} {pl : List (Nat × Nat × Nat × Nat)} (h : mv_nk own T pl = true) : ∀ pc idx len k cj fs, mv_lk T.1 pc = some (.new idx, len) → mv_lk T.2.2.1 pc = some k → mv_sh k = some (.inr (cj, fs)) → ∃ q : vw_C, mv_cl[cj]? = some q ∧ Cond.classLink own idx q.1 ∈ mv_Ts ∧ Cond.instantiable q.1 q.2.2 ∈ mv_Ts ∧ Cond.initialized q.1 ∈ mv_Ts ∧ (∃ ty0 : Nat → FieldType, (∀ j, j < q.2.2 → parseFieldDescriptor (q.2.1 j).2.2.1 = some (ty0 j)) ∧ ∀ (ad : Nat → Nat → Value) j, j < q.2.2 → defaultValue (ty0 j) = vp_V ((mv_nf cj).map (mv_Vo ad)) j) ∧ (mv_nf cj).length = q.2.2 := by
  intro pc idx len k cj fs h1 h2 h3
  have h4 := List.all_eq_true.mp h _ (mv_lk_mem h2)
  simp only [h1, h3] at h4
  split at h4
  · next q a b c hq hp =>
    simp only [Bool.and_eq_true] at h4
    exact ⟨q, hq, mv_Td h4.1.1, mv_Td h4.1.2, mv_Td h4.2, mv_nf_def hq, mv_nf_len hq⟩
  · cases h4
/-- Object's constructor, grids and statics -/
def mv_ok2 (own : String) (T : mv_TT) (a b c d : Nat) : Bool := T.1.all fun x => match x.2.1 with
  | .invokespecial idx => (mv_lk T.2.2.2.1 x.1).isSome || (mv_wd1 a (.methodLink own idx Lib.objectInit) && mv_wd1 b (.instanceMethod Lib.objectInit) && mv_wd1 c (.code Lib.objectInit ⟨#[0xb1]⟩ 1 none))
  | .multianewarray idx n => Nat.beq n 2 && mv_wd1 d (.classLink own idx ("[" ++ (FieldType.array .int).toString))
  | .getstatic idx => decide (own = "MoveUp$Bench") && Nat.beq idx 21
  | _ => true
theorem mv_ok2_a {own : String} {T : mv_TT} {a b c d : Nat} (h : mv_ok2 own T a b c d = true) : ∀ pc idx len, mv_lk T.1 pc = some (.invokespecial idx, len) → mv_lk T.2.2.2.1 pc = none → Cond.methodLink own idx Lib.objectInit ∈ mv_Ts ∧ Cond.instanceMethod Lib.objectInit ∈ mv_Ts ∧ Cond.code Lib.objectInit ⟨#[0xb1]⟩ 1 none ∈ mv_Ts := by
  intro pc idx len h1 h2
  have h3 := List.all_eq_true.mp h _ (mv_lk_mem h1)
  simp only [h2, Option.isSome_none, Bool.false_or, Bool.and_eq_true] at h3
  exact ⟨mv_Td h3.1.1, mv_Td h3.1.2, mv_Td h3.2⟩
theorem mv_ok2_m {own : String} {T : mv_TT} {a b c d : Nat} (h : mv_ok2 own T a b c d = true) : ∀ pc idx n len, mv_lk T.1 pc = some (.multianewarray idx n, len) → n = 2 ∧ Cond.classLink own idx ("[" ++ (FieldType.array .int).toString) ∈ mv_Ts := by
  intro pc idx n len h1
  have h3 := List.all_eq_true.mp h _ (mv_lk_mem h1)
  simp only [Bool.and_eq_true] at h3
  exact ⟨Nat.eq_of_beq_eq_true h3.1, mv_Td h3.2⟩
theorem mv_ok2_g {own : String} {T : mv_TT} {a b c d : Nat} (h : mv_ok2 own T a b c d = true) : ∀ pc idx len, mv_lk T.1 pc = some (.getstatic idx, len) → Cond.fieldLinkNest own idx "MoveUp" "MOST" "[I" "MoveUp" ∈ mv_nsl := by
  intro pc idx len h1
  have h3 := List.all_eq_true.mp h _ (mv_lk_mem h1)
  simp only [Bool.and_eq_true, decide_eq_true_eq] at h3
  rw [h3.1, Nat.eq_of_beq_eq_true h3.2]
  exact List.mem_cons_self
