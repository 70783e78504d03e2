/-! Words by their places; what a program decides of a method's tables. -/
def mv_Ts : List Cond := lw_tbl.filter goodWord
theorem mv_good : ∀ w ∈ mv_Ts, goodWord w = true := fun _ h => (List.mem_filter.mp h).2
theorem mv_T (i : Nat) {w : Cond} (h : lw_tbl[i]? = some w) (hg : goodWord w = true) : w ∈ mv_Ts := List.mem_filter.mpr ⟨List.mem_of_getElem? h, hg⟩
theorem mv_Td {i : Nat} {w : Cond} (h : (decide (lw_tbl[i]? = some w) && goodWord w) = true) : w ∈ mv_Ts := by
  simp only [Bool.and_eq_true, decide_eq_true_eq] at h
  exact mv_T i h.1 h.2
def mv_wd1 (i : Nat) (w : Cond) : Bool := decide (lw_tbl[i]? = some w) && goodWord w
/-- fields: place, then the row -/
def mv_fk (own : String) (l : List (Nat × Nat × Nat × Nat × Nat)) : Bool := l.all fun x =>
  bif Nat.ble 100 x.2.2.1 then mv_wd1 x.1 (.fieldLink own x.2.1 (mv_cr x.2.2.1).1 ((mv_cr x.2.2.1).2 x.2.2.2.1).1 ((mv_cr x.2.2.1).2 x.2.2.2.1).2)
  else match mv_cl[x.2.2.1]? with
    | some q => decide (x.2.2.2.1 < q.2.2) && mv_wd1 x.1 (.fieldLink own x.2.1 (q.2.1 x.2.2.2.1).1 (q.2.1 x.2.2.2.1).2.1 (q.2.1 x.2.2.2.1).2.2.1) &&
      (Nat.ble 2 x.2.2.2.2 || (!(q.2.1 x.2.2.2.1).2.2.2 && decide (parseFieldDescriptor (q.2.1 x.2.2.2.1).2.2.1 = some (if x.2.2.2.2 = 1 then .boolean else .int))))
    | none => false
theorem mv_fk_ok {own : String} {l : List (Nat × Nat × Nat × Nat × Nat)} (h : mv_fk own l = true) : ∀ x ∈ l.map (fun x => x.2), (Nat.ble 100 x.2.1 = true → Cond.fieldLink own x.1 (mv_cr x.2.1).1 ((mv_cr x.2.1).2 x.2.2.1).1 ((mv_cr x.2.1).2 x.2.2.1).2 ∈ mv_Ts) ∧ (Nat.ble 100 x.2.1 = false → ∃ q : vw_C, mv_cl[x.2.1]? = some q ∧ x.2.2.1 < q.2.2 ∧ Cond.fieldLink own x.1 (q.2.1 x.2.2.1).1 (q.2.1 x.2.2.1).2.1 (q.2.1 x.2.2.1).2.2.1 ∈ mv_Ts ∧
      (x.2.2.2 = 0 ∨ x.2.2.2 = 1 → (q.2.1 x.2.2.1).2.2.2 = false ∧ parseFieldDescriptor (q.2.1 x.2.2.1).2.2.1 = some (if x.2.2.2 = 1 then .boolean else .int))) := by
  intro x hx
  obtain ⟨y, hy, rfl⟩ := List.mem_map.mp hx
  have h1 := List.all_eq_true.mp h y hy
  refine ⟨fun h2 => ?_, fun h2 => ?_⟩
  · rw [h2] at h1
    exact mv_Td h1
  · rw [h2] at h1
    dsimp only [cond] at h1
    split at h1
    · next q hq =>
      simp only [Bool.and_eq_true, decide_eq_true_eq, Bool.or_eq_true, Bool.not_eq_true'] at h1
      refine ⟨q, hq, h1.1.1, mv_Td h1.1.2, fun h3 => ?_⟩
      rcases h1.2 with h4 | h4
      · have := Nat.le_of_ble_eq_true h4
        omega
      · exact h4
    · cases h1
def mv_dk (cc : ByteArray) (l : List (Nat × Instr × Nat)) : Bool := l.all fun x => decide (decode cc x.1 = .ok (x.2.1, x.2.2)) && mv_iok x.1 x.2.1 x.2.2
theorem mv_dk_ok {cc : ByteArray} {l : List (Nat × Instr × Nat)} (h : mv_dk cc l = true) : ∀ x ∈ l, decode cc x.1 = .ok (x.2.1, x.2.2) ∧ mv_iok x.1 x.2.1 x.2.2 = true := fun x hx => by
  have h1 := List.all_eq_true.mp h x hx
  simp only [Bool.and_eq_true, decide_eq_true_eq] at h1
  exact h1
def mv_isr (i : Instr) : Bool := match i with | .ireturn => true | _ => false
def mv_isv (i : Instr) : Bool := match i with | .return_ => true | _ => false
theorem mv_rzV {M : mv_M} (h : M.1.all (fun x => !mv_isr x.2.1) = true) : mv_rz true none M := ⟨rfl, fun x hx e => by
  have := List.all_eq_true.mp h x hx
  rw [e] at this
  cases this⟩
theorem mv_rz_no {M : mv_M} (h : M.1.all (fun x => !mv_isv x.2.1) = true) : ∀ x ∈ M.1, x.2.1 ≠ .return_ := fun x hx e => by
  have := List.all_eq_true.mp h x hx
  rw [e] at this
  cases this
theorem mv_rzI {M : mv_M} (h : M.1.all (fun x => !mv_isv x.2.1) = true) : mv_rz false (some .int) M := ⟨⟨.int, rfl, fun _ _ _ => rfl⟩, mv_rz_no h⟩
theorem mv_rzZ {M : mv_M} (h : M.1.all (fun x => !mv_isv x.2.1) = true) (hb : M.2.2.2.2.2.2 = some (0, 1)) : mv_rz false (some .boolean) M := ⟨⟨.boolean, rfl, fun v _ hv => by
  obtain ⟨h1, h2⟩ := hv _ _ hb
  rcases (show v = 0 ∨ v = 1 by omega) with rfl | rfl <;> rfl⟩, mv_rz_no h⟩
theorem mv_rzB {M : mv_M} (h : M.1.all (fun x => !mv_isv x.2.1) = true) (hb : M.2.2.2.2.2.2 = some (-128, 127)) : mv_rz false (some .byte) M := ⟨⟨.byte, rfl, fun v hin hv => by
  obtain ⟨h1, h2⟩ := hv _ _ hb
  show Value.int (Int32.ofInt v).toInt8.toInt32 = _
  congr 1
  apply Int32.toInt_inj.mp
  rw [Int8.toInt_toInt32, Int32.toInt_toInt8, mv_toInt hin]
  rw [Int.bmod_def]
  split <;> omega⟩, mv_rz_no h⟩
theorem mv_rzC {M : mv_M} (h : M.1.all (fun x => !mv_isv x.2.1) = true) (hb : M.2.2.2.2.2.2 = some (0, 65535)) : mv_rz false (some .char) M := ⟨⟨.char, rfl, fun v hin hv => by
  obtain ⟨h1, h2⟩ := hv _ _ hb
  show Value.int (vp_nar .char (Int32.ofInt v)) = _
  congr 1
  rw [vp_nar_char]
  obtain ⟨n, rfl⟩ := Int.eq_ofNat_of_zero_le h1
  have e : (Int32.ofInt (n : Int)).toUInt32 = UInt32.ofNat n := by
    apply UInt32.toNat_inj.mp
    rfl
  rw [e]
  have e2 : (UInt32.ofNat n).toUInt16.toUInt32 = UInt32.ofNat n := by
    apply UInt32.toNat_inj.mp
    simp only [UInt16.toNat_toUInt32, UInt32.toNat_toUInt16, UInt32.toNat_ofNat']
    omega
  rw [e2, ← e]
  rfl⟩, mv_rz_no h⟩
/-- a call's words -/
def mv_cwk (own : String) (idx : Nat) (y : MethodName) (rv : Option Nat) (n : Nat) (a b c d : Nat) : Bool := mv_wd1 a (.methodLink own idx y) && mv_wd1 b (.initialized y.cls) &&
  (match rv with
    | some ci => mv_wd1 c (.instanceMethod y) && mv_wd1 d (.selects y.cls y y) && (bif Nat.ble 100 ci then decide ((mv_cr ci).1 = y.cls) else (match mv_cl[ci]? with | some q => decide (q.1 = y.cls) | none => false)) && decide ((parseMethodDescriptor y.desc).map (fun d => d.parameters.length) = some (n - 1))
    | none => mv_wd1 c (.static y) && decide ((parseMethodDescriptor y.desc).map (fun d => d.parameters.length) = some n)) &&
  decide (y.cls ≠ "java/lang/invoke/MethodHandle") && decide (y.cls ≠ "java/lang/invoke/VarHandle")
/-- all that a call needs beside the contract -/
def mv_Cw (own : String) (idx : Nat) (y : MethodName) (by2 : ByteArray) (mL : Nat) (ret : Option FieldType) (rv : Option Nat) (n : Nat) : Prop :=
  (Cond.code y by2 mL ret ∈ mv_Ts ∧ Cond.methodLink own idx y ∈ mv_Ts ∧ Cond.initialized y.cls ∈ mv_Ts ∧ (∀ ci, rv = some ci → Cond.instanceMethod y ∈ mv_Ts ∧ Cond.selects y.cls y y ∈ mv_Ts) ∧ (rv = none → Cond.static y ∈ mv_Ts)) ∧
  (y.cls ≠ "java/lang/invoke/MethodHandle" ∧ y.cls ≠ "java/lang/invoke/VarHandle" ∧ (parseMethodDescriptor y.desc).map (fun d => d.parameters.length) = some (match rv with | some _ => n - 1 | none => n)) ∧
  (∀ ci, rv = some ci → (Nat.ble 100 ci = true → (mv_cr ci).1 = y.cls) ∧ (Nat.ble 100 ci = false → ∃ q : vw_C, mv_cl[ci]? = some q ∧ q.1 = y.cls))
theorem mv_cw_of {own : String} {idx : Nat} {y : MethodName} {by2 : ByteArray} {mL : Nat} {ret : Option FieldType} {rv : Option Nat} {n a b c d : Nat} (hc : Cond.code y by2 mL ret ∈ mv_Ts) (h : mv_cwk own idx y rv n a b c d = true) : mv_Cw own idx y by2 mL ret rv n := by
  unfold mv_cwk at h
  simp only [Bool.and_eq_true, decide_eq_true_eq] at h
  obtain ⟨⟨⟨⟨h1, h2⟩, h3⟩, h4⟩, h5⟩ := h
  cases rv with
  | none =>
    simp only [Bool.and_eq_true, decide_eq_true_eq] at h3
    exact ⟨⟨hc, mv_Td h1, mv_Td h2, fun ci e => (by cases e), fun _ => mv_Td h3.1⟩, ⟨h4, h5, h3.2⟩, fun ci e => by cases e⟩
  | some ci =>
    simp only [Bool.and_eq_true, decide_eq_true_eq] at h3
    obtain ⟨⟨⟨h6, h7⟩, h8⟩, h9⟩ := h3
    refine ⟨⟨hc, mv_Td h1, mv_Td h2, fun ci e => ⟨mv_Td h6, mv_Td h7⟩, fun e => (by cases e)⟩, ⟨h4, h5, h9⟩, fun cj e => ?_⟩
    cases e
    refine ⟨fun hb => ?_, fun hb => ?_⟩
    · rw [hb] at h8
      exact of_decide_eq_true h8
    · rw [hb] at h8
      dsimp only [cond] at h8
      split at h8
      · next q hq => exact ⟨q, hq, of_decide_eq_true h8⟩
      · cases h8
def mv_rm (d : Nat) : Room := { frames := d, cells := 0, slots := 0, locals := 64 * d }
theorem mv_ups {C : String} {T : u_T} {N : Nat} (pl : List Nat) (h : (Nat.beq pl.length N && ((List.range N).zip pl).all (fun q => mv_wd1 q.2 (u_lay C T q.1))) = true) : ∀ w ∈ u_ws C T N, w ∈ mv_Ts := by
  simp only [Bool.and_eq_true] at h
  have hl := Nat.eq_of_beq_eq_true h.1
  intro w hw
  obtain ⟨k, hk, rfl⟩ := List.mem_map.mp hw
  have hk := List.mem_range.mp hk
  have h2 := List.all_eq_true.mp h.2 (k, pl[k]) (List.mem_of_getElem? (i := k) (by rw [List.getElem?_zip_eq_some]; exact ⟨List.getElem?_range hk, List.getElem?_eq_getElem (by omega)⟩))
  exact mv_Td h2
