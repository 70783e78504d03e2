section
/-! An interpreter of the methods' bytecode over a fixed world of cells, in Int: its answers are shown once to be the machine's (part 02). -/
abbrev mv_A : Type := Int ⊕ (Nat × Nat)
abbrev mv_G : Type := Nat → Nat → Nat → Int
/-- a cell: an array (kind: 0 int, 1 boolean, 2 byte, 3 rows of ints; length; length of a row), or an object (class, its fields: none a number, some k the cell k) -/
abbrev mv_S : Type := (Nat × Nat × Nat) ⊕ (Nat × List (Option Nat))
abbrev mv_L : Type := List (Option mv_A)
abbrev mv_F : Type := List mv_A → mv_G → Option (Int × mv_G)
abbrev mv_O : Type := (Int × mv_G) ⊕ (Nat × mv_L × mv_G)
/-- code; fields (class, slot; 0 a number, 1 a boolean, 2 never written); constants; statics; calls (how many arguments, receiver's class, no answer, what it does); cuts (which locals are kept); the bounds of the answer -/
abbrev mv_M : Type := List (Nat × Instr × Nat) × List (Nat × Nat × Nat × Nat) × List (Nat × mv_A) × List (Nat × mv_A) × List (Nat × Nat × Option Nat × Bool × mv_F) × List (Nat × List Bool) × Option (Int × Int)
def mv_lk {α : Type} : List (Nat × α) → Nat → Option α
  | [], _ => none
  | (k, v) :: l, x => bif Nat.beq k x then some v else mv_lk l x
def mv_w (x : Int) : Int := Int.bmod x 4294967296
def mv_and (x y : Int) : Int := (Int32.ofInt x &&& Int32.ofInt y).toInt
def mv_or (x y : Int) : Int := (Int32.ofInt x ||| Int32.ofInt y).toInt
def mv_xor (x y : Int) : Int := (Int32.ofInt x ^^^ Int32.ofInt y).toInt
def mv_shl (x y : Int) : Int := (Int32.ofInt x <<< (Int32.ofInt y &&& 31)).toInt
def mv_shr (x y : Int) : Int := (Int32.ofInt x >>> (Int32.ofInt y &&& 31)).toInt
def mv_ushr (x y : Int) : Int := (((Int32.ofInt x).toUInt32 >>> ((Int32.ofInt y).toUInt32 &&& Int32.toUInt32 31)).toInt32).toInt
def mv_i2c (x : Int) : Int := (((Int32.ofInt x).toUInt32 % 65536).toInt32).toInt
def mv_up (G : mv_G) (k i j : Nat) (v : Int) : mv_G := fun a b c => if a = k ∧ b = i ∧ c = j then v else G a b c
def mv_cmp (c : ClassFile.Cond) (x y : Int) : Bool := match c with
  | .eq => decide (x = y)
  | .ne => decide (¬ x = y)
  | .lt => decide (x < y)
  | .ge => decide (¬ x < y)
  | .gt => decide (y < x)
  | .le => decide (¬ y < x)
def mv_if (c : ClassFile.Cond) (x y : Int) (a b : Option mv_O) : Option mv_O := match c with
  | .eq => if x = y then a else b
  | .ne => if x = y then b else a
  | .lt => if x < y then a else b
  | .ge => if x < y then b else a
  | .gt => if y < x then a else b
  | .le => if y < x then b else a
def mv_op (i : Instr) (st : List mv_A) : Option (List mv_A) := match i with
  | .iconst n => some (.inl n :: st)
  | .bipush n => some (.inl n :: st)
  | .sipush n => some (.inl n :: st)
  | .iadd => match st with | .inl y :: .inl x :: r => some (.inl (mv_w (x + y)) :: r) | _ => none
  | .isub => match st with | .inl y :: .inl x :: r => some (.inl (mv_w (x - y)) :: r) | _ => none
  | .imul => match st with | .inl y :: .inl x :: r => some (.inl (mv_w (x * y)) :: r) | _ => none
  | .iand => match st with | .inl y :: .inl x :: r => some (.inl (mv_and x y) :: r) | _ => none
  | .ior => match st with | .inl y :: .inl x :: r => some (.inl (mv_or x y) :: r) | _ => none
  | .ixor => match st with | .inl y :: .inl x :: r => some (.inl (mv_xor x y) :: r) | _ => none
  | .ishl => match st with | .inl y :: .inl x :: r => some (.inl (mv_shl x y) :: r) | _ => none
  | .ishr => match st with | .inl y :: .inl x :: r => some (.inl (mv_shr x y) :: r) | _ => none
  | .iushr => match st with | .inl y :: .inl x :: r => some (.inl (mv_ushr x y) :: r) | _ => none
  | .ineg => match st with | .inl x :: r => some (.inl (mv_w (-x)) :: r) | _ => none
  | .i2c => match st with | .inl x :: r => some (.inl (mv_i2c x) :: r) | _ => none
  | .dup => match st with | v :: r => some (v :: v :: r) | _ => none
  | .dup2 => match st with | v :: w :: r => some (v :: w :: v :: w :: r) | _ => none
  | .pop => match st with | _ :: r => some r | _ => none
  | _ => none
abbrev mv_K : Type := Nat → mv_L → List mv_A → mv_G → Option mv_O
def mv_tg (pc : Nat) (off : Int) : Nat := ((pc : Int) + off).toNat
def mv_ldi (K : mv_K) (ls : mv_L) (k : Nat) (pc : Nat) (st : List mv_A) (G : mv_G) : Option mv_O := match ls[k]? with
  | some (some (.inl x)) => K pc ls (.inl x :: st) G
  | _ => none
def mv_lda (K : mv_K) (ls : mv_L) (k : Nat) (pc : Nat) (st : List mv_A) (G : mv_G) : Option mv_O := match ls[k]? with
  | some (some (.inr q)) => bif Nat.ble 990 q.1 then none else K pc ls (.inr q :: st) G
  | _ => none
def mv_sti (K : mv_K) (ls : mv_L) (k : Nat) (pc : Nat) (st : List mv_A) (G : mv_G) : Option mv_O := match ls[k]?, st with
  | some _, .inl x :: r => K pc (ls.set k (some (.inl x))) r G
  | _, _ => none
def mv_sta (K : mv_K) (ls : mv_L) (k : Nat) (pc : Nat) (st : List mv_A) (G : mv_G) : Option mv_O := match ls[k]?, st with
  | some _, .inr q :: r => bif Nat.ble 990 q.1 then none else K pc (ls.set k (some (.inr q))) r G
  | _, _ => none
def mv_lks (K : Nat → Option mv_O) (pc : Nat) (x dflt : Int) : List (Int × Int) → Option mv_O
  | [] => K (mv_tg pc dflt)
  | (a, t) :: l => if x = a then K (mv_tg pc t) else mv_lks K pc x dflt l
def mv_tbs (K : Nat → Option mv_O) (pc : Nat) (x dflt : Int) : Int → List Int → Option mv_O
  | _, [] => K (mv_tg pc dflt)
  | a, t :: l => if x = a then K (mv_tg pc t) else mv_tbs K pc x dflt (a + 1) l
def mv_inb (x : Int) (n : Nat) : Prop := 0 ≤ x ∧ x < n
def mv_ck (x : Int) (n : Nat) (a : Option mv_O) : Option mv_O := if 0 ≤ x ∧ x < n then a else none
def mv_cn (o : Option (Int × mv_G)) (k : Int → mv_G → Option mv_O) : Option mv_O := match o with
  | some (r, G) => k r G
  | none => none
def mv_call (K : mv_K) (n : Nat) (rc : Option Nat) (vo : Bool) (f : mv_F) (sh : Nat → Option mv_S) (pc : Nat) (ls : mv_L) (st : List mv_A) (G : mv_G) : Option mv_O :=
  bif Nat.ble n st.length && Nat.ble (st.length - n) 8 && (match rc, (st.take n).reverse with
    | none, _ => true
    | some ci, .inr (k, 0) :: _ => (match sh k with | some (.inr (ci', _)) => Nat.beq ci ci' | _ => false)
    | _, _ => false) then
    mv_cn (f (st.take n).reverse G) fun r G' => K (pc + 3) ls (bif vo then st.drop n else .inl r :: st.drop n) G'
  else none
def mv_rd (rc : mv_G) (G : mv_G) : mv_G := fun k i j => bif Nat.ble 1000 k then rc k i j else G k i j
def mv_step (rc : mv_G) (M : mv_M) (sh : Nat → Option mv_S) (K : mv_K) (pc : Nat) (ls : mv_L) (st : List mv_A) (G : mv_G) : Option mv_O :=
  match mv_lk M.1 pc with
  | none => none
  | some (i, len) => match i with
    | .iload k => mv_ldi K ls k (pc + len) st G
    | .aload k => mv_lda K ls k (pc + len) st G
    | .iload_n k => mv_ldi K ls k.val (pc + len) st G
    | .aload_n k => mv_lda K ls k.val (pc + len) st G
    | .istore k => mv_sti K ls k (pc + len) st G
    | .astore k => mv_sta K ls k (pc + len) st G
    | .istore_n k => mv_sti K ls k.val (pc + len) st G
    | .astore_n k => mv_sta K ls k.val (pc + len) st G
    | .iinc k n => match ls[k]? with
      | some (some (.inl x)) => K (pc + len) (ls.set k (some (.inl (mv_w (x + n))))) st G
      | _ => none
    | .ldc x => match mv_lk M.2.2.1 x with | some v => K (pc + len) ls (v :: st) G | none => none
    | .ldc_w x => match mv_lk M.2.2.1 x with | some v => K (pc + len) ls (v :: st) G | none => none
    | .getstatic x => match mv_lk M.2.2.2.1 x with | some v => K (pc + len) ls (v :: st) G | none => none
    | .idiv => match st with | .inl y :: .inl x :: r => if y = 0 then none else K (pc + len) ls (.inl (mv_w (Int.tdiv x y)) :: r) G | _ => none
    | .irem => match st with | .inl y :: .inl x :: r => if y = 0 then none else K (pc + len) ls (.inl (mv_w (Int.tmod x y)) :: r) G | _ => none
    | .getfield x => match st with
      | .inr (k, 0) :: r => match sh k, mv_lk M.2.1 x with
        | some (.inr (ci, fs)), some (ci', j, _) => bif Nat.beq ci ci' then (match fs[j]? with
          | some none => K (pc + len) ls (.inl (mv_rd rc G k 0 j) :: r) G
          | some (some t) => K (pc + len) ls (.inr (t, 0) :: r) G
          | none => none) else none
        | _, _ => none
      | _ => none
    | .putfield x => match st with
      | .inl v :: .inr (k, 0) :: r => match sh k, mv_lk M.2.1 x with
        | some (.inr (ci, fs)), some (ci', j, z) => bif Nat.beq ci ci' then (match fs[j]? with
          | some none => bif Nat.ble 1000 k then none else (match z with | 0 => K (pc + len) ls r (mv_up G k 0 j v) | 1 => mv_ck v 2 (K (pc + len) ls r (mv_up G k 0 j v)) | _ => none)
          | _ => none) else none
        | _, _ => none
      | _ => none
    | .arraylength => match st with
      | .inr (k, i) :: r => match sh k, i with
        | some (.inl (0, n, _)), 0 => K (pc + len) ls (.inl (n : Int) :: r) G
        | some (.inl (2, n, _)), 0 => K (pc + len) ls (.inl (n : Int) :: r) G
        | some (.inl (3, n, _)), 0 => K (pc + len) ls (.inl (n : Int) :: r) G
        | some (.inl (3, _, m)), _ + 1 => K (pc + len) ls (.inl (m : Int) :: r) G
        | _, _ => none
      | _ => none
    | .iaload => match st with
      | .inl x :: .inr (k, i) :: r => match sh k, i with
        | some (.inl (0, n, _)), 0 => mv_ck x n (K (pc + len) ls (.inl (mv_rd rc G k 0 x.toNat) :: r) G)
        | some (.inl (3, _, m)), i + 1 => mv_ck x m (K (pc + len) ls (.inl (mv_rd rc G k (i + 1) x.toNat) :: r) G)
        | _, _ => none
      | _ => none
    | .iastore => match st with
      | .inl v :: .inl x :: .inr (k, i) :: r => match sh k, i with
        | some (.inl (0, n, _)), 0 => bif Nat.ble 1000 k then none else mv_ck x n (K (pc + len) ls r (mv_up G k 0 x.toNat v))
        | some (.inl (3, _, m)), i + 1 => bif Nat.ble 1000 k then none else mv_ck x m (K (pc + len) ls r (mv_up G k (i + 1) x.toNat v))
        | _, _ => none
      | _ => none
    | .baload => match st with
      | .inl x :: .inr (k, 0) :: r => match sh k with
        | some (.inl (1, n, _)) => mv_ck x n (K (pc + len) ls (.inl (mv_rd rc G k 0 x.toNat) :: r) G)
        | some (.inl (2, n, _)) => mv_ck x n (K (pc + len) ls (.inl (mv_rd rc G k 0 x.toNat) :: r) G)
        | _ => none
      | _ => none
    | .bastore => match st with
      | .inl v :: .inl x :: .inr (k, 0) :: r => match sh k with
        | some (.inl (1, n, _)) => bif Nat.ble 1000 k then none else mv_ck x n (mv_ck v 2 (K (pc + len) ls r (mv_up G k 0 x.toNat v)))
        | _ => none
      | _ => none
    | .aaload => match st with
      | .inl x :: .inr (k, 0) :: r => match sh k with
        | some (.inl (3, n, _)) => mv_ck x n (K (pc + len) ls (.inr (k, x.toNat + 1) :: r) G)
        | _ => none
      | _ => none
    | .goto off => K (mv_tg pc off) ls st G
    | .ifCond c off => match st with
      | .inl x :: r => mv_if c x 0 (K (mv_tg pc off) ls r G) (K (pc + len) ls r G)
      | _ => none
    | .if_icmp c off => match st with
      | .inl y :: .inl x :: r => mv_if c x y (K (mv_tg pc off) ls r G) (K (pc + len) ls r G)
      | _ => none
    | .lookupswitch d ps => match st with
      | .inl x :: r => mv_lks (fun t => K t ls r G) pc x d ps.toList
      | _ => none
    | .tableswitch d lo _ ofs => match st with
      | .inl x :: r => mv_tbs (fun t => K t ls r G) pc x d lo ofs.toList
      | _ => none
    | .invokevirtual x => match mv_lk M.2.2.2.2.1 x with
      | some (n, some ci, vo, f) => mv_call K n (some ci) vo f sh pc ls st G
      | _ => none
    | .invokestatic x => match mv_lk M.2.2.2.2.1 x with
      | some (n, none, vo, f) => mv_call K n none vo f sh pc ls st G
      | _ => none
    | .ireturn => match st, M.2.2.2.2.2.2 with
      | [.inl v], none => some (.inl (v, G))
      | [.inl v], some (lo, hi) => if lo ≤ v ∧ v ≤ hi then some (.inl (v, G)) else none
      | _, _ => none
    | .return_ => match st with
      | [] => some (.inl (0, G))
      | _ => none
    | i => match mv_op i st with
      | some r => K (pc + len) ls r G
      | none => none
def mv_msk : List Bool → mv_L → mv_L
  | true :: b, v :: l => v :: mv_msk b l
  | false :: b, _ :: l => none :: mv_msk b l
  | [], ls => ls
  | _, [] => []
def mv_nx (M : mv_M) (K : mv_K) : mv_K := fun pc ls st G => match mv_lk M.2.2.2.2.2.1 pc with
  | none => K pc ls st G
  | some mq => match st with
    | [] => some (.inr (pc, mv_msk mq ls, G))
    | _ => none
def mv_rg (rc : mv_G) (M : mv_M) (sh : Nat → Option mv_S) : Nat → mv_K
  | 0 => fun _ _ _ _ => none
  | n + 1 => fun pc ls st G => mv_step rc M sh (mv_nx M (mv_rg rc M sh n)) pc ls st G
end
section
/-! The interpreter's answers are the machine's. -/
def mv_in (x : Int) : Prop := -2147483648 ≤ x ∧ x < 2147483648
def mv_ra (v : Value) : Nat := match v with | .ref a => a | _ => 0
def mv_V (ad : Nat → Nat → Value) (v : mv_A) : Value := match v with | .inl x => .int (Int32.ofInt x) | .inr q => ad q.1 q.2
def mv_fv (ad : Nat → Nat → Value) (g : Nat → Int) (j : Nat) (r : Option Nat) : Value := match r with | none => .int (Int32.ofInt (g j)) | some t => ad t 0
def mv_fs (ad : Nat → Nat → Value) (g : Nat → Int) (fs : List (Option Nat)) : List Value := (List.range fs.length).map fun j => mv_fv ad g j (fs.getD j none)
def mv_cel (sh : Nat → Option mv_S) (ad : Nat → Nat → Value) (cA : Nat → ClassId) (G : mv_G) (k i : Nat) : Nat × va_E := (mv_ra (ad k i), match sh k, i with
  | some (.inl (0, n, _)), 0 => .inl (cA 0, n, .inl (fun j => Int32.ofInt (G k 0 j)))
  | some (.inl (1, n, _)), 0 => .inl (cA 1, n, .inl (fun j => Int32.ofInt (G k 0 j)))
  | some (.inl (2, n, _)), 0 => .inl (cA 2, n, .inl (fun j => Int32.ofInt (G k 0 j)))
  | some (.inl (3, n, _)), 0 => .inl (cA 3, n, .inr (.inr (.inr (.inr (fun j => if j < n then some (mv_ra (ad k (j + 1))) else none)))))
  | some (.inl (3, _, m)), i + 1 => .inl (cA 0, m, .inl (fun j => Int32.ofInt (G k (i + 1) j)))
  | some (.inr (ci, fs)), 0 => .inr (ci, mv_fs ad (G k 0) fs)
  | _, _ => .inr (0, []))
def mv_wd (sh : Nat → Option mv_S) (ad : Nat → Nat → Value) (cA : Nat → ClassId) (ids : List (Nat × Nat)) (G : mv_G) : va_W := ids.map fun q => mv_cel sh ad cA G q.1 q.2
theorem mv_cel_ne {sh : Nat → Option mv_S} {ad : Nat → Nat → Value} {cA : Nat → ClassId} {G : mv_G} {k i j : Nat} {v : Int} {a b : Nat} (h : ¬ (a, b) = (k, i)) : mv_cel sh ad cA (mv_up G k i j v) a b = mv_cel sh ad cA G a b := by
  have e : ∀ c, mv_up G k i j v a b c = G a b c := fun c => by
    unfold mv_up
    rw [if_neg]
    rintro ⟨h1, h2, -⟩
    exact h (by rw [h1, h2])
  have e0 : mv_up G k i j v a b = G a b := funext e
  unfold mv_cel
  split <;> simp_all
theorem mv_wd_get {sh : Nat → Option mv_S} {ad : Nat → Nat → Value} {cA : Nat → ClassId} {ids : List (Nat × Nat)} {G : mv_G} {k i : Nat} (h : (k, i) ∈ ids) : ∃ q0 : Nat, ids[q0]? = some (k, i) ∧ (mv_wd sh ad cA ids G)[q0]? = some (mv_cel sh ad cA G k i) := by
  obtain ⟨q0, hq⟩ := List.getElem?_of_mem h
  exact ⟨q0, hq, by simp [mv_wd, hq]⟩
theorem mv_wd_set {sh : Nat → Option mv_S} {ad : Nat → Nat → Value} {cA : Nat → ClassId} {ids : List (Nat × Nat)} {G : mv_G} {k i j q0 : Nat} {v : Int} (hn : ids.Nodup) (hq : ids[q0]? = some (k, i)) {x : Nat × va_E} (hx : x = mv_cel sh ad cA (mv_up G k i j v) k i) :
    (mv_wd sh ad cA ids G).set q0 x = mv_wd sh ad cA ids (mv_up G k i j v) := by
  subst hx
  refine List.ext_getElem? fun n => ?_
  by_cases e : n = q0
  · subst e
    obtain ⟨hl, hv⟩ := List.getElem?_eq_some_iff.mp hq
    simp [mv_wd, hl, hv]
  · rw [List.getElem?_set_ne (fun h => e h.symm)]
    simp only [mv_wd, List.getElem?_map]
    cases hm : ids[n]? with
    | none => rfl
    | some q =>
      obtain ⟨a, b⟩ := q
      show some (mv_cel sh ad cA G a b) = some (mv_cel sh ad cA (mv_up G k i j v) a b)
      rw [mv_cel_ne]
      rintro hab
      rw [hab] at hm
      exact e ((List.getElem?_inj (List.getElem?_eq_some_iff.mp hm).1 hn).mp (hm.trans hq.symm))
theorem mv_fs_len {ad : Nat → Nat → Value} {g : Nat → Int} {fs : List (Option Nat)} : (mv_fs ad g fs).length = fs.length := by simp [mv_fs]
theorem mv_fs_get {ad : Nat → Nat → Value} {g : Nat → Int} {fs : List (Option Nat)} {j : Nat} {r : Option Nat} (h : fs[j]? = some r) : (mv_fs ad g fs)[j]? = some (mv_fv ad g j r) := by
  obtain ⟨hl, hv⟩ := List.getElem?_eq_some_iff.mp h
  simp [mv_fs, hl, hv]
theorem mv_fs_set {ad : Nat → Nat → Value} {G : mv_G} {k : Nat} {fs : List (Option Nat)} {j : Nat} {v : Int} (h : fs[j]? = some none) : (mv_fs ad (G k 0) fs).set j (.int (Int32.ofInt v)) = mv_fs ad (mv_up G k 0 j v k 0) fs := by
  refine List.ext_getElem? fun n => ?_
  by_cases e : n = j
  · subst e
    obtain ⟨hl, hv⟩ := List.getElem?_eq_some_iff.mp h
    rw [List.getElem?_set_self (by rw [mv_fs_len]; exact hl), mv_fs_get h]
    simp [mv_fv, mv_up]
  · rw [List.getElem?_set_ne (fun h => e h.symm)]
    cases hm : fs[n]? with
    | none =>
      rw [List.getElem?_eq_none (by rw [mv_fs_len]; exact List.getElem?_eq_none_iff.mp hm), List.getElem?_eq_none (by rw [mv_fs_len]; exact List.getElem?_eq_none_iff.mp hm)]
    | some r =>
      rw [mv_fs_get hm, mv_fs_get hm]
      cases r <;> simp [mv_fv, mv_up, e]
theorem mv_toInt {x : Int} (h : mv_in x) : (Int32.ofInt x).toInt = x := Int32.toInt_ofInt_of_le h.1 h.2
theorem mv_clamp {x : Int} (h : mv_in x) (h0 : 0 ≤ x) : (Int32.ofInt x).toNatClampNeg = x.toNat := by
  rw [← Int32.toNat_toInt, mv_toInt h]
theorem mv_vpin {x : Int} {n : Nat} (h : mv_in x) (h0 : 0 ≤ x ∧ x < n) : vp_in (Int32.ofInt x) n := by
  rw [vp_in_iff, mv_toInt h]
  exact h0
theorem mv_w_in (x : Int) : mv_in (mv_w x) := by
  have h1 := Int.le_bmod (x := x) (m := 4294967296) (by decide)
  have h2 := Int.bmod_lt (x := x) (m := 4294967296) (by decide)
  unfold mv_w mv_in
  omega
theorem mv_w_of (x : Int) : Int32.ofInt (mv_w x) = Int32.ofInt x := by
  apply Int32.toInt_inj.mp
  simp [mv_w, Int32.toInt_ofInt, Int.bmod_bmod]
theorem mv_lt {x y : Int} (hx : mv_in x) (hy : mv_in y) : Int32.ofInt x < Int32.ofInt y ↔ x < y := by
  rw [Int32.lt_iff_toInt_lt, mv_toInt hx, mv_toInt hy]
theorem mv_eq {x y : Int} (hx : mv_in x) (hy : mv_in y) : Int32.ofInt x = Int32.ofInt y ↔ x = y := by
  rw [← Int32.toInt_inj, mv_toInt hx, mv_toInt hy]
theorem mv_ii (x : Int32) : mv_in x.toInt := ⟨Int32.le_toInt x, Int32.toInt_lt x⟩

section MV
variable {p : Program} {l : Launch} {e : Env} {R : Room} {s : State} {m : MethodId} {args : Array Value} {below : List Frame} {meth : Method} {c : Code} {cells slots : Nat} {Q : State → Prop}
variable {cc : ByteArray} {nL : Nat} {sh : Nat → Option mv_S} {ids ros : List (Nat × Nat)} {ad : Nat → Nat → Value} {cA : Nat → ClassId} {cl : List vw_C} {D : va_G} {tys : List (ClassId × FieldType)} {A : Nat → Prop} {rc : mv_G} {M : mv_M}
def mv_ty (t : Nat) : FieldType := match t with | 0 => .int | 1 => .boolean | 2 => .byte | _ => .array .int
/-- what is fixed of a world: kinds of arrays, addresses; cells from 1000 on are only read; 990 .. 999 are references that nobody follows -/
def mv_Fix (sh : Nat → Option mv_S) (ids ros : List (Nat × Nat)) (ad : Nat → Nat → Value) (cA : Nat → ClassId) (tys : List (ClassId × FieldType)) (A : Nat → Prop) (rc : mv_G) : Prop :=
  (∀ k t n w, sh k = some (.inl (t, n, w)) → n < 2147483648 ∧ w < 2147483648 ∧ (Nat.ble 1000 k = false → tys[t]? = some (cA t, mv_ty t) ∧ (t = 3 → tys[0]? = some (cA 0, .int) ∧ ∀ i, i < n → (k, i + 1) ∈ ids))) ∧
  (∀ k ci fs, sh k = some (.inr (ci, fs)) → ∀ (j t : Nat), fs[j]? = some (some t) → (t, 0) ∈ ids ++ ros) ∧
  (∀ q ∈ ids ++ ros, ∃ a, ad q.1 q.2 = .ref a) ∧ (∀ k i, (ad k i).category = 1) ∧ ids.Nodup ∧ (∀ q ∈ ids, A (mv_ra (ad q.1 q.2)) ∧ Nat.ble 1000 q.1 = false) ∧ (∀ q ∈ ros, Nat.ble 1000 q.1 = true ∧ q.2 = 0) ∧ (∀ k i j, mv_in (rc k i j)) ∧ (∀ k, Nat.ble 990 k = true → Nat.ble 1000 k = false → sh k = none)
def mv_okV (ids ros : List (Nat × Nat)) (v : mv_A) : Prop := match v with | .inl x => mv_in x | .inr q => q ∈ ids ++ ros ∨ (Nat.ble 990 q.1 = true ∧ Nat.ble 1000 q.1 = false)
/-- the names of a class of cells that are only read: its own, its fields' and their types' -/
abbrev mv_R : Type := Nat → String × (Nat → String × String)
/-- the cells that are only read -/
def mv_RO (sh : Nat → Option mv_S) (ros : List (Nat × Nat)) (ad : Nat → Nat → Value) (A : Nat → Prop) (rc : mv_G) (cr : mv_R) (s : State) : Prop := ∀ k, (k, 0) ∈ ros → match sh k with
  | some (.inl (0, n, _)) => va_T .int (mv_ra (ad k 0)) n (fun j => .int (Int32.ofInt (rc k 0 j))) A s s.heap
  | some (.inl (2, n, _)) => va_T .byte (mv_ra (ad k 0)) n (fun j => .int (Int32.ofInt (rc k 0 j))) A s s.heap
  | some (.inr (ci, fs)) => va_O (cr ci).1 (mv_ra (ad k 0)) A s s.heap ∧ ∀ (j : Nat) (r : Option Nat), fs[j]? = some r → va_OF (cr ci).1 ((cr ci).2 j).1 ((cr ci).2 j).2 (mv_fv ad (rc k 0) j r) (mv_ra (ad k 0)) A s s.heap
  | _ => True
/-- the world, with the contents G -/
def mv_Wd (sh : Nat → Option mv_S) (ids : List (Nat × Nat)) (ad : Nat → Nat → Value) (cA : Nat → ClassId) (cl : List vw_C) (D : va_G) (A : Nat → Prop) (G : mv_G) (H : Heap) : Prop :=
  va_P D cl (mv_wd sh ad cA ids G) H ∧ va_D A (mv_wd sh ad cA ids G) ∧ ∀ k i j, mv_in (G k i j)
/-- the locals -/
def mv_LR (ids ros : List (Nat × Nat)) (ad : Nat → Nat → Value) (nL : Nat) (ls : mv_L) (lsC : Array Slot) : Prop :=
  ls.length = nL ∧ lsC.size = nL ∧ lv_wf lsC ∧ ∀ (i : Nat) (v : mv_A), ls[i]? = some (some v) → lsC[i]? = some (.val (mv_V ad v)) ∧ mv_okV ids ros v
theorem mv_okcat {v : mv_A} (hF : mv_Fix sh ids ros ad cA tys A rc) : (mv_V ad v).category = 1 := by
  cases v with
  | inl x => rfl
  | inr q => exact hF.2.2.2.1 _ _
theorem mv_getcell {G : mv_G} {H : Heap} {k i : Nat} (hF : mv_Fix sh ids ros ad cA tys A rc) (hW : mv_Wd sh ids ad cA cl D A G H) (h : (k, i) ∈ ids ++ ros) (hb : Nat.ble 1000 k = false) :
    ∃ q0 : Nat, ids[q0]? = some (k, i) ∧ (mv_wd sh ad cA ids G)[q0]? = some (mv_cel sh ad cA G k i) := by
  rcases List.mem_append.mp h with h | h
  · exact mv_wd_get h
  · exact absurd ((hF.2.2.2.2.2.2.1 _ h).1.symm.trans hb) (by decide)
theorem mv_getro {k i : Nat} (hF : mv_Fix sh ids ros ad cA tys A rc) (h : (k, i) ∈ ids ++ ros) (hb : Nat.ble 1000 k = true) : (k, 0) ∈ ros ∧ i = 0 := by
  rcases List.mem_append.mp h with h | h
  · exact absurd ((hF.2.2.2.2.2.1 _ h).2.symm.trans hb) (by decide)
  · have := (hF.2.2.2.2.2.2.1 _ h).2
    dsimp only at this
    subst this
    exact ⟨h, rfl⟩
theorem mv_rd_rw {G : mv_G} {k : Nat} (hb : Nat.ble 1000 k = false) : mv_rd rc G k = G k := by funext a b; simp [mv_rd, hb]
theorem mv_rd_ro {G : mv_G} {k : Nat} (hb : Nat.ble 1000 k = true) : mv_rd rc G k = rc k := by funext a b; simp [mv_rd, hb]
theorem mv_LR_set {ls : mv_L} {lsC ls' : Array Slot} {k : Nat} {v : mv_A} {lv : List (Nat × Value)} (hF : mv_Fix sh ids ros ad cA tys A rc) (h : mv_LR ids ros ad nL ls lsC) (hv : mv_okV ids ros v) (hlv : ∀ i w, ls[i]? = some (some w) → (i, mv_V ad w) ∈ lv)
    (h' : lv_has ls' nL ((k, mv_V ad v) :: lv.filter (fun q => !(q.1 == k) && !(q.1 + 1 == k && q.2.category == 2)))) : mv_LR ids ros ad nL (ls.set k (some v)) ls' := by
  refine ⟨by rw [List.length_set]; exact h.1, h'.1, h'.2.1, fun i w hi => ?_⟩
  by_cases e : i = k
  · subst e
    have hl : i < ls.length := by
      have := (List.getElem?_eq_some_iff.mp hi).1
      rwa [List.length_set] at this
    rw [List.getElem?_set_self hl] at hi
    cases hi
    exact ⟨h'.2.2 _ List.mem_cons_self, hv⟩
  · rw [List.getElem?_set_ne (fun q => e q.symm)] at hi
    refine ⟨h'.2.2 (i, mv_V ad w) (List.mem_cons_of_mem _ (List.mem_filter.mpr ⟨hlv i w hi, ?_⟩)), (h.2.2.2 i w hi).2⟩
    simp [e, mv_okcat hF]
def mv_ll (ad : Nat → Nat → Value) (ls : mv_L) : List (Nat × Value) := (List.range ls.length).filterMap fun i => match ls[i]? with | some (some v) => some (i, mv_V ad v) | _ => none
theorem mv_ll_mem {ls : mv_L} {i : Nat} {w : mv_A} (h : ls[i]? = some (some w)) : (i, mv_V ad w) ∈ mv_ll ad ls := by
  refine List.mem_filterMap.mpr ⟨i, List.mem_range.mpr (List.getElem?_eq_some_iff.mp h).1, ?_⟩
  rw [h]
theorem mv_ll_has {ls : mv_L} {lsC : Array Slot} (h : mv_LR ids ros ad nL ls lsC) : lv_has lsC nL (mv_ll ad ls) := by
  refine ⟨h.2.1, h.2.2.1, fun q hq => ?_⟩
  obtain ⟨i, -, hi⟩ := List.mem_filterMap.mp hq
  split at hi
  · next v hv =>
    cases hi
    exact (h.2.2.2 i v hv).1
  · cases hi
end MV
end
section
/-! One step of the interpreter is one of the machine. -/
section MV
variable {p : Program} {l : Launch} {e : Env} {R : Room} {s : State} {m : MethodId} {args : Array Value} {below : List Frame} {meth : Method} {c : Code} {cells slots : Nat} {Q : State → Prop}
variable {cc : ByteArray} {nL : Nat} {sh : Nat → Option mv_S} {ids ros : List (Nat × Nat)} {ad : Nat → Nat → Value} {cA : Nat → ClassId} {cl : List vw_C} {D : va_G} {tys : List (ClassId × FieldType)} {A : Nat → Prop} {rc : mv_G} {M : mv_M}
/-- what an outcome leaves to be shown -/
def mv_Fin (p : Program) (l : Launch) (e : Env) (R : Room) (s : State) (m : MethodId) (args : Array Value) (below : List Frame) (meth : Method) (c : Code) (cells slots : Nat) (Q : State → Prop) (cc : ByteArray) (nL : Nat) (sh : Nat → Option mv_S) (ids ros : List (Nat × Nat)) (ad : Nat → Nat → Value) (cA : Nat → ClassId) (cl : List vw_C) (D : va_G) (A : Nat → Prop) (M : mv_M) (out : mv_O) : Prop := match out with
  | .inl (v, G) => ∀ (H : Heap) (locs : List Loc) (lsC : Array Slot) (pc : Nat), mv_Wd sh ids ad cA cl D A G H → va_S A s.heap H locs →
      (mv_in v → (∀ lo hi, M.2.2.2.2.2.2 = some (lo, hi) → lo ≤ v ∧ v ≤ hi) → (pc, Instr.ireturn, 1) ∈ M.1 → decode cc pc = .ok (.ireturn, 1) → W p l e R s m args below meth c H locs cells slots Q (F0 m pc lsC [.int (Int32.ofInt v)])) ∧ (v = 0 → (pc, Instr.return_, 1) ∈ M.1 → decode cc pc = .ok (.return_, 1) → W p l e R s m args below meth c H locs cells slots Q (F0 m pc lsC []))
  | .inr (pc, ls, G) => ∀ (H : Heap) (locs : List Loc) (lsC : Array Slot), mv_Wd sh ids ad cA cl D A G H → va_S A s.heap H locs → mv_LR ids ros ad nL ls lsC → W p l e R s m args below meth c H locs cells slots Q (F0 m pc lsC [])
/-- from this state of the interpreter on -/
def mv_Snd (p : Program) (l : Launch) (e : Env) (R : Room) (s : State) (m : MethodId) (args : Array Value) (below : List Frame) (meth : Method) (c : Code) (cells slots : Nat) (Q : State → Prop) (cc : ByteArray) (nL : Nat) (sh : Nat → Option mv_S) (ids ros : List (Nat × Nat)) (ad : Nat → Nat → Value) (cA : Nat → ClassId) (cl : List vw_C) (D : va_G) (A : Nat → Prop) (M : mv_M) (pc : Nat) (ls : mv_L) (st : List mv_A) (G : mv_G) (o : Option mv_O) : Prop :=
  ∀ out, o = some out → mv_Fin p l e R s m args below meth c cells slots Q cc nL sh ids ros ad cA cl D A M out → ∀ (H : Heap) (locs : List Loc) (lsC : Array Slot), mv_Wd sh ids ad cA cl D A G H → va_S A s.heap H locs → mv_LR ids ros ad nL ls lsC → (∀ v ∈ st, mv_okV ids ros v) → W p l e R s m args below meth c H locs cells slots Q (F0 m pc lsC (st.map (mv_V ad)))
def mv_len (i : Instr) : Nat := match i with
  | .iload _ | .aload _ | .istore _ | .astore _ | .bipush _ | .ldc _ => 2
  | .sipush _ | .iinc _ _ | .ldc_w _ | .getstatic _ | .getfield _ | .putfield _ | .goto _ | .ifCond _ _ | .if_icmp _ _ | .invokevirtual _ | .invokestatic _ => 3
  | _ => 1
/-- what a program decides of a row of code -/
def mv_iok (pc : Nat) (i : Instr) (len : Nat) : Bool := match i with
  | .bipush n => decide (-128 ≤ n ∧ n < 128) && Nat.beq len 2
  | .sipush n => decide (-32768 ≤ n ∧ n < 32768) && Nat.beq len 3
  | .iconst n => decide (-128 ≤ n ∧ n < 128) && Nat.beq len 1
  | .iinc _ n => decide (-32768 ≤ n ∧ n < 32768) && Nat.beq len 3
  | .goto off | .ifCond _ off | .if_icmp _ off => decide (0 ≤ (pc : Int) + off) && Nat.beq len 3
  | .lookupswitch d ps => decide (0 ≤ (pc : Int) + d) && ps.toList.all (fun q => decide (0 ≤ (pc : Int) + q.2)) && (ps.toList.zip (ps.toList.drop 1)).all (fun (a, next) => a.1 < next.1)
  | .tableswitch d lo hi ofs => decide (0 ≤ (pc : Int) + d) && ofs.toList.all (fun q => decide (0 ≤ (pc : Int) + q)) && decide (hi = lo + ofs.toList.length - 1)
  | i => Nat.beq len (mv_len i)
def mv_inv (rv : Option Nat) (idx : Nat) : Instr := match rv with | some _ => .invokevirtual idx | none => .invokestatic idx
/-- a call's contract, as a rule of the walk -/
def mv_Cal (p : Program) (l : Launch) (e : Env) (R : Room) (s : State) (m : MethodId) (args : Array Value) (below : List Frame) (meth : Method) (c : Code) (cells slots : Nat) (Q : State → Prop) (cc : ByteArray) (nL : Nat) (sh : Nat → Option mv_S) (ids ros : List (Nat × Nat)) (ad : Nat → Nat → Value) (cA : Nat → ClassId) (cl : List vw_C) (D : va_G) (A : Nat → Prop) (idx n : Nat) (rv : Option Nat) (vo : Bool) (f : mv_F) : Prop :=
  ∀ (pc : Nat) (lsC : Array Slot) (as : List mv_A) (rest : List Value) (G G' : mv_G) (r : Int) (H : Heap) (locs : List Loc), lsC.size = nL →
    decode cc pc = .ok (mv_inv rv idx, 3) → as.length = n → (∀ v ∈ as, mv_okV ids ros v) → (∀ ci, rv = some ci → ∃ k as' fs, as = .inr (k, 0) :: as' ∧ (k, 0) ∈ ids ++ ros ∧ sh k = some (.inr (ci, fs))) →
    rest.length ≤ 8 → (∀ v ∈ rest, v.category = 1) → f as G = some (r, G') → mv_Wd sh ids ad cA cl D A G H → va_S A s.heap H locs →
    (∀ (H1 : Heap) (locs1 : List Loc), mv_Wd sh ids ad cA cl D A G' H1 → va_S A s.heap H1 locs1 → (vo = false → mv_in r) → W p l e R s m args below meth c H1 locs1 cells slots Q (F0 m (pc + 3) lsC ((bif vo then [] else [.int (Int32.ofInt r)]) ++ rest))) →
    W p l e R s m args below meth c H locs cells slots Q (F0 m pc lsC ((as.map (mv_V ad)).reverse ++ rest))
/-- the fixed part of a walk -/
def mv_Ctx (p : Program) (s : State) (m : MethodId) (args : Array Value) (c : Code) (cc : ByteArray) (nL : Nat) (sh : Nat → Option mv_S) (cl : List vw_C) (D : va_G) (tys : List (ClassId × FieldType)) (own : String) (Ts : List Cond) (cr : mv_R) (M : mv_M) : Prop :=
  p.tables.exec = Jvm.exec ∧ c.code = cc ∧ s.vm.findClass own = some m.cls ∧ (∀ w ∈ Ts, w.before args s = true) ∧ va_K D cl tys s ∧ c.maxLocals = nL ∧
  (∀ (ci : Nat) (q : vw_C), cl[ci]? = some q → (∀ w ∈ u_ws q.1 q.2.1 q.2.2, w ∈ Ts) ∧ (∃ ty0 : Nat → FieldType, ∀ k, k < q.2.2 → parseFieldDescriptor (q.2.1 k).2.2.1 = some (ty0 k)) ∧ (∀ a, a < q.2.2 → ∀ b, b < q.2.2 → a ≠ b → (q.2.1 a).2.1 ≠ (q.2.1 b).2.1)) ∧
  (∀ x ∈ M.1, decode cc x.1 = .ok (x.2.1, x.2.2) ∧ mv_iok x.1 x.2.1 x.2.2 = true) ∧
  (∀ x ∈ M.2.1, (Nat.ble 100 x.2.1 = true → (Cond.fieldLink own x.1 (cr x.2.1).1 ((cr x.2.1).2 x.2.2.1).1 ((cr x.2.1).2 x.2.2.1).2).before args s = true) ∧ (Nat.ble 100 x.2.1 = false → ∃ q : vw_C, cl[x.2.1]? = some q ∧ x.2.2.1 < q.2.2 ∧ (Cond.fieldLink own x.1 (q.2.1 x.2.2.1).1 (q.2.1 x.2.2.1).2.1 (q.2.1 x.2.2.1).2.2.1).before args s = true ∧
    (x.2.2.2 = 0 ∨ x.2.2.2 = 1 → (q.2.1 x.2.2.1).2.2.2 = false ∧ parseFieldDescriptor (q.2.1 x.2.2.1).2.2.1 = some (if x.2.2.2 = 1 then .boolean else .int))))
theorem mv_lk_mem {α : Type} {l : List (Nat × α)} {k : Nat} {v : α} (h : mv_lk l k = some v) : (k, v) ∈ l := by
  induction l with
  | nil => cases h
  | cons q l ih =>
    obtain ⟨a, b⟩ := q
    simp only [mv_lk] at h
    cases hb : Nat.beq a k with
    | true =>
      rw [hb] at h
      cases h
      cases Nat.eq_of_beq_eq_true hb
      exact List.mem_cons_self
    | false =>
      rw [hb] at h
      exact List.mem_cons_of_mem _ (ih h)
theorem mv_tg_of {pc : Nat} {off : Int} (h : 0 ≤ (pc : Int) + off) : (pc : Int) + off = (mv_tg pc off : Int) := (Int.toNat_of_nonneg h).symm
theorem mv_if_snd {x y : Int} {cnd : ClassFile.Cond} {a b : Option mv_O} {out : mv_O} {P : Prop} (hx : mv_in x) (hy : mv_in y) (h : mv_if cnd x y a b = some out) (ht : ∀ h1 : a = some out, Op.if_icmp.holds cnd (Int32.ofInt x) (Int32.ofInt y) = true → P) (hf : ∀ h1 : b = some out, Op.if_icmp.holds cnd (Int32.ofInt x) (Int32.ofInt y) = false → P) : P := by
  have h1 := mv_lt hx hy
  have h2 := mv_lt hy hx
  have h3 := mv_eq hx hy
  have h4 : Int32.ofInt x ≤ Int32.ofInt y ↔ ¬ y < x := by rw [← h2, Int32.not_lt]
  have h5 : Int32.ofInt y ≤ Int32.ofInt x ↔ ¬ x < y := by rw [← h1, Int32.not_lt]
  cases cnd <;> simp only [mv_if] at h <;> split at h <;> first
    | exact ht h (by simp_all [Op.if_icmp.holds])
    | exact hf h (by simp_all [Op.if_icmp.holds])
    | skip
theorem mv_icmp {H : Heap} {locs : List Loc} {pc tgt : Nat} {ls : Array Slot} {rest : List Value} {x y : Int32} {off : Int} {cnd : ClassFile.Cond} (hx : p.tables.exec = Jvm.exec) (hb : c.code = cc) (hdg : decode cc pc = .ok (.if_icmp cnd off, 3)) (ht : (pc : Int) + off = (tgt : Int))
    (kt : Op.if_icmp.holds cnd x y = true → W p l e R s m args below meth c H locs cells slots Q (F0 m tgt ls rest)) (kf : Op.if_icmp.holds cnd x y = false → W p l e R s m args below meth c H locs cells slots Q (F0 m (pc + 3) ls rest)) : W p l e R s m args below meth c H locs cells slots Q (F0 m pc ls (.int y :: .int x :: rest)) := by
  cases cnd
  · exact lv_icmp_eq hx hb hdg ht (fun h => kt (by simp [Op.if_icmp.holds, h])) (fun h => kf (by simp [Op.if_icmp.holds, h]))
  · exact lv_icmp_ne hx hb hdg ht (fun h => kt (by simp [Op.if_icmp.holds, h])) (fun h => kf (by simpa [Op.if_icmp.holds] using h))
  · exact lv_icmp_lt hx hb hdg ht (fun h => kt (by simp [Op.if_icmp.holds, h])) (fun h => kf (by simpa [Op.if_icmp.holds] using h))
  · exact lv_icmp_ge hx hb hdg ht (fun h => kt (by simpa [Op.if_icmp.holds] using h)) (fun h => kf (by simpa [Op.if_icmp.holds] using h))
  · exact lv_icmp_gt hx hb hdg ht (fun h => kt (by simpa [Op.if_icmp.holds] using h)) (fun h => kf (by simpa [Op.if_icmp.holds] using h))
  · exact lv_icmp_le hx hb hdg ht (fun h => kt (by simpa [Op.if_icmp.holds] using h)) (fun h => kf (by simpa [Op.if_icmp.holds] using h))
theorem mv_ifc {H : Heap} {locs : List Loc} {pc tgt : Nat} {ls : Array Slot} {rest : List Value} {x : Int32} {off : Int} {cnd : ClassFile.Cond} (hx : p.tables.exec = Jvm.exec) (hb : c.code = cc) (hdg : decode cc pc = .ok (.ifCond cnd off, 3)) (ht : (pc : Int) + off = (tgt : Int))
    (kt : Op.if_icmp.holds cnd x 0 = true → W p l e R s m args below meth c H locs cells slots Q (F0 m tgt ls rest)) (kf : Op.if_icmp.holds cnd x 0 = false → W p l e R s m args below meth c H locs cells slots Q (F0 m (pc + 3) ls rest)) : W p l e R s m args below meth c H locs cells slots Q (F0 m pc ls (.int x :: rest)) := by
  cases cnd
  · exact lv_if_eq hx hb hdg ht (fun h => kt (by simp [Op.if_icmp.holds, h])) (fun h => kf (by simp [Op.if_icmp.holds, h]))
  · exact lv_if_ne hx hb hdg ht (fun h => kt (by simp [Op.if_icmp.holds, h])) (fun h => kf (by simpa [Op.if_icmp.holds] using h))
  · exact lv_if_lt hx hb hdg ht (fun h => kt (by simpa [Op.if_icmp.holds] using h)) (fun h => kf (by simpa [Op.if_icmp.holds] using h))
  · exact lv_if_ge hx hb hdg ht (fun h => kt (by simpa [Op.if_icmp.holds] using h)) (fun h => kf (by simpa [Op.if_icmp.holds] using h))
  · exact lv_if_gt hx hb hdg ht (fun h => kt (by simpa [Op.if_icmp.holds] using h)) (fun h => kf (by simpa [Op.if_icmp.holds] using h))
  · exact lv_if_le hx hb hdg ht (fun h => kt (by simpa [Op.if_icmp.holds] using h)) (fun h => kf (by simpa [Op.if_icmp.holds] using h))
theorem mv_okc {v : mv_A} {r : List mv_A} (h : ∀ w ∈ v :: r, mv_okV ids ros w) : mv_okV ids ros v ∧ ∀ w ∈ r, mv_okV ids ros w := ⟨h v List.mem_cons_self, fun w hw => h w (List.mem_cons_of_mem _ hw)⟩
theorem mv_oks {v : mv_A} {r : List mv_A} (h : mv_okV ids ros v) (hr : ∀ w ∈ r, mv_okV ids ros w) : ∀ w ∈ v :: r, mv_okV ids ros w := fun w hw => by
  rcases List.mem_cons.mp hw with rfl | hw
  · exact h
  · exact hr w hw
/-- instructions that touch the stack alone -/
theorem mv_op_snd {H : Heap} {locs : List Loc} {pc : Nat} {lsC : Array Slot} {i : Instr} {len : Nat} {st st' : List mv_A} (hF : mv_Fix sh ids ros ad cA tys A rc) (hx : p.tables.exec = Jvm.exec) (hb : c.code = cc) (hdg : decode cc pc = .ok (i, len)) (hi : mv_iok pc i len = true) (h : mv_op i st = some st') (hst : ∀ v ∈ st, mv_okV ids ros v)
    (kk : (∀ v ∈ st', mv_okV ids ros v) → W p l e R s m args below meth c H locs cells slots Q (F0 m (pc + len) lsC (st'.map (mv_V ad)))) : W p l e R s m args below meth c H locs cells slots Q (F0 m pc lsC (st.map (mv_V ad))) := by
  cases i <;> simp only [mv_op, reduceCtorEq] at h
  case iconst n =>
    cases h
    simp only [mv_iok, Bool.and_eq_true, decide_eq_true_eq] at hi
    cases Nat.eq_of_beq_eq_true hi.2
    exact lv_iconst hx hb hdg rfl (kk (mv_oks (by show mv_in n; unfold mv_in; omega) hst))
  case bipush n =>
    cases h
    simp only [mv_iok, Bool.and_eq_true, decide_eq_true_eq] at hi
    cases Nat.eq_of_beq_eq_true hi.2
    refine lv_bipush (v := Int32.ofInt n) hx hb hdg ?_ (kk (mv_oks (by show mv_in n; unfold mv_in; omega) hst))
    apply Int32.toInt_inj.mp
    rw [mv_toInt (by unfold mv_in; omega), Int8.toInt_toInt32, Int8.toInt_ofInt_of_le (by omega) (by omega)]
  case sipush n =>
    cases h
    simp only [mv_iok, Bool.and_eq_true, decide_eq_true_eq] at hi
    cases Nat.eq_of_beq_eq_true hi.2
    refine lv_sipush (v := Int32.ofInt n) hx hb hdg ?_ (kk (mv_oks (by show mv_in n; unfold mv_in; omega) hst))
    apply Int32.toInt_inj.mp
    rw [mv_toInt (by unfold mv_in; omega), Int16.toInt_toInt32, Int16.toInt_ofInt_of_le (by omega) (by omega)]
  all_goals (simp only [mv_iok, mv_len] at hi; cases Nat.eq_of_beq_eq_true hi; split at h <;> try contradiction)
  all_goals (cases h)
  all_goals (first | obtain ⟨h1, h2⟩ := mv_okc hst)
  all_goals first
    | (refine lv_iadd hx hb hdg ?_; simpa only [List.map_cons, mv_V, mv_w_of, Int32.ofInt_add] using kk (mv_oks (mv_w_in _) (mv_okc h2).2); done)
    | (refine lv_isub hx hb hdg ?_; simpa only [List.map_cons, mv_V, mv_w_of, Int32.ofInt_sub] using kk (mv_oks (mv_w_in _) (mv_okc h2).2); done)
    | (refine lv_imul hx hb hdg ?_; simpa only [List.map_cons, mv_V, mv_w_of, Int32.ofInt_mul] using kk (mv_oks (mv_w_in _) (mv_okc h2).2); done)
    | (refine lv_ineg hx hb hdg ?_; simpa only [List.map_cons, mv_V, mv_w_of, Int32.ofInt_neg] using kk (mv_oks (mv_w_in _) h2); done)
    | (refine lv_iand hx hb hdg ?_; simpa only [List.map_cons, mv_V, mv_and, Int32.ofInt_toInt] using kk (mv_oks (mv_ii _) (mv_okc h2).2); done)
    | (refine lv_ior hx hb hdg ?_; simpa only [List.map_cons, mv_V, mv_or, Int32.ofInt_toInt] using kk (mv_oks (mv_ii _) (mv_okc h2).2); done)
    | (refine lv_ixor hx hb hdg ?_; simpa only [List.map_cons, mv_V, mv_xor, Int32.ofInt_toInt] using kk (mv_oks (mv_ii _) (mv_okc h2).2); done)
    | (refine lv_ishl hx hb hdg ?_; simpa only [List.map_cons, mv_V, mv_shl, Int32.ofInt_toInt] using kk (mv_oks (mv_ii _) (mv_okc h2).2); done)
    | (refine lv_ishr hx hb hdg ?_; simpa only [List.map_cons, mv_V, mv_shr, Int32.ofInt_toInt] using kk (mv_oks (mv_ii _) (mv_okc h2).2); done)
    | (refine lv_iushr hx hb hdg rfl ?_; simpa only [List.map_cons, mv_V, mv_ushr, Int32.ofInt_toInt] using kk (mv_oks (mv_ii _) (mv_okc h2).2); done)
    | (refine lv_i2c hx hb hdg rfl ?_; simpa only [List.map_cons, mv_V, mv_i2c, Int32.ofInt_toInt] using kk (mv_oks (mv_ii _) h2); done)
    | (exact lv_dup hx hb hdg (mv_okcat hF) (kk (mv_oks h1 hst)))
    | (exact lv_pop hx hb hdg (mv_okcat hF) (kk h2))
    | (exact lv_dup2_11 hx hb hdg (mv_okcat hF) (mv_okcat hF) (kk (mv_oks h1 (mv_oks (mv_okc h2).1 hst))))
end MV
end
section
section MV
variable {p : Program} {l : Launch} {e : Env} {R : Room} {s : State} {m : MethodId} {args : Array Value} {below : List Frame} {meth : Method} {c : Code} {cells slots : Nat} {Q : State → Prop}
variable {cc : ByteArray} {nL : Nat} {sh : Nat → Option mv_S} {ids ros : List (Nat × Nat)} {ad : Nat → Nat → Value} {cA : Nat → ClassId} {cl : List vw_C} {D : va_G} {tys : List (ClassId × FieldType)} {A : Nat → Prop} {rc : mv_G} {M : mv_M}
variable {H : Heap} {locs : List Loc} {lsC : Array Slot} {pc : Nat} {ls : mv_L} {st : List mv_A} {G : mv_G} {out : mv_O} {K : mv_K}
theorem mv_ref_of {q : Nat × Nat} (hF : mv_Fix sh ids ros ad cA tys A rc) (h : q ∈ ids ++ ros) : ad q.1 q.2 = .ref (mv_ra (ad q.1 q.2)) := by
  obtain ⟨a, ha⟩ := hF.2.2.1 q h
  rw [ha]
  rfl
theorem mv_ild {k : Nat} {i : Instr} {len : Nat} (hx : p.tables.exec = Jvm.exec) (hb : c.code = cc) (hF : mv_Fix sh ids ros ad cA tys A rc) (hL : mv_LR ids ros ad nL ls lsC) (hi : mv_iok pc i len = true)
    (hd : (i = .iload k ∨ ∃ q : Fin 4, i = .iload_n q ∧ q.val = k)) (hdg : decode cc pc = .ok (i, len)) {x : Int} (hv : ls[k]? = some (some (.inl x)))
    (kk : mv_okV ids ros (.inl x) → W p l e R s m args below meth c H locs cells slots Q (F0 m (pc + len) lsC (mv_V ad (.inl x) :: st.map (mv_V ad)))) : W p l e R s m args below meth c H locs cells slots Q (F0 m pc lsC (st.map (mv_V ad))) := by
  obtain ⟨h1, h2⟩ := hL.2.2.2 k _ hv
  rcases hd with rfl | ⟨q, rfl, rfl⟩
  · cases Nat.eq_of_beq_eq_true hi
    exact lv_iload hx hb hdg h1 (kk h2)
  · cases Nat.eq_of_beq_eq_true hi
    exact lv_iload_n hx hb hdg rfl h1 (kk h2)
theorem mv_ald {k : Nat} {i : Instr} {len : Nat} (hx : p.tables.exec = Jvm.exec) (hb : c.code = cc) (hF : mv_Fix sh ids ros ad cA tys A rc) (hL : mv_LR ids ros ad nL ls lsC) (hi : mv_iok pc i len = true)
    (hd : (i = .aload k ∨ ∃ q : Fin 4, i = .aload_n q ∧ q.val = k)) (hdg : decode cc pc = .ok (i, len)) {x : Nat × Nat} (hv : ls[k]? = some (some (.inr x))) (h9 : Nat.ble 990 x.1 = false)
    (kk : mv_okV ids ros (.inr x) → W p l e R s m args below meth c H locs cells slots Q (F0 m (pc + len) lsC (mv_V ad (.inr x) :: st.map (mv_V ad)))) : W p l e R s m args below meth c H locs cells slots Q (F0 m pc lsC (st.map (mv_V ad))) := by
  obtain ⟨h1, h2⟩ := hL.2.2.2 k _ hv
  have hr := mv_ref_of hF (h2.resolve_right (fun q => absurd (q.1.symm.trans h9) (by decide)))
  have h3 : lsC[k]? = some (.val (.ref (mv_ra (ad x.1 x.2)))) := by rw [h1]; show some (Slot.val (ad x.1 x.2)) = _; rw [← hr]
  have kk' := kk h2
  have e : mv_V ad (.inr x) = .ref (mv_ra (ad x.1 x.2)) := hr
  rw [e] at kk'
  rcases hd with rfl | ⟨q, rfl, rfl⟩
  · cases Nat.eq_of_beq_eq_true hi
    exact lv_aload hx hb hdg h3 kk'
  · cases Nat.eq_of_beq_eq_true hi
    exact lv_aload_n hx hb hdg rfl h3 kk'
theorem mv_ist {k : Nat} {i : Instr} {len : Nat} (hx : p.tables.exec = Jvm.exec) (hb : c.code = cc) (hF : mv_Fix sh ids ros ad cA tys A rc) (hL : mv_LR ids ros ad nL ls lsC) (hi : mv_iok pc i len = true)
    (hd : (i = .istore k ∨ ∃ q : Fin 4, i = .istore_n q ∧ q.val = k)) (hdg : decode cc pc = .ok (i, len)) {x : Int} {r : List mv_A} (hk : k < ls.length) (hv : mv_okV ids ros (.inl x))
    (kk : ∀ lsC', mv_LR ids ros ad nL (ls.set k (some (.inl x))) lsC' → W p l e R s m args below meth c H locs cells slots Q (F0 m (pc + len) lsC' (r.map (mv_V ad)))) : W p l e R s m args below meth c H locs cells slots Q (F0 m pc lsC (mv_V ad (.inl x) :: r.map (mv_V ad))) := by
  have hn : k < nL := by rw [← hL.1]; exact hk
  rcases hd with rfl | ⟨q, rfl, rfl⟩
  · cases Nat.eq_of_beq_eq_true hi
    exact lv_istore hx hb hdg (mv_ll_has hL) hn rfl fun lsC' h' => kk lsC' (mv_LR_set hF hL hv (fun i w hw => mv_ll_mem hw) h')
  · cases Nat.eq_of_beq_eq_true hi
    exact lv_istore_n hx hb hdg rfl (mv_ll_has hL) hn rfl fun lsC' h' => kk lsC' (mv_LR_set hF hL hv (fun i w hw => mv_ll_mem hw) h')
theorem mv_ast {k : Nat} {i : Instr} {len : Nat} (hx : p.tables.exec = Jvm.exec) (hb : c.code = cc) (hF : mv_Fix sh ids ros ad cA tys A rc) (hL : mv_LR ids ros ad nL ls lsC) (hi : mv_iok pc i len = true)
    (hd : (i = .astore k ∨ ∃ q : Fin 4, i = .astore_n q ∧ q.val = k)) (hdg : decode cc pc = .ok (i, len)) {x : Nat × Nat} {r : List mv_A} (hk : k < ls.length) (hv : mv_okV ids ros (.inr x)) (h9 : Nat.ble 990 x.1 = false)
    (kk : ∀ lsC', mv_LR ids ros ad nL (ls.set k (some (.inr x))) lsC' → W p l e R s m args below meth c H locs cells slots Q (F0 m (pc + len) lsC' (r.map (mv_V ad)))) : W p l e R s m args below meth c H locs cells slots Q (F0 m pc lsC (mv_V ad (.inr x) :: r.map (mv_V ad))) := by
  have hn : k < nL := by rw [← hL.1]; exact hk
  have hr := mv_ref_of hF (hv.resolve_right (fun q => absurd (q.1.symm.trans h9) (by decide)))
  have e : mv_V ad (.inr x) = .ref (mv_ra (ad x.1 x.2)) := hr
  rw [e]
  rcases hd with rfl | ⟨q, rfl, rfl⟩
  · cases Nat.eq_of_beq_eq_true hi
    exact lv_astore hx hb hdg (mv_ll_has hL) hn rfl fun lsC' h' => kk lsC' (mv_LR_set hF hL hv (fun i w hw => mv_ll_mem hw) (by rw [e]; exact h'))
  · cases Nat.eq_of_beq_eq_true hi
    exact lv_astore_n hx hb hdg rfl (mv_ll_has hL) hn rfl fun lsC' h' => kk lsC' (mv_LR_set hF hL hv (fun i w hw => mv_ll_mem hw) (by rw [e]; exact h'))
theorem mv_iin {k : Nat} {n : Int} (hx : p.tables.exec = Jvm.exec) (hb : c.code = cc) (hF : mv_Fix sh ids ros ad cA tys A rc) (hL : mv_LR ids ros ad nL ls lsC) (hdg : decode cc pc = .ok (.iinc k n, 3)) {x : Int} {rest : List Value} (hv : ls[k]? = some (some (.inl x)))
    (kk : ∀ lsC', mv_LR ids ros ad nL (ls.set k (some (.inl (mv_w (x + n))))) lsC' → W p l e R s m args below meth c H locs cells slots Q (F0 m (pc + 3) lsC' rest)) : W p l e R s m args below meth c H locs cells slots Q (F0 m pc lsC rest) := by
  have hn : k < nL := by rw [← hL.1]; exact (List.getElem?_eq_some_iff.mp hv).1
  have h0 := mv_ll_has hL
  have h1 : lv_has lsC nL ((k, .int (Int32.ofInt x)) :: mv_ll ad ls) := ⟨h0.1, h0.2.1, fun q hq => by
    rcases List.mem_cons.mp hq with rfl | hq
    · exact (hL.2.2.2 k _ hv).1
    · exact h0.2.2 q hq⟩
  exact lv_iinc (v := Int32.ofInt (mv_w (x + n))) hx hb hdg h1 (k := 0) rfl (by rw [mv_w_of, Int32.ofInt_add]) hn rfl fun lsC' h' => kk lsC' (mv_LR_set hF hL (mv_w_in _) (fun i w hw => List.mem_cons_of_mem _ (mv_ll_mem hw)) h')
theorem mv_rd_in (hF : mv_Fix sh ids ros ad cA tys A rc) (hW : mv_Wd sh ids ad cA cl D A G H) (k i j : Nat) : mv_in (mv_rd rc G k i j) := by
  unfold mv_rd
  cases Nat.ble 1000 k
  · exact hW.2.2 _ _ _
  · exact hF.2.2.2.2.2.2.2.1 _ _ _
/-- a written cell -/
theorem mv_Wd_put {k i j q0 : Nat} {v : Int} {H1 : Heap} {x : Nat × va_E} (hF : mv_Fix sh ids ros ad cA tys A rc) (hW : mv_Wd sh ids ad cA cl D A G H) (hv : mv_in v) (hq : ids[q0]? = some (k, i)) (hx : x = mv_cel sh ad cA (mv_up G k i j v) k i)
    (hP1 : va_P D cl ((mv_wd sh ad cA ids G).set q0 x) H1) (hD1 : va_D A ((mv_wd sh ad cA ids G).set q0 x)) : mv_Wd sh ids ad cA cl D A (mv_up G k i j v) H1 := by
  rw [mv_wd_set hF.2.2.2.2.1 hq hx] at hP1 hD1
  refine ⟨hP1, hD1, fun a b c => ?_⟩
  unfold mv_up
  split
  · exact hv
  · exact hW.2.2 _ _ _
theorem mv_in0 : mv_in 0 := by unfold mv_in; decide
theorem mv_if_h {x y : Int} {cnd : ClassFile.Cond} {a b : Option mv_O} (hx : mv_in x) (hy : mv_in y) (h : mv_if cnd x y a b = some out) : (Op.if_icmp.holds cnd (Int32.ofInt x) (Int32.ofInt y) = true ∧ a = some out) ∨ (Op.if_icmp.holds cnd (Int32.ofInt x) (Int32.ofInt y) = false ∧ b = some out) :=
  mv_if_snd hx hy h (fun h1 h2 => Or.inl ⟨h2, h1⟩) (fun h1 h2 => Or.inr ⟨h2, h1⟩)
/-- a call's answer: none, or the callee's -/
def mv_cst (p : Program) (l : Launch) (e : Env) (R : Room) (s : State) (m : MethodId) (args : Array Value) (below : List Frame) (meth : Method) (c : Code) (cells slots : Nat) (Q : State → Prop) (cc : ByteArray) (ids ros : List (Nat × Nat)) (ad : Nat → Nat → Value) (A : Nat → Prop) (M : mv_M) : Prop :=
  (∀ x ∈ M.2.2.1, mv_okV ids ros x.2 ∧ ∀ (pc : Nat) (H : Heap) (locs : List Loc) (lsC : Array Slot) (rest : List Value), va_S A s.heap H locs →
    ((pc, Instr.ldc x.1, 2) ∈ M.1 → decode cc pc = .ok (.ldc x.1, 2) → W p l e R s m args below meth c H locs cells slots Q (F0 m (pc + 2) lsC (mv_V ad x.2 :: rest)) → W p l e R s m args below meth c H locs cells slots Q (F0 m pc lsC rest)) ∧
    ((pc, Instr.ldc_w x.1, 3) ∈ M.1 → decode cc pc = .ok (.ldc_w x.1, 3) → W p l e R s m args below meth c H locs cells slots Q (F0 m (pc + 3) lsC (mv_V ad x.2 :: rest)) → W p l e R s m args below meth c H locs cells slots Q (F0 m pc lsC rest))) ∧
  (∀ x ∈ M.2.2.2.1, mv_okV ids ros x.2 ∧ ∀ (pc : Nat) (H : Heap) (locs : List Loc) (lsC : Array Slot) (rest : List Value), va_S A s.heap H locs →
    (decode cc pc = .ok (.getstatic x.1, 3) → W p l e R s m args below meth c H locs cells slots Q (F0 m (pc + 3) lsC (mv_V ad x.2 :: rest)) → W p l e R s m args below meth c H locs cells slots Q (F0 m pc lsC rest)))
theorem mv_upd {G : mv_G} {k i j : Nat} {v : Int} : (fun a => Int32.ofInt (mv_up G k i j v k i a)) = upd (fun a => Int32.ofInt (G k i a)) j (Int32.ofInt v) := by
  funext a
  simp only [upd, mv_up, true_and]
  split <;> rfl
theorem mv_lks_h {KK : Nat → Option mv_O} {x d : Int} : ∀ {l : List (Int × Int)}, mv_lks KK pc x d l = some out → 0 ≤ (pc : Int) + d → l.all (fun q => decide (0 ≤ (pc : Int) + q.2)) = true → KK (mv_tg pc (Op.lookupswitch.offset l d x)) = some out ∧ 0 ≤ (pc : Int) + Op.lookupswitch.offset l d x
  | [], h, hd, _ => ⟨h, hd⟩
  | (a, t) :: l, h, hd, hl => by
    simp only [List.all_cons, Bool.and_eq_true, decide_eq_true_eq] at hl
    simp only [mv_lks] at h
    rw [Op.lookupswitch.offset_cons]
    split at h
    · next e =>
      subst e
      rw [if_pos rfl]
      exact ⟨h, hl.1⟩
    · next e =>
      rw [if_neg (fun q => e q.symm)]
      exact mv_lks_h h hd hl.2
theorem mv_tbs_h {KK : Nat → Option mv_O} {x d : Int} : ∀ {l : List Int} {lo : Int}, mv_tbs KK pc x d lo l = some out → (x < lo ∨ lo + l.length ≤ x ∧ KK (mv_tg pc d) = some out) ∨ (lo ≤ x ∧ ∃ t, l[(x - lo).toNat]? = some t ∧ KK (mv_tg pc t) = some out)
  | [], lo, h => by
    by_cases e : x < lo
    · exact Or.inl (Or.inl e)
    · exact Or.inl (Or.inr ⟨by simp; omega, h⟩)
  | t :: l, lo, h => by
    simp only [mv_tbs] at h
    split at h
    · next e =>
      exact Or.inr ⟨by omega, t, by rw [e, Int.sub_self]; rfl, h⟩
    · next e =>
      rcases mv_tbs_h h with (h1 | ⟨h1, h2⟩) | ⟨h1, t', h2, h3⟩
      · exact Or.inl (Or.inl (by omega))
      · exact Or.inl (Or.inr ⟨by simp only [List.length_cons]; omega, h2⟩)
      · refine Or.inr ⟨by omega, t', ?_, h3⟩
        rw [show (x - lo).toNat = (x - (lo + 1)).toNat + 1 by omega]
        exact h2
theorem mv_tbs_lo {KK : Nat → Option mv_O} {x d : Int} : ∀ {l : List Int} {lo : Int}, x < lo → mv_tbs KK pc x d lo l = some out → KK (mv_tg pc d) = some out
  | [], lo, _, h => h
  | t :: l, lo, h0, h => by
    simp only [mv_tbs] at h
    rw [if_neg (by omega)] at h
    exact mv_tbs_lo (by omega) h
theorem mv_ck_h {x : Int} {n : Nat} {a : Option mv_O} (h : mv_ck x n a = some out) : (0 ≤ x ∧ x < n) ∧ a = some out := by
  unfold mv_ck at h
  split at h
  · next h1 => exact ⟨h1, h⟩
  · cases h
theorem mv_no999 (hF : mv_Fix sh ids ros ad cA tys A rc) {k i : Nat} {q : mv_S} (h : sh k = some q) (ho : mv_okV ids ros (.inr (k, i))) : (k, i) ∈ ids ++ ros := by
  refine ho.resolve_right fun e => ?_
  have := hF.2.2.2.2.2.2.2.2 _ e.1 e.2
  dsimp only at this
  rw [h] at this
  cases this
theorem mv_call_snd {n idx : Nat} {rv : Option Nat} {vo : Bool} {f : mv_F} (hF : mv_Fix sh ids ros ad cA tys A rc) (hL : mv_LR ids ros ad nL ls lsC) (hW : mv_Wd sh ids ad cA cl D A G H) (hS : va_S A s.heap H locs) (hst : ∀ v ∈ st, mv_okV ids ros v)
    (hc : mv_Cal p l e R s m args below meth c cells slots Q cc nL sh ids ros ad cA cl D A idx n rv vo f) (hdg : decode cc pc = .ok (mv_inv rv idx, 3)) (h : mv_call K n rv vo f sh pc ls st G = some out)
    (kk : ∀ {G' : mv_G} (H1 : Heap) (locs1 : List Loc), mv_Wd sh ids ad cA cl D A G' H1 → va_S A s.heap H1 locs1 → ∀ st' : List mv_A, (∀ v ∈ st', mv_okV ids ros v) → K (pc + 3) ls st' G' = some out → W p l e R s m args below meth c H1 locs1 cells slots Q (F0 m (pc + 3) lsC (st'.map (mv_V ad)))) :
    W p l e R s m args below meth c H locs cells slots Q (F0 m pc lsC (st.map (mv_V ad))) := by
  unfold mv_call at h
  generalize hg : (Nat.ble n st.length && Nat.ble (st.length - n) 8 && _) = g at h
  cases g with
  | false => cases h
  | true =>
    simp only [Bool.and_eq_true] at hg
    obtain ⟨⟨g1, g2⟩, g3⟩ := hg
    have g1 := Nat.le_of_ble_eq_true g1
    have g2 := Nat.le_of_ble_eq_true g2
    dsimp only [cond] at h
    unfold mv_cn at h
    split at h <;> try contradiction
    next r G' hf =>
    have est : st.map (mv_V ad) = (((st.take n).reverse).map (mv_V ad)).reverse ++ (st.drop n).map (mv_V ad) := by
      rw [List.map_reverse, List.reverse_reverse, ← List.map_append, List.take_append_drop]
    rw [est]
    refine hc pc lsC (st.take n).reverse ((st.drop n).map (mv_V ad)) G G' r H locs hL.2.1 hdg (by simp; omega) (fun v hv => hst v (List.mem_of_mem_take (List.mem_reverse.mp hv))) (fun ci hci => ?_) (by simp; omega) (fun v hv => ?_) hf hW hS (fun H1 locs1 h1 h2 h3 => ?_)
    · subst hci
      generalize hta : (st.take n).reverse = ta at g3
      split at g3 <;> try contradiction
      next ci2 k as' hci2 =>
      cases hci2
      split at g3 <;> try contradiction
      next ci' fs hs =>
      cases Nat.eq_of_beq_eq_true g3
      exact ⟨k, as', fs, rfl, mv_no999 hF hs (hst _ (List.mem_of_mem_take (List.mem_reverse.mp (by rw [hta]; exact List.mem_cons_self)))), hs⟩
    · obtain ⟨w, -, rfl⟩ := List.mem_map.mp hv
      exact mv_okcat hF
    · cases vo with
      | true => exact kk H1 locs1 h1 h2 _ (fun v hv => hst v (List.mem_of_mem_drop hv)) h
      | false => exact kk H1 locs1 h1 h2 _ (mv_oks (show mv_okV ids ros (.inl r) from h3 rfl) (fun v hv => hst v (List.mem_of_mem_drop hv))) h
theorem mv_step_snd {own : String} {Ts : List Cond} {cr : mv_R} (hX : mv_Ctx p s m args c cc nL sh cl D tys own Ts cr M) (hF : mv_Fix sh ids ros ad cA tys A rc) (hR : mv_RO sh ros ad A rc cr s) (hro100 : ∀ k ci fs, sh k = some (.inr (ci, fs)) → Nat.ble 1000 k = true → Nat.ble 100 ci = true) (hro3 : ∀ k, Nat.ble 1000 k = true → ∀ n w, ¬ sh k = some (.inl (3, n, w))) (hrw2 : ∀ k, Nat.ble 1000 k = false → ∀ n w, ¬ sh k = some (.inl (2, n, w))) (hro1 : ∀ k, Nat.ble 1000 k = true → ∀ n w, ¬ sh k = some (.inl (1, n, w))) (hrw100 : ∀ k ci fs, sh k = some (.inr (ci, fs)) → Nat.ble 1000 k = false → Nat.ble 100 ci = false)
    (hC : mv_cst p l e R s m args below meth c cells slots Q cc ids ros ad A M) (hCal : ∀ x ∈ M.2.2.2.2.1, mv_Cal p l e R s m args below meth c cells slots Q cc nL sh ids ros ad cA cl D A x.1 x.2.1 x.2.2.1 x.2.2.2.1 x.2.2.2.2)
    (hK : ∀ pc ls st G, mv_Snd p l e R s m args below meth c cells slots Q cc nL sh ids ros ad cA cl D A M pc ls st G (K pc ls st G)) :
    mv_Snd p l e R s m args below meth c cells slots Q cc nL sh ids ros ad cA cl D A M pc ls st G (mv_step rc M sh K pc ls st G) := by
  obtain ⟨hx, hb, hown, hts, hKn, hml, hcls, hcode, hfld⟩ := hX
  intro out h hfin H locs lsC hW hS hL hst
  unfold mv_step at h
  split at h
  · cases h
  next i len hlk =>
  obtain ⟨hdg, hi⟩ := hcode _ (mv_lk_mem hlk)
  dsimp only at hdg hi
  have go : ∀ {pc' : Nat} {ls' : mv_L} {st' : List mv_A} {G' : mv_G}, K pc' ls' st' G' = some out → ∀ (H : Heap) (locs : List Loc) (lsC : Array Slot), mv_Wd sh ids ad cA cl D A G' H → va_S A s.heap H locs → mv_LR ids ros ad nL ls' lsC → (∀ v ∈ st', mv_okV ids ros v) → W p l e R s m args below meth c H locs cells slots Q (F0 m pc' lsC (st'.map (mv_V ad))) := fun h => hK _ _ _ _ out h hfin
  cases i
  case iload k =>
    dsimp only [mv_ldi] at h
    split at h <;> try contradiction
    next x hv => exact mv_ild hx hb hF hL hi (Or.inl rfl) hdg hv (fun ho => go h H locs lsC hW hS hL (mv_oks ho hst))
  case iload_n k =>
    dsimp only [mv_ldi] at h
    split at h <;> try contradiction
    next x hv => exact mv_ild hx hb hF hL hi (Or.inr ⟨k, rfl, rfl⟩) hdg hv (fun ho => go h H locs lsC hW hS hL (mv_oks ho hst))
  case aload k =>
    dsimp only [mv_lda] at h
    split at h <;> try contradiction
    next q hv =>
    cases h9 : Nat.ble 990 q.1 with
    | true => rw [h9] at h; cases h
    | false =>
      rw [h9] at h
      exact mv_ald hx hb hF hL hi (Or.inl rfl) hdg hv h9 (fun ho => go h H locs lsC hW hS hL (mv_oks ho hst))
  case aload_n k =>
    dsimp only [mv_lda] at h
    split at h <;> try contradiction
    next q hv =>
    cases h9 : Nat.ble 990 q.1 with
    | true => rw [h9] at h; cases h
    | false =>
      rw [h9] at h
      exact mv_ald hx hb hF hL hi (Or.inr ⟨k, rfl, rfl⟩) hdg hv h9 (fun ho => go h H locs lsC hW hS hL (mv_oks ho hst))
  case istore k =>
    dsimp only [mv_sti] at h
    split at h <;> try contradiction
    next x r hv => exact mv_ist hx hb hF hL hi (Or.inl rfl) hdg (List.getElem?_eq_some_iff.mp hv).1 (mv_okc hst).1 (fun lsC' hL' => go h H locs lsC' hW hS hL' (mv_okc hst).2)
  case istore_n k =>
    dsimp only [mv_sti] at h
    split at h <;> try contradiction
    next x r hv => exact mv_ist hx hb hF hL hi (Or.inr ⟨k, rfl, rfl⟩) hdg (List.getElem?_eq_some_iff.mp hv).1 (mv_okc hst).1 (fun lsC' hL' => go h H locs lsC' hW hS hL' (mv_okc hst).2)
  case astore k =>
    dsimp only [mv_sta] at h
    split at h <;> try contradiction
    next q r hv =>
    cases h9 : Nat.ble 990 q.1 with
    | true => rw [h9] at h; cases h
    | false =>
      rw [h9] at h
      exact mv_ast hx hb hF hL hi (Or.inl rfl) hdg (List.getElem?_eq_some_iff.mp hv).1 (mv_okc hst).1 h9 (fun lsC' hL' => go h H locs lsC' hW hS hL' (mv_okc hst).2)
  case astore_n k =>
    dsimp only [mv_sta] at h
    split at h <;> try contradiction
    next q r hv =>
    cases h9 : Nat.ble 990 q.1 with
    | true => rw [h9] at h; cases h
    | false =>
      rw [h9] at h
      exact mv_ast hx hb hF hL hi (Or.inr ⟨k, rfl, rfl⟩) hdg (List.getElem?_eq_some_iff.mp hv).1 (mv_okc hst).1 h9 (fun lsC' hL' => go h H locs lsC' hW hS hL' (mv_okc hst).2)
  case iinc k n =>
    dsimp only at h
    split at h <;> try contradiction
    next x hv =>
    simp only [mv_iok, Bool.and_eq_true] at hi
    cases Nat.eq_of_beq_eq_true hi.2
    exact mv_iin hx hb hF hL hdg hv (fun lsC' hL' => go h H locs lsC' hW hS hL' hst)
  case ldc k =>
    dsimp only at h
    split at h <;> try contradiction
    next v hv =>
    cases Nat.eq_of_beq_eq_true hi
    obtain ⟨ho, hc⟩ := hC.1 _ (mv_lk_mem hv)
    exact (hc pc H locs lsC _ hS).1 (mv_lk_mem hlk) hdg (go h H locs lsC hW hS hL (mv_oks ho hst))
  case ldc_w k =>
    dsimp only at h
    split at h <;> try contradiction
    next v hv =>
    cases Nat.eq_of_beq_eq_true hi
    obtain ⟨ho, hc⟩ := hC.1 _ (mv_lk_mem hv)
    exact (hc pc H locs lsC _ hS).2 (mv_lk_mem hlk) hdg (go h H locs lsC hW hS hL (mv_oks ho hst))
  case getstatic k =>
    dsimp only at h
    split at h <;> try contradiction
    next v hv =>
    cases Nat.eq_of_beq_eq_true hi
    obtain ⟨ho, hc⟩ := hC.2 _ (mv_lk_mem hv)
    exact (hc pc H locs lsC _ hS) hdg (go h H locs lsC hW hS hL (mv_oks ho hst))
  case goto off =>
    simp only [mv_iok, Bool.and_eq_true, decide_eq_true_eq] at hi
    cases Nat.eq_of_beq_eq_true hi.2
    exact lv_goto hx hb hdg (mv_tg_of hi.1) (go h H locs lsC hW hS hL hst)
  case ifCond cnd off =>
    dsimp only at h
    split at h <;> try contradiction
    next x r =>
    simp only [mv_iok, Bool.and_eq_true, decide_eq_true_eq] at hi
    cases Nat.eq_of_beq_eq_true hi.2
    rcases mv_if_h (mv_okc hst).1 mv_in0 h with ⟨h1, h2⟩ | ⟨h1, h2⟩
    · exact mv_ifc hx hb hdg (mv_tg_of hi.1) (fun _ => go h2 H locs lsC hW hS hL (mv_okc hst).2) (fun h3 => absurd (h3.symm.trans h1) (by decide))
    · exact mv_ifc hx hb hdg (mv_tg_of hi.1) (fun h3 => absurd (h3.symm.trans h1) (by decide)) (fun _ => go h2 H locs lsC hW hS hL (mv_okc hst).2)
  case if_icmp cnd off =>
    dsimp only at h
    split at h <;> try contradiction
    next y x r =>
    simp only [mv_iok, Bool.and_eq_true, decide_eq_true_eq] at hi
    cases Nat.eq_of_beq_eq_true hi.2
    obtain ⟨hy, hst⟩ := mv_okc hst
    rcases mv_if_h (mv_okc hst).1 hy h with ⟨h1, h2⟩ | ⟨h1, h2⟩
    · exact mv_icmp hx hb hdg (mv_tg_of hi.1) (fun _ => go h2 H locs lsC hW hS hL (mv_okc hst).2) (fun h3 => absurd (h3.symm.trans h1) (by decide))
    · exact mv_icmp hx hb hdg (mv_tg_of hi.1) (fun h3 => absurd (h3.symm.trans h1) (by decide)) (fun _ => go h2 H locs lsC hW hS hL (mv_okc hst).2)
  case idiv =>
    dsimp only at h
    split at h <;> try contradiction
    next y x r =>
    split at h <;> try contradiction
    next hy =>
    obtain ⟨ho1, hst⟩ := mv_okc hst
    obtain ⟨ho2, hst⟩ := mv_okc hst
    cases Nat.eq_of_beq_eq_true hi
    refine lv_idiv hx hb hdg (fun e => hy ((mv_eq ho1 mv_in0).mp e)) ?_
    have := go h H locs lsC hW hS hL (mv_oks (mv_w_in _) hst)
    rw [List.map_cons, mv_V, mv_w_of] at this
    have e : Int32.ofInt x / Int32.ofInt y = Int32.ofInt (x.tdiv y) := by
      apply Int32.toInt_inj.mp
      rw [Int32.toInt_div, mv_toInt ho2, mv_toInt ho1, Int32.toInt_ofInt]
    rw [e]
    exact this
  case irem =>
    dsimp only at h
    split at h <;> try contradiction
    next y x r =>
    split at h <;> try contradiction
    next hy =>
    obtain ⟨ho1, hst⟩ := mv_okc hst
    obtain ⟨ho2, hst⟩ := mv_okc hst
    cases Nat.eq_of_beq_eq_true hi
    refine lv_irem hx hb hdg (fun e => hy ((mv_eq ho1 mv_in0).mp e)) ?_
    have := go h H locs lsC hW hS hL (mv_oks (mv_w_in _) hst)
    rw [List.map_cons, mv_V, mv_w_of] at this
    have e0 : Int32.ofInt x / Int32.ofInt y = Int32.ofInt (x.tdiv y) := by
      apply Int32.toInt_inj.mp
      rw [Int32.toInt_div, mv_toInt ho2, mv_toInt ho1, Int32.toInt_ofInt]
    have e : Int32.ofInt x - Int32.ofInt x / Int32.ofInt y * Int32.ofInt y = Int32.ofInt (x.tmod y) := by
      rw [e0, ← Int32.ofInt_mul, ← Int32.ofInt_sub, Int.tmod_def, Int.mul_comm]
    rw [e]
    exact this
  case getfield k =>
    dsimp only at h
    split at h <;> try contradiction
    next q r =>
    split at h <;> try contradiction
    next ci fs ci' j z hs hf =>
    cases Nat.eq_of_beq_eq_true hi
    obtain ⟨ho, hst⟩ := mv_okc hst
    cases hc : Nat.beq ci ci' with
    | false => rw [hc] at h; cases h
    | true =>
      rw [hc] at h
      cases Nat.eq_of_beq_eq_true hc
      have hm := mv_no999 hF hs ho
      rw [List.map_cons, show mv_V ad (.inr (q, 0)) = .ref (mv_ra (ad q 0)) from mv_ref_of hF hm]
      dsimp only [cond] at h
      cases hro : Nat.ble 1000 q with
      | true =>
        have hR1 := hR q (mv_getro hF hm hro).1
        simp only [hs] at hR1
        rw [mv_rd_ro hro] at h
        have hlk2 : Nat.ble 100 ci = true := hro100 _ _ _ hs hro
        have e3 := (hfld _ (mv_lk_mem hf)).1 hlk2
        split at h <;> try contradiction
        · next hj => exact vk_getf hx hb (hR1.2 j _ hj) hS hown e3 (fun _ h => h) hdg (go h H locs lsC hW hS hL (mv_oks (hF.2.2.2.2.2.2.2.1 _ _ _) hst))
        · next t hj => exact vk_getf hx hb (hR1.2 j _ hj) hS hown e3 (fun _ h => h) hdg (go h H locs lsC hW hS hL (mv_oks (Or.inl (hF.2.1 _ _ _ hs _ _ hj)) hst))
      | false =>
        have hlk2 : Nat.ble 100 ci = false := hrw100 _ _ _ hs hro
        obtain ⟨q1, e1, e2, e3, -⟩ := (hfld _ (mv_lk_mem hf)).2 hlk2
        obtain ⟨q0, hq0, hg⟩ := mv_getcell hF hW hm hro
        simp only [mv_cel, hs] at hg
        rw [mv_rd_rw hro] at h
        split at h <;> try contradiction
        · next hj => exact va_get (C := q1.1) (T := q1.2.1) (N := q1.2.2) hx hb hts (hcls _ _ e1).1 hown hKn hW.1 q0 hg e1 j e2 e3 (fun _ h => h) (mv_fs_get hj) hdg (go h H locs lsC hW hS hL (mv_oks (hW.2.2 _ _ _) hst))
        · next t hj => exact va_get (C := q1.1) (T := q1.2.1) (N := q1.2.2) hx hb hts (hcls _ _ e1).1 hown hKn hW.1 q0 hg e1 j e2 e3 (fun _ h => h) (mv_fs_get hj) hdg (go h H locs lsC hW hS hL (mv_oks (Or.inl (hF.2.1 _ _ _ hs _ _ hj)) hst))
  case putfield k =>
    dsimp only at h
    split at h <;> try contradiction
    next v q r =>
    split at h <;> try contradiction
    next ci fs ci' j z hs hf =>
    cases Nat.eq_of_beq_eq_true hi
    obtain ⟨hov, hst⟩ := mv_okc hst
    obtain ⟨ho, hst⟩ := mv_okc hst
    cases hc : Nat.beq ci ci' with
    | false => rw [hc] at h; cases h
    | true =>
      rw [hc] at h
      cases Nat.eq_of_beq_eq_true hc
      have hm := mv_no999 hF hs ho
      have eV : mv_V ad (.inr (q, 0)) = .ref (mv_ra (ad q 0)) := mv_ref_of hF hm
      rw [List.map_cons, List.map_cons, eV]
      dsimp only [cond] at h
      split at h <;> try contradiction
      next hj =>
      cases hro : Nat.ble 1000 q with
      | true => rw [hro] at h; cases h
      | false =>
        rw [hro] at h
        obtain ⟨q1, e1, e2, e3, e4⟩ := (hfld _ (mv_lk_mem hf)).2 (hrw100 _ _ _ hs hro)
        obtain ⟨q0, hq0, hg⟩ := mv_getcell hF hW hm hro
        have hg' : (mv_wd sh ad cA ids G)[q0]? = some (mv_ra (ad q 0), .inr (ci, mv_fs ad (G q 0) fs)) := by rw [hg]; simp only [mv_cel, hs]
        obtain ⟨c1, ⟨ty0, c2⟩, c3⟩ := hcls _ _ e1
        have hxe : (mv_ra (ad q 0), (.inr (ci, (mv_fs ad (G q 0) fs).set j (.int (Int32.ofInt v))) : va_E)) = mv_cel sh ad cA (mv_up G q 0 j v) q 0 := by
          simp only [mv_cel, hs]
          rw [mv_fs_set hj]
        have key : K (pc + 3) ls r (mv_up G q 0 j v) = some out → (z = 0 ∨ z = 1) → (z = 1 → 0 ≤ v ∧ v < 2) → W p l e R s m args below meth c H locs cells slots Q (F0 m pc lsC (mv_V ad (.inl v) :: .ref (mv_ra (ad q 0)) :: r.map (mv_V ad))) := by
          intro h hz0 hz
          obtain ⟨f1, f2⟩ := e4 hz0
          refine va_put (C := q1.1) (T := q1.2.1) (N := q1.2.2) (ty := if z = 1 then .boolean else .int) hx hb hts c1 ty0 c2 c3 hown hKn hW.1 hW.2.1 hS q0 hg' e1 j e2 e3 (fun _ h => h) f1 f2 ?_ ?_ (by rw [mv_fs_len]; exact (List.getElem?_eq_some_iff.mp hj).1) hdg (fun H1 locs1 hP1 hD1 hS1 => ?_)
          · rcases hz0 with rfl | rfl
            · rfl
            · obtain ⟨z1, z2⟩ := hz rfl
              rcases (show v = 0 ∨ v = 1 by omega) with rfl | rfl <;> rfl
          · rcases hz0 with rfl | rfl
            · rfl
            · obtain ⟨z1, z2⟩ := hz rfl
              rcases (show v = 0 ∨ v = 1 by omega) with rfl | rfl <;> rfl
          · exact go h H1 locs1 lsC (mv_Wd_put hF hW hov hq0 hxe hP1 hD1) hS1 hL hst
        dsimp only [cond] at h
        split at h <;> try contradiction
        · exact key h (Or.inl rfl) (fun h => by cases h)
        · obtain ⟨z1, z2⟩ := mv_ck_h h
          exact key z2 (Or.inr rfl) (fun _ => z1)
  case arraylength =>
    dsimp only at h
    split at h <;> try contradiction
    next q i r =>
    have ho := (mv_okc hst).1
    cases Nat.eq_of_beq_eq_true hi
    split at h <;> try contradiction
    · rename sh q = some _ => hs
      have hm := mv_no999 hF hs ho
      rw [List.map_cons, show mv_V ad (.inr (q, 0)) = .ref (mv_ra (ad q 0)) from mv_ref_of hF hm]
      obtain ⟨hn, hw, h3⟩ := hF.1 _ _ _ _ hs
      cases hro : Nat.ble 1000 q with
      | true =>
        have hR1 := hR q (mv_getro hF hm hro).1
        simp only [hs] at hR1
        exact va_tlen hx hb hR1 hS rfl hdg (go h H locs lsC hW hS hL (mv_oks (by show mv_in _; unfold mv_in; omega) (mv_okc hst).2))
      | false =>
        obtain ⟨q0, hq0, hg⟩ := mv_getcell hF hW hm hro
        simp only [mv_cel, hs] at hg
        exact va_alen hx hb hKn hW.1 q0 _ hg (h3 hro).1 rfl hdg (go h H locs lsC hW hS hL (mv_oks (by show mv_in _; unfold mv_in; omega) (mv_okc hst).2))
    · rename sh q = some _ => hs
      have hm := mv_no999 hF hs ho
      rw [List.map_cons, show mv_V ad (.inr (q, 0)) = .ref (mv_ra (ad q 0)) from mv_ref_of hF hm]
      obtain ⟨hn, hw, h3⟩ := hF.1 _ _ _ _ hs
      cases hro : Nat.ble 1000 q with
      | true =>
        have hR1 := hR q (mv_getro hF hm hro).1
        simp only [hs] at hR1
        exact va_tlen hx hb hR1 hS rfl hdg (go h H locs lsC hW hS hL (mv_oks (by show mv_in _; unfold mv_in; omega) (mv_okc hst).2))
      | false =>
        obtain ⟨q0, hq0, hg⟩ := mv_getcell hF hW hm hro
        simp only [mv_cel, hs] at hg
        exact va_alen hx hb hKn hW.1 q0 _ hg (h3 hro).1 rfl hdg (go h H locs lsC hW hS hL (mv_oks (by show mv_in _; unfold mv_in; omega) (mv_okc hst).2))
    · rename sh q = some _ => hs
      have hm := mv_no999 hF hs ho
      rw [List.map_cons, show mv_V ad (.inr (q, 0)) = .ref (mv_ra (ad q 0)) from mv_ref_of hF hm]
      obtain ⟨hn, hw, h3⟩ := hF.1 _ _ _ _ hs
      cases hro : Nat.ble 1000 q with
      | true =>
        exact absurd hs (hro3 _ hro _ _)
      | false =>
        obtain ⟨q0, hq0, hg⟩ := mv_getcell hF hW hm hro
        simp only [mv_cel, hs] at hg
        exact va_alen hx hb hKn hW.1 q0 _ hg (h3 hro).1 rfl hdg (go h H locs lsC hW hS hL (mv_oks (by show mv_in _; unfold mv_in; omega) (mv_okc hst).2))
    · rename sh q = some _ => hs
      have hm := mv_no999 hF hs ho
      rw [List.map_cons, show ∀ i', (q, i') ∈ ids ++ ros → mv_V ad (.inr (q, i')) = .ref (mv_ra (ad q i')) from fun i' h => mv_ref_of hF h]
      · obtain ⟨hn, hw, h3⟩ := hF.1 _ _ _ _ hs
        cases hro : Nat.ble 1000 q with
        | true => exact absurd hs (hro3 _ hro _ _)
        | false =>
          obtain ⟨q0, hq0, hg⟩ := mv_getcell hF hW hm hro
          simp only [mv_cel, hs] at hg
          exact va_alen hx hb hKn hW.1 q0 0 hg ((h3 hro).2 rfl).1 rfl hdg (go h H locs lsC hW hS hL (mv_oks (by show mv_in _; unfold mv_in; omega) (mv_okc hst).2))
      · exact hm
  case iaload =>
    dsimp only at h
    split at h <;> try contradiction
    next x q i r =>
    have hox := (mv_okc hst).1
    have ho := (mv_okc (mv_okc hst).2).1
    have hst' := (mv_okc (mv_okc hst).2).2
    cases Nat.eq_of_beq_eq_true hi
    split at h <;> try contradiction
    · rename sh q = some _ => hs
      have hm := mv_no999 hF hs ho
      rw [List.map_cons, List.map_cons, show mv_V ad (.inr (q, 0)) = .ref (mv_ra (ad q 0)) from mv_ref_of hF hm]
      obtain ⟨hn, hw, h3⟩ := hF.1 _ _ _ _ hs
      obtain ⟨hin, h⟩ := mv_ck_h h
      cases hro : Nat.ble 1000 q with
      | true =>
        have hR1 := hR q (mv_getro hF hm hro).1
        simp only [hs] at hR1
        rw [mv_rd_ro hro] at h
        exact va_ti hx hb hR1 hS (mv_vpin hox hin) (by rw [mv_clamp hox hin.1]; rfl) hdg (go h H locs lsC hW hS hL (mv_oks (hF.2.2.2.2.2.2.2.1 _ _ _) hst'))
      | false =>
        obtain ⟨q0, hq0, hg⟩ := mv_getcell hF hW hm hro
        simp only [mv_cel, hs] at hg
        rw [mv_rd_rw hro] at h
        refine va_iald hx hb hKn hW.1 q0 0 hg (h3 hro).1 (mv_vpin hox hin) hdg ?_
        rw [mv_clamp hox hin.1]
        exact go h H locs lsC hW hS hL (mv_oks (hW.2.2 _ _ _) hst')
    · rename sh q = some _ => hs
      have hm := mv_no999 hF hs ho
      rw [List.map_cons, List.map_cons, show ∀ i', (q, i') ∈ ids ++ ros → mv_V ad (.inr (q, i')) = .ref (mv_ra (ad q i')) from fun i' h => mv_ref_of hF h]
      · obtain ⟨hn, hw, h3⟩ := hF.1 _ _ _ _ hs
        obtain ⟨hin, h⟩ := mv_ck_h h
        cases hro : Nat.ble 1000 q with
        | true => exact absurd hs (hro3 _ hro _ _)
        | false =>
          obtain ⟨q0, hq0, hg⟩ := mv_getcell hF hW hm hro
          simp only [mv_cel, hs] at hg
          rw [mv_rd_rw hro] at h
          refine va_iald hx hb hKn hW.1 q0 0 hg ((h3 hro).2 rfl).1 (mv_vpin hox hin) hdg ?_
          rw [mv_clamp hox hin.1]
          exact go h H locs lsC hW hS hL (mv_oks (hW.2.2 _ _ _) hst')
      · exact hm
  case iastore =>
    dsimp only at h
    split at h <;> try contradiction
    next v x q i r =>
    obtain ⟨hov, hst⟩ := mv_okc hst
    obtain ⟨hox, hst⟩ := mv_okc hst
    obtain ⟨ho, hst⟩ := mv_okc hst
    cases Nat.eq_of_beq_eq_true hi
    split at h <;> try contradiction
    · rename sh q = some _ => hs
      have hm := mv_no999 hF hs ho
      rw [List.map_cons, List.map_cons, List.map_cons, show mv_V ad (.inr (q, 0)) = .ref (mv_ra (ad q 0)) from mv_ref_of hF hm]
      obtain ⟨hn, hw, h3⟩ := hF.1 _ _ _ _ hs
      cases hro : Nat.ble 1000 q with
      | true => rw [hro] at h; cases h
      | false =>
        rw [hro] at h
        obtain ⟨hin, h⟩ := mv_ck_h h
        obtain ⟨q0, hq0, hg⟩ := mv_getcell hF hW hm hro
        simp only [mv_cel, hs] at hg
        refine va_iast hx hb hKn hW.1 hW.2.1 hS q0 0 hg (h3 hro).1 (mv_vpin hox hin) hdg (fun H1 locs1 hP1 hD1 hS1 => ?_)
        rw [mv_clamp hox hin.1] at hP1 hD1
        refine go h H1 locs1 lsC (mv_Wd_put hF hW hov hq0 ?_ hP1 hD1) hS1 hL (mv_okc hst).2
        simp only [mv_cel, hs, mv_upd]
    · rename sh q = some _ => hs
      have hm := mv_no999 hF hs ho
      rw [List.map_cons, List.map_cons, List.map_cons, show ∀ i', (q, i') ∈ ids ++ ros → mv_V ad (.inr (q, i')) = .ref (mv_ra (ad q i')) from fun i' h => mv_ref_of hF h]
      · obtain ⟨hn, hw, h3⟩ := hF.1 _ _ _ _ hs
        cases hro : Nat.ble 1000 q with
        | true => rw [hro] at h; cases h
        | false =>
          rw [hro] at h
          obtain ⟨hin, h⟩ := mv_ck_h h
          obtain ⟨q0, hq0, hg⟩ := mv_getcell hF hW hm hro
          simp only [mv_cel, hs] at hg
          refine va_iast hx hb hKn hW.1 hW.2.1 hS q0 0 hg ((h3 hro).2 rfl).1 (mv_vpin hox hin) hdg (fun H1 locs1 hP1 hD1 hS1 => ?_)
          rw [mv_clamp hox hin.1] at hP1 hD1
          refine go h H1 locs1 lsC (mv_Wd_put hF hW hov hq0 ?_ hP1 hD1) hS1 hL (mv_okc hst).2
          simp only [mv_cel, hs, mv_upd]
      · exact hm
  case baload =>
    dsimp only at h
    split at h <;> try contradiction
    next x q r =>
    obtain ⟨hox, hst⟩ := mv_okc hst
    obtain ⟨ho, hst⟩ := mv_okc hst
    cases Nat.eq_of_beq_eq_true hi
    split at h <;> try contradiction
    · rename sh q = some _ => hs
      have hm := mv_no999 hF hs ho
      rw [List.map_cons, List.map_cons, show mv_V ad (.inr (q, 0)) = .ref (mv_ra (ad q 0)) from mv_ref_of hF hm]
      obtain ⟨hn, hw, h3⟩ := hF.1 _ _ _ _ hs
      obtain ⟨hin, h⟩ := mv_ck_h h
      cases hro : Nat.ble 1000 q with
      | true => exact absurd hs (hro1 _ hro _ _)
      | false =>
        obtain ⟨q0, hq0, hg⟩ := mv_getcell hF hW hm hro
        simp only [mv_cel, hs] at hg
        rw [mv_rd_rw hro] at h
        refine va_zald hx hb hKn hW.1 q0 1 hg (h3 hro).1 (mv_vpin hox hin) hdg ?_
        rw [mv_clamp hox hin.1]
        exact go h H locs lsC hW hS hL (mv_oks (hW.2.2 _ _ _) hst)
    · rename sh q = some _ => hs
      have hm := mv_no999 hF hs ho
      rw [List.map_cons, List.map_cons, show mv_V ad (.inr (q, 0)) = .ref (mv_ra (ad q 0)) from mv_ref_of hF hm]
      obtain ⟨hn, hw, h3⟩ := hF.1 _ _ _ _ hs
      obtain ⟨hin, h⟩ := mv_ck_h h
      cases hro : Nat.ble 1000 q with
      | false => exact absurd hs (hrw2 _ hro _ _)
      | true =>
        have hR1 := hR q (mv_getro hF hm hro).1
        simp only [hs] at hR1
        rw [mv_rd_ro hro] at h
        exact va_tb hx hb hR1 hS (mv_vpin hox hin) (by rw [mv_clamp hox hin.1]; rfl) hdg (go h H locs lsC hW hS hL (mv_oks (hF.2.2.2.2.2.2.2.1 _ _ _) hst))
  case bastore =>
    dsimp only at h
    split at h <;> try contradiction
    next v x q r =>
    obtain ⟨hov, hst⟩ := mv_okc hst
    obtain ⟨hox, hst⟩ := mv_okc hst
    obtain ⟨ho, hst⟩ := mv_okc hst
    cases Nat.eq_of_beq_eq_true hi
    split at h <;> try contradiction
    rename sh q = some _ => hs
    have hm := mv_no999 hF hs ho
    rw [List.map_cons, List.map_cons, List.map_cons, show mv_V ad (.inr (q, 0)) = .ref (mv_ra (ad q 0)) from mv_ref_of hF hm]
    obtain ⟨hn, hw, h3⟩ := hF.1 _ _ _ _ hs
    cases hro : Nat.ble 1000 q with
    | true => rw [hro] at h; cases h
    | false =>
      rw [hro] at h
      obtain ⟨hin, h⟩ := mv_ck_h h
      obtain ⟨hin2, h⟩ := mv_ck_h h
      obtain ⟨q0, hq0, hg⟩ := mv_getcell hF hW hm hro
      simp only [mv_cel, hs] at hg
      refine va_zast hx hb hKn hW.1 hW.2.1 hS q0 1 hg (h3 hro).1 (mv_vpin hox hin) hdg (fun H1 locs1 hP1 hD1 hS1 => ?_)
      have e1 : vp_nar .boolean (Int32.ofInt v) = Int32.ofInt v := by
        rcases (show v = 0 ∨ v = 1 by omega) with rfl | rfl <;> rfl
      rw [mv_clamp hox hin.1, e1] at hP1 hD1
      refine go h H1 locs1 lsC (mv_Wd_put hF hW hov hq0 ?_ hP1 hD1) hS1 hL hst
      simp only [mv_cel, hs, mv_upd]
  case aaload =>
    dsimp only at h
    split at h <;> try contradiction
    next x q r =>
    obtain ⟨hox, hst⟩ := mv_okc hst
    obtain ⟨ho, hst⟩ := mv_okc hst
    cases Nat.eq_of_beq_eq_true hi
    split at h <;> try contradiction
    rename sh q = some _ => hs
    have hm := mv_no999 hF hs ho
    rw [List.map_cons, List.map_cons, show mv_V ad (.inr (q, 0)) = .ref (mv_ra (ad q 0)) from mv_ref_of hF hm]
    obtain ⟨hn, hw, h3⟩ := hF.1 _ _ _ _ hs
    obtain ⟨hin, h⟩ := mv_ck_h h
    cases hro : Nat.ble 1000 q with
    | true => exact absurd hs (hro3 _ hro _ _)
    | false =>
    obtain ⟨q0, hq0, hg⟩ := mv_getcell hF hW hm hro
    simp only [mv_cel, hs] at hg
    have hm2 := ((h3 hro).2 rfl).2 x.toNat (by omega)
    have hlt : (Int32.ofInt x).toNatClampNeg < _ := Nat.not_le.mp fun q => mv_vpin hox hin (Or.inr q)
    refine W.aald (v := ad q (x.toNat + 1)) (ty := .array .int) hx hb (hW.1 q0 _ hg) ((hKn.2 3 _ (h3 hro).1).1 _ (fun j => va_rf (if j < _ then some (mv_ra (ad q (j + 1))) else none))) rfl (fun q => by cases q) (by show ¬ (_ < 0 ∨ (arrV _ _ _).slots.size ≤ _); rw [arrV_size]; exact mv_vpin hox hin) (by show (arrV _ _ _).slots[_]? = _; rw [arrV_read _ _ hlt]; simp only [hlt, if_true]; rw [mv_clamp hox hin.1]; exact congrArg some (mv_ref_of hF (List.mem_append_left _ hm2)).symm) rfl rfl hdg ?_
    exact go h H locs lsC hW hS hL (mv_oks (Or.inl (List.mem_append_left _ hm2)) hst)
  case ireturn =>
    dsimp only at h
    cases Nat.eq_of_beq_eq_true hi
    split at h <;> try contradiction
    · next v hb0 =>
      cases h
      exact (hfin H locs lsC pc hW hS).1 (mv_okc hst).1 (fun lo hi h => by rw [hb0] at h; cases h) (mv_lk_mem hlk) hdg
    · next v lo hi hb0 =>
      split at h <;> try contradiction
      next hv =>
      cases h
      exact (hfin H locs lsC pc hW hS).1 (mv_okc hst).1 (fun lo' hi' h => by rw [hb0] at h; cases h; exact hv) (mv_lk_mem hlk) hdg
  case return_ =>
    dsimp only at h
    cases Nat.eq_of_beq_eq_true hi
    split at h <;> try contradiction
    cases h
    exact (hfin H locs lsC pc hW hS).2 rfl (mv_lk_mem hlk) hdg
  case lookupswitch d ps =>
    dsimp only at h
    split at h <;> try contradiction
    next x r =>
    simp only [mv_iok, Bool.and_eq_true, decide_eq_true_eq] at hi
    obtain ⟨⟨i1, i2⟩, i3⟩ := hi
    obtain ⟨h1, h2⟩ := mv_lks_h h i1 i2
    exact lv_lookup hx hb hdg i3 (by rw [mv_toInt (mv_okc hst).1]) (mv_tg_of h2) (go h1 H locs lsC hW hS hL (mv_okc hst).2)
  case tableswitch d lo hi0 ofs =>
    dsimp only at h
    split at h <;> try contradiction
    next x r =>
    simp only [mv_iok, Bool.and_eq_true, decide_eq_true_eq] at hi
    obtain ⟨⟨i1, i2⟩, i3⟩ := hi
    by_cases hlo : x < lo
    · exact lv_tableOut hx hb hdg (Or.inl (by rw [mv_toInt (mv_okc hst).1]; exact hlo)) (mv_tg_of i1) (go (mv_tbs_lo hlo h) H locs lsC hW hS hL (mv_okc hst).2)
    · rcases mv_tbs_h h with (h1 | ⟨h1, h2⟩) | ⟨h1, t', h2, h3⟩
      · exact absurd h1 hlo
      · exact lv_tableOut hx hb hdg (Or.inr (by rw [mv_toInt (mv_okc hst).1]; omega)) (mv_tg_of i1) (go h2 H locs lsC hW hS hL (mv_okc hst).2)
      · have hl := (List.getElem?_eq_some_iff.mp h2).1
        have h0 := List.all_eq_true.mp i2 t' (List.mem_of_getElem? h2)
        exact lv_tableIn hx hb hdg (by rw [mv_toInt (mv_okc hst).1]; exact hlo) (by rw [mv_toInt (mv_okc hst).1]; omega) (by rw [mv_toInt (mv_okc hst).1, ← Array.getElem?_toList]; exact h2) (mv_tg_of (of_decide_eq_true h0)) (go h3 H locs lsC hW hS hL (mv_okc hst).2)
  case invokevirtual k =>
    dsimp only at h
    split at h <;> try contradiction
    next n ci vo f hf =>
    cases Nat.eq_of_beq_eq_true hi
    exact mv_call_snd hF hL hW hS hst (hCal _ (mv_lk_mem hf)) hdg h (fun H1 locs1 h1 h2 st' h3 h4 => go h4 H1 locs1 lsC h1 h2 hL h3)
  case invokestatic k =>
    dsimp only at h
    split at h <;> try contradiction
    next n vo f hf =>
    cases Nat.eq_of_beq_eq_true hi
    exact mv_call_snd hF hL hW hS hst (hCal _ (mv_lk_mem hf)) hdg h (fun H1 locs1 h1 h2 st' h3 h4 => go h4 H1 locs1 lsC h1 h2 hL h3)
  all_goals first
    | (simp [mv_op] at h; done)
    | (dsimp only at h
       split at h
       · next r hop => exact mv_op_snd hF hx hb hdg hi hop hst (fun hst' => go h H locs lsC hW hS hL hst')
       · contradiction)
end MV
end
section
/-! A method as a flat machine over its cuts; its contract. -/
def mv_go (rc : mv_G) (M : mv_M) (sh : Nat → Option mv_S) (N : Nat) : Nat → Nat → mv_L → mv_G → Option (Int × mv_G)
  | 0, _, _, _ => none
  | f + 1, pc, ls, G => match mv_rg rc M sh N pc ls [] G with
    | none => none
    | some (.inl r) => some r
    | some (.inr (pc', ls', G')) => mv_go rc M sh N f pc' ls' G'
def mv_Ev (rc : mv_G) (M : mv_M) (sh : Nat → Option mv_S) (N : Nat) (pc : Nat) (ls : mv_L) (G : mv_G) (x : Int × mv_G) : Prop := ∃ f, mv_go rc M sh N f pc ls G = some x
def mv_in0l (nL : Nat) (as : List mv_A) : mv_L := as.map some ++ List.replicate (nL - as.length) none
noncomputable def mv_fn (rc : mv_G) (M : mv_M) (sh : Nat → Option mv_S) (N nL : Nat) : mv_F := fun as G =>
  @dite _ (∃ x, mv_Ev rc M sh N 0 (mv_in0l nL as) G x) (Classical.propDecidable _) (fun h => some h.choose) (fun _ => none)
theorem mv_go_mono {rc : mv_G} {M : mv_M} {sh : Nat → Option mv_S} {N : Nat} {x : Int × mv_G} : ∀ {f g pc : Nat} {ls : mv_L} {G : mv_G}, f ≤ g → mv_go rc M sh N f pc ls G = some x → mv_go rc M sh N g pc ls G = some x
  | 0, _, _, _, _, _, h => by cases h
  | f + 1, 0, _, _, _, hle, _ => by omega
  | f + 1, g + 1, pc, ls, G, hle, h => by
    simp only [mv_go] at h ⊢
    split at h
    · cases h
    · exact h
    · exact mv_go_mono (by omega) h
theorem mv_Ev_det {rc : mv_G} {M : mv_M} {sh : Nat → Option mv_S} {N pc : Nat} {ls : mv_L} {G : mv_G} {x y : Int × mv_G} (h1 : mv_Ev rc M sh N pc ls G x) (h2 : mv_Ev rc M sh N pc ls G y) : x = y := by
  obtain ⟨f, h1⟩ := h1
  obtain ⟨g, h2⟩ := h2
  have a := mv_go_mono (Nat.le_max_left f g) h1
  have b := mv_go_mono (Nat.le_max_right f g) h2
  exact Option.some.inj (a.symm.trans b)
theorem mv_fn_of {rc : mv_G} {M : mv_M} {sh : Nat → Option mv_S} {N nL : Nat} {as : List mv_A} {G : mv_G} {x : Int × mv_G} (h : mv_Ev rc M sh N 0 (mv_in0l nL as) G x) : mv_fn rc M sh N nL as G = some x := by
  have h1 : ∃ x, mv_Ev rc M sh N 0 (mv_in0l nL as) G x := ⟨x, h⟩
  unfold mv_fn
  rw [dif_pos h1]
  exact congrArg some (mv_Ev_det h1.choose_spec h)
theorem mv_fn_to {rc : mv_G} {M : mv_M} {sh : Nat → Option mv_S} {N nL : Nat} {as : List mv_A} {G : mv_G} {x : Int × mv_G} (h : mv_fn rc M sh N nL as G = some x) : mv_Ev rc M sh N 0 (mv_in0l nL as) G x := by
  unfold mv_fn at h
  split at h
  · next h1 =>
    cases h
    exact h1.choose_spec
  · cases h
theorem mv_Ev.ret {rc : mv_G} {M : mv_M} {sh : Nat → Option mv_S} {N pc : Nat} {ls : mv_L} {G : mv_G} {x : Int × mv_G} (h : mv_rg rc M sh N pc ls [] G = some (.inl x)) : mv_Ev rc M sh N pc ls G x := ⟨1, by simp only [mv_go, h]⟩
theorem mv_Ev.cut {rc : mv_G} {M : mv_M} {sh : Nat → Option mv_S} {N pc pc' : Nat} {ls ls' : mv_L} {G G' : mv_G} {x : Int × mv_G} (h : mv_rg rc M sh N pc ls [] G = some (.inr (pc', ls', G'))) (k : mv_Ev rc M sh N pc' ls' G' x) : mv_Ev rc M sh N pc ls G x := by
  obtain ⟨f, k⟩ := k
  exact ⟨f + 1, by simp only [mv_go, h]; exact k⟩
section MV
variable {p : Program} {l : Launch} {e : Env} {R : Room} {s : State} {m : MethodId} {args : Array Value} {below : List Frame} {meth : Method} {c : Code} {cells slots : Nat} {Q : State → Prop}
variable {cc : ByteArray} {nL : Nat} {sh : Nat → Option mv_S} {ids ros : List (Nat × Nat)} {ad : Nat → Nat → Value} {cA : Nat → ClassId} {cl : List vw_C} {D : va_G} {tys : List (ClassId × FieldType)} {A : Nat → Prop} {rc : mv_G} {M : mv_M}
variable {H : Heap} {locs : List Loc} {lsC : Array Slot} {pc : Nat} {ls : mv_L} {st : List mv_A} {G : mv_G} {out : mv_O} {K : mv_K}
theorem mv_msk_len : ∀ (b : List Bool) (ls : mv_L), (mv_msk b ls).length = ls.length
  | [], _ => rfl
  | true :: b, v :: ls => by simp [mv_msk, mv_msk_len b ls]
  | false :: b, v :: ls => by simp [mv_msk, mv_msk_len b ls]
  | true :: _, [] => rfl
  | false :: _, [] => rfl
theorem mv_msk_get : ∀ {b : List Bool} {ls : mv_L} {i : Nat} {v : mv_A}, (mv_msk b ls)[i]? = some (some v) → ls[i]? = some (some v)
  | [], _, _, _, h => h
  | true :: b, w :: ls, 0, _, h => h
  | true :: b, w :: ls, i + 1, v, h => mv_msk_get (b := b) (ls := ls) (i := i) h
  | false :: b, w :: ls, 0, _, h => by simp [mv_msk] at h
  | false :: b, w :: ls, i + 1, v, h => mv_msk_get (b := b) (ls := ls) (i := i) h
  | true :: _, [], _, _, h => by simp [mv_msk] at h
  | false :: _, [], _, _, h => by simp [mv_msk] at h
theorem mv_LR_msk {b : List Bool} (h : mv_LR ids ros ad nL ls lsC) : mv_LR ids ros ad nL (mv_msk b ls) lsC := ⟨by rw [mv_msk_len]; exact h.1, h.2.1, h.2.2.1, fun i v hv => h.2.2.2 i v (mv_msk_get hv)⟩
theorem mv_nx_snd (hK : ∀ pc ls st G, mv_Snd p l e R s m args below meth c cells slots Q cc nL sh ids ros ad cA cl D A M pc ls st G (K pc ls st G)) : ∀ pc ls st G, mv_Snd p l e R s m args below meth c cells slots Q cc nL sh ids ros ad cA cl D A M pc ls st G (mv_nx M K pc ls st G) := by
  intro pc ls st G out h hfin H locs lsC hW hS hL hst
  unfold mv_nx at h
  split at h
  · exact hK pc ls st G out h hfin H locs lsC hW hS hL hst
  · split at h <;> try contradiction
    cases h
    exact hfin H locs lsC hW hS (mv_LR_msk hL)
/-- the world's fixed part, decided once -/
def mv_St (sh : Nat → Option mv_S) : Prop := (∀ k ci fs, sh k = some (.inr (ci, fs)) → Nat.ble 1000 k = true → Nat.ble 100 ci = true) ∧ (∀ k, Nat.ble 1000 k = true → ∀ n w, ¬ sh k = some (.inl (3, n, w))) ∧ (∀ k, Nat.ble 1000 k = false → ∀ n w, ¬ sh k = some (.inl (2, n, w))) ∧ (∀ k, Nat.ble 1000 k = true → ∀ n w, ¬ sh k = some (.inl (1, n, w))) ∧ (∀ k ci fs, sh k = some (.inr (ci, fs)) → Nat.ble 1000 k = false → Nat.ble 100 ci = false)
theorem mv_rg_snd {own : String} {Ts : List Cond} {cr : mv_R} (hX : mv_Ctx p s m args c cc nL sh cl D tys own Ts cr M) (hF : mv_Fix sh ids ros ad cA tys A rc) (hR : mv_RO sh ros ad A rc cr s) (hs : mv_St sh)
    (hC : mv_cst p l e R s m args below meth c cells slots Q cc ids ros ad A M) (hCal : ∀ x ∈ M.2.2.2.2.1, mv_Cal p l e R s m args below meth c cells slots Q cc nL sh ids ros ad cA cl D A x.1 x.2.1 x.2.2.1 x.2.2.2.1 x.2.2.2.2) :
    ∀ (n : Nat) pc ls st G, mv_Snd p l e R s m args below meth c cells slots Q cc nL sh ids ros ad cA cl D A M pc ls st G (mv_rg rc M sh n pc ls st G)
  | 0, _, _, _, _ => fun out h => by cases h
  | n + 1, pc, ls, st, G => mv_step_snd hX hF hR hs.1 hs.2.1 hs.2.2.1 hs.2.2.2.1 hs.2.2.2.2 hC hCal (mv_nx_snd (mv_rg_snd hX hF hR hs hC hCal n))
theorem mv_go_snd {own : String} {Ts : List Cond} {cr : mv_R} (hX : mv_Ctx p s m args c cc nL sh cl D tys own Ts cr M) (hF : mv_Fix sh ids ros ad cA tys A rc) (hR : mv_RO sh ros ad A rc cr s) (hs : mv_St sh)
    (hC : mv_cst p l e R s m args below meth c cells slots Q cc ids ros ad A M) (hCal : ∀ x ∈ M.2.2.2.2.1, mv_Cal p l e R s m args below meth c cells slots Q cc nL sh ids ros ad cA cl D A x.1 x.2.1 x.2.2.1 x.2.2.2.1 x.2.2.2.2) {N : Nat} {x : Int × mv_G} :
    ∀ {f pc : Nat} {ls : mv_L} {G : mv_G}, mv_go rc M sh N f pc ls G = some x → mv_Fin p l e R s m args below meth c cells slots Q cc nL sh ids ros ad cA cl D A M (.inl x) → ∀ (H : Heap) (locs : List Loc) (lsC : Array Slot), mv_Wd sh ids ad cA cl D A G H → va_S A s.heap H locs → mv_LR ids ros ad nL ls lsC → W p l e R s m args below meth c H locs cells slots Q (F0 m pc lsC [])
  | 0, _, _, _, h => by cases h
  | f + 1, pc, ls, G, h => by
    intro hfin H locs lsC hW hS hL
    simp only [mv_go] at h
    split at h
    · cases h
    · next r e =>
      cases h
      exact mv_rg_snd hX hF hR hs hC hCal N pc ls [] G _ e hfin H locs lsC hW hS hL (fun v hv => by cases hv)
    · next pc' ls' G' e =>
      exact mv_rg_snd hX hF hR hs hC hCal N pc ls [] G _ e (fun H1 locs1 lsC1 h1 h2 h3 => mv_go_snd hX hF hR hs hC hCal h hfin H1 locs1 lsC1 h1 h2 h3) H locs lsC hW hS hL (fun v hv => by cases hv)
/-- the world, as a contract has it -/
def mv_Wo (sh : Nat → Option mv_S) (ids ros : List (Nat × Nat)) (ad : Nat → Nat → Value) (cA : Nat → ClassId) (cl : List vw_C) (D : va_G) (tys : List (ClassId × FieldType)) (A : Nat → Prop) (rc : mv_G) (cr : mv_R) (EX : State → Prop) (G : mv_G) (U : State) : Prop :=
  mv_Wd sh ids ad cA cl D A G U.heap ∧ va_K D cl tys U ∧ mv_RO sh ros ad A rc cr U ∧ EX U
/-- the contract of a method -/
def mv_Met (l : Launch) (y : MethodName) (bytes : ByteArray) (maxL : Nat) (ret : Option FieldType) (Ts : List Cond) (rm : Room) (n : Nat) (vo : Bool) (sh : Nat → Option mv_S) (ids ros : List (Nat × Nat)) (ad : Nat → Nat → Value) (cA : Nat → ClassId) (cl : List vw_C) (D : va_G) (tys : List (ClassId × FieldType)) (A : Nat → Prop) (rc : mv_G) (cr : mv_R) (EX : State → Prop) (f : mv_F) : Prop :=
  ∀ (as : List mv_A) (G G' : mv_G) (r : Int), as.length = n → (∀ v ∈ as, mv_okV ids ros v) → f as G = some (r, G') →
    Met l y (.code y bytes maxL ret :: Ts) rm (va_Pc (as.map (mv_V ad)) (mv_Wo sh ids ros ad cA cl D tys A rc cr EX G))
      (match vo with | true => va_Qv (fun _ : Unit => True) (fun _ t => mv_Wd sh ids ad cA cl D A G' t.heap) A | false => va_Qi (fun (q : Int32) (_ : Unit) => q = Int32.ofInt r ∧ mv_in r) (fun _ t => mv_Wd sh ids ad cA cl D A G' t.heap) A) 0 0 A
theorem mv_sl {vs : List Value} (h : ∀ v ∈ vs, v.category = 1) : lg_sl vs = vs.map Slot.val := by
  induction vs with
  | nil => rfl
  | cons v vs ih =>
    have h1 := h v List.mem_cons_self
    have h2 := ih fun w hw => h w (List.mem_cons_of_mem _ hw)
    show (if v.category = 2 then [Slot.val v, .second] else [.val v]) ++ lg_sl vs = _
    rw [h1, h2]
    rfl
theorem mv_in0_get {as : List mv_A} {nL i : Nat} {v : mv_A} (h : (mv_in0l nL as)[i]? = some (some v)) : as[i]? = some v := by
  unfold mv_in0l at h
  by_cases hi : i < (as.map some).length
  · rw [List.getElem?_append_left hi, List.getElem?_map] at h
    cases hv : as[i]? with
    | none => rw [hv] at h; cases h
    | some w => rw [hv] at h; cases h; rfl
  · rw [List.getElem?_append_right (by omega), List.getElem?_replicate] at h
    split at h <;> cases h
/-- the narrowing that an answer bears -/
def mv_rz (vo : Bool) (ret : Option FieldType) (M : mv_M) : Prop := match vo with
  | true => ret = none ∧ ∀ x ∈ M.1, x.2.1 ≠ .ireturn
  | false => (∃ ty, ret = some ty ∧ ∀ v : Int, mv_in v → (∀ lo hi, M.2.2.2.2.2.2 = some (lo, hi) → lo ≤ v ∧ v ≤ hi) → narrow ty (.int (Int32.ofInt v)) = .int (Int32.ofInt v)) ∧ ∀ x ∈ M.1, x.2.1 ≠ .return_
/-- what is known where a method's body begins -/
def mv_Bg (p : Program) (s : State) (m : MethodId) (args : Array Value) (c : Code) (cc : ByteArray) (nL : Nat) (own : String) (Ts : List Cond) : Prop := p.tables.exec = Jvm.exec ∧ c.code = cc ∧ s.vm.findClass own = some m.cls ∧ (∀ w ∈ Ts, w.before args s = true) ∧ c.maxLocals = nL
theorem mv_met_of {y : MethodName} {ret : Option FieldType} {Ts : List Cond} {rm : Room} {n : Nat} {vo : Bool} {cr : mv_R} {EX : State → Prop} {N : Nat} (hy : plainName y.cls = true) (hn : n ≤ nL) (hF : mv_Fix sh ids ros ad cA tys A rc) (hs : mv_St sh) (hrz : mv_rz vo ret M)
    (hcls : ∀ (ci : Nat) (q : vw_C), cl[ci]? = some q → (∀ w ∈ u_ws q.1 q.2.1 q.2.2, w ∈ Ts) ∧ (∃ ty0 : Nat → FieldType, ∀ k, k < q.2.2 → parseFieldDescriptor (q.2.1 k).2.2.1 = some (ty0 k)) ∧ (∀ a, a < q.2.2 → ∀ b, b < q.2.2 → a ≠ b → (q.2.1 a).2.1 ≠ (q.2.1 b).2.1))
    (hcode : ∀ x ∈ M.1, decode cc x.1 = .ok (x.2.1, x.2.2) ∧ mv_iok x.1 x.2.1 x.2.2 = true)
    (hfld : ∀ x ∈ M.2.1, (Nat.ble 100 x.2.1 = true → Cond.fieldLink y.cls x.1 (cr x.2.1).1 ((cr x.2.1).2 x.2.2.1).1 ((cr x.2.1).2 x.2.2.1).2 ∈ Ts) ∧ (Nat.ble 100 x.2.1 = false → ∃ q : vw_C, cl[x.2.1]? = some q ∧ x.2.2.1 < q.2.2 ∧ Cond.fieldLink y.cls x.1 (q.2.1 x.2.2.1).1 (q.2.1 x.2.2.1).2.1 (q.2.1 x.2.2.1).2.2.1 ∈ Ts ∧
      (x.2.2.2 = 0 ∨ x.2.2.2 = 1 → (q.2.1 x.2.2.1).2.2.2 = false ∧ parseFieldDescriptor (q.2.1 x.2.2.1).2.2.1 = some (if x.2.2.2 = 1 then .boolean else .int))))
    (hC : ∀ (p : Program) (e : Env) (s : State) (m : MethodId) (args : Array Value) (below : List Frame) (meth : Method) (c : Code) (Q : State → Prop), mv_Bg p s m args c cc nL y.cls Ts → EX s → mv_RO sh ros ad A rc cr s → mv_cst p l e rm s m args below meth c 0 0 Q cc ids ros ad A M)
    (hCal : ∀ (p : Program) (e : Env) (s : State) (m : MethodId) (args : Array Value) (below : List Frame) (meth : Method) (c : Code) (Q : State → Prop), mv_Bg p s m args c cc nL y.cls Ts → EX s → mv_RO sh ros ad A rc cr s → va_K D cl tys s → ∀ x ∈ M.2.2.2.2.1, mv_Cal p l e rm s m args below meth c 0 0 Q cc nL sh ids ros ad cA cl D A x.1 x.2.1 x.2.2.1 x.2.2.2.1 x.2.2.2.2) :
    mv_Met l y cc nL ret Ts rm n vo sh ids ros ad cA cl D tys A rc cr EX (mv_fn rc M sh N nL) := by
  intro as G G' r hlen has hf
  obtain ⟨fu, hgo⟩ := mv_fn_to hf
  refine Met.ofW (cc := cc) (maxL := nL) (ret := ret) hy rfl ?_
  intro p e s m args below meth c s₁ B hml hv
  obtain ⟨rfl, hW, hK, hR, hE⟩ := hv
  have hx := B.exec
  have hb := B.bytes
  have hr := B.returns
  have hlocks := B.notSynchronized
  have hts0 := atoms_spec (ws := .code y cc nL ret :: Ts) B.pre
  have hts : ∀ w ∈ Ts, w.before (as.map (mv_V ad)).toArray s = true := fun w h => hts0 w (List.mem_cons_of_mem _ h)
  have hown : s.vm.findClass y.cls = some m.cls := findClass_of_methodNamed B.named
  have hcat : ∀ v ∈ as.map (mv_V ad), v.category = 1 := fun v hv => by
    obtain ⟨w, -, rfl⟩ := List.mem_map.mp hv
    exact mv_okcat hF
  have hlsl : (lg_sl (as.map (mv_V ad))).length = n := by rw [mv_sl hcat]; simp [hlen]
  have hl := lv_entry (as.map (mv_V ad)) (n := nL) (by rw [hlsl]; exact hn)
  have hL : mv_LR ids ros ad nL (mv_in0l nL as) ((lg_sl (as.map (mv_V ad)) ++ List.replicate (nL - (lg_sl (as.map (mv_V ad))).length) Slot.unset).toArray) := by
    refine ⟨by simp [mv_in0l]; omega, hl.1, hl.2.1, fun i v hi => ?_⟩
    have h1 := mv_in0_get hi
    refine ⟨?_, has v (List.mem_of_getElem? h1)⟩
    have h2 := (List.getElem?_eq_some_iff.mp h1).1
    rw [List.getElem?_toArray, mv_sl hcat, List.getElem?_append_left (by simp; omega)]
    simp [h1]
  rw [lg_entry_eq]
  have hBg : mv_Bg p s m (as.map (mv_V ad)).toArray c cc nL y.cls Ts := ⟨hx, hb, hown, hts, hml⟩
  refine mv_go_snd (own := y.cls) (Ts := Ts) (cr := cr) (M := M) ⟨hx, hb, hown, hts, hK, hml, hcls, hcode, fun x h => ⟨fun h1 => hts _ ((hfld x h).1 h1), fun h1 => ?_⟩⟩ hF hR hs (hC p e s m _ below meth c _ hBg hE hR) (hCal p e s m _ below meth c _ hBg hE hR hK) hgo ?_ s.heap [] _ hW va_S.rf hL
  · obtain ⟨q, e1, e2, e3, e4⟩ := (hfld x h).2 h1
    exact ⟨q, e1, e2, hts _ e3, e4⟩
  · intro H locs lsC pc hW1 hS1
    cases vo with
    | true =>
      obtain ⟨hret, hno⟩ := hrz
      refine ⟨fun _ _ hm _ => absurd rfl (hno _ hm), fun _ _ hdg => ?_⟩
      exact W.vret hx hb (hr.trans hret) (fun t ht hW => ⟨⟨(), rfl, trivial, by show mv_Wd sh ids ad cA cl D A G' t.heap; rw [ht]; exact hW1⟩, hS1.F ht⟩) hS1.2.2 hdg
    | false =>
      obtain ⟨⟨ty, hret, hnr⟩, hno⟩ := hrz
      refine ⟨fun hin hbd hm hdg => ?_, fun _ hm _ => absurd rfl (hno _ hm)⟩
      exact W.zret (ty := ty) hx hb (hr.trans hret) (hnr _ hin hbd) (fun t ht hW => ⟨⟨_, (), rfl, ⟨rfl, hin⟩, by show mv_Wd sh ids ad cA cl D A G' t.heap; rw [ht]; exact hW1⟩, hS1.F ht⟩) hS1.2.2 hdg
theorem mv_RO.go {s U : State} {cr : mv_R} (h : mv_RO sh ros ad A rc cr s) (hvm : s.vm.Alike U.vm) (hq : ∀ a : Nat, a < s.heap.size → ¬ A a → U.heap[a]? = s.heap[a]?) : mv_RO sh ros ad A rc cr U := by
  intro k hk
  have h1 := h k hk
  split at h1
  · exact (va_T.moved hvm h1).kept hq
  · exact (va_T.moved hvm h1).kept hq
  · exact ⟨(va_O.moved hvm h1.1).kept hq, fun j r hr => (va_OF.moved hvm (h1.2 j r hr)).kept hq⟩
  · trivial
/-- the outer conditions bear calls -/
def mv_EXok (A : Nat → Prop) (EX : State → Prop) : Prop := (∀ (U : State) (g : JFrame) (mk : MethodId) (a : Array Value), EX U → EX (U.calling g mk a)) ∧ ∀ s U : State, EX s → s.WarmedH U.vm → (∀ a : Nat, a < s.heap.size → ¬ A a → U.heap[a]? = s.heap[a]?) → EX U
theorem mv_Wo_blind {cr : mv_R} {EX : State → Prop} {av : List Value} (hE : mv_EXok A EX) : FrameBlind (va_Pc av (mv_Wo sh ids ros ad cA cl D tys A rc cr EX G)) := fun a U g mk q =>
  ⟨q.1, q.2.1, va_K.moved (u := U) (U := U.calling g mk a) (Vm.Alike.refl U.vm) q.2.2.1, mv_RO.go (s := U) (U := U.calling g mk a) q.2.2.2.1 (Vm.Alike.refl U.vm) (fun _ _ _ => rfl), hE.1 U g mk a q.2.2.2.2⟩
theorem mv_Wo_at {cr : mv_R} {EX : State → Prop} {U : State} (hE : mv_EXok A EX) (hK : va_K D cl tys s) (hR : mv_RO sh ros ad A rc cr s) (hX : EX s) (hW : mv_Wd sh ids ad cA cl D A G H) (hS : va_S A s.heap H locs) (hU : U.heap = H) (hW1 : s.WarmedH U.vm) : mv_Wo sh ids ros ad cA cl D tys A rc cr EX G U := by
  have hq : ∀ a : Nat, a < s.heap.size → ¬ A a → U.heap[a]? = s.heap[a]? := fun a h1 h2 => by rw [hU]; exact hS.2.1 a h1 h2
  exact ⟨by rw [hU]; exact hW, va_K.moved hW1.alike hK, mv_RO.go hR hW1.alike hq, hE.2 s U hX hW1 hq⟩
def mv_nat (p : Option Nat) : Bool := match p with | some _ => true | none => false
theorem mv_cal_of {y : MethodName} {by2 : ByteArray} {mL : Nat} {ret : Option FieldType} {Ts : List Cond} {rm : Room} {n idx : Nat} {rv : Option Nat} {vo : Bool} {cr : mv_R} {EX : State → Prop} {f : mv_F} {own : String} (hM : mv_Met l y by2 mL ret Ts rm n vo sh ids ros ad cA cl D tys A rc cr EX f)
    (hBg : mv_Bg p s m args c cc nL own Ts) (hX : EX s) (hR : mv_RO sh ros ad A rc cr s) (hK : va_K D cl tys s) (hE : mv_EXok A EX) (hF : mv_Fix sh ids ros ad cA tys A rc) (hgood : ∀ w ∈ Ts, goodWord w = true) (hs : mv_St sh)
    (hw : Cond.code y by2 mL ret ∈ Ts ∧ Cond.methodLink own idx y ∈ Ts ∧ Cond.initialized y.cls ∈ Ts ∧ (∀ ci, rv = some ci → Cond.instanceMethod y ∈ Ts ∧ Cond.selects y.cls y y ∈ Ts) ∧ (rv = none → Cond.static y ∈ Ts))
    (hy : y.cls ≠ "java/lang/invoke/MethodHandle" ∧ y.cls ≠ "java/lang/invoke/VarHandle" ∧ (parseMethodDescriptor y.desc).map (fun d => d.parameters.length) = some (match rv with | some _ => n - 1 | none => n))
    (hci : ∀ ci, rv = some ci → (Nat.ble 100 ci = true → (cr ci).1 = y.cls) ∧ (Nat.ble 100 ci = false → ∃ q : vw_C, cl[ci]? = some q ∧ q.1 = y.cls))
    (hrm : rm.cells = 0 ∧ rm.slots = 0 ∧ rm.frames + 1 ≤ R.frames ∧ 8 + (mL + 11) + rm.locals ≤ R.locals) (hro : cells ≤ R.cells ∧ slots ≤ R.slots) :
    mv_Cal p l e R s m args below meth c cells slots Q cc nL sh ids ros ad cA cl D A idx n rv vo f := by
  intro pc lsC as rest G G' r H locs hsz hdg hlen has hrv hrl hrc hf hW hS kk
  have hMet := hM as G G' r hlen has hf
  obtain ⟨hx, hb, hown, hts, hml⟩ := hBg
  obtain ⟨w1, w2, w3, w4, w5⟩ := hw
  obtain ⟨r1, r2, r3, r4⟩ := hrm
  have hgi : GoodIn Ts (.code y by2 mL ret :: Ts) := fun w h => by
    rcases List.mem_cons.mp h with rfl | h
    · exact ⟨w1, good_of_word (hgood _ w1)⟩
    · exact ⟨h, good_of_word (hgood _ h)⟩
  have hroom : 2 * (F0 m pc lsC ((as.map (mv_V ad)).reverse ++ rest)).monitorRoom + (rest.map fun v => v.category).sum ≤ 8 := by
    refine lv_room ?_
    have : ∀ r : List Value, (∀ v ∈ r, v.category = 1) → (r.map fun v => v.category).sum = r.length := by
      intro r
      induction r with
      | nil => intro _; rfl
      | cons v r ih =>
        intro h
        simp only [List.map_cons, List.sum_cons, List.length_cons]
        rw [h v List.mem_cons_self, ih fun w hw => h w (List.mem_cons_of_mem _ hw)]
        omega
    rw [this rest hrc]
    exact hrl
  have hA : ∀ q, q < H.size → A q → A q := fun _ _ h => h
  have run : va_Run p l e R s m args below meth c H locs cells slots 0 0 (F0 m pc lsC ((as.map (mv_V ad)).reverse ++ rest)) rest ((match vo with | true => va_Qv (fun _ : Unit => True) (fun _ t => mv_Wd sh ids ad cA cl D A G' t.heap) A | false => va_Qi (fun (q : Int32) (_ : Unit) => q = Int32.ofInt r ∧ mv_in r) (fun _ t => mv_Wd sh ids ad cA cl D A G' t.heap) A) (as.map (mv_V ad)).toArray) A := by
    cases rv with
    | none =>
      refine va_runS (As := as.map (mv_V ad)) (own := own) (Ts := Ts) (n := n) ⟨hx, hb, hml, hown, hts⟩ hMet ⟨callB_of n hts hgi rfl r1 r2 (hts _ w3) (hts _ w2) hy ⟨r3, r4⟩, hts _ (w5 rfl)⟩ ⟨mv_Wo_blind hE, fun U hU hW1 => ⟨rfl, mv_Wo_at hE hK hR hX hW hS hU hW1⟩⟩ rfl (by simp [hlen]) hsz rfl hroom hdg ⟨by omega, by omega⟩
    | some ci =>
      obtain ⟨k, as', fs, rfl, hk, hsh⟩ := hrv ci rfl
      have eV : mv_V ad (.inr (k, 0)) = .ref (mv_ra (ad k 0)) := mv_ref_of hF hk
      have hcell : ∃ cellB : Cell, H[mv_ra (ad k 0)]? = some cellB ∧ cellB.vm.isStatics = false ∧ s.vm.findClass y.cls = some cellB.cls := by
        cases hb1 : Nat.ble 1000 k with
        | true =>
          have hR1 := hR k (mv_getro hF hk hb1).1
          simp only [hsh] at hR1
          obtain ⟨cell, g1, g2, g3, -⟩ := hR1.1.kept hS.2.1
          exact ⟨cell, g1, g2, by rw [← (hci ci rfl).1 (hs.1 _ _ _ hsh hb1)]; exact g3⟩
        | false =>
          obtain ⟨q, q1, q2⟩ := (hci ci rfl).2 (hs.2.2.2.2 _ _ _ hsh hb1)
          obtain ⟨q0, hq0, hg⟩ := mv_getcell hF hW hk hb1
          simp only [mv_cel, hsh] at hg
          have := va_recv hK hW.1 q1 hg
          rw [q2] at this
          exact this
      obtain ⟨w6, w7⟩ := w4 ci rfl
      rw [List.map_cons, eV] at hMet ⊢
      refine va_runV (As := as'.map (mv_V ad)) (own := own) (Ts := Ts) (C := y.cls) (b := mv_ra (ad k 0)) (n := n - 1) ⟨hx, hb, hml, hown, hts⟩ hMet ⟨callB_of (n - 1) hts hgi rfl r1 r2 (hts _ w3) (hts _ w2) hy ⟨r3, r4⟩, hts _ w6, hts _ w7⟩ ⟨mv_Wo_blind hE, hcell, fun U hU hW1 => ⟨rfl, mv_Wo_at hE hK hR hX hW hS hU hW1⟩⟩ rfl (by simp only [List.length_map]; simp only [List.length_cons] at hlen; omega) hsz (by simp) (by simpa using hroom) hdg ⟨by omega, by omega⟩
  cases vo with
  | true => exact va_callv run hS hA (fun _ h => h) fun u t H1 locs1 ht hvm hp hB hz hk hS1 => kk H1 locs1 (by rw [← ht]; exact hB) hS1 (fun h => by cases h)
  | false =>
    refine va_calli run hS hA (fun _ h => h) fun q u t H1 locs1 ht hvm hp hB hz hk hS1 => ?_
    obtain ⟨rfl, hin⟩ := hp
    exact kk H1 locs1 (by rw [← ht]; exact hB) hS1 (fun _ => hin)
end MV
end
section
-- ===== PART A: goes FIRST, ahead of the names: the tables' words, and 'selects' of the private methods out of them =====
/-- a private method of a class that the tables say can be made, by its rows of tables_1 -/
def lw_okq (q : MethodName × Nat) : Prop := (q.1.cls ≠ "java/lang/invoke/MethodHandle" ∧ q.1.cls ≠ "java/lang/invoke/VarHandle") ∧ Cond.instantiable q.1.cls q.2 ∈ tables_1 ∧ Cond.privateMethod q.1 ∈ tables_1 ∧ Cond.instanceMethod q.1 ∈ tables_1
theorem lw_p0 : lw_okq (⟨"MoveUp$Bench", "findReach", "()V"⟩, 13) := ⟨⟨by decide +kernel, by decide +kernel⟩, List.mem_of_getElem? (i := 32) (by decide +kernel), List.mem_of_getElem? (i := 120) (by decide +kernel), List.mem_of_getElem? (i := 121) (by decide +kernel)⟩
theorem lw_p1 : lw_okq (⟨"MoveUp$Past", "save", "(LMoveUp$Bench;I)V"⟩, 6) := ⟨⟨by decide +kernel, by decide +kernel⟩, List.mem_of_getElem? (i := 201) (by decide +kernel), List.mem_of_getElem? (i := 555) (by decide +kernel), List.mem_of_getElem? (i := 556) (by decide +kernel)⟩
theorem lw_p2 : lw_okq (⟨"MoveUp$Row", "placeFor", "(I)I"⟩, 10) := ⟨⟨by decide +kernel, by decide +kernel⟩, List.mem_of_getElem? (i := 277) (by decide +kernel), List.mem_of_getElem? (i := 573) (by decide +kernel), List.mem_of_getElem? (i := 574) (by decide +kernel)⟩
theorem lw_p3 : lw_okq (⟨"MoveUp$Seats", "tellAsker", "()V"⟩, 3) := ⟨⟨by decide +kernel, by decide +kernel⟩, List.mem_of_getElem? (i := 325) (by decide +kernel), List.mem_of_getElem? (i := 590) (by decide +kernel), List.mem_of_getElem? (i := 591) (by decide +kernel)⟩
theorem lw_p4 : lw_okq (⟨"MoveUp$Row", "apart", "(I)I"⟩, 10) := ⟨⟨by decide +kernel, by decide +kernel⟩, List.mem_of_getElem? (i := 277) (by decide +kernel), List.mem_of_getElem? (i := 598) (by decide +kernel), List.mem_of_getElem? (i := 599) (by decide +kernel)⟩
theorem lw_p5 : lw_okq (⟨"MoveUp$Seats", "value", "(II)I"⟩, 3) := ⟨⟨by decide +kernel, by decide +kernel⟩, List.mem_of_getElem? (i := 325) (by decide +kernel), List.mem_of_getElem? (i := 615) (by decide +kernel), List.mem_of_getElem? (i := 616) (by decide +kernel)⟩
theorem lw_p6 : lw_okq (⟨"MoveUp$Seats", "warmInches", "(I)I"⟩, 3) := ⟨⟨by decide +kernel, by decide +kernel⟩, List.mem_of_getElem? (i := 325) (by decide +kernel), List.mem_of_getElem? (i := 627) (by decide +kernel), List.mem_of_getElem? (i := 628) (by decide +kernel)⟩
theorem lw_p7 : lw_okq (⟨"MoveUp$Law", "run", "(II[I)I"⟩, 7) := ⟨⟨by decide +kernel, by decide +kernel⟩, List.mem_of_getElem? (i := 42) (by decide +kernel), List.mem_of_getElem? (i := 638) (by decide +kernel), List.mem_of_getElem? (i := 639) (by decide +kernel)⟩
theorem lw_p8 : lw_okq (⟨"MoveUp$Acts", "countStanding", "()V"⟩, 6) := ⟨⟨by decide +kernel, by decide +kernel⟩, List.mem_of_getElem? (i := 438) (by decide +kernel), List.mem_of_getElem? (i := 650) (by decide +kernel), List.mem_of_getElem? (i := 651) (by decide +kernel)⟩
theorem lw_p9 : lw_okq (⟨"MoveUp$Room", "weigh", "(II)V"⟩, 9) := ⟨⟨by decide +kernel, by decide +kernel⟩, List.mem_of_getElem? (i := 341) (by decide +kernel), List.mem_of_getElem? (i := 685) (by decide +kernel), List.mem_of_getElem? (i := 686) (by decide +kernel)⟩
theorem lw_p10 : lw_okq (⟨"MoveUp$Room", "takesWithKeep", "(II)I"⟩, 9) := ⟨⟨by decide +kernel, by decide +kernel⟩, List.mem_of_getElem? (i := 341) (by decide +kernel), List.mem_of_getElem? (i := 689) (by decide +kernel), List.mem_of_getElem? (i := 690) (by decide +kernel)⟩
theorem lw_p11 : lw_okq (⟨"MoveUp$Room", "weightOf", "(III)I"⟩, 9) := ⟨⟨by decide +kernel, by decide +kernel⟩, List.mem_of_getElem? (i := 341) (by decide +kernel), List.mem_of_getElem? (i := 698) (by decide +kernel), List.mem_of_getElem? (i := 699) (by decide +kernel)⟩
theorem lw_p12 : lw_okq (⟨"MoveUp$Room", "settle", "(I)V"⟩, 9) := ⟨⟨by decide +kernel, by decide +kernel⟩, List.mem_of_getElem? (i := 341) (by decide +kernel), List.mem_of_getElem? (i := 710) (by decide +kernel), List.mem_of_getElem? (i := 711) (by decide +kernel)⟩
theorem lw_p13 : lw_okq (⟨"MoveUp$Reader", "split", "()V"⟩, 11) := ⟨⟨by decide +kernel, by decide +kernel⟩, List.mem_of_getElem? (i := 228) (by decide +kernel), List.mem_of_getElem? (i := 734) (by decide +kernel), List.mem_of_getElem? (i := 735) (by decide +kernel)⟩
theorem lw_p14 : lw_okq (⟨"MoveUp$Reader", "tokenOf", "(II)I"⟩, 11) := ⟨⟨by decide +kernel, by decide +kernel⟩, List.mem_of_getElem? (i := 228) (by decide +kernel), List.mem_of_getElem? (i := 744) (by decide +kernel), List.mem_of_getElem? (i := 745) (by decide +kernel)⟩
theorem lw_p15 : lw_okq (⟨"MoveUp$Reader", "wordOf", "(II)I"⟩, 11) := ⟨⟨by decide +kernel, by decide +kernel⟩, List.mem_of_getElem? (i := 228) (by decide +kernel), List.mem_of_getElem? (i := 748) (by decide +kernel), List.mem_of_getElem? (i := 749) (by decide +kernel)⟩
def lw_privs_1 : List (MethodName × Nat) := [(⟨"MoveUp$Bench", "findReach", "()V"⟩, 13), (⟨"MoveUp$Past", "save", "(LMoveUp$Bench;I)V"⟩, 6), (⟨"MoveUp$Row", "placeFor", "(I)I"⟩, 10), (⟨"MoveUp$Seats", "tellAsker", "()V"⟩, 3), (⟨"MoveUp$Row", "apart", "(I)I"⟩, 10), (⟨"MoveUp$Seats", "value", "(II)I"⟩, 3), (⟨"MoveUp$Seats", "warmInches", "(I)I"⟩, 3), (⟨"MoveUp$Law", "run", "(II[I)I"⟩, 7), (⟨"MoveUp$Acts", "countStanding", "()V"⟩, 6), (⟨"MoveUp$Room", "weigh", "(II)V"⟩, 9), (⟨"MoveUp$Room", "takesWithKeep", "(II)I"⟩, 9), (⟨"MoveUp$Room", "weightOf", "(III)I"⟩, 9), (⟨"MoveUp$Room", "settle", "(I)V"⟩, 9), (⟨"MoveUp$Reader", "split", "()V"⟩, 11), (⟨"MoveUp$Reader", "tokenOf", "(II)I"⟩, 11), (⟨"MoveUp$Reader", "wordOf", "(II)I"⟩, 11)]
theorem lw_r1 : ∀ q ∈ lw_privs_1, lw_okq q := List.forall_mem_cons.mpr ⟨lw_p0, List.forall_mem_cons.mpr ⟨lw_p1, List.forall_mem_cons.mpr ⟨lw_p2, List.forall_mem_cons.mpr ⟨lw_p3, List.forall_mem_cons.mpr ⟨lw_p4, List.forall_mem_cons.mpr ⟨lw_p5, List.forall_mem_cons.mpr ⟨lw_p6, List.forall_mem_cons.mpr ⟨lw_p7, List.forall_mem_cons.mpr ⟨lw_p8, List.forall_mem_cons.mpr ⟨lw_p9, List.forall_mem_cons.mpr ⟨lw_p10, List.forall_mem_cons.mpr ⟨lw_p11, List.forall_mem_cons.mpr ⟨lw_p12, List.forall_mem_cons.mpr ⟨lw_p13, List.forall_mem_cons.mpr ⟨lw_p14, List.forall_mem_cons.mpr ⟨lw_p15, fun _ h => absurd h List.not_mem_nil⟩⟩⟩⟩⟩⟩⟩⟩⟩⟩⟩⟩⟩⟩⟩⟩
theorem lw_p16 : lw_okq (⟨"MoveUp$Reader", "addToken", "(II)V"⟩, 11) := ⟨⟨by decide +kernel, by decide +kernel⟩, List.mem_of_getElem? (i := 228) (by decide +kernel), List.mem_of_getElem? (i := 857) (by decide +kernel), List.mem_of_getElem? (i := 858) (by decide +kernel)⟩
theorem lw_p17 : lw_okq (⟨"MoveUp$Reader", "readDay", "(I)V"⟩, 11) := ⟨⟨by decide +kernel, by decide +kernel⟩, List.mem_of_getElem? (i := 228) (by decide +kernel), List.mem_of_getElem? (i := 861) (by decide +kernel), List.mem_of_getElem? (i := 862) (by decide +kernel)⟩
theorem lw_p18 : lw_okq (⟨"MoveUp$Reader", "fail", "(I)V"⟩, 11) := ⟨⟨by decide +kernel, by decide +kernel⟩, List.mem_of_getElem? (i := 228) (by decide +kernel), List.mem_of_getElem? (i := 865) (by decide +kernel), List.mem_of_getElem? (i := 866) (by decide +kernel)⟩
theorem lw_p19 : lw_okq (⟨"MoveUp$Reader", "step", "()V"⟩, 11) := ⟨⟨by decide +kernel, by decide +kernel⟩, List.mem_of_getElem? (i := 228) (by decide +kernel), List.mem_of_getElem? (i := 869) (by decide +kernel), List.mem_of_getElem? (i := 870) (by decide +kernel)⟩
theorem lw_p20 : lw_okq (⟨"MoveUp$Reader", "readNumber", "(I)I"⟩, 11) := ⟨⟨by decide +kernel, by decide +kernel⟩, List.mem_of_getElem? (i := 228) (by decide +kernel), List.mem_of_getElem? (i := 873) (by decide +kernel), List.mem_of_getElem? (i := 874) (by decide +kernel)⟩
theorem lw_p21 : lw_okq (⟨"MoveUp$Reader", "take", "(I)V"⟩, 11) := ⟨⟨by decide +kernel, by decide +kernel⟩, List.mem_of_getElem? (i := 228) (by decide +kernel), List.mem_of_getElem? (i := 877) (by decide +kernel), List.mem_of_getElem? (i := 878) (by decide +kernel)⟩
theorem lw_p22 : lw_okq (⟨"MoveUp$Reader", "readLaw", "()V"⟩, 11) := ⟨⟨by decide +kernel, by decide +kernel⟩, List.mem_of_getElem? (i := 228) (by decide +kernel), List.mem_of_getElem? (i := 885) (by decide +kernel), List.mem_of_getElem? (i := 886) (by decide +kernel)⟩
theorem lw_p23 : lw_okq (⟨"MoveUp$Reader", "readSum", "()V"⟩, 11) := ⟨⟨by decide +kernel, by decide +kernel⟩, List.mem_of_getElem? (i := 228) (by decide +kernel), List.mem_of_getElem? (i := 890) (by decide +kernel), List.mem_of_getElem? (i := 891) (by decide +kernel)⟩
theorem lw_p24 : lw_okq (⟨"MoveUp$Reader", "readProduct", "()V"⟩, 11) := ⟨⟨by decide +kernel, by decide +kernel⟩, List.mem_of_getElem? (i := 228) (by decide +kernel), List.mem_of_getElem? (i := 894) (by decide +kernel), List.mem_of_getElem? (i := 895) (by decide +kernel)⟩
theorem lw_p25 : lw_okq (⟨"MoveUp$Reader", "isTerm", "(I)Z"⟩, 11) := ⟨⟨by decide +kernel, by decide +kernel⟩, List.mem_of_getElem? (i := 228) (by decide +kernel), List.mem_of_getElem? (i := 898) (by decide +kernel), List.mem_of_getElem? (i := 899) (by decide +kernel)⟩
theorem lw_p26 : lw_okq (⟨"MoveUp$Reader", "readClaims", "(II)V"⟩, 11) := ⟨⟨by decide +kernel, by decide +kernel⟩, List.mem_of_getElem? (i := 228) (by decide +kernel), List.mem_of_getElem? (i := 906) (by decide +kernel), List.mem_of_getElem? (i := 907) (by decide +kernel)⟩
theorem lw_p27 : lw_okq (⟨"MoveUp$Reader", "readClaim", "(I)V"⟩, 11) := ⟨⟨by decide +kernel, by decide +kernel⟩, List.mem_of_getElem? (i := 228) (by decide +kernel), List.mem_of_getElem? (i := 910) (by decide +kernel), List.mem_of_getElem? (i := 911) (by decide +kernel)⟩
theorem lw_p28 : lw_okq (⟨"MoveUp$Filling", "fewest", "([III)I"⟩, 8) := ⟨⟨by decide +kernel, by decide +kernel⟩, List.mem_of_getElem? (i := 378) (by decide +kernel), List.mem_of_getElem? (i := 1029) (by decide +kernel), List.mem_of_getElem? (i := 1030) (by decide +kernel)⟩
theorem lw_p29 : lw_okq (⟨"MoveUp$Filling", "isClear", "([II)Z"⟩, 8) := ⟨⟨by decide +kernel, by decide +kernel⟩, List.mem_of_getElem? (i := 378) (by decide +kernel), List.mem_of_getElem? (i := 1033) (by decide +kernel), List.mem_of_getElem? (i := 1034) (by decide +kernel)⟩
theorem lw_p30 : lw_okq (⟨"MoveUp$Filling", "most", "(II)I"⟩, 8) := ⟨⟨by decide +kernel, by decide +kernel⟩, List.mem_of_getElem? (i := 378) (by decide +kernel), List.mem_of_getElem? (i := 1038) (by decide +kernel), List.mem_of_getElem? (i := 1039) (by decide +kernel)⟩
theorem lw_p31 : lw_okq (⟨"MoveUp$Filling", "mean", "(II)I"⟩, 8) := ⟨⟨by decide +kernel, by decide +kernel⟩, List.mem_of_getElem? (i := 378) (by decide +kernel), List.mem_of_getElem? (i := 1042) (by decide +kernel), List.mem_of_getElem? (i := 1043) (by decide +kernel)⟩
def lw_privs_2 : List (MethodName × Nat) := [(⟨"MoveUp$Reader", "addToken", "(II)V"⟩, 11), (⟨"MoveUp$Reader", "readDay", "(I)V"⟩, 11), (⟨"MoveUp$Reader", "fail", "(I)V"⟩, 11), (⟨"MoveUp$Reader", "step", "()V"⟩, 11), (⟨"MoveUp$Reader", "readNumber", "(I)I"⟩, 11), (⟨"MoveUp$Reader", "take", "(I)V"⟩, 11), (⟨"MoveUp$Reader", "readLaw", "()V"⟩, 11), (⟨"MoveUp$Reader", "readSum", "()V"⟩, 11), (⟨"MoveUp$Reader", "readProduct", "()V"⟩, 11), (⟨"MoveUp$Reader", "isTerm", "(I)Z"⟩, 11), (⟨"MoveUp$Reader", "readClaims", "(II)V"⟩, 11), (⟨"MoveUp$Reader", "readClaim", "(I)V"⟩, 11), (⟨"MoveUp$Filling", "fewest", "([III)I"⟩, 8), (⟨"MoveUp$Filling", "isClear", "([II)Z"⟩, 8), (⟨"MoveUp$Filling", "most", "(II)I"⟩, 8), (⟨"MoveUp$Filling", "mean", "(II)I"⟩, 8)]
theorem lw_r2 : ∀ q ∈ lw_privs_2, lw_okq q := List.forall_mem_cons.mpr ⟨lw_p16, List.forall_mem_cons.mpr ⟨lw_p17, List.forall_mem_cons.mpr ⟨lw_p18, List.forall_mem_cons.mpr ⟨lw_p19, List.forall_mem_cons.mpr ⟨lw_p20, List.forall_mem_cons.mpr ⟨lw_p21, List.forall_mem_cons.mpr ⟨lw_p22, List.forall_mem_cons.mpr ⟨lw_p23, List.forall_mem_cons.mpr ⟨lw_p24, List.forall_mem_cons.mpr ⟨lw_p25, List.forall_mem_cons.mpr ⟨lw_p26, List.forall_mem_cons.mpr ⟨lw_p27, List.forall_mem_cons.mpr ⟨lw_p28, List.forall_mem_cons.mpr ⟨lw_p29, List.forall_mem_cons.mpr ⟨lw_p30, List.forall_mem_cons.mpr ⟨lw_p31, fun _ h => absurd h List.not_mem_nil⟩⟩⟩⟩⟩⟩⟩⟩⟩⟩⟩⟩⟩⟩⟩⟩
theorem lw_p32 : lw_okq (⟨"MoveUp$Filling", "meanOf", "(II)I"⟩, 8) := ⟨⟨by decide +kernel, by decide +kernel⟩, List.mem_of_getElem? (i := 378) (by decide +kernel), List.mem_of_getElem? (i := 1047) (by decide +kernel), List.mem_of_getElem? (i := 1048) (by decide +kernel)⟩
theorem lw_p33 : lw_okq (⟨"MoveUp$Arrivals", "sitsSo", "(II)Z"⟩, 7) := ⟨⟨by decide +kernel, by decide +kernel⟩, List.mem_of_getElem? (i := 410) (by decide +kernel), List.mem_of_getElem? (i := 1084) (by decide +kernel), List.mem_of_getElem? (i := 1085) (by decide +kernel)⟩
theorem lw_p34 : lw_okq (⟨"MoveUp$Past", "load", "(LMoveUp$Bench;I)V"⟩, 6) := ⟨⟨by decide +kernel, by decide +kernel⟩, List.mem_of_getElem? (i := 201) (by decide +kernel), List.mem_of_getElem? (i := 1135) (by decide +kernel), List.mem_of_getElem? (i := 1136) (by decide +kernel)⟩
theorem lw_p35 : lw_okq (⟨"MoveUpModel", "isIn", "(III)Z"⟩, 71) := ⟨⟨by decide +kernel, by decide +kernel⟩, List.mem_of_getElem? (i := 1179) (by decide +kernel), List.mem_of_getElem? (i := 1408) (by decide +kernel), List.mem_of_getElem? (i := 1409) (by decide +kernel)⟩
theorem lw_p36 : lw_okq (⟨"MoveUpModel", "length", "()I"⟩, 71) := ⟨⟨by decide +kernel, by decide +kernel⟩, List.mem_of_getElem? (i := 1179) (by decide +kernel), List.mem_of_getElem? (i := 1416) (by decide +kernel), List.mem_of_getElem? (i := 1417) (by decide +kernel)⟩
theorem lw_p37 : lw_okq (⟨"MoveUpModel", "sits", "(I)Z"⟩, 71) := ⟨⟨by decide +kernel, by decide +kernel⟩, List.mem_of_getElem? (i := 1179) (by decide +kernel), List.mem_of_getElem? (i := 1420) (by decide +kernel), List.mem_of_getElem? (i := 1421) (by decide +kernel)⟩
theorem lw_p38 : lw_okq (⟨"MoveUpModel", "inchOf", "(I)I"⟩, 71) := ⟨⟨by decide +kernel, by decide +kernel⟩, List.mem_of_getElem? (i := 1179) (by decide +kernel), List.mem_of_getElem? (i := 1424) (by decide +kernel), List.mem_of_getElem? (i := 1425) (by decide +kernel)⟩
theorem lw_p39 : lw_okq (⟨"MoveUpModel", "isPerson", "(I)Z"⟩, 71) := ⟨⟨by decide +kernel, by decide +kernel⟩, List.mem_of_getElem? (i := 1179) (by decide +kernel), List.mem_of_getElem? (i := 1436) (by decide +kernel), List.mem_of_getElem? (i := 1437) (by decide +kernel)⟩
theorem lw_p40 : lw_okq (⟨"MoveUpModel", "types", "(I)V"⟩, 71) := ⟨⟨by decide +kernel, by decide +kernel⟩, List.mem_of_getElem? (i := 1179) (by decide +kernel), List.mem_of_getElem? (i := 1444) (by decide +kernel), List.mem_of_getElem? (i := 1445) (by decide +kernel)⟩
theorem lw_p41 : lw_okq (⟨"MoveUpModel", "reads", "()V"⟩, 71) := ⟨⟨by decide +kernel, by decide +kernel⟩, List.mem_of_getElem? (i := 1179) (by decide +kernel), List.mem_of_getElem? (i := 1456) (by decide +kernel), List.mem_of_getElem? (i := 1457) (by decide +kernel)⟩
theorem lw_p42 : lw_okq (⟨"MoveUpModel", "raw", "(I)I"⟩, 71) := ⟨⟨by decide +kernel, by decide +kernel⟩, List.mem_of_getElem? (i := 1179) (by decide +kernel), List.mem_of_getElem? (i := 1460) (by decide +kernel), List.mem_of_getElem? (i := 1461) (by decide +kernel)⟩
theorem lw_p43 : lw_okq (⟨"MoveUpModel", "isLetter", "(I)Z"⟩, 71) := ⟨⟨by decide +kernel, by decide +kernel⟩, List.mem_of_getElem? (i := 1179) (by decide +kernel), List.mem_of_getElem? (i := 1464) (by decide +kernel), List.mem_of_getElem? (i := 1465) (by decide +kernel)⟩
theorem lw_p44 : lw_okq (⟨"MoveUpModel", "wordAt", "(II)I"⟩, 71) := ⟨⟨by decide +kernel, by decide +kernel⟩, List.mem_of_getElem? (i := 1179) (by decide +kernel), List.mem_of_getElem? (i := 1468) (by decide +kernel), List.mem_of_getElem? (i := 1469) (by decide +kernel)⟩
theorem lw_p45 : lw_okq (⟨"MoveUpModel", "isDigit", "(I)Z"⟩, 71) := ⟨⟨by decide +kernel, by decide +kernel⟩, List.mem_of_getElem? (i := 1179) (by decide +kernel), List.mem_of_getElem? (i := 1472) (by decide +kernel), List.mem_of_getElem? (i := 1473) (by decide +kernel)⟩
theorem lw_p46 : lw_okq (⟨"MoveUpModel", "isMarkSign", "(I)Z"⟩, 71) := ⟨⟨by decide +kernel, by decide +kernel⟩, List.mem_of_getElem? (i := 1179) (by decide +kernel), List.mem_of_getElem? (i := 1476) (by decide +kernel), List.mem_of_getElem? (i := 1477) (by decide +kernel)⟩
theorem lw_p47 : lw_okq (⟨"MoveUpModel", "readDay", "()I"⟩, 71) := ⟨⟨by decide +kernel, by decide +kernel⟩, List.mem_of_getElem? (i := 1179) (by decide +kernel), List.mem_of_getElem? (i := 1480) (by decide +kernel), List.mem_of_getElem? (i := 1481) (by decide +kernel)⟩
def lw_privs_3 : List (MethodName × Nat) := [(⟨"MoveUp$Filling", "meanOf", "(II)I"⟩, 8), (⟨"MoveUp$Arrivals", "sitsSo", "(II)Z"⟩, 7), (⟨"MoveUp$Past", "load", "(LMoveUp$Bench;I)V"⟩, 6), (⟨"MoveUpModel", "isIn", "(III)Z"⟩, 71), (⟨"MoveUpModel", "length", "()I"⟩, 71), (⟨"MoveUpModel", "sits", "(I)Z"⟩, 71), (⟨"MoveUpModel", "inchOf", "(I)I"⟩, 71), (⟨"MoveUpModel", "isPerson", "(I)Z"⟩, 71), (⟨"MoveUpModel", "types", "(I)V"⟩, 71), (⟨"MoveUpModel", "reads", "()V"⟩, 71), (⟨"MoveUpModel", "raw", "(I)I"⟩, 71), (⟨"MoveUpModel", "isLetter", "(I)Z"⟩, 71), (⟨"MoveUpModel", "wordAt", "(II)I"⟩, 71), (⟨"MoveUpModel", "isDigit", "(I)Z"⟩, 71), (⟨"MoveUpModel", "isMarkSign", "(I)Z"⟩, 71), (⟨"MoveUpModel", "readDay", "()I"⟩, 71)]
theorem lw_r3 : ∀ q ∈ lw_privs_3, lw_okq q := List.forall_mem_cons.mpr ⟨lw_p32, List.forall_mem_cons.mpr ⟨lw_p33, List.forall_mem_cons.mpr ⟨lw_p34, List.forall_mem_cons.mpr ⟨lw_p35, List.forall_mem_cons.mpr ⟨lw_p36, List.forall_mem_cons.mpr ⟨lw_p37, List.forall_mem_cons.mpr ⟨lw_p38, List.forall_mem_cons.mpr ⟨lw_p39, List.forall_mem_cons.mpr ⟨lw_p40, List.forall_mem_cons.mpr ⟨lw_p41, List.forall_mem_cons.mpr ⟨lw_p42, List.forall_mem_cons.mpr ⟨lw_p43, List.forall_mem_cons.mpr ⟨lw_p44, List.forall_mem_cons.mpr ⟨lw_p45, List.forall_mem_cons.mpr ⟨lw_p46, List.forall_mem_cons.mpr ⟨lw_p47, fun _ h => absurd h List.not_mem_nil⟩⟩⟩⟩⟩⟩⟩⟩⟩⟩⟩⟩⟩⟩⟩⟩
theorem lw_p48 : lw_okq (⟨"MoveUpModel", "errs", "(I)I"⟩, 71) := ⟨⟨by decide +kernel, by decide +kernel⟩, List.mem_of_getElem? (i := 1179) (by decide +kernel), List.mem_of_getElem? (i := 1484) (by decide +kernel), List.mem_of_getElem? (i := 1485) (by decide +kernel)⟩
theorem lw_p49 : lw_okq (⟨"MoveUpModel", "readDayLine", "(I)I"⟩, 71) := ⟨⟨by decide +kernel, by decide +kernel⟩, List.mem_of_getElem? (i := 1179) (by decide +kernel), List.mem_of_getElem? (i := 1488) (by decide +kernel), List.mem_of_getElem? (i := 1489) (by decide +kernel)⟩
theorem lw_p50 : lw_okq (⟨"MoveUpModel", "readNumber", "(II)I"⟩, 71) := ⟨⟨by decide +kernel, by decide +kernel⟩, List.mem_of_getElem? (i := 1179) (by decide +kernel), List.mem_of_getElem? (i := 1492) (by decide +kernel), List.mem_of_getElem? (i := 1493) (by decide +kernel)⟩
theorem lw_p51 : lw_okq (⟨"MoveUpModel", "isWord", "(I)Z"⟩, 71) := ⟨⟨by decide +kernel, by decide +kernel⟩, List.mem_of_getElem? (i := 1179) (by decide +kernel), List.mem_of_getElem? (i := 1496) (by decide +kernel), List.mem_of_getElem? (i := 1497) (by decide +kernel)⟩
theorem lw_p52 : lw_okq (⟨"MoveUpModel", "isSign", "(I)Z"⟩, 71) := ⟨⟨by decide +kernel, by decide +kernel⟩, List.mem_of_getElem? (i := 1179) (by decide +kernel), List.mem_of_getElem? (i := 1500) (by decide +kernel), List.mem_of_getElem? (i := 1501) (by decide +kernel)⟩
theorem lw_p53 : lw_okq (⟨"MoveUpModel", "readLaw", "()I"⟩, 71) := ⟨⟨by decide +kernel, by decide +kernel⟩, List.mem_of_getElem? (i := 1179) (by decide +kernel), List.mem_of_getElem? (i := 1504) (by decide +kernel), List.mem_of_getElem? (i := 1505) (by decide +kernel)⟩
theorem lw_p54 : lw_okq (⟨"MoveUpModel", "isLineWord", "()Z"⟩, 71) := ⟨⟨by decide +kernel, by decide +kernel⟩, List.mem_of_getElem? (i := 1179) (by decide +kernel), List.mem_of_getElem? (i := 1508) (by decide +kernel), List.mem_of_getElem? (i := 1509) (by decide +kernel)⟩
theorem lw_p55 : lw_okq (⟨"MoveUpModel", "readSum", "()I"⟩, 71) := ⟨⟨by decide +kernel, by decide +kernel⟩, List.mem_of_getElem? (i := 1179) (by decide +kernel), List.mem_of_getElem? (i := 1512) (by decide +kernel), List.mem_of_getElem? (i := 1513) (by decide +kernel)⟩
theorem lw_p56 : lw_okq (⟨"MoveUpModel", "readProduct", "()I"⟩, 71) := ⟨⟨by decide +kernel, by decide +kernel⟩, List.mem_of_getElem? (i := 1179) (by decide +kernel), List.mem_of_getElem? (i := 1516) (by decide +kernel), List.mem_of_getElem? (i := 1517) (by decide +kernel)⟩
theorem lw_p57 : lw_okq (⟨"MoveUpModel", "readUnit", "()I"⟩, 71) := ⟨⟨by decide +kernel, by decide +kernel⟩, List.mem_of_getElem? (i := 1179) (by decide +kernel), List.mem_of_getElem? (i := 1520) (by decide +kernel), List.mem_of_getElem? (i := 1521) (by decide +kernel)⟩
theorem lw_p58 : lw_okq (⟨"MoveUpModel", "canAsk", "(I)Z"⟩, 71) := ⟨⟨by decide +kernel, by decide +kernel⟩, List.mem_of_getElem? (i := 1179) (by decide +kernel), List.mem_of_getElem? (i := 1524) (by decide +kernel), List.mem_of_getElem? (i := 1525) (by decide +kernel)⟩
theorem lw_p59 : lw_okq (⟨"MoveUpModel", "emits", "(II)V"⟩, 71) := ⟨⟨by decide +kernel, by decide +kernel⟩, List.mem_of_getElem? (i := 1179) (by decide +kernel), List.mem_of_getElem? (i := 1528) (by decide +kernel), List.mem_of_getElem? (i := 1529) (by decide +kernel)⟩
theorem lw_p60 : lw_okq (⟨"MoveUpModel", "readAny", "()I"⟩, 71) := ⟨⟨by decide +kernel, by decide +kernel⟩, List.mem_of_getElem? (i := 1179) (by decide +kernel), List.mem_of_getElem? (i := 1532) (by decide +kernel), List.mem_of_getElem? (i := 1533) (by decide +kernel)⟩
theorem lw_p61 : lw_okq (⟨"MoveUpModel", "waits", "(I)V"⟩, 71) := ⟨⟨by decide +kernel, by decide +kernel⟩, List.mem_of_getElem? (i := 1179) (by decide +kernel), List.mem_of_getElem? (i := 1536) (by decide +kernel), List.mem_of_getElem? (i := 1537) (by decide +kernel)⟩
theorem lw_p62 : lw_okq (⟨"MoveUpModel", "readCompared", "()I"⟩, 71) := ⟨⟨by decide +kernel, by decide +kernel⟩, List.mem_of_getElem? (i := 1179) (by decide +kernel), List.mem_of_getElem? (i := 1540) (by decide +kernel), List.mem_of_getElem? (i := 1541) (by decide +kernel)⟩
theorem lw_p63 : lw_okq (⟨"MoveUpModel", "settles", "(I)V"⟩, 71) := ⟨⟨by decide +kernel, by decide +kernel⟩, List.mem_of_getElem? (i := 1179) (by decide +kernel), List.mem_of_getElem? (i := 1544) (by decide +kernel), List.mem_of_getElem? (i := 1545) (by decide +kernel)⟩
def lw_privs_4 : List (MethodName × Nat) := [(⟨"MoveUpModel", "errs", "(I)I"⟩, 71), (⟨"MoveUpModel", "readDayLine", "(I)I"⟩, 71), (⟨"MoveUpModel", "readNumber", "(II)I"⟩, 71), (⟨"MoveUpModel", "isWord", "(I)Z"⟩, 71), (⟨"MoveUpModel", "isSign", "(I)Z"⟩, 71), (⟨"MoveUpModel", "readLaw", "()I"⟩, 71), (⟨"MoveUpModel", "isLineWord", "()Z"⟩, 71), (⟨"MoveUpModel", "readSum", "()I"⟩, 71), (⟨"MoveUpModel", "readProduct", "()I"⟩, 71), (⟨"MoveUpModel", "readUnit", "()I"⟩, 71), (⟨"MoveUpModel", "canAsk", "(I)Z"⟩, 71), (⟨"MoveUpModel", "emits", "(II)V"⟩, 71), (⟨"MoveUpModel", "readAny", "()I"⟩, 71), (⟨"MoveUpModel", "waits", "(I)V"⟩, 71), (⟨"MoveUpModel", "readCompared", "()I"⟩, 71), (⟨"MoveUpModel", "settles", "(I)V"⟩, 71)]
theorem lw_r4 : ∀ q ∈ lw_privs_4, lw_okq q := List.forall_mem_cons.mpr ⟨lw_p48, List.forall_mem_cons.mpr ⟨lw_p49, List.forall_mem_cons.mpr ⟨lw_p50, List.forall_mem_cons.mpr ⟨lw_p51, List.forall_mem_cons.mpr ⟨lw_p52, List.forall_mem_cons.mpr ⟨lw_p53, List.forall_mem_cons.mpr ⟨lw_p54, List.forall_mem_cons.mpr ⟨lw_p55, List.forall_mem_cons.mpr ⟨lw_p56, List.forall_mem_cons.mpr ⟨lw_p57, List.forall_mem_cons.mpr ⟨lw_p58, List.forall_mem_cons.mpr ⟨lw_p59, List.forall_mem_cons.mpr ⟨lw_p60, List.forall_mem_cons.mpr ⟨lw_p61, List.forall_mem_cons.mpr ⟨lw_p62, List.forall_mem_cons.mpr ⟨lw_p63, fun _ h => absurd h List.not_mem_nil⟩⟩⟩⟩⟩⟩⟩⟩⟩⟩⟩⟩⟩⟩⟩⟩
theorem lw_p64 : lw_okq (⟨"MoveUpModel", "takesDay", "(I)V"⟩, 71) := ⟨⟨by decide +kernel, by decide +kernel⟩, List.mem_of_getElem? (i := 1179) (by decide +kernel), List.mem_of_getElem? (i := 1548) (by decide +kernel), List.mem_of_getElem? (i := 1549) (by decide +kernel)⟩
theorem lw_p65 : lw_okq (⟨"MoveUpModel", "takesLaw", "(I)V"⟩, 71) := ⟨⟨by decide +kernel, by decide +kernel⟩, List.mem_of_getElem? (i := 1179) (by decide +kernel), List.mem_of_getElem? (i := 1552) (by decide +kernel), List.mem_of_getElem? (i := 1553) (by decide +kernel)⟩
theorem lw_p66 : lw_okq (⟨"MoveUpModel", "everyone", "()I"⟩, 71) := ⟨⟨by decide +kernel, by decide +kernel⟩, List.mem_of_getElem? (i := 1179) (by decide +kernel), List.mem_of_getElem? (i := 1565) (by decide +kernel), List.mem_of_getElem? (i := 1566) (by decide +kernel)⟩
theorem lw_p67 : lw_okq (⟨"MoveUpModel", "lists", "(I)V"⟩, 71) := ⟨⟨by decide +kernel, by decide +kernel⟩, List.mem_of_getElem? (i := 1179) (by decide +kernel), List.mem_of_getElem? (i := 1569) (by decide +kernel), List.mem_of_getElem? (i := 1570) (by decide +kernel)⟩
theorem lw_p68 : lw_okq (⟨"MoveUpModel", "takesOf", "(I)I"⟩, 71) := ⟨⟨by decide +kernel, by decide +kernel⟩, List.mem_of_getElem? (i := 1179) (by decide +kernel), List.mem_of_getElem? (i := 1573) (by decide +kernel), List.mem_of_getElem? (i := 1574) (by decide +kernel)⟩
theorem lw_p69 : lw_okq (⟨"MoveUpModel", "seats", "(IIIII)V"⟩, 71) := ⟨⟨by decide +kernel, by decide +kernel⟩, List.mem_of_getElem? (i := 1179) (by decide +kernel), List.mem_of_getElem? (i := 1577) (by decide +kernel), List.mem_of_getElem? (i := 1578) (by decide +kernel)⟩
theorem lw_p70 : lw_okq (⟨"MoveUpModel", "asksFor", "(I)V"⟩, 71) := ⟨⟨by decide +kernel, by decide +kernel⟩, List.mem_of_getElem? (i := 1179) (by decide +kernel), List.mem_of_getElem? (i := 1581) (by decide +kernel), List.mem_of_getElem? (i := 1582) (by decide +kernel)⟩
theorem lw_p71 : lw_okq (⟨"MoveUpModel", "canSit", "(I)Z"⟩, 71) := ⟨⟨by decide +kernel, by decide +kernel⟩, List.mem_of_getElem? (i := 1179) (by decide +kernel), List.mem_of_getElem? (i := 1585) (by decide +kernel), List.mem_of_getElem? (i := 1586) (by decide +kernel)⟩
theorem lw_p72 : lw_okq (⟨"MoveUpModel", "isOverRest", "(II)Z"⟩, 71) := ⟨⟨by decide +kernel, by decide +kernel⟩, List.mem_of_getElem? (i := 1179) (by decide +kernel), List.mem_of_getElem? (i := 1589) (by decide +kernel), List.mem_of_getElem? (i := 1590) (by decide +kernel)⟩
theorem lw_p73 : lw_okq (⟨"MoveUpModel", "leftOf", "(I)I"⟩, 71) := ⟨⟨by decide +kernel, by decide +kernel⟩, List.mem_of_getElem? (i := 1179) (by decide +kernel), List.mem_of_getElem? (i := 1593) (by decide +kernel), List.mem_of_getElem? (i := 1594) (by decide +kernel)⟩
theorem lw_p74 : lw_okq (⟨"MoveUpModel", "apartOf", "(IIII)I"⟩, 71) := ⟨⟨by decide +kernel, by decide +kernel⟩, List.mem_of_getElem? (i := 1179) (by decide +kernel), List.mem_of_getElem? (i := 1597) (by decide +kernel), List.mem_of_getElem? (i := 1598) (by decide +kernel)⟩
theorem lw_p75 : lw_okq (⟨"MoveUpModel", "greater", "(II)I"⟩, 71) := ⟨⟨by decide +kernel, by decide +kernel⟩, List.mem_of_getElem? (i := 1179) (by decide +kernel), List.mem_of_getElem? (i := 1601) (by decide +kernel), List.mem_of_getElem? (i := 1602) (by decide +kernel)⟩
theorem lw_p76 : lw_okq (⟨"MoveUpModel", "tellsOf", "(I)I"⟩, 71) := ⟨⟨by decide +kernel, by decide +kernel⟩, List.mem_of_getElem? (i := 1179) (by decide +kernel), List.mem_of_getElem? (i := 1605) (by decide +kernel), List.mem_of_getElem? (i := 1606) (by decide +kernel)⟩
theorem lw_p77 : lw_okq (⟨"MoveUpModel", "asksHim", "()V"⟩, 71) := ⟨⟨by decide +kernel, by decide +kernel⟩, List.mem_of_getElem? (i := 1179) (by decide +kernel), List.mem_of_getElem? (i := 1609) (by decide +kernel), List.mem_of_getElem? (i := 1610) (by decide +kernel)⟩
theorem lw_p78 : lw_okq (⟨"MoveUpModel", "warmAt", "(I)I"⟩, 71) := ⟨⟨by decide +kernel, by decide +kernel⟩, List.mem_of_getElem? (i := 1179) (by decide +kernel), List.mem_of_getElem? (i := 1613) (by decide +kernel), List.mem_of_getElem? (i := 1614) (by decide +kernel)⟩
theorem lw_p79 : lw_okq (⟨"MoveUpModel", "isFriend", "(I)Z"⟩, 71) := ⟨⟨by decide +kernel, by decide +kernel⟩, List.mem_of_getElem? (i := 1179) (by decide +kernel), List.mem_of_getElem? (i := 1617) (by decide +kernel), List.mem_of_getElem? (i := 1618) (by decide +kernel)⟩
def lw_privs_5 : List (MethodName × Nat) := [(⟨"MoveUpModel", "takesDay", "(I)V"⟩, 71), (⟨"MoveUpModel", "takesLaw", "(I)V"⟩, 71), (⟨"MoveUpModel", "everyone", "()I"⟩, 71), (⟨"MoveUpModel", "lists", "(I)V"⟩, 71), (⟨"MoveUpModel", "takesOf", "(I)I"⟩, 71), (⟨"MoveUpModel", "seats", "(IIIII)V"⟩, 71), (⟨"MoveUpModel", "asksFor", "(I)V"⟩, 71), (⟨"MoveUpModel", "canSit", "(I)Z"⟩, 71), (⟨"MoveUpModel", "isOverRest", "(II)Z"⟩, 71), (⟨"MoveUpModel", "leftOf", "(I)I"⟩, 71), (⟨"MoveUpModel", "apartOf", "(IIII)I"⟩, 71), (⟨"MoveUpModel", "greater", "(II)I"⟩, 71), (⟨"MoveUpModel", "tellsOf", "(I)I"⟩, 71), (⟨"MoveUpModel", "asksHim", "()V"⟩, 71), (⟨"MoveUpModel", "warmAt", "(I)I"⟩, 71), (⟨"MoveUpModel", "isFriend", "(I)Z"⟩, 71)]
theorem lw_r5 : ∀ q ∈ lw_privs_5, lw_okq q := List.forall_mem_cons.mpr ⟨lw_p64, List.forall_mem_cons.mpr ⟨lw_p65, List.forall_mem_cons.mpr ⟨lw_p66, List.forall_mem_cons.mpr ⟨lw_p67, List.forall_mem_cons.mpr ⟨lw_p68, List.forall_mem_cons.mpr ⟨lw_p69, List.forall_mem_cons.mpr ⟨lw_p70, List.forall_mem_cons.mpr ⟨lw_p71, List.forall_mem_cons.mpr ⟨lw_p72, List.forall_mem_cons.mpr ⟨lw_p73, List.forall_mem_cons.mpr ⟨lw_p74, List.forall_mem_cons.mpr ⟨lw_p75, List.forall_mem_cons.mpr ⟨lw_p76, List.forall_mem_cons.mpr ⟨lw_p77, List.forall_mem_cons.mpr ⟨lw_p78, List.forall_mem_cons.mpr ⟨lw_p79, fun _ h => absurd h List.not_mem_nil⟩⟩⟩⟩⟩⟩⟩⟩⟩⟩⟩⟩⟩⟩⟩⟩
theorem lw_p80 : lw_okq (⟨"MoveUpModel", "lineOf", "(I)I"⟩, 71) := ⟨⟨by decide +kernel, by decide +kernel⟩, List.mem_of_getElem? (i := 1179) (by decide +kernel), List.mem_of_getElem? (i := 1621) (by decide +kernel), List.mem_of_getElem? (i := 1622) (by decide +kernel)⟩
theorem lw_p81 : lw_okq (⟨"MoveUpModel", "runs", "(III)I"⟩, 71) := ⟨⟨by decide +kernel, by decide +kernel⟩, List.mem_of_getElem? (i := 1179) (by decide +kernel), List.mem_of_getElem? (i := 1625) (by decide +kernel), List.mem_of_getElem? (i := 1626) (by decide +kernel)⟩
theorem lw_p82 : lw_okq (⟨"MoveUpModel", "twoOf", "(III)I"⟩, 71) := ⟨⟨by decide +kernel, by decide +kernel⟩, List.mem_of_getElem? (i := 1179) (by decide +kernel), List.mem_of_getElem? (i := 1629) (by decide +kernel), List.mem_of_getElem? (i := 1630) (by decide +kernel)⟩
theorem lw_p83 : lw_okq (⟨"MoveUpModel", "isAside", "(I)Z"⟩, 71) := ⟨⟨by decide +kernel, by decide +kernel⟩, List.mem_of_getElem? (i := 1179) (by decide +kernel), List.mem_of_getElem? (i := 1637) (by decide +kernel), List.mem_of_getElem? (i := 1638) (by decide +kernel)⟩
theorem lw_p84 : lw_okq (⟨"MoveUpModel", "keepsAhead", "()V"⟩, 71) := ⟨⟨by decide +kernel, by decide +kernel⟩, List.mem_of_getElem? (i := 1179) (by decide +kernel), List.mem_of_getElem? (i := 1641) (by decide +kernel), List.mem_of_getElem? (i := 1642) (by decide +kernel)⟩
theorem lw_p85 : lw_okq (⟨"MoveUpModel", "comes", "(I)I"⟩, 71) := ⟨⟨by decide +kernel, by decide +kernel⟩, List.mem_of_getElem? (i := 1179) (by decide +kernel), List.mem_of_getElem? (i := 1645) (by decide +kernel), List.mem_of_getElem? (i := 1646) (by decide +kernel)⟩
theorem lw_p86 : lw_okq (⟨"MoveUpModel", "bestInch", "()I"⟩, 71) := ⟨⟨by decide +kernel, by decide +kernel⟩, List.mem_of_getElem? (i := 1179) (by decide +kernel), List.mem_of_getElem? (i := 1649) (by decide +kernel), List.mem_of_getElem? (i := 1650) (by decide +kernel)⟩
theorem lw_p87 : lw_okq (⟨"MoveUpModel", "notes", "(III)V"⟩, 71) := ⟨⟨by decide +kernel, by decide +kernel⟩, List.mem_of_getElem? (i := 1179) (by decide +kernel), List.mem_of_getElem? (i := 1653) (by decide +kernel), List.mem_of_getElem? (i := 1654) (by decide +kernel)⟩
theorem lw_p88 : lw_okq (⟨"MoveUpModel", "goes", "(I)V"⟩, 71) := ⟨⟨by decide +kernel, by decide +kernel⟩, List.mem_of_getElem? (i := 1179) (by decide +kernel), List.mem_of_getElem? (i := 1661) (by decide +kernel), List.mem_of_getElem? (i := 1662) (by decide +kernel)⟩
theorem lw_p89 : lw_okq (⟨"MoveUpModel", "begs", "(I)I"⟩, 71) := ⟨⟨by decide +kernel, by decide +kernel⟩, List.mem_of_getElem? (i := 1179) (by decide +kernel), List.mem_of_getElem? (i := 1669) (by decide +kernel), List.mem_of_getElem? (i := 1670) (by decide +kernel)⟩
theorem lw_p90 : lw_okq (⟨"MoveUpModel", "findsRoom", "(II)Z"⟩, 71) := ⟨⟨by decide +kernel, by decide +kernel⟩, List.mem_of_getElem? (i := 1179) (by decide +kernel), List.mem_of_getElem? (i := 1673) (by decide +kernel), List.mem_of_getElem? (i := 1674) (by decide +kernel)⟩
theorem lw_p91 : lw_okq (⟨"MoveUpModel", "leastBy", "(II)I"⟩, 71) := ⟨⟨by decide +kernel, by decide +kernel⟩, List.mem_of_getElem? (i := 1179) (by decide +kernel), List.mem_of_getElem? (i := 1678) (by decide +kernel), List.mem_of_getElem? (i := 1679) (by decide +kernel)⟩
theorem lw_p92 : lw_okq (⟨"MoveUpModel", "itemsFor", "(II)V"⟩, 71) := ⟨⟨by decide +kernel, by decide +kernel⟩, List.mem_of_getElem? (i := 1179) (by decide +kernel), List.mem_of_getElem? (i := 1682) (by decide +kernel), List.mem_of_getElem? (i := 1683) (by decide +kernel)⟩
theorem lw_p93 : lw_okq (⟨"MoveUpModel", "costAt", "(II)I"⟩, 71) := ⟨⟨by decide +kernel, by decide +kernel⟩, List.mem_of_getElem? (i := 1179) (by decide +kernel), List.mem_of_getElem? (i := 1686) (by decide +kernel), List.mem_of_getElem? (i := 1687) (by decide +kernel)⟩
theorem lw_p94 : lw_okq (⟨"MoveUpModel", "without", "(I)I"⟩, 71) := ⟨⟨by decide +kernel, by decide +kernel⟩, List.mem_of_getElem? (i := 1179) (by decide +kernel), List.mem_of_getElem? (i := 1690) (by decide +kernel), List.mem_of_getElem? (i := 1691) (by decide +kernel)⟩
theorem lw_p95 : lw_okq (⟨"MoveUpModel", "costOf", "(II)I"⟩, 71) := ⟨⟨by decide +kernel, by decide +kernel⟩, List.mem_of_getElem? (i := 1179) (by decide +kernel), List.mem_of_getElem? (i := 1694) (by decide +kernel), List.mem_of_getElem? (i := 1695) (by decide +kernel)⟩
def lw_privs_6 : List (MethodName × Nat) := [(⟨"MoveUpModel", "lineOf", "(I)I"⟩, 71), (⟨"MoveUpModel", "runs", "(III)I"⟩, 71), (⟨"MoveUpModel", "twoOf", "(III)I"⟩, 71), (⟨"MoveUpModel", "isAside", "(I)Z"⟩, 71), (⟨"MoveUpModel", "keepsAhead", "()V"⟩, 71), (⟨"MoveUpModel", "comes", "(I)I"⟩, 71), (⟨"MoveUpModel", "bestInch", "()I"⟩, 71), (⟨"MoveUpModel", "notes", "(III)V"⟩, 71), (⟨"MoveUpModel", "goes", "(I)V"⟩, 71), (⟨"MoveUpModel", "begs", "(I)I"⟩, 71), (⟨"MoveUpModel", "findsRoom", "(II)Z"⟩, 71), (⟨"MoveUpModel", "leastBy", "(II)I"⟩, 71), (⟨"MoveUpModel", "itemsFor", "(II)V"⟩, 71), (⟨"MoveUpModel", "costAt", "(II)I"⟩, 71), (⟨"MoveUpModel", "without", "(I)I"⟩, 71), (⟨"MoveUpModel", "costOf", "(II)I"⟩, 71)]
theorem lw_r6 : ∀ q ∈ lw_privs_6, lw_okq q := List.forall_mem_cons.mpr ⟨lw_p80, List.forall_mem_cons.mpr ⟨lw_p81, List.forall_mem_cons.mpr ⟨lw_p82, List.forall_mem_cons.mpr ⟨lw_p83, List.forall_mem_cons.mpr ⟨lw_p84, List.forall_mem_cons.mpr ⟨lw_p85, List.forall_mem_cons.mpr ⟨lw_p86, List.forall_mem_cons.mpr ⟨lw_p87, List.forall_mem_cons.mpr ⟨lw_p88, List.forall_mem_cons.mpr ⟨lw_p89, List.forall_mem_cons.mpr ⟨lw_p90, List.forall_mem_cons.mpr ⟨lw_p91, List.forall_mem_cons.mpr ⟨lw_p92, List.forall_mem_cons.mpr ⟨lw_p93, List.forall_mem_cons.mpr ⟨lw_p94, List.forall_mem_cons.mpr ⟨lw_p95, fun _ h => absurd h List.not_mem_nil⟩⟩⟩⟩⟩⟩⟩⟩⟩⟩⟩⟩⟩⟩⟩⟩
theorem lw_p96 : lw_okq (⟨"MoveUpModel", "held", "(III)I"⟩, 71) := ⟨⟨by decide +kernel, by decide +kernel⟩, List.mem_of_getElem? (i := 1179) (by decide +kernel), List.mem_of_getElem? (i := 1698) (by decide +kernel), List.mem_of_getElem? (i := 1699) (by decide +kernel)⟩
theorem lw_p97 : lw_okq (⟨"MoveUpModel", "leastBehind", "(II)I"⟩, 71) := ⟨⟨by decide +kernel, by decide +kernel⟩, List.mem_of_getElem? (i := 1179) (by decide +kernel), List.mem_of_getElem? (i := 1702) (by decide +kernel), List.mem_of_getElem? (i := 1703) (by decide +kernel)⟩
theorem lw_p98 : lw_okq (⟨"MoveUpModel", "canBeside", "(IIII)Z"⟩, 71) := ⟨⟨by decide +kernel, by decide +kernel⟩, List.mem_of_getElem? (i := 1179) (by decide +kernel), List.mem_of_getElem? (i := 1706) (by decide +kernel), List.mem_of_getElem? (i := 1707) (by decide +kernel)⟩
theorem lw_p99 : lw_okq (⟨"MoveUpModel", "goesBy", "()I"⟩, 71) := ⟨⟨by decide +kernel, by decide +kernel⟩, List.mem_of_getElem? (i := 1179) (by decide +kernel), List.mem_of_getElem? (i := 1714) (by decide +kernel), List.mem_of_getElem? (i := 1715) (by decide +kernel)⟩
theorem lw_p100 : lw_okq (⟨"MoveUpModel", "doesLine", "(I)Z"⟩, 71) := ⟨⟨by decide +kernel, by decide +kernel⟩, List.mem_of_getElem? (i := 1179) (by decide +kernel), List.mem_of_getElem? (i := 1718) (by decide +kernel), List.mem_of_getElem? (i := 1719) (by decide +kernel)⟩
theorem lw_p101 : lw_okq (⟨"MoveUpModel", "standsNow", "(I)V"⟩, 71) := ⟨⟨by decide +kernel, by decide +kernel⟩, List.mem_of_getElem? (i := 1179) (by decide +kernel), List.mem_of_getElem? (i := 1722) (by decide +kernel), List.mem_of_getElem? (i := 1723) (by decide +kernel)⟩
theorem lw_p102 : lw_okq (⟨"MoveUpModel", "thinks", "()V"⟩, 71) := ⟨⟨by decide +kernel, by decide +kernel⟩, List.mem_of_getElem? (i := 1179) (by decide +kernel), List.mem_of_getElem? (i := 1730) (by decide +kernel), List.mem_of_getElem? (i := 1731) (by decide +kernel)⟩
theorem lw_p103 : lw_okq (⟨"MoveUpModel", "endsThought", "()V"⟩, 71) := ⟨⟨by decide +kernel, by decide +kernel⟩, List.mem_of_getElem? (i := 1179) (by decide +kernel), List.mem_of_getElem? (i := 1734) (by decide +kernel), List.mem_of_getElem? (i := 1735) (by decide +kernel)⟩
theorem lw_p104 : lw_okq (⟨"MoveUpModel", "placeOf", "(I)I"⟩, 71) := ⟨⟨by decide +kernel, by decide +kernel⟩, List.mem_of_getElem? (i := 1179) (by decide +kernel), List.mem_of_getElem? (i := 1742) (by decide +kernel), List.mem_of_getElem? (i := 1743) (by decide +kernel)⟩
theorem lw_p105 : lw_okq (⟨"MoveUpModel", "whoAt", "(I)I"⟩, 71) := ⟨⟨by decide +kernel, by decide +kernel⟩, List.mem_of_getElem? (i := 1179) (by decide +kernel), List.mem_of_getElem? (i := 1750) (by decide +kernel), List.mem_of_getElem? (i := 1751) (by decide +kernel)⟩
theorem lw_p106 : lw_okq (⟨"MoveUpModel", "roomFor", "(I)I"⟩, 71) := ⟨⟨by decide +kernel, by decide +kernel⟩, List.mem_of_getElem? (i := 1179) (by decide +kernel), List.mem_of_getElem? (i := 1762) (by decide +kernel), List.mem_of_getElem? (i := 1763) (by decide +kernel)⟩
theorem lw_p107 : lw_okq (⟨"MoveUpModel", "areAlike", "(II)Z"⟩, 71) := ⟨⟨by decide +kernel, by decide +kernel⟩, List.mem_of_getElem? (i := 1179) (by decide +kernel), List.mem_of_getElem? (i := 1774) (by decide +kernel), List.mem_of_getElem? (i := 1775) (by decide +kernel)⟩
theorem lw_p108 : lw_okq (⟨"MoveUpModel", "fillByLaw", "(II)I"⟩, 71) := ⟨⟨by decide +kernel, by decide +kernel⟩, List.mem_of_getElem? (i := 1179) (by decide +kernel), List.mem_of_getElem? (i := 1778) (by decide +kernel), List.mem_of_getElem? (i := 1779) (by decide +kernel)⟩
theorem lw_p109 : lw_okq (⟨"MoveUpModel", "findsStretches", "(II)V"⟩, 71) := ⟨⟨by decide +kernel, by decide +kernel⟩, List.mem_of_getElem? (i := 1179) (by decide +kernel), List.mem_of_getElem? (i := 1782) (by decide +kernel), List.mem_of_getElem? (i := 1783) (by decide +kernel)⟩
theorem lw_p110 : lw_okq (⟨"MoveUpModel", "findsStretch", "(IIII)V"⟩, 71) := ⟨⟨by decide +kernel, by decide +kernel⟩, List.mem_of_getElem? (i := 1179) (by decide +kernel), List.mem_of_getElem? (i := 1786) (by decide +kernel), List.mem_of_getElem? (i := 1787) (by decide +kernel)⟩
theorem lw_p111 : lw_okq (⟨"MoveUpModel", "ofStretch", "([III)I"⟩, 71) := ⟨⟨by decide +kernel, by decide +kernel⟩, List.mem_of_getElem? (i := 1179) (by decide +kernel), List.mem_of_getElem? (i := 1790) (by decide +kernel), List.mem_of_getElem? (i := 1791) (by decide +kernel)⟩
def lw_privs_7 : List (MethodName × Nat) := [(⟨"MoveUpModel", "held", "(III)I"⟩, 71), (⟨"MoveUpModel", "leastBehind", "(II)I"⟩, 71), (⟨"MoveUpModel", "canBeside", "(IIII)Z"⟩, 71), (⟨"MoveUpModel", "goesBy", "()I"⟩, 71), (⟨"MoveUpModel", "doesLine", "(I)Z"⟩, 71), (⟨"MoveUpModel", "standsNow", "(I)V"⟩, 71), (⟨"MoveUpModel", "thinks", "()V"⟩, 71), (⟨"MoveUpModel", "endsThought", "()V"⟩, 71), (⟨"MoveUpModel", "placeOf", "(I)I"⟩, 71), (⟨"MoveUpModel", "whoAt", "(I)I"⟩, 71), (⟨"MoveUpModel", "roomFor", "(I)I"⟩, 71), (⟨"MoveUpModel", "areAlike", "(II)Z"⟩, 71), (⟨"MoveUpModel", "fillByLaw", "(II)I"⟩, 71), (⟨"MoveUpModel", "findsStretches", "(II)V"⟩, 71), (⟨"MoveUpModel", "findsStretch", "(IIII)V"⟩, 71), (⟨"MoveUpModel", "ofStretch", "([III)I"⟩, 71)]
theorem lw_r7 : ∀ q ∈ lw_privs_7, lw_okq q := List.forall_mem_cons.mpr ⟨lw_p96, List.forall_mem_cons.mpr ⟨lw_p97, List.forall_mem_cons.mpr ⟨lw_p98, List.forall_mem_cons.mpr ⟨lw_p99, List.forall_mem_cons.mpr ⟨lw_p100, List.forall_mem_cons.mpr ⟨lw_p101, List.forall_mem_cons.mpr ⟨lw_p102, List.forall_mem_cons.mpr ⟨lw_p103, List.forall_mem_cons.mpr ⟨lw_p104, List.forall_mem_cons.mpr ⟨lw_p105, List.forall_mem_cons.mpr ⟨lw_p106, List.forall_mem_cons.mpr ⟨lw_p107, List.forall_mem_cons.mpr ⟨lw_p108, List.forall_mem_cons.mpr ⟨lw_p109, List.forall_mem_cons.mpr ⟨lw_p110, List.forall_mem_cons.mpr ⟨lw_p111, fun _ h => absurd h List.not_mem_nil⟩⟩⟩⟩⟩⟩⟩⟩⟩⟩⟩⟩⟩⟩⟩⟩
theorem lw_p112 : lw_okq (⟨"MoveUpModel", "stretch", "(II)I"⟩, 71) := ⟨⟨by decide +kernel, by decide +kernel⟩, List.mem_of_getElem? (i := 1179) (by decide +kernel), List.mem_of_getElem? (i := 1794) (by decide +kernel), List.mem_of_getElem? (i := 1795) (by decide +kernel)⟩
theorem lw_p113 : lw_okq (⟨"MoveUpModel", "fills", "(I)V"⟩, 71) := ⟨⟨by decide +kernel, by decide +kernel⟩, List.mem_of_getElem? (i := 1179) (by decide +kernel), List.mem_of_getElem? (i := 1798) (by decide +kernel), List.mem_of_getElem? (i := 1799) (by decide +kernel)⟩
theorem lw_p114 : lw_okq (⟨"MoveUpModel", "findsBare", "(II)V"⟩, 71) := ⟨⟨by decide +kernel, by decide +kernel⟩, List.mem_of_getElem? (i := 1179) (by decide +kernel), List.mem_of_getElem? (i := 1806) (by decide +kernel), List.mem_of_getElem? (i := 1807) (by decide +kernel)⟩
theorem lw_p115 : lw_okq (⟨"MoveUpModel", "findsAround", "(III)V"⟩, 71) := ⟨⟨by decide +kernel, by decide +kernel⟩, List.mem_of_getElem? (i := 1179) (by decide +kernel), List.mem_of_getElem? (i := 1810) (by decide +kernel), List.mem_of_getElem? (i := 1811) (by decide +kernel)⟩
theorem lw_p116 : lw_okq (⟨"MoveUpModel", "fewestBy", "(III)I"⟩, 71) := ⟨⟨by decide +kernel, by decide +kernel⟩, List.mem_of_getElem? (i := 1179) (by decide +kernel), List.mem_of_getElem? (i := 1814) (by decide +kernel), List.mem_of_getElem? (i := 1815) (by decide +kernel)⟩
theorem lw_p117 : lw_okq (⟨"MoveUpModel", "sittingSet", "()I"⟩, 71) := ⟨⟨by decide +kernel, by decide +kernel⟩, List.mem_of_getElem? (i := 1179) (by decide +kernel), List.mem_of_getElem? (i := 1830) (by decide +kernel), List.mem_of_getElem? (i := 1831) (by decide +kernel)⟩
theorem lw_p118 : lw_okq (⟨"MoveUpModel", "onesOf", "(I)I"⟩, 71) := ⟨⟨by decide +kernel, by decide +kernel⟩, List.mem_of_getElem? (i := 1179) (by decide +kernel), List.mem_of_getElem? (i := 1834) (by decide +kernel), List.mem_of_getElem? (i := 1835) (by decide +kernel)⟩
theorem lw_p119 : lw_okq (⟨"MoveUpModel", "findsOrders", "()V"⟩, 71) := ⟨⟨by decide +kernel, by decide +kernel⟩, List.mem_of_getElem? (i := 1179) (by decide +kernel), List.mem_of_getElem? (i := 1838) (by decide +kernel), List.mem_of_getElem? (i := 1839) (by decide +kernel)⟩
theorem lw_p120 : lw_okq (⟨"MoveUpModel", "canCome", "(II)Z"⟩, 71) := ⟨⟨by decide +kernel, by decide +kernel⟩, List.mem_of_getElem? (i := 1179) (by decide +kernel), List.mem_of_getElem? (i := 1842) (by decide +kernel), List.mem_of_getElem? (i := 1843) (by decide +kernel)⟩
theorem lw_p121 : lw_okq (⟨"MoveUpModel", "nextOf", "(I)I"⟩, 71) := ⟨⟨by decide +kernel, by decide +kernel⟩, List.mem_of_getElem? (i := 1179) (by decide +kernel), List.mem_of_getElem? (i := 1846) (by decide +kernel), List.mem_of_getElem? (i := 1847) (by decide +kernel)⟩
theorem lw_p122 : lw_okq (⟨"MoveUpModel", "kept", "(I)I"⟩, 71) := ⟨⟨by decide +kernel, by decide +kernel⟩, List.mem_of_getElem? (i := 1179) (by decide +kernel), List.mem_of_getElem? (i := 1854) (by decide +kernel), List.mem_of_getElem? (i := 1855) (by decide +kernel)⟩
theorem lw_p123 : lw_okq (⟨"MoveUpModel", "keepsBench", "()V"⟩, 71) := ⟨⟨by decide +kernel, by decide +kernel⟩, List.mem_of_getElem? (i := 1179) (by decide +kernel), List.mem_of_getElem? (i := 1858) (by decide +kernel), List.mem_of_getElem? (i := 1859) (by decide +kernel)⟩
theorem lw_p124 : lw_okq (⟨"MoveUpModel", "keepsLaw", "(I)V"⟩, 71) := ⟨⟨by decide +kernel, by decide +kernel⟩, List.mem_of_getElem? (i := 1179) (by decide +kernel), List.mem_of_getElem? (i := 1862) (by decide +kernel), List.mem_of_getElem? (i := 1863) (by decide +kernel)⟩
theorem lw_p125 : lw_okq (⟨"MoveUpModel", "freeInches", "()I"⟩, 71) := ⟨⟨by decide +kernel, by decide +kernel⟩, List.mem_of_getElem? (i := 1179) (by decide +kernel), List.mem_of_getElem? (i := 1870) (by decide +kernel), List.mem_of_getElem? (i := 1871) (by decide +kernel)⟩
theorem lw_p126 : lw_okq (⟨"MoveUpModel", "restMany", "()I"⟩, 71) := ⟨⟨by decide +kernel, by decide +kernel⟩, List.mem_of_getElem? (i := 1179) (by decide +kernel), List.mem_of_getElem? (i := 1874) (by decide +kernel), List.mem_of_getElem? (i := 1875) (by decide +kernel)⟩
theorem lw_p127 : lw_okq (⟨"MoveUpModel", "whoIs", "(I)I"⟩, 71) := ⟨⟨by decide +kernel, by decide +kernel⟩, List.mem_of_getElem? (i := 1179) (by decide +kernel), List.mem_of_getElem? (i := 1878) (by decide +kernel), List.mem_of_getElem? (i := 1879) (by decide +kernel)⟩
def lw_privs_8 : List (MethodName × Nat) := [(⟨"MoveUpModel", "stretch", "(II)I"⟩, 71), (⟨"MoveUpModel", "fills", "(I)V"⟩, 71), (⟨"MoveUpModel", "findsBare", "(II)V"⟩, 71), (⟨"MoveUpModel", "findsAround", "(III)V"⟩, 71), (⟨"MoveUpModel", "fewestBy", "(III)I"⟩, 71), (⟨"MoveUpModel", "sittingSet", "()I"⟩, 71), (⟨"MoveUpModel", "onesOf", "(I)I"⟩, 71), (⟨"MoveUpModel", "findsOrders", "()V"⟩, 71), (⟨"MoveUpModel", "canCome", "(II)Z"⟩, 71), (⟨"MoveUpModel", "nextOf", "(I)I"⟩, 71), (⟨"MoveUpModel", "kept", "(I)I"⟩, 71), (⟨"MoveUpModel", "keepsBench", "()V"⟩, 71), (⟨"MoveUpModel", "keepsLaw", "(I)V"⟩, 71), (⟨"MoveUpModel", "freeInches", "()I"⟩, 71), (⟨"MoveUpModel", "restMany", "()I"⟩, 71), (⟨"MoveUpModel", "whoIs", "(I)I"⟩, 71)]
theorem lw_r8 : ∀ q ∈ lw_privs_8, lw_okq q := List.forall_mem_cons.mpr ⟨lw_p112, List.forall_mem_cons.mpr ⟨lw_p113, List.forall_mem_cons.mpr ⟨lw_p114, List.forall_mem_cons.mpr ⟨lw_p115, List.forall_mem_cons.mpr ⟨lw_p116, List.forall_mem_cons.mpr ⟨lw_p117, List.forall_mem_cons.mpr ⟨lw_p118, List.forall_mem_cons.mpr ⟨lw_p119, List.forall_mem_cons.mpr ⟨lw_p120, List.forall_mem_cons.mpr ⟨lw_p121, List.forall_mem_cons.mpr ⟨lw_p122, List.forall_mem_cons.mpr ⟨lw_p123, List.forall_mem_cons.mpr ⟨lw_p124, List.forall_mem_cons.mpr ⟨lw_p125, List.forall_mem_cons.mpr ⟨lw_p126, List.forall_mem_cons.mpr ⟨lw_p127, fun _ h => absurd h List.not_mem_nil⟩⟩⟩⟩⟩⟩⟩⟩⟩⟩⟩⟩⟩⟩⟩⟩
def lw_privs : List (MethodName × Nat) := lw_privs_1 ++ (lw_privs_2 ++ (lw_privs_3 ++ (lw_privs_4 ++ (lw_privs_5 ++ (lw_privs_6 ++ (lw_privs_7 ++ (lw_privs_8)))))))
def lw_tbl : List Cond := k2_sels lw_privs ++ tables_1
theorem lw_privs_ok : ∀ q ∈ lw_privs, lw_okq q := by
  show ∀ q ∈ lw_privs_1 ++ (lw_privs_2 ++ (lw_privs_3 ++ (lw_privs_4 ++ (lw_privs_5 ++ (lw_privs_6 ++ (lw_privs_7 ++ (lw_privs_8))))))), lw_okq q
  exact List.forall_mem_append.mpr ⟨lw_r1, List.forall_mem_append.mpr ⟨lw_r2, List.forall_mem_append.mpr ⟨lw_r3, List.forall_mem_append.mpr ⟨lw_r4, List.forall_mem_append.mpr ⟨lw_r5, List.forall_mem_append.mpr ⟨lw_r6, List.forall_mem_append.mpr ⟨lw_r7, lw_r8⟩⟩⟩⟩⟩⟩⟩
def RX0 : String := "MoveUp$Acts"
def TX0 : u_T := fun k => match k with
  | 0 => ("MoveUp$Acts", "stood", "I", false)
  | 1 => ("MoveUp$Acts", "firstStood", "I", false)
  | 2 => ("MoveUp$Acts", "bench", "LMoveUp$Bench;", true)
  | 3 => ("MoveUp$Acts", "row", "LMoveUp$Row;", true)
  | 4 => ("MoveUp$Acts", "seats", "LMoveUp$Seats;", true)
  | _ => ("MoveUp$Acts", "rooms", "LMoveUp$Room;", true)
def tyX0 : Nat → FieldType := fun k => match k with
  | 0 => .int
  | 1 => .int
  | 2 => .object "MoveUp$Bench"
  | 3 => .object "MoveUp$Row"
  | 4 => .object "MoveUp$Seats"
  | _ => .object "MoveUp$Room"
theorem nmX0 : ∀ a, a < 6 → ∀ b, b < 6 → a ≠ b → (TX0 a).2.1 ≠ (TX0 b).2.1 := by decide +kernel
theorem tyX0_ok : ∀ k, k < 6 → parseFieldDescriptor (TX0 k).2.2.1 = some (tyX0 k) := by decide +kernel
abbrev cX0_comes : ByteArray := prog_2_method_2_code
def yX0_comes : MethodName := ⟨RX0, "comes", "(I)I"⟩
abbrev cX0_goes : ByteArray := prog_2_method_3_code
def yX0_goes : MethodName := ⟨RX0, "goes", "(I)V"⟩
abbrev cX0_begs : ByteArray := prog_2_method_4_code
def yX0_begs : MethodName := ⟨RX0, "begs", "(I)I"⟩
abbrev cX0_countStanding : ByteArray := prog_2_method_5_code
def yX0_countStanding : MethodName := ⟨RX0, "countStanding", "()V"⟩
abbrev cX0_passHour : ByteArray := prog_2_method_6_code
def yX0_passHour : MethodName := ⟨RX0, "passHour", "()I"⟩
abbrev cX0_skipTo : ByteArray := prog_2_method_7_code
def yX0_skipTo : MethodName := ⟨RX0, "skipTo", "(I)V"⟩
abbrev cX0_countNone : ByteArray := prog_2_method_8_code
def yX0_countNone : MethodName := ⟨RX0, "countNone", "()V"⟩
def RX1 : String := "MoveUp$Arrivals"
def TX1 : u_T := fun k => match k with
  | 0 => ("MoveUp$Arrivals", "bench", "LMoveUp$Bench;", true)
  | 1 => ("MoveUp$Arrivals", "row", "LMoveUp$Row;", true)
  | 2 => ("MoveUp$Arrivals", "seats", "LMoveUp$Seats;", true)
  | 3 => ("MoveUp$Arrivals", "who", "[I", true)
  | 4 => ("MoveUp$Arrivals", "ways", "[I", true)
  | 5 => ("MoveUp$Arrivals", "nextOnes", "[I", true)
  | _ => ("MoveUp$Arrivals", "count", "I", false)
def tyX1 : Nat → FieldType := fun k => match k with
  | 0 => .object "MoveUp$Bench"
  | 1 => .object "MoveUp$Row"
  | 2 => .object "MoveUp$Seats"
  | 3 => .array .int
  | 4 => .array .int
  | 5 => .array .int
  | _ => .int
theorem nmX1 : ∀ a, a < 7 → ∀ b, b < 7 → a ≠ b → (TX1 a).2.1 ≠ (TX1 b).2.1 := by decide +kernel
theorem tyX1_ok : ∀ k, k < 7 → parseFieldDescriptor (TX1 k).2.2.1 = some (tyX1 k) := by decide +kernel
abbrev cX1_gatherAll : ByteArray := prog_3_method_2_code
def yX1_gatherAll : MethodName := ⟨RX1, "gatherAll", "()Z"⟩
abbrev cX1_findNextOnes : ByteArray := prog_3_method_3_code
def yX1_findNextOnes : MethodName := ⟨RX1, "findNextOnes", "()V"⟩
abbrev cX1_countWays : ByteArray := prog_3_method_4_code
def yX1_countWays : MethodName := ⟨RX1, "countWays", "()V"⟩
abbrev cX1_sitsSo : ByteArray := prog_3_method_5_code
def yX1_sitsSo : MethodName := ⟨RX1, "sitsSo", "(II)Z"⟩
abbrev cX1_howMany : ByteArray := prog_3_method_6_code
def yX1_howMany : MethodName := ⟨RX1, "howMany", "()I"⟩
abbrev cX1_inFirst : ByteArray := prog_3_method_7_code
def yX1_inFirst : MethodName := ⟨RX1, "inFirst", "(I)I"⟩
def RX2 : String := "MoveUp$Bench"
def TX2 : u_T := fun k => match k with
  | 0 => ("MoveUp$Bench", "length", "I", false)
  | 1 => ("MoveUp$Bench", "people", "I", false)
  | 2 => ("MoveUp$Bench", "hour", "I", false)
  | 3 => ("MoveUp$Bench", "lines", "I", false)
  | 4 => ("MoveUp$Bench", "rest", "[I", true)
  | 5 => ("MoveUp$Bench", "reach", "[I", true)
  | 6 => ("MoveUp$Bench", "warm", "[I", true)
  | 7 => ("MoveUp$Bench", "told", "[[I", true)
  | 8 => ("MoveUp$Bench", "seat", "[I", true)
  | 9 => ("MoveUp$Bench", "book", "[[I", true)
  | 10 => ("MoveUp$Bench", "sitting", "LMoveUp$Law;", true)
  | 11 => ("MoveUp$Bench", "moving", "LMoveUp$Law;", true)
  | _ => ("MoveUp$Bench", "day", "LMoveUp$Day;", true)
def tyX2 : Nat → FieldType := fun k => match k with
  | 0 => .int
  | 1 => .int
  | 2 => .int
  | 3 => .int
  | 4 => .array .int
  | 5 => .array .int
  | 6 => .array .int
  | 7 => .array (.array .int)
  | 8 => .array .int
  | 9 => .array (.array .int)
  | 10 => .object "MoveUp$Law"
  | 11 => .object "MoveUp$Law"
  | _ => .object "MoveUp$Day"
theorem nmX2 : ∀ a, a < 13 → ∀ b, b < 13 → a ≠ b → (TX2 a).2.1 ≠ (TX2 b).2.1 := by decide +kernel
theorem tyX2_ok : ∀ k, k < 13 → parseFieldDescriptor (TX2 k).2.2.1 = some (tyX2 k) := by decide +kernel
abbrev cX2_clear : ByteArray := prog_4_method_2_code
def yX2_clear : MethodName := ⟨RX2, "clear", "(I)V"⟩
abbrev cX2_copyFrom : ByteArray := prog_4_method_3_code
def yX2_copyFrom : MethodName := ⟨RX2, "copyFrom", "(LMoveUp$Bench;)V"⟩
abbrev cX2_putRest : ByteArray := prog_4_method_4_code
def yX2_putRest : MethodName := ⟨RX2, "putRest", "(IZ)V"⟩
abbrev cX2_findReach : ByteArray := prog_4_method_5_code
def yX2_findReach : MethodName := ⟨RX2, "findReach", "()V"⟩
abbrev cX2_isPerson : ByteArray := prog_4_method_6_code
def yX2_isPerson : MethodName := ⟨RX2, "isPerson", "(I)Z"⟩
abbrev cX2_isSeated : ByteArray := prog_4_method_7_code
def yX2_isSeated : MethodName := ⟨RX2, "isSeated", "(I)Z"⟩
abbrev cX2_isAside : ByteArray := prog_4_method_8_code
def yX2_isAside : MethodName := ⟨RX2, "isAside", "(I)Z"⟩
abbrev cX2_takes : ByteArray := prog_4_method_9_code
def yX2_takes : MethodName := ⟨RX2, "takes", "(I)I"⟩
abbrev cX2_isClear : ByteArray := prog_4_method_10_code
def yX2_isClear : MethodName := ⟨RX2, "isClear", "(II)Z"⟩
abbrev cX2_fits : ByteArray := prog_4_method_11_code
def yX2_fits : MethodName := ⟨RX2, "fits", "(II)Z"⟩
abbrev cX2_apart : ByteArray := prog_4_method_12_code
def yX2_apart : MethodName := ⟨RX2, "apart", "(II)I"⟩
abbrev cX2_isSatOver : ByteArray := prog_4_method_13_code
def yX2_isSatOver : MethodName := ⟨RX2, "isSatOver", "(I)Z"⟩
abbrev cX2_whoIsAt : ByteArray := prog_4_method_14_code
def yX2_whoIsAt : MethodName := ⟨RX2, "whoIsAt", "(I)I"⟩
abbrev cX2_rank : ByteArray := prog_4_method_15_code
def yX2_rank : MethodName := ⟨RX2, "rank", "(I)I"⟩
abbrev cX2_whoIsNth : ByteArray := prog_4_method_16_code
def yX2_whoIsNth : MethodName := ⟨RX2, "whoIsNth", "(I)I"⟩
abbrev cX2_seated : ByteArray := prog_4_method_17_code
def yX2_seated : MethodName := ⟨RX2, "seated", "()I"⟩
abbrev cX2_free : ByteArray := prog_4_method_18_code
def yX2_free : MethodName := ⟨RX2, "free", "()I"⟩
abbrev cX2_rests : ByteArray := prog_4_method_19_code
def yX2_rests : MethodName := ⟨RX2, "rests", "()I"⟩
abbrev cX2_warmSeats : ByteArray := prog_4_method_20_code
def yX2_warmSeats : MethodName := ⟨RX2, "warmSeats", "(I)V"⟩
abbrev cX2_write : ByteArray := prog_4_method_21_code
def yX2_write : MethodName := ⟨RX2, "write", "(III)V"⟩
def RX3 : String := "MoveUp$Day"
def TX3 : u_T := fun k => match k with
  | 0 => ("MoveUp$Day", "lines", "I", false)
  | 1 => ("MoveUp$Day", "act", "[I", true)
  | 2 => ("MoveUp$Day", "who", "[I", true)
  | _ => ("MoveUp$Day", "hour", "[I", true)
def tyX3 : Nat → FieldType := fun k => match k with
  | 0 => .int
  | 1 => .array .int
  | 2 => .array .int
  | _ => .array .int
theorem nmX3 : ∀ a, a < 4 → ∀ b, b < 4 → a ≠ b → (TX3 a).2.1 ≠ (TX3 b).2.1 := by decide +kernel
theorem tyX3_ok : ∀ k, k < 4 → parseFieldDescriptor (TX3 k).2.2.1 = some (tyX3 k) := by decide +kernel
abbrev cX3_copyFrom : ByteArray := prog_5_method_2_code
def yX3_copyFrom : MethodName := ⟨RX3, "copyFrom", "(LMoveUp$Day;)V"⟩
abbrev cX3_add : ByteArray := prog_5_method_3_code
def yX3_add : MethodName := ⟨RX3, "add", "(III)V"⟩
abbrev cX3_nextHour : ByteArray := prog_5_method_4_code
def yX3_nextHour : MethodName := ⟨RX3, "nextHour", "(I)I"⟩
def RX4 : String := "MoveUp$Filling"
def TX4 : u_T := fun k => match k with
  | 0 => ("MoveUp$Filling", "bench", "LMoveUp$Bench;", true)
  | 1 => ("MoveUp$Filling", "row", "LMoveUp$Row;", true)
  | 2 => ("MoveUp$Filling", "oneRest", "[I", true)
  | 3 => ("MoveUp$Filling", "fewestFrom", "[I", true)
  | 4 => ("MoveUp$Filling", "means", "[[I", true)
  | 5 => ("MoveUp$Filling", "rightParts", "[I", true)
  | 6 => ("MoveUp$Filling", "wide", "I", false)
  | _ => ("MoveUp$Filling", "keep", "I", false)
def tyX4 : Nat → FieldType := fun k => match k with
  | 0 => .object "MoveUp$Bench"
  | 1 => .object "MoveUp$Row"
  | 2 => .array .int
  | 3 => .array .int
  | 4 => .array (.array .int)
  | 5 => .array .int
  | 6 => .int
  | _ => .int
theorem nmX4 : ∀ a, a < 8 → ∀ b, b < 8 → a ≠ b → (TX4 a).2.1 ≠ (TX4 b).2.1 := by decide +kernel
theorem tyX4_ok : ∀ k, k < 8 → parseFieldDescriptor (TX4 k).2.2.1 = some (tyX4 k) := by decide +kernel
abbrev cX4_ofAlike : ByteArray := prog_6_method_2_code
def yX4_ofAlike : MethodName := ⟨RX4, "ofAlike", "(II)V"⟩
abbrev cX4_total : ByteArray := prog_6_method_3_code
def yX4_total : MethodName := ⟨RX4, "total", "(I)I"⟩
abbrev cX4_bestInchForRest : ByteArray := prog_6_method_4_code
def yX4_bestInchForRest : MethodName := ⟨RX4, "bestInchForRest", "()I"⟩
abbrev cX4_isClear : ByteArray := prog_6_method_5_code
def yX4_isClear : MethodName := ⟨RX4, "isClear", "([II)Z"⟩
abbrev cX4_fewest : ByteArray := prog_6_method_6_code
def yX4_fewest : MethodName := ⟨RX4, "fewest", "([III)I"⟩
abbrev cX4_most : ByteArray := prog_6_method_7_code
def yX4_most : MethodName := ⟨RX4, "most", "(II)I"⟩
abbrev cX4_mean : ByteArray := prog_6_method_8_code
def yX4_mean : MethodName := ⟨RX4, "mean", "(II)I"⟩
abbrev cX4_meanOf : ByteArray := prog_6_method_9_code
def yX4_meanOf : MethodName := ⟨RX4, "meanOf", "(II)I"⟩
def RX5 : String := "MoveUp$Law"
def TX5 : u_T := fun k => match k with
  | 0 => ("MoveUp$Law", "lines", "I", false)
  | 1 => ("MoveUp$Law", "size", "I", false)
  | 2 => ("MoveUp$Law", "code", "[I", true)
  | 3 => ("MoveUp$Law", "from", "[I", true)
  | 4 => ("MoveUp$Law", "when", "[I", true)
  | 5 => ("MoveUp$Law", "stop", "[I", true)
  | _ => ("MoveUp$Law", "stack", "[I", true)
def tyX5 : Nat → FieldType := fun k => match k with
  | 0 => .int
  | 1 => .int
  | 2 => .array .int
  | 3 => .array .int
  | 4 => .array .int
  | 5 => .array .int
  | _ => .array .int
theorem nmX5 : ∀ a, a < 7 → ∀ b, b < 7 → a ≠ b → (TX5 a).2.1 ≠ (TX5 b).2.1 := by decide +kernel
theorem tyX5_ok : ∀ k, k < 7 → parseFieldDescriptor (TX5 k).2.2.1 = some (tyX5 k) := by decide +kernel
abbrev cX5_clear : ByteArray := prog_7_method_2_code
def yX5_clear : MethodName := ⟨RX5, "clear", "()V"⟩
abbrev cX5_copyFrom : ByteArray := prog_7_method_3_code
def yX5_copyFrom : MethodName := ⟨RX5, "copyFrom", "(LMoveUp$Law;)V"⟩
abbrev cX5_add : ByteArray := prog_7_method_4_code
def yX5_add : MethodName := ⟨RX5, "add", "(I)V"⟩
abbrev cX5_value : ByteArray := prog_7_method_5_code
def yX5_value : MethodName := ⟨RX5, "value", "([II)I"⟩
abbrev cX5_run : ByteArray := prog_7_method_6_code
def yX5_run : MethodName := ⟨RX5, "run", "(II[I)I"⟩
abbrev cX5_joined : ByteArray := prog_7_method_7_code
def yX5_joined : MethodName := ⟨RX5, "joined", "(III)I"⟩
def RX6 : String := "MoveUp$Past"
def TX6 : u_T := fun k => match k with
  | 0 => ("MoveUp$Past", "count", "I", false)
  | 1 => ("MoveUp$Past", "next", "I", false)
  | 2 => ("MoveUp$Past", "seat", "[[I", true)
  | 3 => ("MoveUp$Past", "warm", "[[I", true)
  | 4 => ("MoveUp$Past", "hour", "[I", true)
  | _ => ("MoveUp$Past", "lines", "[I", true)
def tyX6 : Nat → FieldType := fun k => match k with
  | 0 => .int
  | 1 => .int
  | 2 => .array (.array .int)
  | 3 => .array (.array .int)
  | 4 => .array .int
  | _ => .array .int
theorem nmX6 : ∀ a, a < 6 → ∀ b, b < 6 → a ≠ b → (TX6 a).2.1 ≠ (TX6 b).2.1 := by decide +kernel
theorem tyX6_ok : ∀ k, k < 6 → parseFieldDescriptor (TX6 k).2.2.1 = some (tyX6 k) := by decide +kernel
abbrev cX6_forget : ByteArray := prog_8_method_2_code
def yX6_forget : MethodName := ⟨RX6, "forget", "()V"⟩
abbrev cX6_keepNow : ByteArray := prog_8_method_3_code
def yX6_keepNow : MethodName := ⟨RX6, "keepNow", "(LMoveUp$Bench;)V"⟩
abbrev cX6_goBack : ByteArray := prog_8_method_4_code
def yX6_goBack : MethodName := ⟨RX6, "goBack", "(LMoveUp$Bench;)Z"⟩
abbrev cX6_keepThought : ByteArray := prog_8_method_5_code
def yX6_keepThought : MethodName := ⟨RX6, "keepThought", "(LMoveUp$Bench;)V"⟩
abbrev cX6_endThought : ByteArray := prog_8_method_6_code
def yX6_endThought : MethodName := ⟨RX6, "endThought", "(LMoveUp$Bench;)V"⟩
abbrev cX6_save : ByteArray := prog_8_method_7_code
def yX6_save : MethodName := ⟨RX6, "save", "(LMoveUp$Bench;I)V"⟩
abbrev cX6_load : ByteArray := prog_8_method_8_code
def yX6_load : MethodName := ⟨RX6, "load", "(LMoveUp$Bench;I)V"⟩
def RX7 : String := "MoveUp$Reader"
def TX7 : u_T := fun k => match k with
  | 0 => ("MoveUp$Reader", "size", "I", false)
  | 1 => ("MoveUp$Reader", "fault", "I", false)
  | 2 => ("MoveUp$Reader", "faultPlace", "I", false)
  | 3 => ("MoveUp$Reader", "law", "LMoveUp$Law;", true)
  | 4 => ("MoveUp$Reader", "day", "LMoveUp$Day;", true)
  | 5 => ("MoveUp$Reader", "kind", "I", false)
  | 6 => ("MoveUp$Reader", "tokens", "I", false)
  | 7 => ("MoveUp$Reader", "next", "I", false)
  | 8 => ("MoveUp$Reader", "tape", "[I", true)
  | 9 => ("MoveUp$Reader", "token", "[I", true)
  | _ => ("MoveUp$Reader", "place", "[I", true)
def tyX7 : Nat → FieldType := fun k => match k with
  | 0 => .int
  | 1 => .int
  | 2 => .int
  | 3 => .object "MoveUp$Law"
  | 4 => .object "MoveUp$Day"
  | 5 => .int
  | 6 => .int
  | 7 => .int
  | 8 => .array .int
  | 9 => .array .int
  | _ => .array .int
theorem nmX7 : ∀ a, a < 11 → ∀ b, b < 11 → a ≠ b → (TX7 a).2.1 ≠ (TX7 b).2.1 := by decide +kernel
theorem tyX7_ok : ∀ k, k < 11 → parseFieldDescriptor (TX7 k).2.2.1 = some (tyX7 k) := by decide +kernel
abbrev cX7_append : ByteArray := prog_9_method_2_code
def yX7_append : MethodName := ⟨RX7, "append", "(I)V"⟩
abbrev cX7_reads : ByteArray := prog_9_method_3_code
def yX7_reads : MethodName := ⟨RX7, "reads", "(II)Z"⟩
abbrev cX7_split : ByteArray := prog_9_method_4_code
def yX7_split : MethodName := ⟨RX7, "split", "()V"⟩
abbrev cX7_addToken : ByteArray := prog_9_method_5_code
def yX7_addToken : MethodName := ⟨RX7, "addToken", "(II)V"⟩
abbrev cX7_isLetter : ByteArray := prog_9_method_6_code
def yX7_isLetter : MethodName := ⟨RX7, "isLetter", "(I)Z"⟩
abbrev cX7_isDigit : ByteArray := prog_9_method_7_code
def yX7_isDigit : MethodName := ⟨RX7, "isDigit", "(I)Z"⟩
abbrev cX7_tokenOf : ByteArray := prog_9_method_8_code
def yX7_tokenOf : MethodName := ⟨RX7, "tokenOf", "(II)I"⟩
abbrev cX7_wordOf : ByteArray := prog_9_method_9_code
def yX7_wordOf : MethodName := ⟨RX7, "wordOf", "(II)I"⟩
abbrev cX7_fail : ByteArray := prog_9_method_10_code
def yX7_fail : MethodName := ⟨RX7, "fail", "(I)V"⟩
abbrev cX7_step : ByteArray := prog_9_method_11_code
def yX7_step : MethodName := ⟨RX7, "step", "()V"⟩
abbrev cX7_take : ByteArray := prog_9_method_12_code
def yX7_take : MethodName := ⟨RX7, "take", "(I)V"⟩
abbrev cX7_readLaw : ByteArray := prog_9_method_13_code
def yX7_readLaw : MethodName := ⟨RX7, "readLaw", "()V"⟩
abbrev cX7_readClaims : ByteArray := prog_9_method_14_code
def yX7_readClaims : MethodName := ⟨RX7, "readClaims", "(II)V"⟩
abbrev cX7_readClaim : ByteArray := prog_9_method_15_code
def yX7_readClaim : MethodName := ⟨RX7, "readClaim", "(I)V"⟩
abbrev cX7_readSum : ByteArray := prog_9_method_16_code
def yX7_readSum : MethodName := ⟨RX7, "readSum", "()V"⟩
abbrev cX7_readProduct : ByteArray := prog_9_method_17_code
def yX7_readProduct : MethodName := ⟨RX7, "readProduct", "()V"⟩
abbrev cX7_isTerm : ByteArray := prog_9_method_18_code
def yX7_isTerm : MethodName := ⟨RX7, "isTerm", "(I)Z"⟩
abbrev cX7_readDay : ByteArray := prog_9_method_19_code
def yX7_readDay : MethodName := ⟨RX7, "readDay", "(I)V"⟩
abbrev cX7_readNumber : ByteArray := prog_9_method_20_code
def yX7_readNumber : MethodName := ⟨RX7, "readNumber", "(I)I"⟩
def RX8 : String := "MoveUp$Room"
def TX8 : u_T := fun k => match k with
  | 0 => ("MoveUp$Room", "inch", "[I", true)
  | 1 => ("MoveUp$Room", "bench", "LMoveUp$Bench;", true)
  | 2 => ("MoveUp$Room", "row", "LMoveUp$Row;", true)
  | 3 => ("MoveUp$Room", "terms", "[I", true)
  | 4 => ("MoveUp$Room", "costs", "[[I", true)
  | 5 => ("MoveUp$Room", "exact", "[[I", true)
  | 6 => ("MoveUp$Room", "least", "[[I", true)
  | 7 => ("MoveUp$Room", "line", "[I", true)
  | _ => ("MoveUp$Room", "found", "I", false)
def tyX8 : Nat → FieldType := fun k => match k with
  | 0 => .array .int
  | 1 => .object "MoveUp$Bench"
  | 2 => .object "MoveUp$Row"
  | 3 => .array .int
  | 4 => .array (.array .int)
  | 5 => .array (.array .int)
  | 6 => .array (.array .int)
  | 7 => .array .int
  | _ => .int
theorem nmX8 : ∀ a, a < 9 → ∀ b, b < 9 → a ≠ b → (TX8 a).2.1 ≠ (TX8 b).2.1 := by decide +kernel
theorem tyX8_ok : ∀ k, k < 9 → parseFieldDescriptor (TX8 k).2.2.1 = some (tyX8 k) := by decide +kernel
abbrev cX8_cost : ByteArray := prog_10_method_2_code
def yX8_cost : MethodName := ⟨RX8, "cost", "()I"⟩
abbrev cX8_moved : ByteArray := prog_10_method_3_code
def yX8_moved : MethodName := ⟨RX8, "moved", "()I"⟩
abbrev cX8_reckonCosts : ByteArray := prog_10_method_4_code
def yX8_reckonCosts : MethodName := ⟨RX8, "reckonCosts", "()V"⟩
abbrev cX8_find : ByteArray := prog_10_method_5_code
def yX8_find : MethodName := ⟨RX8, "find", "(II)Z"⟩
abbrev cX8_weigh : ByteArray := prog_10_method_6_code
def yX8_weigh : MethodName := ⟨RX8, "weigh", "(II)V"⟩
abbrev cX8_takesWithKeep : ByteArray := prog_10_method_7_code
def yX8_takesWithKeep : MethodName := ⟨RX8, "takesWithKeep", "(II)I"⟩
abbrev cX8_weightOf : ByteArray := prog_10_method_8_code
def yX8_weightOf : MethodName := ⟨RX8, "weightOf", "(III)I"⟩
abbrev cX8_settle : ByteArray := prog_10_method_9_code
def yX8_settle : MethodName := ⟨RX8, "settle", "(I)V"⟩
def RX9 : String := "MoveUp$Row"
def TX9 : u_T := fun k => match k with
  | 0 => ("MoveUp$Row", "size", "I", false)
  | 1 => ("MoveUp$Row", "at", "[I", true)
  | 2 => ("MoveUp$Row", "end", "[I", true)
  | 3 => ("MoveUp$Row", "keep", "[I", true)
  | 4 => ("MoveUp$Row", "group", "[I", true)
  | 5 => ("MoveUp$Row", "who", "[I", true)
  | 6 => ("MoveUp$Row", "askerWide", "I", false)
  | 7 => ("MoveUp$Row", "askerKeep", "I", false)
  | 8 => ("MoveUp$Row", "askerBag", "I", false)
  | _ => ("MoveUp$Row", "askerGroup", "I", false)
def tyX9 : Nat → FieldType := fun k => match k with
  | 0 => .int
  | 1 => .array .int
  | 2 => .array .int
  | 3 => .array .int
  | 4 => .array .int
  | 5 => .array .int
  | 6 => .int
  | 7 => .int
  | 8 => .int
  | _ => .int
theorem nmX9 : ∀ a, a < 10 → ∀ b, b < 10 → a ≠ b → (TX9 a).2.1 ≠ (TX9 b).2.1 := by decide +kernel
theorem tyX9_ok : ∀ k, k < 10 → parseFieldDescriptor (TX9 k).2.2.1 = some (tyX9 k) := by decide +kernel
abbrev cX9_gather : ByteArray := prog_11_method_2_code
def yX9_gather : MethodName := ⟨RX9, "gather", "(LMoveUp$Bench;I)V"⟩
abbrev cX9_askFor : ByteArray := prog_11_method_3_code
def yX9_askFor : MethodName := ⟨RX9, "askFor", "(LMoveUp$Bench;I)V"⟩
abbrev cX9_askForAlike : ByteArray := prog_11_method_4_code
def yX9_askForAlike : MethodName := ⟨RX9, "askForAlike", "(II)V"⟩
abbrev cX9_seatAsker : ByteArray := prog_11_method_5_code
def yX9_seatAsker : MethodName := ⟨RX9, "seatAsker", "(I)V"⟩
abbrev cX9_placeFor : ByteArray := prog_11_method_6_code
def yX9_placeFor : MethodName := ⟨RX9, "placeFor", "(I)I"⟩
abbrev cX9_isFriend : ByteArray := prog_11_method_7_code
def yX9_isFriend : MethodName := ⟨RX9, "isFriend", "(I)Z"⟩
abbrev cX9_apart : ByteArray := prog_11_method_8_code
def yX9_apart : MethodName := ⟨RX9, "apart", "(I)I"⟩
abbrev cX9_gapStart : ByteArray := prog_11_method_9_code
def yX9_gapStart : MethodName := ⟨RX9, "gapStart", "(I)I"⟩
abbrev cX9_gapEnd : ByteArray := prog_11_method_10_code
def yX9_gapEnd : MethodName := ⟨RX9, "gapEnd", "(II)I"⟩
abbrev cX9_lowest : ByteArray := prog_11_method_11_code
def yX9_lowest : MethodName := ⟨RX9, "lowest", "(I)I"⟩
abbrev cX9_highest : ByteArray := prog_11_method_12_code
def yX9_highest : MethodName := ⟨RX9, "highest", "(II)I"⟩
abbrev cX9_gapOf : ByteArray := prog_11_method_13_code
def yX9_gapOf : MethodName := ⟨RX9, "gapOf", "(I)I"⟩
def RX10 : String := "MoveUp$Seats"
def TX10 : u_T := fun k => match k with
  | 0 => ("MoveUp$Seats", "bench", "LMoveUp$Bench;", true)
  | 1 => ("MoveUp$Seats", "row", "LMoveUp$Row;", true)
  | _ => ("MoveUp$Seats", "terms", "[I", true)
def tyX10 : Nat → FieldType := fun k => match k with
  | 0 => .object "MoveUp$Bench"
  | 1 => .object "MoveUp$Row"
  | _ => .array .int
theorem nmX10 : ∀ a, a < 3 → ∀ b, b < 3 → a ≠ b → (TX10 a).2.1 ≠ (TX10 b).2.1 := by decide +kernel
theorem tyX10_ok : ∀ k, k < 3 → parseFieldDescriptor (TX10 k).2.2.1 = some (tyX10 k) := by decide +kernel
abbrev cX10_isPlace : ByteArray := prog_12_method_2_code
def yX10_isPlace : MethodName := ⟨RX10, "isPlace", "(I)Z"⟩
abbrev cX10_valueAt : ByteArray := prog_12_method_3_code
def yX10_valueAt : MethodName := ⟨RX10, "valueAt", "(I)I"⟩
abbrev cX10_best : ByteArray := prog_12_method_4_code
def yX10_best : MethodName := ⟨RX10, "best", "()I"⟩
abbrev cX10_fillByLaw : ByteArray := prog_12_method_5_code
def yX10_fillByLaw : MethodName := ⟨RX10, "fillByLaw", "(II)I"⟩
abbrev cX10_tellAsker : ByteArray := prog_12_method_6_code
def yX10_tellAsker : MethodName := ⟨RX10, "tellAsker", "()V"⟩
abbrev cX10_value : ByteArray := prog_12_method_7_code
def yX10_value : MethodName := ⟨RX10, "value", "(II)I"⟩
abbrev cX10_warmInches : ByteArray := prog_12_method_8_code
def yX10_warmInches : MethodName := ⟨RX10, "warmInches", "(I)I"⟩
def RX11 : String := "MoveUp"
def TX11 : u_T := fun k => match k with
  | 0 => ("MoveUp", "bench", "LMoveUp$Bench;", true)
  | 1 => ("MoveUp", "image", "LMoveUp$Bench;", true)
  | 2 => ("MoveUp", "past", "LMoveUp$Past;", true)
  | 3 => ("MoveUp", "reader", "LMoveUp$Reader;", true)
  | 4 => ("MoveUp", "row", "LMoveUp$Row;", true)
  | 5 => ("MoveUp", "seats", "LMoveUp$Seats;", true)
  | 6 => ("MoveUp", "rooms", "LMoveUp$Room;", true)
  | 7 => ("MoveUp", "filling", "LMoveUp$Filling;", true)
  | 8 => ("MoveUp", "arrivals", "LMoveUp$Arrivals;", true)
  | 9 => ("MoveUp", "acts", "LMoveUp$Acts;", true)
  | _ => ("MoveUp", "imageTaken", "Z", false)
def tyX11 : Nat → FieldType := fun k => match k with
  | 0 => .object "MoveUp$Bench"
  | 1 => .object "MoveUp$Bench"
  | 2 => .object "MoveUp$Past"
  | 3 => .object "MoveUp$Reader"
  | 4 => .object "MoveUp$Row"
  | 5 => .object "MoveUp$Seats"
  | 6 => .object "MoveUp$Room"
  | 7 => .object "MoveUp$Filling"
  | 8 => .object "MoveUp$Arrivals"
  | 9 => .object "MoveUp$Acts"
  | _ => .boolean
theorem nmX11 : ∀ a, a < 11 → ∀ b, b < 11 → a ≠ b → (TX11 a).2.1 ≠ (TX11 b).2.1 := by decide +kernel
theorem tyX11_ok : ∀ k, k < 11 → parseFieldDescriptor (TX11 k).2.2.1 = some (tyX11 k) := by decide +kernel
abbrev cX11_bench : ByteArray := prog_1_method_2_code
def yX11_bench : MethodName := ⟨RX11, "bench", "(I)Z"⟩
abbrev cX11_rest : ByteArray := prog_1_method_3_code
def yX11_rest : MethodName := ⟨RX11, "rest", "(IZ)Z"⟩
abbrev cX11_person : ByteArray := prog_1_method_4_code
def yX11_person : MethodName := ⟨RX11, "person", "(IIIII)I"⟩
abbrev cX11_set : ByteArray := prog_1_method_5_code
def yX11_set : MethodName := ⟨RX11, "set", "(III)Z"⟩
abbrev cX11_come : ByteArray := prog_1_method_6_code
def yX11_come : MethodName := ⟨RX11, "come", "(I)I"⟩
abbrev cX11_go : ByteArray := prog_1_method_7_code
def yX11_go : MethodName := ⟨RX11, "go", "(I)Z"⟩
abbrev cX11_beg : ByteArray := prog_1_method_8_code
def yX11_beg : MethodName := ⟨RX11, "beg", "(I)I"⟩
abbrev cX11_feed : ByteArray := prog_1_method_9_code
def yX11_feed : MethodName := ⟨RX11, "feed", "(IIIII)I"⟩
abbrev cX11_end : ByteArray := prog_1_method_10_code
def yX11_end : MethodName := ⟨RX11, "end", "(I)Z"⟩
abbrev cX11_text : ByteArray := prog_1_method_11_code
def yX11_text : MethodName := ⟨RX11, "text", "(I)I"⟩
abbrev cX11_fault : ByteArray := prog_1_method_12_code
def yX11_fault : MethodName := ⟨RX11, "fault", "(I)I"⟩
abbrev cX11_hours : ByteArray := prog_1_method_13_code
def yX11_hours : MethodName := ⟨RX11, "hours", "(I)I"⟩
abbrev cX11_of : ByteArray := prog_1_method_14_code
def yX11_of : MethodName := ⟨RX11, "of", "(II)I"⟩
abbrev cX11_at : ByteArray := prog_1_method_15_code
def yX11_at : MethodName := ⟨RX11, "at", "(II)I"⟩
abbrev cX11_tells : ByteArray := prog_1_method_16_code
def yX11_tells : MethodName := ⟨RX11, "tells", "(II)I"⟩
abbrev cX11_book : ByteArray := prog_1_method_17_code
def yX11_book : MethodName := ⟨RX11, "book", "(II)I"⟩
abbrev cX11_room : ByteArray := prog_1_method_18_code
def yX11_room : MethodName := ⟨RX11, "room", "(II)I"⟩
abbrev cX11_rise : ByteArray := prog_1_method_19_code
def yX11_rise : MethodName := ⟨RX11, "rise", "(II)I"⟩
abbrev cX11_fill : ByteArray := prog_1_method_20_code
def yX11_fill : MethodName := ⟨RX11, "fill", "(III)I"⟩
abbrev cX11_bestRest : ByteArray := prog_1_method_21_code
def yX11_bestRest : MethodName := ⟨RX11, "bestRest", "(II)I"⟩
abbrev cX11_block : ByteArray := prog_1_method_22_code
def yX11_block : MethodName := ⟨RX11, "block", "(III)I"⟩
abbrev cX11_orders : ByteArray := prog_1_method_23_code
def yX11_orders : MethodName := ⟨RX11, "orders", "(I)I"⟩
abbrev cX11_gives : ByteArray := prog_1_method_24_code
def yX11_gives : MethodName := ⟨RX11, "gives", "(II)I"⟩
abbrev cX11_stands : ByteArray := prog_1_method_25_code
def yX11_stands : MethodName := ⟨RX11, "stands", "(I)I"⟩
abbrev cX11_undo : ByteArray := prog_1_method_26_code
def yX11_undo : MethodName := ⟨RX11, "undo", "()Z"⟩
abbrev cX11_image : ByteArray := prog_1_method_27_code
def yX11_image : MethodName := ⟨RX11, "image", "(Z)Z"⟩
abbrev cX11_look : ByteArray := prog_1_method_28_code
def yX11_look : MethodName := ⟨RX11, "look", "(I)I"⟩
abbrev cX11_allowed : ByteArray := prog_1_method_29_code
def yX11_allowed : MethodName := ⟨RX11, "allowed", "(II)Z"⟩
def RX12 : String := "MoveUpModel"
def TX12 : u_T := fun k => match k with
  | 0 => ("MoveUpModel", "told", "I", false)
  | 1 => ("MoveUpModel", "now", "[I", true)
  | 2 => ("MoveUpModel", "rows", "[I", true)
  | 3 => ("MoveUpModel", "undoable", "I", false)
  | 4 => ("MoveUpModel", "waiting", "[I", true)
  | 5 => ("MoveUpModel", "isThought", "Z", false)
  | 6 => ("MoveUpModel", "lengthBut", "I", false)
  | 7 => ("MoveUpModel", "isRest", "[Z", true)
  | 8 => ("MoveUpModel", "people", "I", false)
  | 9 => ("MoveUpModel", "wideOf", "[I", true)
  | 10 => ("MoveUpModel", "keepOf", "[I", true)
  | 11 => ("MoveUpModel", "bagOf", "[I", true)
  | 12 => ("MoveUpModel", "groupOf", "[I", true)
  | 13 => ("MoveUpModel", "movesOf", "[I", true)
  | 14 => ("MoveUpModel", "book", "[I", true)
  | 15 => ("MoveUpModel", "tape", "[I", true)
  | 16 => ("MoveUpModel", "taped", "I", false)
  | 17 => ("MoveUpModel", "spot", "I", false)
  | 18 => ("MoveUpModel", "from", "I", false)
  | 19 => ("MoveUpModel", "token", "I", false)
  | 20 => ("MoveUpModel", "value", "I", false)
  | 21 => ("MoveUpModel", "words", "[I", true)
  | 22 => ("MoveUpModel", "lineMany", "[I", true)
  | 23 => ("MoveUpModel", "lineFrom", "[I", true)
  | 24 => ("MoveUpModel", "lineWhen", "[I", true)
  | 25 => ("MoveUpModel", "lineTo", "[I", true)
  | 26 => ("MoveUpModel", "op", "[I", true)
  | 27 => ("MoveUpModel", "arg", "[I", true)
  | 28 => ("MoveUpModel", "which", "I", false)
  | 29 => ("MoveUpModel", "codes", "I", false)
  | 30 => ("MoveUpModel", "open", "I", false)
  | 31 => ("MoveUpModel", "pending", "[I", true)
  | 32 => ("MoveUpModel", "pendings", "I", false)
  | 33 => ("MoveUpModel", "readFault", "I", false)
  | 34 => ("MoveUpModel", "readPlace", "I", false)
  | 35 => ("MoveUpModel", "faultKind", "I", false)
  | 36 => ("MoveUpModel", "faultPlace", "I", false)
  | 37 => ("MoveUpModel", "dayMany", "I", false)
  | 38 => ("MoveUpModel", "day", "[I", true)
  | 39 => ("MoveUpModel", "asked", "[I", true)
  | 40 => ("MoveUpModel", "stack", "[I", true)
  | 41 => ("MoveUpModel", "starts", "[I", true)
  | 42 => ("MoveUpModel", "behind", "[I", true)
  | 43 => ("MoveUpModel", "keeps", "[I", true)
  | 44 => ("MoveUpModel", "groups", "[I", true)
  | 45 => ("MoveUpModel", "whoSits", "[I", true)
  | 46 => ("MoveUpModel", "many", "I", false)
  | 47 => ("MoveUpModel", "askWide", "I", false)
  | 48 => ("MoveUpModel", "askKeep", "I", false)
  | 49 => ("MoveUpModel", "askBag", "I", false)
  | 50 => ("MoveUpModel", "askGroup", "I", false)
  | 51 => ("MoveUpModel", "standMany", "I", false)
  | 52 => ("MoveUpModel", "standFirst", "I", false)
  | 53 => ("MoveUpModel", "itemWho", "[I", true)
  | 54 => ("MoveUpModel", "itemInch", "[I", true)
  | 55 => ("MoveUpModel", "leastFrom", "[I", true)
  | 56 => ("MoveUpModel", "roomInch", "[I", true)
  | 57 => ("MoveUpModel", "roomCost", "I", false)
  | 58 => ("MoveUpModel", "fewest", "[I", true)
  | 59 => ("MoveUpModel", "most", "[I", true)
  | 60 => ("MoveUpModel", "mean", "[I", true)
  | 61 => ("MoveUpModel", "sumFewest", "I", false)
  | 62 => ("MoveUpModel", "sumMost", "I", false)
  | 63 => ("MoveUpModel", "sumMean", "I", false)
  | 64 => ("MoveUpModel", "bare", "[I", true)
  | 65 => ("MoveUpModel", "ordersFrom", "[I", true)
  | 66 => ("MoveUpModel", "sitting", "I", false)
  | 67 => ("MoveUpModel", "isTaking", "Z", false)
  | 68 => ("MoveUpModel", "hasImage", "Z", false)
  | 69 => ("MoveUpModel", "keptAt", "I", false)
  | _ => ("MoveUpModel", "images", "[I", true)
def tyX12 : Nat → FieldType := fun k => match k with
  | 0 => .int
  | 1 => .array .int
  | 2 => .array .int
  | 3 => .int
  | 4 => .array .int
  | 5 => .boolean
  | 6 => .int
  | 7 => .array .boolean
  | 8 => .int
  | 9 => .array .int
  | 10 => .array .int
  | 11 => .array .int
  | 12 => .array .int
  | 13 => .array .int
  | 14 => .array .int
  | 15 => .array .int
  | 16 => .int
  | 17 => .int
  | 18 => .int
  | 19 => .int
  | 20 => .int
  | 21 => .array .int
  | 22 => .array .int
  | 23 => .array .int
  | 24 => .array .int
  | 25 => .array .int
  | 26 => .array .int
  | 27 => .array .int
  | 28 => .int
  | 29 => .int
  | 30 => .int
  | 31 => .array .int
  | 32 => .int
  | 33 => .int
  | 34 => .int
  | 35 => .int
  | 36 => .int
  | 37 => .int
  | 38 => .array .int
  | 39 => .array .int
  | 40 => .array .int
  | 41 => .array .int
  | 42 => .array .int
  | 43 => .array .int
  | 44 => .array .int
  | 45 => .array .int
  | 46 => .int
  | 47 => .int
  | 48 => .int
  | 49 => .int
  | 50 => .int
  | 51 => .int
  | 52 => .int
  | 53 => .array .int
  | 54 => .array .int
  | 55 => .array .int
  | 56 => .array .int
  | 57 => .int
  | 58 => .array .int
  | 59 => .array .int
  | 60 => .array .int
  | 61 => .int
  | 62 => .int
  | 63 => .int
  | 64 => .array .int
  | 65 => .array .int
  | 66 => .int
  | 67 => .boolean
  | 68 => .boolean
  | 69 => .int
  | _ => .array .int
theorem nmX12 : ∀ a, a < 71 → ∀ b, b < 71 → a ≠ b → (TX12 a).2.1 ≠ (TX12 b).2.1 := by decide +kernel
theorem tyX12_ok : ∀ k, k < 71 → parseFieldDescriptor (TX12 k).2.2.1 = some (tyX12 k) := by decide +kernel
abbrev cX12_isIn : ByteArray := prog_14_method_3_code
def yX12_isIn : MethodName := ⟨RX12, "isIn", "(III)Z"⟩
abbrev cX12_held : ByteArray := prog_14_method_4_code
def yX12_held : MethodName := ⟨RX12, "held", "(III)I"⟩
abbrev cX12_without : ByteArray := prog_14_method_5_code
def yX12_without : MethodName := ⟨RX12, "without", "(I)I"⟩
abbrev cX12_greater : ByteArray := prog_14_method_6_code
def yX12_greater : MethodName := ⟨RX12, "greater", "(II)I"⟩
abbrev cX12_keepsAhead : ByteArray := prog_14_method_7_code
def yX12_keepsAhead : MethodName := ⟨RX12, "keepsAhead", "()V"⟩
abbrev cX12_undo : ByteArray := prog_14_method_8_code
def yX12_undo : MethodName := ⟨RX12, "undo", "()Z"⟩
abbrev cX12_thinks : ByteArray := prog_14_method_9_code
def yX12_thinks : MethodName := ⟨RX12, "thinks", "()V"⟩
abbrev cX12_endsThought : ByteArray := prog_14_method_10_code
def yX12_endsThought : MethodName := ⟨RX12, "endsThought", "()V"⟩
abbrev cX12_length : ByteArray := prog_14_method_11_code
def yX12_length : MethodName := ⟨RX12, "length", "()I"⟩
abbrev cX12_isPerson : ByteArray := prog_14_method_12_code
def yX12_isPerson : MethodName := ⟨RX12, "isPerson", "(I)Z"⟩
abbrev cX12_sits : ByteArray := prog_14_method_13_code
def yX12_sits : MethodName := ⟨RX12, "sits", "(I)Z"⟩
abbrev cX12_inchOf : ByteArray := prog_14_method_14_code
def yX12_inchOf : MethodName := ⟨RX12, "inchOf", "(I)I"⟩
abbrev cX12_takesOf : ByteArray := prog_14_method_15_code
def yX12_takesOf : MethodName := ⟨RX12, "takesOf", "(I)I"⟩
abbrev cX12_bench : ByteArray := prog_14_method_16_code
def yX12_bench : MethodName := ⟨RX12, "bench", "(I)Z"⟩
abbrev cX12_rest : ByteArray := prog_14_method_17_code
def yX12_rest : MethodName := ⟨RX12, "rest", "(IZ)Z"⟩
abbrev cX12_person : ByteArray := prog_14_method_18_code
def yX12_person : MethodName := ⟨RX12, "person", "(IIIII)I"⟩
abbrev cX12_set : ByteArray := prog_14_method_19_code
def yX12_set : MethodName := ⟨RX12, "set", "(III)Z"⟩
abbrev cX12_types : ByteArray := prog_14_method_20_code
def yX12_types : MethodName := ⟨RX12, "types", "(I)V"⟩
abbrev cX12_feed : ByteArray := prog_14_method_21_code
def yX12_feed : MethodName := ⟨RX12, "feed", "(IIIII)I"⟩
abbrev cX12_end : ByteArray := prog_14_method_22_code
def yX12_end : MethodName := ⟨RX12, "end", "(I)Z"⟩
abbrev cX12_raw : ByteArray := prog_14_method_23_code
def yX12_raw : MethodName := ⟨RX12, "raw", "(I)I"⟩
abbrev cX12_isLetter : ByteArray := prog_14_method_24_code
def yX12_isLetter : MethodName := ⟨RX12, "isLetter", "(I)Z"⟩
abbrev cX12_isDigit : ByteArray := prog_14_method_25_code
def yX12_isDigit : MethodName := ⟨RX12, "isDigit", "(I)Z"⟩
abbrev cX12_isMarkSign : ByteArray := prog_14_method_26_code
def yX12_isMarkSign : MethodName := ⟨RX12, "isMarkSign", "(I)Z"⟩
abbrev cX12_wordAt : ByteArray := prog_14_method_27_code
def yX12_wordAt : MethodName := ⟨RX12, "wordAt", "(II)I"⟩
abbrev cX12_reads : ByteArray := prog_14_method_28_code
def yX12_reads : MethodName := ⟨RX12, "reads", "()V"⟩
abbrev cX12_errs : ByteArray := prog_14_method_29_code
def yX12_errs : MethodName := ⟨RX12, "errs", "(I)I"⟩
abbrev cX12_isWord : ByteArray := prog_14_method_30_code
def yX12_isWord : MethodName := ⟨RX12, "isWord", "(I)Z"⟩
abbrev cX12_isSign : ByteArray := prog_14_method_31_code
def yX12_isSign : MethodName := ⟨RX12, "isSign", "(I)Z"⟩
abbrev cX12_emits : ByteArray := prog_14_method_32_code
def yX12_emits : MethodName := ⟨RX12, "emits", "(II)V"⟩
abbrev cX12_canAsk : ByteArray := prog_14_method_33_code
def yX12_canAsk : MethodName := ⟨RX12, "canAsk", "(I)Z"⟩
abbrev cX12_readUnit : ByteArray := prog_14_method_34_code
def yX12_readUnit : MethodName := ⟨RX12, "readUnit", "()I"⟩
abbrev cX12_readProduct : ByteArray := prog_14_method_35_code
def yX12_readProduct : MethodName := ⟨RX12, "readProduct", "()I"⟩
abbrev cX12_readSum : ByteArray := prog_14_method_36_code
def yX12_readSum : MethodName := ⟨RX12, "readSum", "()I"⟩
abbrev cX12_readCompared : ByteArray := prog_14_method_37_code
def yX12_readCompared : MethodName := ⟨RX12, "readCompared", "()I"⟩
abbrev cX12_waits : ByteArray := prog_14_method_38_code
def yX12_waits : MethodName := ⟨RX12, "waits", "(I)V"⟩
abbrev cX12_settles : ByteArray := prog_14_method_39_code
def yX12_settles : MethodName := ⟨RX12, "settles", "(I)V"⟩
abbrev cX12_readAny : ByteArray := prog_14_method_40_code
def yX12_readAny : MethodName := ⟨RX12, "readAny", "()I"⟩
abbrev cX12_isLineWord : ByteArray := prog_14_method_41_code
def yX12_isLineWord : MethodName := ⟨RX12, "isLineWord", "()Z"⟩
abbrev cX12_readLaw : ByteArray := prog_14_method_42_code
def yX12_readLaw : MethodName := ⟨RX12, "readLaw", "()I"⟩
abbrev cX12_takesLaw : ByteArray := prog_14_method_43_code
def yX12_takesLaw : MethodName := ⟨RX12, "takesLaw", "(I)V"⟩
abbrev cX12_readNumber : ByteArray := prog_14_method_44_code
def yX12_readNumber : MethodName := ⟨RX12, "readNumber", "(II)I"⟩
abbrev cX12_readDayLine : ByteArray := prog_14_method_45_code
def yX12_readDayLine : MethodName := ⟨RX12, "readDayLine", "(I)I"⟩
abbrev cX12_readDay : ByteArray := prog_14_method_46_code
def yX12_readDay : MethodName := ⟨RX12, "readDay", "()I"⟩
abbrev cX12_takesDay : ByteArray := prog_14_method_47_code
def yX12_takesDay : MethodName := ⟨RX12, "takesDay", "(I)V"⟩
abbrev cX12_text : ByteArray := prog_14_method_48_code
def yX12_text : MethodName := ⟨RX12, "text", "(I)I"⟩
abbrev cX12_fault : ByteArray := prog_14_method_49_code
def yX12_fault : MethodName := ⟨RX12, "fault", "(I)I"⟩
abbrev cX12_twoOf : ByteArray := prog_14_method_50_code
def yX12_twoOf : MethodName := ⟨RX12, "twoOf", "(III)I"⟩
abbrev cX12_runs : ByteArray := prog_14_method_51_code
def yX12_runs : MethodName := ⟨RX12, "runs", "(III)I"⟩
abbrev cX12_lineOf : ByteArray := prog_14_method_52_code
def yX12_lineOf : MethodName := ⟨RX12, "lineOf", "(I)I"⟩
abbrev cX12_seats : ByteArray := prog_14_method_53_code
def yX12_seats : MethodName := ⟨RX12, "seats", "(IIIII)V"⟩
abbrev cX12_lists : ByteArray := prog_14_method_54_code
def yX12_lists : MethodName := ⟨RX12, "lists", "(I)V"⟩
abbrev cX12_everyone : ByteArray := prog_14_method_55_code
def yX12_everyone : MethodName := ⟨RX12, "everyone", "()I"⟩
abbrev cX12_asksFor : ByteArray := prog_14_method_56_code
def yX12_asksFor : MethodName := ⟨RX12, "asksFor", "(I)V"⟩
abbrev cX12_apartOf : ByteArray := prog_14_method_57_code
def yX12_apartOf : MethodName := ⟨RX12, "apartOf", "(IIII)I"⟩
abbrev cX12_isOverRest : ByteArray := prog_14_method_58_code
def yX12_isOverRest : MethodName := ⟨RX12, "isOverRest", "(II)Z"⟩
abbrev cX12_leftOf : ByteArray := prog_14_method_59_code
def yX12_leftOf : MethodName := ⟨RX12, "leftOf", "(I)I"⟩
abbrev cX12_canSit : ByteArray := prog_14_method_60_code
def yX12_canSit : MethodName := ⟨RX12, "canSit", "(I)Z"⟩
abbrev cX12_warmAt : ByteArray := prog_14_method_61_code
def yX12_warmAt : MethodName := ⟨RX12, "warmAt", "(I)I"⟩
abbrev cX12_isFriend : ByteArray := prog_14_method_62_code
def yX12_isFriend : MethodName := ⟨RX12, "isFriend", "(I)Z"⟩
abbrev cX12_asksHim : ByteArray := prog_14_method_63_code
def yX12_asksHim : MethodName := ⟨RX12, "asksHim", "()V"⟩
abbrev cX12_tellsOf : ByteArray := prog_14_method_64_code
def yX12_tellsOf : MethodName := ⟨RX12, "tellsOf", "(I)I"⟩
abbrev cX12_bestInch : ByteArray := prog_14_method_65_code
def yX12_bestInch : MethodName := ⟨RX12, "bestInch", "()I"⟩
abbrev cX12_tells : ByteArray := prog_14_method_66_code
def yX12_tells : MethodName := ⟨RX12, "tells", "(II)I"⟩
abbrev cX12_notes : ByteArray := prog_14_method_67_code
def yX12_notes : MethodName := ⟨RX12, "notes", "(III)V"⟩
abbrev cX12_comes : ByteArray := prog_14_method_68_code
def yX12_comes : MethodName := ⟨RX12, "comes", "(I)I"⟩
abbrev cX12_goes : ByteArray := prog_14_method_69_code
def yX12_goes : MethodName := ⟨RX12, "goes", "(I)V"⟩
abbrev cX12_begs : ByteArray := prog_14_method_70_code
def yX12_begs : MethodName := ⟨RX12, "begs", "(I)I"⟩
abbrev cX12_isAside : ByteArray := prog_14_method_71_code
def yX12_isAside : MethodName := ⟨RX12, "isAside", "(I)Z"⟩
abbrev cX12_come : ByteArray := prog_14_method_72_code
def yX12_come : MethodName := ⟨RX12, "come", "(I)I"⟩
abbrev cX12_go : ByteArray := prog_14_method_73_code
def yX12_go : MethodName := ⟨RX12, "go", "(I)Z"⟩
abbrev cX12_beg : ByteArray := prog_14_method_74_code
def yX12_beg : MethodName := ⟨RX12, "beg", "(I)I"⟩
abbrev cX12_standsNow : ByteArray := prog_14_method_75_code
def yX12_standsNow : MethodName := ⟨RX12, "standsNow", "(I)V"⟩
abbrev cX12_doesLine : ByteArray := prog_14_method_76_code
def yX12_doesLine : MethodName := ⟨RX12, "doesLine", "(I)Z"⟩
abbrev cX12_goesBy : ByteArray := prog_14_method_77_code
def yX12_goesBy : MethodName := ⟨RX12, "goesBy", "()I"⟩
abbrev cX12_hours : ByteArray := prog_14_method_78_code
def yX12_hours : MethodName := ⟨RX12, "hours", "(I)I"⟩
abbrev cX12_stands : ByteArray := prog_14_method_79_code
def yX12_stands : MethodName := ⟨RX12, "stands", "(I)I"⟩
abbrev cX12_placeOf : ByteArray := prog_14_method_80_code
def yX12_placeOf : MethodName := ⟨RX12, "placeOf", "(I)I"⟩
abbrev cX12_of : ByteArray := prog_14_method_81_code
def yX12_of : MethodName := ⟨RX12, "of", "(II)I"⟩
abbrev cX12_whoAt : ByteArray := prog_14_method_82_code
def yX12_whoAt : MethodName := ⟨RX12, "whoAt", "(I)I"⟩
abbrev cX12_at : ByteArray := prog_14_method_83_code
def yX12_at : MethodName := ⟨RX12, "at", "(II)I"⟩
abbrev cX12_book : ByteArray := prog_14_method_84_code
def yX12_book : MethodName := ⟨RX12, "book", "(II)I"⟩
abbrev cX12_costOf : ByteArray := prog_14_method_85_code
def yX12_costOf : MethodName := ⟨RX12, "costOf", "(II)I"⟩
abbrev cX12_costAt : ByteArray := prog_14_method_86_code
def yX12_costAt : MethodName := ⟨RX12, "costAt", "(II)I"⟩
abbrev cX12_canBeside : ByteArray := prog_14_method_87_code
def yX12_canBeside : MethodName := ⟨RX12, "canBeside", "(IIII)Z"⟩
abbrev cX12_leastBehind : ByteArray := prog_14_method_88_code
def yX12_leastBehind : MethodName := ⟨RX12, "leastBehind", "(II)I"⟩
abbrev cX12_itemsFor : ByteArray := prog_14_method_89_code
def yX12_itemsFor : MethodName := ⟨RX12, "itemsFor", "(II)V"⟩
abbrev cX12_leastBy : ByteArray := prog_14_method_90_code
def yX12_leastBy : MethodName := ⟨RX12, "leastBy", "(II)I"⟩
abbrev cX12_findsRoom : ByteArray := prog_14_method_91_code
def yX12_findsRoom : MethodName := ⟨RX12, "findsRoom", "(II)Z"⟩
abbrev cX12_roomFor : ByteArray := prog_14_method_92_code
def yX12_roomFor : MethodName := ⟨RX12, "roomFor", "(I)I"⟩
abbrev cX12_room : ByteArray := prog_14_method_93_code
def yX12_room : MethodName := ⟨RX12, "room", "(II)I"⟩
abbrev cX12_rise : ByteArray := prog_14_method_94_code
def yX12_rise : MethodName := ⟨RX12, "rise", "(II)I"⟩
abbrev cX12_stretch : ByteArray := prog_14_method_95_code
def yX12_stretch : MethodName := ⟨RX12, "stretch", "(II)I"⟩
abbrev cX12_ofStretch : ByteArray := prog_14_method_96_code
def yX12_ofStretch : MethodName := ⟨RX12, "ofStretch", "([III)I"⟩
abbrev cX12_findsStretch : ByteArray := prog_14_method_97_code
def yX12_findsStretch : MethodName := ⟨RX12, "findsStretch", "(IIII)V"⟩
abbrev cX12_findsStretches : ByteArray := prog_14_method_98_code
def yX12_findsStretches : MethodName := ⟨RX12, "findsStretches", "(II)V"⟩
abbrev cX12_fills : ByteArray := prog_14_method_99_code
def yX12_fills : MethodName := ⟨RX12, "fills", "(I)V"⟩
abbrev cX12_fillByLaw : ByteArray := prog_14_method_100_code
def yX12_fillByLaw : MethodName := ⟨RX12, "fillByLaw", "(II)I"⟩
abbrev cX12_areAlike : ByteArray := prog_14_method_101_code
def yX12_areAlike : MethodName := ⟨RX12, "areAlike", "(II)Z"⟩
abbrev cX12_fill : ByteArray := prog_14_method_102_code
def yX12_fill : MethodName := ⟨RX12, "fill", "(III)I"⟩
abbrev cX12_findsBare : ByteArray := prog_14_method_103_code
def yX12_findsBare : MethodName := ⟨RX12, "findsBare", "(II)V"⟩
abbrev cX12_fewestBy : ByteArray := prog_14_method_104_code
def yX12_fewestBy : MethodName := ⟨RX12, "fewestBy", "(III)I"⟩
abbrev cX12_findsAround : ByteArray := prog_14_method_105_code
def yX12_findsAround : MethodName := ⟨RX12, "findsAround", "(III)V"⟩
abbrev cX12_bestRest : ByteArray := prog_14_method_106_code
def yX12_bestRest : MethodName := ⟨RX12, "bestRest", "(II)I"⟩
abbrev cX12_block : ByteArray := prog_14_method_107_code
def yX12_block : MethodName := ⟨RX12, "block", "(III)I"⟩
abbrev cX12_gives : ByteArray := prog_14_method_108_code
def yX12_gives : MethodName := ⟨RX12, "gives", "(II)I"⟩
abbrev cX12_canCome : ByteArray := prog_14_method_109_code
def yX12_canCome : MethodName := ⟨RX12, "canCome", "(II)Z"⟩
abbrev cX12_findsOrders : ByteArray := prog_14_method_110_code
def yX12_findsOrders : MethodName := ⟨RX12, "findsOrders", "()V"⟩
abbrev cX12_sittingSet : ByteArray := prog_14_method_111_code
def yX12_sittingSet : MethodName := ⟨RX12, "sittingSet", "()I"⟩
abbrev cX12_onesOf : ByteArray := prog_14_method_112_code
def yX12_onesOf : MethodName := ⟨RX12, "onesOf", "(I)I"⟩
abbrev cX12_nextOf : ByteArray := prog_14_method_113_code
def yX12_nextOf : MethodName := ⟨RX12, "nextOf", "(I)I"⟩
abbrev cX12_orders : ByteArray := prog_14_method_114_code
def yX12_orders : MethodName := ⟨RX12, "orders", "(I)I"⟩
abbrev cX12_kept : ByteArray := prog_14_method_115_code
def yX12_kept : MethodName := ⟨RX12, "kept", "(I)I"⟩
abbrev cX12_keepsLaw : ByteArray := prog_14_method_116_code
def yX12_keepsLaw : MethodName := ⟨RX12, "keepsLaw", "(I)V"⟩
abbrev cX12_keepsBench : ByteArray := prog_14_method_117_code
def yX12_keepsBench : MethodName := ⟨RX12, "keepsBench", "()V"⟩
abbrev cX12_image : ByteArray := prog_14_method_118_code
def yX12_image : MethodName := ⟨RX12, "image", "(Z)Z"⟩
abbrev cX12_freeInches : ByteArray := prog_14_method_119_code
def yX12_freeInches : MethodName := ⟨RX12, "freeInches", "()I"⟩
abbrev cX12_restMany : ByteArray := prog_14_method_120_code
def yX12_restMany : MethodName := ⟨RX12, "restMany", "()I"⟩
abbrev cX12_whoIs : ByteArray := prog_14_method_121_code
def yX12_whoIs : MethodName := ⟨RX12, "whoIs", "(I)I"⟩
abbrev cX12_look : ByteArray := prog_14_method_122_code
def yX12_look : MethodName := ⟨RX12, "look", "(I)I"⟩
def RJ6 : String := "java/lang/Integer"
abbrev cJ6_numberOfTrailingZeros_0f7a4 : ByteArray := prog_16_method_48_code
def yJ6_numberOfTrailingZeros_0f7a4 : MethodName := ⟨RJ6, "numberOfTrailingZeros", "(I)I"⟩
def RJ0 : String := "java/lang/String"
abbrev cJ0_length_8abf5 : ByteArray := prog_18_method_54_code
def yJ0_length_8abf5 : MethodName := ⟨RJ0, "length", "()I"⟩
abbrev cJ0_charAt_5068e : ByteArray := prog_18_method_56_code
def yJ0_charAt_5068e : MethodName := ⟨RJ0, "charAt", "(I)C"⟩
abbrev cJ0_indexOf_0f7a4 : ByteArray := prog_18_method_79_code
def yJ0_indexOf_0f7a4 : MethodName := ⟨RJ0, "indexOf", "(I)I"⟩
abbrev cJ0_indexOf_7cf53 : ByteArray := prog_18_method_80_code
def yJ0_indexOf_7cf53 : MethodName := ⟨RJ0, "indexOf", "(II)I"⟩
abbrev cJ0_coder_7d493 : ByteArray := prog_18_method_152_code
def yJ0_coder_7d493 : MethodName := ⟨RJ0, "coder", "()B"⟩
abbrev cJ0_isLatin1_aae02 : ByteArray := prog_18_method_154_code
def yJ0_isLatin1_aae02 : MethodName := ⟨RJ0, "isLatin1", "()Z"⟩
abbrev cJ0_checkIndex_df160 : ByteArray := prog_18_method_155_code
def yJ0_checkIndex_df160 : MethodName := ⟨RJ0, "checkIndex", "(II)V"⟩
def RJ1 : String := "java/lang/StringLatin1"
abbrev cJ1_charAt_3b067 : ByteArray := prog_19_method_2_code
def yJ1_charAt_3b067 : MethodName := ⟨RJ1, "charAt", "([BI)C"⟩
abbrev cJ1_canEncode_9a6ad : ByteArray := prog_19_method_4_code
def yJ1_canEncode_9a6ad : MethodName := ⟨RJ1, "canEncode", "(I)Z"⟩
abbrev cJ1_indexOf_4cfef : ByteArray := prog_19_method_22_code
def yJ1_indexOf_4cfef : MethodName := ⟨RJ1, "indexOf", "([BIII)I"⟩
abbrev cJ1_indexOfChar_4cfef : ByteArray := prog_19_method_23_code
def yJ1_indexOfChar_4cfef : MethodName := ⟨RJ1, "indexOfChar", "([BIII)I"⟩
def RJ7 : String := "java/util/Arrays"
abbrev cJ7_rangeCheck_23922 : ByteArray := prog_22_method_30_code
def yJ7_rangeCheck_23922 : MethodName := ⟨RJ7, "rangeCheck", "(III)V"⟩
abbrev cJ7_fill_53178 : ByteArray := prog_22_method_103_code
def yJ7_fill_53178 : MethodName := ⟨RJ7, "fill", "([II)V"⟩
abbrev cJ7_fill_fda19 : ByteArray := prog_22_method_104_code
def yJ7_fill_fda19 : MethodName := ⟨RJ7, "fill", "([IIII)V"⟩
def RJ3 : String := "jdk/internal/util/Preconditions"
abbrev cJ3_checkIndex_8e157 : ByteArray := prog_23_method_11_code
def yJ3_checkIndex_8e157 : MethodName := ⟨RJ3, "checkIndex", "(IILjava/util/function/BiFunction;)I"⟩
end
section
/-! The world of cells: the class from 0, the reference from 100, what is only read from 1000. -/
def mv_wl : List (Nat × mv_S) := [(0, .inr (11, [some 1, some 24, some 47, some 52, some 66, some 72, some 74, some 81, some 86, some 90, none])), (1, .inr (2, [none, none, none, none, some 2, some 3, some 4, some 5, some 6, some 7, some 8, some 14, some 20])), (2, .inl (0, 60, 0)), (3, .inl (0, 60, 0)), (4, .inl (0, 60, 0)), (5, .inl (3, 5, 10)), (6, .inl (0, 10, 0)), (7, .inl (3, 4, 150)), (8, .inr (5, [none, none, some 9, some 10, some 11, some 12, some 13])), (9, .inl (0, 401, 0)), (10, .inl (0, 16, 0)), (11, .inl (0, 16, 0)), (12, .inl (0, 16, 0)), (13, .inl (0, 40, 0)), (14, .inr (5, [none, none, some 15, some 16, some 17, some 18, some 19])), (15, .inl (0, 401, 0)), (16, .inl (0, 16, 0)), (17, .inl (0, 16, 0)), (18, .inl (0, 16, 0)), (19, .inl (0, 40, 0)), (20, .inr (3, [none, some 21, some 22, some 23])), (21, .inl (0, 24, 0)), (22, .inl (0, 24, 0)), (23, .inl (0, 24, 0)), (24, .inr (2, [none, none, none, none, some 25, some 26, some 27, some 28, some 29, some 30, some 31, some 37, some 43])), (25, .inl (0, 60, 0)), (26, .inl (0, 60, 0)), (27, .inl (0, 60, 0)), (28, .inl (3, 5, 10)), (29, .inl (0, 10, 0)), (30, .inl (3, 4, 150)), (31, .inr (5, [none, none, some 32, some 33, some 34, some 35, some 36])), (32, .inl (0, 401, 0)), (33, .inl (0, 16, 0)), (34, .inl (0, 16, 0)), (35, .inl (0, 16, 0)), (36, .inl (0, 40, 0)), (37, .inr (5, [none, none, some 38, some 39, some 40, some 41, some 42])), (38, .inl (0, 401, 0)), (39, .inl (0, 16, 0)), (40, .inl (0, 16, 0)), (41, .inl (0, 16, 0)), (42, .inl (0, 40, 0)), (43, .inr (3, [none, some 44, some 45, some 46])), (44, .inl (0, 24, 0)), (45, .inl (0, 24, 0)), (46, .inl (0, 24, 0)), (47, .inr (6, [none, none, some 48, some 49, some 50, some 51])), (48, .inl (3, 7, 10)), (49, .inl (3, 7, 60)), (50, .inl (0, 7, 0)), (51, .inl (0, 7, 0)), (52, .inr (7, [none, none, none, some 53, some 59, none, none, none, some 63, some 64, some 65])), (53, .inr (5, [none, none, some 54, some 55, some 56, some 57, some 58])), (54, .inl (0, 401, 0)), (55, .inl (0, 16, 0)), (56, .inl (0, 16, 0)), (57, .inl (0, 16, 0)), (58, .inl (0, 40, 0)), (59, .inr (3, [none, some 60, some 61, some 62])), (60, .inl (0, 24, 0)), (61, .inl (0, 24, 0)), (62, .inl (0, 24, 0)), (63, .inl (0, 400, 0)), (64, .inl (0, 401, 0)), (65, .inl (0, 401, 0)), (66, .inr (9, [none, some 67, some 68, some 69, some 70, some 71, none, none, none, none])), (67, .inl (0, 60, 0)), (68, .inl (0, 60, 0)), (69, .inl (0, 60, 0)), (70, .inl (0, 60, 0)), (71, .inl (0, 60, 0)), (72, .inr (10, [some 1, some 66, some 73])), (73, .inl (0, 12, 0)), (74, .inr (8, [some 75, some 1, some 66, some 76, some 77, some 78, some 79, some 80, none])), (75, .inl (0, 10, 0)), (76, .inl (0, 12, 0)), (77, .inl (3, 10, 60)), (78, .inl (3, 10, 61)), (79, .inl (3, 10, 61)), (80, .inl (0, 10, 0)), (81, .inr (4, [some 1, some 66, some 82, some 83, some 84, some 85, none, none])), (82, .inl (0, 60, 0)), (83, .inl (0, 61, 0)), (84, .inl (3, 61, 61)), (85, .inl (0, 61, 0)), (86, .inr (1, [some 1, some 66, some 72, some 87, some 88, some 89, none])), (87, .inl (0, 8, 0)), (88, .inl (0, 256, 0)), (89, .inl (0, 256, 0)), (90, .inr (0, [none, none, some 1, some 66, some 72, some 74])), (100, .inr (12, [none, some 101, some 102, none, some 103, none, none, some 104, none, some 105, some 106, some 107, some 108, some 109, some 110, some 111, none, none, none, none, none, some 112, some 113, some 114, some 115, some 116, some 117, some 118, none, none, none, some 119, none, none, none, none, none, none, some 120, some 121, some 122, some 123, some 124, some 125, some 126, some 127, none, none, none, none, none, none, none, some 128, some 129, some 130, some 131, none, some 132, some 133, some 134, none, none, none, some 135, some 136, none, none, none, none, some 137])), (101, .inl (0, 72, 0)), (102, .inl (0, 432, 0)), (103, .inl (0, 72, 0)), (104, .inl (1, 61, 0)), (105, .inl (0, 10, 0)), (106, .inl (0, 10, 0)), (107, .inl (0, 10, 0)), (108, .inl (0, 10, 0)), (109, .inl (0, 10, 0)), (110, .inl (0, 600, 0)), (111, .inl (0, 400, 0)), (112, .inl (0, 104, 0)), (113, .inl (0, 2, 0)), (114, .inl (0, 48, 0)), (115, .inl (0, 48, 0)), (116, .inl (0, 48, 0)), (117, .inl (0, 1200, 0)), (118, .inl (0, 1200, 0)), (119, .inl (0, 40, 0)), (120, .inl (0, 144, 0)), (121, .inl (0, 12, 0)), (122, .inl (0, 420, 0)), (123, .inl (0, 64, 0)), (124, .inl (0, 64, 0)), (125, .inl (0, 64, 0)), (126, .inl (0, 64, 0)), (127, .inl (0, 64, 0)), (128, .inl (0, 11, 0)), (129, .inl (0, 11, 0)), (130, .inl (0, 660, 0)), (131, .inl (0, 11, 0)), (132, .inl (0, 3844, 0)), (133, .inl (0, 3844, 0)), (134, .inl (0, 3844, 0)), (135, .inl (0, 61, 0)), (136, .inl (0, 1024, 0)), (137, .inl (0, 2700, 0)), (1000, .inl (0, 5, 0)), (1001, .inl (0, 5, 0)), (1002, .inr (100, [some 1003, none])), (1003, .inl (2, 103, 0)), (1004, .inr (100, [some 1005, none])), (1005, .inl (2, 10, 0))]
def mv_sh : Nat → Option mv_S := mv_lk mv_wl
def mv_ids : List (Nat × Nat) := [(0, 0), (1, 0), (2, 0), (3, 0), (4, 0), (5, 0), (5, 1), (5, 2), (5, 3), (5, 4), (5, 5), (6, 0), (7, 0), (7, 1), (7, 2), (7, 3), (7, 4), (8, 0), (9, 0), (10, 0), (11, 0), (12, 0), (13, 0), (14, 0), (15, 0), (16, 0), (17, 0), (18, 0), (19, 0), (20, 0), (21, 0), (22, 0), (23, 0), (24, 0), (25, 0), (26, 0), (27, 0), (28, 0), (28, 1), (28, 2), (28, 3), (28, 4), (28, 5), (29, 0), (30, 0), (30, 1), (30, 2), (30, 3), (30, 4), (31, 0), (32, 0), (33, 0), (34, 0), (35, 0), (36, 0), (37, 0), (38, 0), (39, 0), (40, 0), (41, 0), (42, 0), (43, 0), (44, 0), (45, 0), (46, 0), (47, 0), (48, 0), (48, 1), (48, 2), (48, 3), (48, 4), (48, 5), (48, 6), (48, 7), (49, 0), (49, 1), (49, 2), (49, 3), (49, 4), (49, 5), (49, 6), (49, 7), (50, 0), (51, 0), (52, 0), (53, 0), (54, 0), (55, 0), (56, 0), (57, 0), (58, 0), (59, 0), (60, 0), (61, 0), (62, 0), (63, 0), (64, 0), (65, 0), (66, 0), (67, 0), (68, 0), (69, 0), (70, 0), (71, 0), (72, 0), (73, 0), (74, 0), (75, 0), (76, 0), (77, 0), (77, 1), (77, 2), (77, 3), (77, 4), (77, 5), (77, 6), (77, 7), (77, 8), (77, 9), (77, 10), (78, 0), (78, 1), (78, 2), (78, 3), (78, 4), (78, 5), (78, 6), (78, 7), (78, 8), (78, 9), (78, 10), (79, 0), (79, 1), (79, 2), (79, 3), (79, 4), (79, 5), (79, 6), (79, 7), (79, 8), (79, 9), (79, 10), (80, 0), (81, 0), (82, 0), (83, 0), (84, 0), (84, 1), (84, 2), (84, 3), (84, 4), (84, 5), (84, 6), (84, 7), (84, 8), (84, 9), (84, 10), (84, 11), (84, 12), (84, 13), (84, 14), (84, 15), (84, 16), (84, 17), (84, 18), (84, 19), (84, 20), (84, 21), (84, 22), (84, 23), (84, 24), (84, 25), (84, 26), (84, 27), (84, 28), (84, 29), (84, 30), (84, 31), (84, 32), (84, 33), (84, 34), (84, 35), (84, 36), (84, 37), (84, 38), (84, 39), (84, 40), (84, 41), (84, 42), (84, 43), (84, 44), (84, 45), (84, 46), (84, 47), (84, 48), (84, 49), (84, 50), (84, 51), (84, 52), (84, 53), (84, 54), (84, 55), (84, 56), (84, 57), (84, 58), (84, 59), (84, 60), (84, 61), (85, 0), (86, 0), (87, 0), (88, 0), (89, 0), (90, 0), (100, 0), (101, 0), (102, 0), (103, 0), (104, 0), (105, 0), (106, 0), (107, 0), (108, 0), (109, 0), (110, 0), (111, 0), (112, 0), (113, 0), (114, 0), (115, 0), (116, 0), (117, 0), (118, 0), (119, 0), (120, 0), (121, 0), (122, 0), (123, 0), (124, 0), (125, 0), (126, 0), (127, 0), (128, 0), (129, 0), (130, 0), (131, 0), (132, 0), (133, 0), (134, 0), (135, 0), (136, 0), (137, 0)]
def mv_ros : List (Nat × Nat) := [(1000, 0), (1001, 0), (1002, 0), (1003, 0), (1004, 0), (1005, 0)]
def mv_rcl : List (Nat × List Int) := [(1000, [1, 0, 0, 0, 0]), (1001, [20, 15, 10, 9, 1]), (1003, [115, 105, 116, 32, 99, 111, 115, 116, 32, 119, 104, 101, 110, 32, 111, 114, 32, 97, 110, 100, 32, 110, 111, 116, 32, 99, 111, 109, 101, 32, 103, 111, 32, 98, 101, 103, 32, 119, 105, 100, 101, 32, 107, 101, 101, 112, 32, 98, 97, 103, 32, 103, 114, 111, 117, 112, 32, 104, 111, 117, 114, 32, 97, 116, 32, 108, 101, 102, 116, 32, 114, 105, 103, 104, 116, 32, 119, 97, 114, 109, 32, 102, 114, 105, 101, 110, 100, 115, 32, 115, 105, 116, 116, 105, 110, 103, 32, 109, 111, 118, 101, 100, 32]), (1005, [59, 43, 45, 42, 47, 40, 41, 60, 61, 62])]
def mv_rc : mv_G := fun k _ j => match mv_lk mv_rcl k with | some l => l.getD j 0 | none => 0
def mv_cl : List vw_C := [(RX0, TX0, 6), (RX1, TX1, 7), (RX2, TX2, 13), (RX3, TX3, 4), (RX4, TX4, 8), (RX5, TX5, 7), (RX6, TX6, 6), (RX7, TX7, 11), (RX8, TX8, 9), (RX9, TX9, 10), (RX10, TX10, 3), (RX11, TX11, 11), (RX12, TX12, 71)]
def mv_cr : mv_R := fun _ => ("java/lang/String", fun j => match j with | 0 => ("value", "[B") | _ => ("coder", "B"))
end
section
/-! Words by their places; what a program decides of a method's tables. -/
def mv_Ts : List Cond := lw_tbl.filter goodWord
theorem mv_good : ∀ w ∈ mv_Ts, goodWord w = true := fun _ h => (List.mem_filter.mp h).2
theorem mv_T (i : Nat) {w : Cond} (h : lw_tbl[i]? = some w) (hg : goodWord w = true) : w ∈ mv_Ts := List.mem_filter.mpr ⟨List.mem_of_getElem? h, hg⟩
theorem mv_Td {i : Nat} {w : Cond} (h : (decide (lw_tbl[i]? = some w) && goodWord w) = true) : w ∈ mv_Ts := by
  simp only [Bool.and_eq_true, decide_eq_true_eq] at h
  exact mv_T i h.1 h.2
def mv_wd1 (i : Nat) (w : Cond) : Bool := decide (lw_tbl[i]? = some w) && goodWord w
/-- fields: place, then the row -/
def mv_fk (own : String) (l : List (Nat × Nat × Nat × Nat × Nat)) : Bool := l.all fun x =>
  bif Nat.ble 100 x.2.2.1 then mv_wd1 x.1 (.fieldLink own x.2.1 (mv_cr x.2.2.1).1 ((mv_cr x.2.2.1).2 x.2.2.2.1).1 ((mv_cr x.2.2.1).2 x.2.2.2.1).2)
  else match mv_cl[x.2.2.1]? with
    | some q => decide (x.2.2.2.1 < q.2.2) && mv_wd1 x.1 (.fieldLink own x.2.1 (q.2.1 x.2.2.2.1).1 (q.2.1 x.2.2.2.1).2.1 (q.2.1 x.2.2.2.1).2.2.1) &&
      (Nat.ble 2 x.2.2.2.2 || (!(q.2.1 x.2.2.2.1).2.2.2 && decide (parseFieldDescriptor (q.2.1 x.2.2.2.1).2.2.1 = some (if x.2.2.2.2 = 1 then .boolean else .int))))
    | none => false
theorem mv_fk_ok {own : String} {l : List (Nat × Nat × Nat × Nat × Nat)} (h : mv_fk own l = true) : ∀ x ∈ l.map (fun x => x.2), (Nat.ble 100 x.2.1 = true → Cond.fieldLink own x.1 (mv_cr x.2.1).1 ((mv_cr x.2.1).2 x.2.2.1).1 ((mv_cr x.2.1).2 x.2.2.1).2 ∈ mv_Ts) ∧ (Nat.ble 100 x.2.1 = false → ∃ q : vw_C, mv_cl[x.2.1]? = some q ∧ x.2.2.1 < q.2.2 ∧ Cond.fieldLink own x.1 (q.2.1 x.2.2.1).1 (q.2.1 x.2.2.1).2.1 (q.2.1 x.2.2.1).2.2.1 ∈ mv_Ts ∧
      (x.2.2.2 = 0 ∨ x.2.2.2 = 1 → (q.2.1 x.2.2.1).2.2.2 = false ∧ parseFieldDescriptor (q.2.1 x.2.2.1).2.2.1 = some (if x.2.2.2 = 1 then .boolean else .int))) := by
  intro x hx
  obtain ⟨y, hy, rfl⟩ := List.mem_map.mp hx
  have h1 := List.all_eq_true.mp h y hy
  refine ⟨fun h2 => ?_, fun h2 => ?_⟩
  · rw [h2] at h1
    exact mv_Td h1
  · rw [h2] at h1
    dsimp only [cond] at h1
    split at h1
    · next q hq =>
      simp only [Bool.and_eq_true, decide_eq_true_eq, Bool.or_eq_true, Bool.not_eq_true'] at h1
      refine ⟨q, hq, h1.1.1, mv_Td h1.1.2, fun h3 => ?_⟩
      rcases h1.2 with h4 | h4
      · have := Nat.le_of_ble_eq_true h4
        omega
      · exact h4
    · cases h1
def mv_dk (cc : ByteArray) (l : List (Nat × Instr × Nat)) : Bool := l.all fun x => decide (decode cc x.1 = .ok (x.2.1, x.2.2)) && mv_iok x.1 x.2.1 x.2.2
theorem mv_dk_ok {cc : ByteArray} {l : List (Nat × Instr × Nat)} (h : mv_dk cc l = true) : ∀ x ∈ l, decode cc x.1 = .ok (x.2.1, x.2.2) ∧ mv_iok x.1 x.2.1 x.2.2 = true := fun x hx => by
  have h1 := List.all_eq_true.mp h x hx
  simp only [Bool.and_eq_true, decide_eq_true_eq] at h1
  exact h1
def mv_isr (i : Instr) : Bool := match i with | .ireturn => true | _ => false
def mv_isv (i : Instr) : Bool := match i with | .return_ => true | _ => false
theorem mv_rzV {M : mv_M} (h : M.1.all (fun x => !mv_isr x.2.1) = true) : mv_rz true none M := ⟨rfl, fun x hx e => by
  have := List.all_eq_true.mp h x hx
  rw [e] at this
  cases this⟩
theorem mv_rz_no {M : mv_M} (h : M.1.all (fun x => !mv_isv x.2.1) = true) : ∀ x ∈ M.1, x.2.1 ≠ .return_ := fun x hx e => by
  have := List.all_eq_true.mp h x hx
  rw [e] at this
  cases this
theorem mv_rzI {M : mv_M} (h : M.1.all (fun x => !mv_isv x.2.1) = true) : mv_rz false (some .int) M := ⟨⟨.int, rfl, fun _ _ _ => rfl⟩, mv_rz_no h⟩
theorem mv_rzZ {M : mv_M} (h : M.1.all (fun x => !mv_isv x.2.1) = true) (hb : M.2.2.2.2.2.2 = some (0, 1)) : mv_rz false (some .boolean) M := ⟨⟨.boolean, rfl, fun v _ hv => by
  obtain ⟨h1, h2⟩ := hv _ _ hb
  rcases (show v = 0 ∨ v = 1 by omega) with rfl | rfl <;> rfl⟩, mv_rz_no h⟩
theorem mv_rzB {M : mv_M} (h : M.1.all (fun x => !mv_isv x.2.1) = true) (hb : M.2.2.2.2.2.2 = some (-128, 127)) : mv_rz false (some .byte) M := ⟨⟨.byte, rfl, fun v hin hv => by
  obtain ⟨h1, h2⟩ := hv _ _ hb
  show Value.int (Int32.ofInt v).toInt8.toInt32 = _
  congr 1
  apply Int32.toInt_inj.mp
  rw [Int8.toInt_toInt32, Int32.toInt_toInt8, mv_toInt hin]
  rw [Int.bmod_def]
  split <;> omega⟩, mv_rz_no h⟩
theorem mv_rzC {M : mv_M} (h : M.1.all (fun x => !mv_isv x.2.1) = true) (hb : M.2.2.2.2.2.2 = some (0, 65535)) : mv_rz false (some .char) M := ⟨⟨.char, rfl, fun v hin hv => by
  obtain ⟨h1, h2⟩ := hv _ _ hb
  show Value.int (vp_nar .char (Int32.ofInt v)) = _
  congr 1
  rw [vp_nar_char]
  obtain ⟨n, rfl⟩ := Int.eq_ofNat_of_zero_le h1
  have e : (Int32.ofInt (n : Int)).toUInt32 = UInt32.ofNat n := by
    apply UInt32.toNat_inj.mp
    rfl
  rw [e]
  have e2 : (UInt32.ofNat n).toUInt16.toUInt32 = UInt32.ofNat n := by
    apply UInt32.toNat_inj.mp
    simp only [UInt16.toNat_toUInt32, UInt32.toNat_toUInt16, UInt32.toNat_ofNat']
    omega
  rw [e2, ← e]
  rfl⟩, mv_rz_no h⟩
/-- a call's words -/
def mv_cwk (own : String) (idx : Nat) (y : MethodName) (rv : Option Nat) (n : Nat) (a b c d : Nat) : Bool := mv_wd1 a (.methodLink own idx y) && mv_wd1 b (.initialized y.cls) &&
  (match rv with
    | some ci => mv_wd1 c (.instanceMethod y) && mv_wd1 d (.selects y.cls y y) && (bif Nat.ble 100 ci then decide ((mv_cr ci).1 = y.cls) else (match mv_cl[ci]? with | some q => decide (q.1 = y.cls) | none => false)) && decide ((parseMethodDescriptor y.desc).map (fun d => d.parameters.length) = some (n - 1))
    | none => mv_wd1 c (.static y) && decide ((parseMethodDescriptor y.desc).map (fun d => d.parameters.length) = some n)) &&
  decide (y.cls ≠ "java/lang/invoke/MethodHandle") && decide (y.cls ≠ "java/lang/invoke/VarHandle")
/-- all that a call needs beside the contract -/
def mv_Cw (own : String) (idx : Nat) (y : MethodName) (by2 : ByteArray) (mL : Nat) (ret : Option FieldType) (rv : Option Nat) (n : Nat) : Prop :=
  (Cond.code y by2 mL ret ∈ mv_Ts ∧ Cond.methodLink own idx y ∈ mv_Ts ∧ Cond.initialized y.cls ∈ mv_Ts ∧ (∀ ci, rv = some ci → Cond.instanceMethod y ∈ mv_Ts ∧ Cond.selects y.cls y y ∈ mv_Ts) ∧ (rv = none → Cond.static y ∈ mv_Ts)) ∧
  (y.cls ≠ "java/lang/invoke/MethodHandle" ∧ y.cls ≠ "java/lang/invoke/VarHandle" ∧ (parseMethodDescriptor y.desc).map (fun d => d.parameters.length) = some (match rv with | some _ => n - 1 | none => n)) ∧
  (∀ ci, rv = some ci → (Nat.ble 100 ci = true → (mv_cr ci).1 = y.cls) ∧ (Nat.ble 100 ci = false → ∃ q : vw_C, mv_cl[ci]? = some q ∧ q.1 = y.cls))
theorem mv_cw_of {own : String} {idx : Nat} {y : MethodName} {by2 : ByteArray} {mL : Nat} {ret : Option FieldType} {rv : Option Nat} {n a b c d : Nat} (hc : Cond.code y by2 mL ret ∈ mv_Ts) (h : mv_cwk own idx y rv n a b c d = true) : mv_Cw own idx y by2 mL ret rv n := by
  unfold mv_cwk at h
  simp only [Bool.and_eq_true, decide_eq_true_eq] at h
  obtain ⟨⟨⟨⟨h1, h2⟩, h3⟩, h4⟩, h5⟩ := h
  cases rv with
  | none =>
    simp only [Bool.and_eq_true, decide_eq_true_eq] at h3
    exact ⟨⟨hc, mv_Td h1, mv_Td h2, fun ci e => (by cases e), fun _ => mv_Td h3.1⟩, ⟨h4, h5, h3.2⟩, fun ci e => by cases e⟩
  | some ci =>
    simp only [Bool.and_eq_true, decide_eq_true_eq] at h3
    obtain ⟨⟨⟨h6, h7⟩, h8⟩, h9⟩ := h3
    refine ⟨⟨hc, mv_Td h1, mv_Td h2, fun ci e => ⟨mv_Td h6, mv_Td h7⟩, fun e => (by cases e)⟩, ⟨h4, h5, h9⟩, fun cj e => ?_⟩
    cases e
    refine ⟨fun hb => ?_, fun hb => ?_⟩
    · rw [hb] at h8
      exact of_decide_eq_true h8
    · rw [hb] at h8
      dsimp only [cond] at h8
      split at h8
      · next q hq => exact ⟨q, hq, of_decide_eq_true h8⟩
      · cases h8
def mv_rm (d : Nat) : Room := { frames := d, cells := 0, slots := 0, locals := 64 * d }
theorem mv_ups {C : String} {T : u_T} {N : Nat} (pl : List Nat) (h : (Nat.beq pl.length N && ((List.range N).zip pl).all (fun q => mv_wd1 q.2 (u_lay C T q.1))) = true) : ∀ w ∈ u_ws C T N, w ∈ mv_Ts := by
  simp only [Bool.and_eq_true] at h
  have hl := Nat.eq_of_beq_eq_true h.1
  intro w hw
  obtain ⟨k, hk, rfl⟩ := List.mem_map.mp hw
  have hk := List.mem_range.mp hk
  have h2 := List.all_eq_true.mp h.2 (k, pl[k]) (List.mem_of_getElem? (i := k) (by rw [List.getElem?_zip_eq_some]; exact ⟨List.getElem?_range hk, List.getElem?_eq_getElem (by omega)⟩))
  exact mv_Td h2
end
section
theorem mv_uX0 : ∀ w ∈ u_ws RX0 TX0 6, w ∈ mv_Ts := mv_ups [579, 581, 583, 585, 587, 589] (by decide +kernel)
theorem mv_uX1 : ∀ w ∈ u_ws RX1 TX1 7, w ∈ mv_Ts := mv_ups [550, 552, 554, 556, 558, 560, 562] (by decide +kernel)
theorem mv_uX2 : ∀ w ∈ u_ws RX2 TX2 13, w ∈ mv_Ts := mv_ups [301, 303, 305, 307, 309, 311, 313, 315, 317, 319, 321, 323, 325] (by decide +kernel)
theorem mv_uX3 : ∀ w ∈ u_ws RX3 TX3 4, w ∈ mv_Ts := mv_ups [221, 223, 225, 227] (by decide +kernel)
theorem mv_uX4 : ∀ w ∈ u_ws RX4 TX4 8, w ∈ mv_Ts := mv_ups [520, 522, 524, 526, 528, 530, 532, 534] (by decide +kernel)
theorem mv_uX5 : ∀ w ∈ u_ws RX5 TX5 7, w ∈ mv_Ts := mv_ups [188, 190, 192, 194, 196, 198, 200] (by decide +kernel)
theorem mv_uX6 : ∀ w ∈ u_ws RX6 TX6 6, w ∈ mv_Ts := mv_ups [342, 344, 346, 348, 350, 352] (by decide +kernel)
theorem mv_uX7 : ∀ w ∈ u_ws RX7 TX7 11, w ∈ mv_Ts := mv_ups [381, 383, 385, 387, 389, 391, 393, 395, 397, 399, 401] (by decide +kernel)
theorem mv_uX8 : ∀ w ∈ u_ws RX8 TX8 9, w ∈ mv_Ts := mv_ups [486, 488, 490, 492, 494, 496, 498, 500, 502] (by decide +kernel)
theorem mv_uX9 : ∀ w ∈ u_ws RX9 TX9 10, w ∈ mv_Ts := mv_ups [431, 433, 435, 437, 439, 441, 443, 445, 447, 449] (by decide +kernel)
theorem mv_uX10 : ∀ w ∈ u_ws RX10 TX10 3, w ∈ mv_Ts := mv_ups [461, 463, 465] (by decide +kernel)
theorem mv_uX11 : ∀ w ∈ u_ws RX11 TX11 11, w ∈ mv_Ts := mv_ups [603, 605, 607, 609, 611, 613, 615, 617, 619, 621, 623] (by decide +kernel)
theorem mv_uX12 : ∀ w ∈ u_ws RX12 TX12 71, w ∈ mv_Ts := mv_ups [1383, 1385, 1387, 1389, 1391, 1393, 1395, 1397, 1399, 1401, 1403, 1405, 1407, 1409, 1411, 1413, 1415, 1417, 1419, 1421, 1423, 1425, 1427, 1429, 1431, 1433, 1435, 1437, 1439, 1441, 1443, 1445, 1447, 1449, 1451, 1453, 1455, 1457, 1459, 1461, 1463, 1465, 1467, 1469, 1471, 1473, 1475, 1477, 1479, 1481, 1483, 1485, 1487, 1489, 1491, 1493, 1495, 1497, 1499, 1501, 1503, 1505, 1507, 1509, 1511, 1513, 1515, 1517, 1519, 1521, 1523] (by decide +kernel)
theorem mv_clok : ∀ (ci : Nat) (q : vw_C), mv_cl[ci]? = some q → (∀ w ∈ u_ws q.1 q.2.1 q.2.2, w ∈ mv_Ts) ∧ (∃ ty0 : Nat → FieldType, ∀ k, k < q.2.2 → parseFieldDescriptor (q.2.1 k).2.2.1 = some (ty0 k)) ∧ (∀ a, a < q.2.2 → ∀ b, b < q.2.2 → a ≠ b → (q.2.1 a).2.1 ≠ (q.2.1 b).2.1)
  | 0, _, rfl => ⟨mv_uX0, ⟨tyX0, tyX0_ok⟩, nmX0⟩
  | 1, _, rfl => ⟨mv_uX1, ⟨tyX1, tyX1_ok⟩, nmX1⟩
  | 2, _, rfl => ⟨mv_uX2, ⟨tyX2, tyX2_ok⟩, nmX2⟩
  | 3, _, rfl => ⟨mv_uX3, ⟨tyX3, tyX3_ok⟩, nmX3⟩
  | 4, _, rfl => ⟨mv_uX4, ⟨tyX4, tyX4_ok⟩, nmX4⟩
  | 5, _, rfl => ⟨mv_uX5, ⟨tyX5, tyX5_ok⟩, nmX5⟩
  | 6, _, rfl => ⟨mv_uX6, ⟨tyX6, tyX6_ok⟩, nmX6⟩
  | 7, _, rfl => ⟨mv_uX7, ⟨tyX7, tyX7_ok⟩, nmX7⟩
  | 8, _, rfl => ⟨mv_uX8, ⟨tyX8, tyX8_ok⟩, nmX8⟩
  | 9, _, rfl => ⟨mv_uX9, ⟨tyX9, tyX9_ok⟩, nmX9⟩
  | 10, _, rfl => ⟨mv_uX10, ⟨tyX10, tyX10_ok⟩, nmX10⟩
  | 11, _, rfl => ⟨mv_uX11, ⟨tyX11, tyX11_ok⟩, nmX11⟩
  | 12, _, rfl => ⟨mv_uX12, ⟨tyX12, tyX12_ok⟩, nmX12⟩
  | _ + 13, _, h => by cases h
end
section
theorem mv_stok : mv_St mv_sh := by
  have h : mv_wl.all (fun x => match x.2 with
    | .inr (ci, _) => Nat.ble 1000 x.1 == Nat.ble 100 ci
    | .inl (t, _, _) => (!(Nat.beq t 3 || Nat.beq t 1) || !Nat.ble 1000 x.1) && (!Nat.beq t 2 || Nat.ble 1000 x.1)) = true := by decide +kernel
  have h1 : ∀ (k : Nat) (q : mv_S), mv_sh k = some q → _ := fun k q hq => List.all_eq_true.mp h (k, q) (mv_lk_mem hq)
  refine ⟨fun k ci fs hs hb => ?_, fun k hb n w hs => ?_, fun k hb n w hs => ?_, fun k hb n w hs => ?_, fun k ci fs hs hb => ?_⟩
  · have := h1 k _ hs
    simp only [hb, beq_iff_eq] at this
    exact this.symm
  · have := h1 k _ hs
    simp [hb] at this
  · have := h1 k _ hs
    simp [hb] at this
  · have := h1 k _ hs
    simp [hb] at this
  · have := h1 k _ hs
    simp only [hb, beq_iff_eq] at this
    exact this.symm
def mv_tx90 : String := "sit cost when or and not come go beg wide keep bag group hour at left right warm friends sitting moved "
def mv_tx82 : String := ";+-*/()<=>"
/-- statics and texts, as they are from the first on -/
def mv_EX (ad : Nat → Nat → Value) (A : Nat → Prop) (U : State) : Prop := va_Z "MoveUp" "MOST" "[I" (ad 1001 0) A U U.heap ∧ va_Z "MoveUp" "LEAST" "[I" (ad 1000 0) A U U.heap ∧ va_Z "java/lang/String" "COMPACT_STRINGS" "Z" (.int 1) A U U.heap ∧ va_Z "jdk/internal/util/Preconditions" "SIOOBE_FORMATTER" "Ljava/util/function/BiFunction;" (ad 999 0) A U U.heap ∧
  (∃ q, ad 1002 0 = .ref q ∧ vk_R "MoveUp$Reader" 90 mv_tx90 q U) ∧ (∃ q, ad 1004 0 = .ref q ∧ vk_R "MoveUp$Reader" 82 mv_tx82 q U)
theorem mv_EX_ok {ad : Nat → Nat → Value} {A : Nat → Prop} : mv_EXok A (mv_EX ad A) := by
  refine ⟨fun U g mq a h => ?_, fun s U h hW hq => ?_⟩
  · obtain ⟨h1, h2, h3, h4, ⟨q5, e5, h5⟩, q6, e6, h6⟩ := h
    exact ⟨va_Z.moved (u := U) (U := U.calling g mq a) (Vm.Alike.refl U.vm) h1, va_Z.moved (u := U) (U := U.calling g mq a) (Vm.Alike.refl U.vm) h2, va_Z.moved (u := U) (U := U.calling g mq a) (Vm.Alike.refl U.vm) h3, va_Z.moved (u := U) (U := U.calling g mq a) (Vm.Alike.refl U.vm) h4, ⟨q5, e5, vk_R.same (u := U) rfl h5⟩, q6, e6, vk_R.same (u := U) rfl h6⟩
  · obtain ⟨h1, h2, h3, h4, ⟨q5, e5, h5⟩, q6, e6, h6⟩ := h
    exact ⟨(va_Z.moved hW.alike h1).kept hq, (va_Z.moved hW.alike h2).kept hq, (va_Z.moved hW.alike h3).kept hq, (va_Z.moved hW.alike h4).kept hq, ⟨q5, e5, vk_R.warm hW h5⟩, q6, e6, vk_R.warm hW h6⟩
section MV
variable {p : Program} {l : Launch} {e : Env} {R : Room} {s : State} {m : MethodId} {args : Array Value} {below : List Frame} {meth : Method} {c : Code} {cells slots : Nat} {Q : State → Prop}
variable {cc : ByteArray} {nL : Nat} {sh : Nat → Option mv_S} {ids ros : List (Nat × Nat)} {ad : Nat → Nat → Value} {cA : Nat → ClassId} {cl : List vw_C} {D : va_G} {tys : List (ClassId × FieldType)} {A : Nat → Prop} {rc : mv_G} {M : mv_M} {own : String} {Ts : List Cond}
def mv_cs1 (p : Program) (l : Launch) (e : Env) (R : Room) (s : State) (m : MethodId) (args : Array Value) (below : List Frame) (meth : Method) (c : Code) (cells slots : Nat) (Q : State → Prop) (cc : ByteArray) (ids ros : List (Nat × Nat)) (ad : Nat → Nat → Value) (A : Nat → Prop) (M : mv_M) (x : Nat × mv_A) : Prop :=
  mv_okV ids ros x.2 ∧ ∀ (pc : Nat) (H : Heap) (locs : List Loc) (lsC : Array Slot) (rest : List Value), va_S A s.heap H locs →
    ((pc, Instr.ldc x.1, 2) ∈ M.1 → decode cc pc = .ok (.ldc x.1, 2) → W p l e R s m args below meth c H locs cells slots Q (F0 m (pc + 2) lsC (mv_V ad x.2 :: rest)) → W p l e R s m args below meth c H locs cells slots Q (F0 m pc lsC rest)) ∧
    ((pc, Instr.ldc_w x.1, 3) ∈ M.1 → decode cc pc = .ok (.ldc_w x.1, 3) → W p l e R s m args below meth c H locs cells slots Q (F0 m (pc + 3) lsC (mv_V ad x.2 :: rest)) → W p l e R s m args below meth c H locs cells slots Q (F0 m pc lsC rest))
def mv_st1 (p : Program) (l : Launch) (e : Env) (R : Room) (s : State) (m : MethodId) (args : Array Value) (below : List Frame) (meth : Method) (c : Code) (cells slots : Nat) (Q : State → Prop) (cc : ByteArray) (ids ros : List (Nat × Nat)) (ad : Nat → Nat → Value) (A : Nat → Prop) (x : Nat × mv_A) : Prop :=
  mv_okV ids ros x.2 ∧ ∀ (pc : Nat) (H : Heap) (locs : List Loc) (lsC : Array Slot) (rest : List Value), va_S A s.heap H locs →
    (decode cc pc = .ok (.getstatic x.1, 3) → W p l e R s m args below meth c H locs cells slots Q (F0 m (pc + 3) lsC (mv_V ad x.2 :: rest)) → W p l e R s m args below meth c H locs cells slots Q (F0 m pc lsC rest))
theorem mv_cs_i {idx : Nat} {v : Int} (hBg : mv_Bg p s m args c cc nL own Ts) (hw : Cond.constant own idx (Int32.ofInt v) ∈ Ts) (hv : -2147483648 ≤ v ∧ v < 2147483648) : mv_cs1 p l e R s m args below meth c cells slots Q cc ids ros ad A M (idx, .inl v) :=
  ⟨hv, fun pc H locs lsC rest _ => ⟨fun _ hdg k => lv_ldc hBg.1 hBg.2.1 hBg.2.2.1 (hBg.2.2.2.1 _ hw) hdg k, fun _ hdg k => lv_ldcw hBg.1 hBg.2.1 hBg.2.2.1 (hBg.2.2.2.1 _ hw) hdg k⟩⟩
def mv_nlw (i : Instr) : Bool := match i with | .ldc_w _ => false | _ => true
theorem mv_cs_s {idx k : Nat} {tx : String} (hBg : mv_Bg p s m args c cc nL own Ts) (hk : (k, 0) ∈ ids ++ ros) (hv : ∃ q, ad k 0 = .ref q ∧ vk_R own idx tx q s) (hno : M.1.all (fun x => mv_nlw x.2.1) = true) : mv_cs1 p l e R s m args below meth c cells slots Q cc ids ros ad A M (idx, .inr (k, 0)) := by
  obtain ⟨q, e1, h1⟩ := hv
  refine ⟨Or.inl hk, fun pc H locs lsC rest _ => ⟨fun _ hdg kk => ?_, fun hm => ?_⟩⟩
  · have e2 : mv_V ad (.inr (k, 0)) = .ref q := e1
    rw [e2] at kk
    exact va_ldcS hBg.1 hBg.2.1 hBg.2.2.1 h1 hdg kk
  · have := List.all_eq_true.mp hno _ hm
    cases this
theorem mv_st_z {idx : Nat} {x : mv_A} {C n d : String} (hBg : mv_Bg p s m args c cc nL own Ts) (hx : mv_okV ids ros x) (hw : Cond.fieldLink own idx C n d ∈ Ts) (hZ : va_Z C n d (mv_V ad x) A s s.heap) : mv_st1 p l e R s m args below meth c cells slots Q cc ids ros ad A (idx, x) :=
  ⟨hx, fun pc H locs lsC rest hS hdg k => va_gets hBg.1 hBg.2.1 hZ hS hBg.2.2.1 (hBg.2.2.2.1 _ hw) (fun _ h => h) hdg k⟩
/-- the length of an array of ints, by its cell -/
def mv_al (sh : Nat → Option mv_S) (k i : Nat) : Option Nat := match sh k, i with
  | some (.inl (0, n, _)), 0 => some n
  | some (.inl (3, _, w)), _ + 1 => some w
  | _, _ => none
def mv_cpy (G : mv_G) (k i s k2 i2 d n : Nat) : mv_G := fun a b c => if a = k2 ∧ b = i2 ∧ d ≤ c ∧ c < d + n then G k i (s + (c - d)) else G a b c
/-- System.arraycopy over arrays of ints -/
def mv_acp (sh : Nat → Option mv_S) : mv_F := fun as G => match as with
  | [.inr (k, i), .inl s, .inr (k2, i2), .inl d, .inl n] => match mv_al sh k i, mv_al sh k2 i2 with
    | some a, some b => bif Nat.ble 1000 k || Nat.ble 1000 k2 then none else (if 0 ≤ s ∧ 0 ≤ d ∧ 0 ≤ n ∧ s + n ≤ a ∧ d + n ≤ b then some (0, mv_cpy G k i s.toNat k2 i2 d.toNat n.toNat) else none)
    | _, _ => none
  | _ => none
theorem mv_acp_in {sh : Nat → Option mv_S} {k i a : Nat} (h : mv_al sh k i = some a) : (i = 0 ∧ ∃ w, sh k = some (.inl (0, a, w))) ∨ (∃ i', i = i' + 1 ∧ ∃ n, sh k = some (.inl (3, n, a))) := by
  unfold mv_al at h
  split at h
  · next n w e => cases h; exact Or.inl ⟨rfl, _, e⟩
  · next n w i' e => cases h; exact Or.inr ⟨_, rfl, _, e⟩
  · cases h
theorem mv_acp_cell {sh : Nat → Option mv_S} {G : mv_G} {k i a : Nat} (h : mv_al sh k i = some a) : mv_cel sh ad cA G k i = (mv_ra (ad k i), .inl (cA 0, a, .inl (fun j => Int32.ofInt (G k i j)))) := by
  rcases mv_acp_in h with ⟨rfl, w, e⟩ | ⟨i', rfl, n, e⟩ <;> simp only [mv_cel, e]
theorem mv_cpy_ne {G : mv_G} {k i s k2 i2 d n a b : Nat} (h : ¬ (a, b) = (k2, i2)) : mv_cpy G k i s k2 i2 d n a b = G a b := by
  funext c
  unfold mv_cpy
  rw [if_neg]
  rintro ⟨h1, h2, -⟩
  exact h (by rw [h1, h2])
theorem mv_cel_cg {sh : Nat → Option mv_S} {G G2 : mv_G} {a b : Nat} (h : G a b = G2 a b) : mv_cel sh ad cA G a b = mv_cel sh ad cA G2 a b := by
  unfold mv_cel
  split <;> simp_all
theorem mv_cal_acp {idx : Nat} {cr : mv_R} (hF : mv_Fix sh ids ros ad cA tys A rc) (hBg : mv_Bg p s m args c cc nL own Ts) (hK : va_K D cl tys s) (hw : Cond.methodLink own idx arraycopyName ∈ Ts ∧ Cond.native arraycopyName ∈ Ts ∧ Cond.static arraycopyName ∈ Ts ∧ Cond.initialized "java/lang/System" ∈ Ts)
    (hR : 1 ≤ R.frames ∧ 8 + (nativeFrameWords "java/lang/System" "arraycopy" 5 + 11) ≤ R.locals) : mv_Cal p l e R s m args below meth c cells slots Q cc nL sh ids ros ad cA cl D A idx 5 none true (mv_acp sh) := by
  intro pc lsC as rest G G' r H locs hsz hdg hlen has hrv hrl hrc hf hW hS kk
  unfold mv_acp at hf
  split at hf <;> try contradiction
  next k i sp k2 i2 dp n =>
  split at hf <;> try contradiction
  next a b ha hb =>
  cases hro : (Nat.ble 1000 k || Nat.ble 1000 k2) with
  | true => rw [hro] at hf; cases hf
  | false =>
  rw [hro] at hf
  dsimp only [cond] at hf
  split at hf <;> try contradiction
  next hin =>
  cases hf
  simp only [Bool.or_eq_false_iff] at hro
  have hm : ∀ {k i a : Nat}, mv_al sh k i = some a → mv_okV ids ros (.inr (k, i)) → (k, i) ∈ ids ++ ros := fun h ho => by
    rcases mv_acp_in h with ⟨-, w, e⟩ | ⟨-, -, n, e⟩ <;> exact mv_no999 hF e ho
  have o1 := has (.inr (k, i)) (by simp)
  have o2 := has (.inl sp) (by simp)
  have o3 := has (.inr (k2, i2)) (by simp)
  have o4 := has (.inl dp) (by simp)
  have o5 := has (.inl n) (by simp)
  have m1 := hm ha o1
  have m2 := hm hb o3
  obtain ⟨q0, hq0, hg0⟩ := mv_getcell hF hW m1 hro.1
  obtain ⟨q1, hq1, hg1⟩ := mv_getcell hF hW m2 hro.2
  rw [mv_acp_cell ha] at hg0
  rw [mv_acp_cell hb] at hg1
  have ht : tys[0]? = some (cA 0, .int) := by
    rcases mv_acp_in ha with ⟨-, w, e⟩ | ⟨-, -, n, e⟩
    · exact ((hF.1 _ _ _ _ e).2.2 hro.1).1
    · exact (((hF.1 _ _ _ _ e).2.2 hro.1).2 rfl).1
  have hsum : (rest.map fun v => v.category).sum ≤ 8 := by
    have : ∀ r : List Value, (∀ v ∈ r, v.category = 1) → (r.map fun v => v.category).sum = r.length := by
      intro r
      induction r with
      | nil => intro _; rfl
      | cons v r ih =>
        intro h
        simp only [List.map_cons, List.sum_cons, List.length_cons]
        rw [h v List.mem_cons_self, ih fun w hw => h w (List.mem_cons_of_mem _ hw)]
        omega
    rw [this rest hrc]
    exact hrl
  show W p l e R s m args below meth c H locs cells slots Q (F0 m pc lsC (.int (Int32.ofInt n) :: .int (Int32.ofInt dp) :: ad k2 i2 :: .int (Int32.ofInt sp) :: ad k i :: rest))
  rw [show ad k i = .ref (mv_ra (ad k i)) from mv_ref_of hF m1, show ad k2 i2 = .ref (mv_ra (ad k2 i2)) from mv_ref_of hF m2]
  have neg : ∀ {x : Int}, mv_in x → 0 ≤ x → ¬ Int32.ofInt x < 0 := fun hx h0 h => by
    have := (mv_lt hx mv_in0).mp h
    omega
  refine va_copyi hBg.1 hBg.2.1 (hBg.2.2.2.2.trans hsz.symm) hBg.2.2.1 (hBg.2.2.2.1 _ hw.1) (hBg.2.2.2.1 _ hw.2.1) (hBg.2.2.2.1 _ hw.2.2.1) (hBg.2.2.2.1 _ hw.2.2.2) hK hW.1 hW.2.1 hS q0 q1 0 0 hg0 hg1 ht ht rfl (neg o2 hin.1) (neg o4 hin.2.1) (neg o5 hin.2.2.1)
    (by rw [mv_clamp o2 hin.1, mv_clamp o5 hin.2.2.1]; omega) (by rw [mv_clamp o4 hin.2.1, mv_clamp o5 hin.2.2.1]; omega) (fun _ _ => rfl) hR.1 (Nat.le_trans (Nat.add_le_add_right hsum _) hR.2) hdg (fun H1 locs1 hP1 hD1 hS1 => ?_)
  rw [mv_clamp o2 hin.1, mv_clamp o4 hin.2.1, mv_clamp o5 hin.2.2.1] at hP1 hD1
  have hset : (mv_wd sh ad cA ids G).set q1 (mv_ra (ad k2 i2), .inl (cA 0, b, .inl (va_cpy (fun j => Int32.ofInt (G k i j)) (fun j => Int32.ofInt (G k2 i2 j)) sp.toNat dp.toNat n.toNat))) = mv_wd sh ad cA ids (mv_cpy G k i sp.toNat k2 i2 dp.toNat n.toNat) := by
    refine List.ext_getElem? fun x => ?_
    by_cases e : x = q1
    · subst e
      obtain ⟨hl, hv⟩ := List.getElem?_eq_some_iff.mp hq1
      rw [List.getElem?_set_self (by simpa [mv_wd] using hl)]
      simp only [mv_wd, List.getElem?_map, hq1, Option.map_some]
      rw [mv_acp_cell hb]
      congr 6
      funext j
      simp only [va_cpy, mv_cpy, true_and]
      split <;> rfl
    · rw [List.getElem?_set_ne (fun h => e h.symm)]
      simp only [mv_wd, List.getElem?_map]
      cases hmx : ids[x]? with
      | none => rfl
      | some q =>
        obtain ⟨u, w⟩ := q
        show some (mv_cel sh ad cA G u w) = some (mv_cel sh ad cA _ u w)
        rw [mv_cel_cg (mv_cpy_ne _).symm]
        rintro hab
        rw [hab] at hmx
        exact e ((List.getElem?_inj (List.getElem?_eq_some_iff.mp hmx).1 hF.2.2.2.2.1).mp (hmx.trans hq1.symm))
  rw [hset] at hP1 hD1
  refine kk H1 locs1 ⟨hP1, hD1, fun a b c => ?_⟩ hS1 (fun h => by cases h)
  unfold mv_cpy
  split
  · exact hW.2.2 _ _ _
  · exact hW.2.2 _ _ _
end MV
end
section
def mv_max : mv_F := fun as G => match as with | [.inl x, .inl y] => some (if x < y then y else x, G) | _ => none
def mv_min : mv_F := fun as G => match as with | [.inl x, .inl y] => some (if y < x then y else x, G) | _ => none
def mv_abs : mv_F := fun as G => match as with | [.inl x] => some (if 0 ≤ x then x else mv_w (0 - x), G) | _ => none
section MV
variable {p : Program} {l : Launch} {e : Env} {R : Room} {s : State} {m : MethodId} {args : Array Value} {below : List Frame} {meth : Method} {c : Code} {cells slots : Nat} {Q : State → Prop}
variable {cc : ByteArray} {nL : Nat} {sh : Nat → Option mv_S} {ids ros : List (Nat × Nat)} {ad : Nat → Nat → Value} {cA : Nat → ClassId} {cl : List vw_C} {D : va_G} {tys : List (ClassId × FieldType)} {A : Nat → Prop} {rc : mv_G} {M : mv_M} {own : String} {Ts : List Cond}
theorem mv_sum1 : ∀ r : List Value, (∀ v ∈ r, v.category = 1) → (r.map fun v => v.category).sum = r.length := by
  intro r
  induction r with
  | nil => intro _; rfl
  | cons v r ih =>
    intro h
    simp only [List.map_cons, List.sum_cons, List.length_cons]
    rw [h v List.mem_cons_self, ih fun w hw => h w (List.mem_cons_of_mem _ hw)]
    omega
theorem mv_cal_max {idx : Nat} (hBg : mv_Bg p s m args c cc nL own Ts) (hw : Cond.methodLink own idx Lib.Math.max.name ∈ Ts ∧ Cond.static Lib.Math.max.name ∈ Ts ∧ Cond.initialized "java/lang/Math" ∈ Ts ∧ Cond.code Lib.Math.max.name Lib.Math.max.code 2 (some .int) ∈ Ts)
    (hR : 1 ≤ R.frames ∧ 21 ≤ R.locals) (hro : cells ≤ R.cells ∧ slots ≤ R.slots) : mv_Cal p l e R s m args below meth c cells slots Q cc nL sh ids ros ad cA cl D A idx 2 none false mv_max := by
  intro pc lsC as rest G G' r H locs hsz hdg hlen has hrv hrl hrc hf hW hS kk
  unfold mv_max at hf
  split at hf <;> try contradiction
  next x y =>
  cases hf
  have o1 := has (.inl x) (by simp)
  have o2 := has (.inl y) (by simp)
  have hl := mv_sum1 rest hrc
  have := kk H locs hW hS (fun _ => by split; exact o2; exact o1)
  refine va_mmax (rest := rest) hBg.1 hBg.2.1 (hBg.2.2.2.2.trans hsz.symm) hBg.2.2.1 (hBg.2.2.2.1 _ hw.1) (hBg.2.2.2.1 _ hw.2.1) (hBg.2.2.2.1 _ hw.2.2.1) (hBg.2.2.2.1 _ hw.2.2.2) hR.1 (by omega) hro.1 hro.2 (x := Int32.ofInt x) (y := Int32.ofInt y) hdg ?_
  have e : (if Int32.ofInt x < Int32.ofInt y then Int32.ofInt y else Int32.ofInt x) = Int32.ofInt (if x < y then y else x) := by
    by_cases h : x < y
    · rw [if_pos h, if_pos ((mv_lt o1 o2).mpr h)]
    · rw [if_neg h, if_neg (fun q => h ((mv_lt o1 o2).mp q))]
  rw [e]
  exact this
theorem mv_cal_min {idx : Nat} (hBg : mv_Bg p s m args c cc nL own Ts) (hw : Cond.methodLink own idx Lib.Math.min.name ∈ Ts ∧ Cond.static Lib.Math.min.name ∈ Ts ∧ Cond.initialized "java/lang/Math" ∈ Ts ∧ Cond.code Lib.Math.min.name Lib.Math.min.code 2 (some .int) ∈ Ts)
    (hR : 1 ≤ R.frames ∧ 21 ≤ R.locals) (hro : cells ≤ R.cells ∧ slots ≤ R.slots) : mv_Cal p l e R s m args below meth c cells slots Q cc nL sh ids ros ad cA cl D A idx 2 none false mv_min := by
  intro pc lsC as rest G G' r H locs hsz hdg hlen has hrv hrl hrc hf hW hS kk
  unfold mv_min at hf
  split at hf <;> try contradiction
  next x y =>
  cases hf
  have o1 := has (.inl x) (by simp)
  have o2 := has (.inl y) (by simp)
  have hl := mv_sum1 rest hrc
  have := kk H locs hW hS (fun _ => by split; exact o2; exact o1)
  refine va_mmin (rest := rest) hBg.1 hBg.2.1 (hBg.2.2.2.2.trans hsz.symm) hBg.2.2.1 (hBg.2.2.2.1 _ hw.1) (hBg.2.2.2.1 _ hw.2.1) (hBg.2.2.2.1 _ hw.2.2.1) (hBg.2.2.2.1 _ hw.2.2.2) hR.1 (by omega) hro.1 hro.2 (x := Int32.ofInt x) (y := Int32.ofInt y) hdg ?_
  have e : (if Int32.ofInt y < Int32.ofInt x then Int32.ofInt y else Int32.ofInt x) = Int32.ofInt (if y < x then y else x) := by
    by_cases h : y < x
    · rw [if_pos h, if_pos ((mv_lt o2 o1).mpr h)]
    · rw [if_neg h, if_neg (fun q => h ((mv_lt o2 o1).mp q))]
  rw [e]
  exact this
theorem mv_cal_abs {idx : Nat} (hBg : mv_Bg p s m args c cc nL own Ts) (hw : Cond.methodLink own idx Lib.Math.abs.name ∈ Ts ∧ Cond.static Lib.Math.abs.name ∈ Ts ∧ Cond.initialized "java/lang/Math" ∈ Ts ∧ Cond.code Lib.Math.abs.name Lib.Math.abs.code 1 (some .int) ∈ Ts)
    (hR : 1 ≤ R.frames ∧ 21 ≤ R.locals) (hro : cells ≤ R.cells ∧ slots ≤ R.slots) : mv_Cal p l e R s m args below meth c cells slots Q cc nL sh ids ros ad cA cl D A idx 1 none false mv_abs := by
  intro pc lsC as rest G G' r H locs hsz hdg hlen has hrv hrl hrc hf hW hS kk
  unfold mv_abs at hf
  split at hf <;> try contradiction
  next x =>
  cases hf
  have o1 := has (.inl x) (by simp)
  have hl := mv_sum1 rest hrc
  have := kk H locs hW hS (fun _ => by split; exact o1; exact mv_w_in _)
  refine va_mabs (rest := rest) hBg.1 hBg.2.1 (hBg.2.2.2.2.trans hsz.symm) hBg.2.2.1 (hBg.2.2.2.1 _ hw.1) (hBg.2.2.2.1 _ hw.2.1) (hBg.2.2.2.1 _ hw.2.2.1) (hBg.2.2.2.1 _ hw.2.2.2) hR.1 (by omega) hro.1 hro.2 (x := Int32.ofInt x) hdg ?_
  have e : (if 0 ≤ Int32.ofInt x then Int32.ofInt x else 0 - Int32.ofInt x) = Int32.ofInt (if 0 ≤ x then x else mv_w (0 - x)) := by
    have h1 : 0 ≤ Int32.ofInt x ↔ 0 ≤ x := by
      have := mv_lt o1 mv_in0
      rw [← Int32.not_lt, show (0 : Int32) = Int32.ofInt 0 from rfl, this]
      omega
    by_cases h : 0 ≤ x
    · rw [if_pos h, if_pos (h1.mpr h)]
    · rw [if_neg h, if_neg (fun q => h (h1.mp q)), mv_w_of, Int32.ofInt_sub]
      rfl
  rw [e]
  exact this
end MV
end
section
def fp_X12 : List (Nat × Nat × Nat × Nat × Nat) := [(1313, 7, 12, 1, 2), (1314, 13, 12, 2, 2), (1316, 16, 12, 4, 2), (1319, 19, 12, 7, 2), (1321, 23, 12, 9, 2), (1322, 26, 12, 10, 2), (1323, 29, 12, 11, 2), (1324, 32, 12, 12, 2), (1325, 35, 12, 13, 2), (1326, 38, 12, 14, 2), (1327, 41, 12, 15, 2), (1333, 44, 12, 21, 2), (1334, 47, 12, 22, 2), (1335, 50, 12, 23, 2), (1336, 53, 12, 24, 2), (1337, 56, 12, 25, 2), (1338, 59, 12, 26, 2), (1339, 62, 12, 27, 2), (1343, 65, 12, 31, 2), (1348, 68, 12, 36, 0), (1350, 72, 12, 38, 2), (1351, 75, 12, 39, 2), (1352, 78, 12, 40, 2), (1353, 81, 12, 41, 2), (1354, 84, 12, 42, 2), (1355, 87, 12, 43, 2), (1356, 90, 12, 44, 2), (1357, 93, 12, 45, 2), (1365, 96, 12, 53, 2), (1366, 99, 12, 54, 2), (1367, 102, 12, 55, 2), (1368, 105, 12, 56, 2), (1370, 108, 12, 58, 2), (1371, 111, 12, 59, 2), (1372, 114, 12, 60, 2), (1376, 117, 12, 64, 2), (1377, 120, 12, 65, 2), (1382, 123, 12, 70, 2), (1312, 126, 12, 0, 0), (1315, 129, 12, 3, 0), (1317, 132, 12, 5, 1), (1318, 136, 12, 6, 0), (1320, 139, 12, 8, 0), (1349, 146, 12, 37, 0), (1328, 164, 12, 16, 0), (1329, 171, 12, 17, 0), (1330, 177, 12, 18, 0), (1331, 180, 12, 19, 0), (1332, 183, 12, 20, 0), (1345, 199, 12, 33, 0), (1346, 202, 12, 34, 0), (1341, 205, 12, 29, 0), (1340, 208, 12, 28, 0), (1344, 236, 12, 32, 0), (1342, 239, 12, 30, 0), (1347, 267, 12, 35, 0), (1358, 289, 12, 46, 0), (1359, 299, 12, 47, 0), (1360, 302, 12, 48, 0), (1361, 305, 12, 49, 0), (1362, 308, 12, 50, 0), (1363, 378, 12, 51, 0), (1364, 381, 12, 52, 0), (1369, 431, 12, 57, 0), (1373, 448, 12, 61, 0), (1374, 451, 12, 62, 0), (1375, 454, 12, 63, 0), (1378, 478, 12, 66, 0), (1381, 496, 12, 69, 0), (1379, 499, 12, 67, 1), (1380, 505, 12, 68, 1)]
def fl_X12 : List (Nat × Nat × Nat × Nat) := fp_X12.map fun x => x.2
theorem fk_X12 : mv_fk RX12 fp_X12 = true := by decide +kernel
def fp_X2 : List (Nat × Nat × Nat × Nat × Nat) := [(271, 9, 2, 4, 2), (273, 15, 2, 5, 2), (275, 18, 2, 6, 2), (279, 26, 2, 7, 2), (283, 29, 2, 8, 2), (290, 32, 2, 9, 2), (292, 38, 2, 10, 2), (295, 42, 2, 11, 2), (298, 48, 2, 12, 2), (251, 65, 2, 0, 0), (258, 69, 2, 1, 0), (262, 72, 2, 2, 0), (268, 75, 2, 3, 0), (211, 86, 3, 0, 0)]
def fl_X2 : List (Nat × Nat × Nat × Nat) := fp_X2.map fun x => x.2
theorem fk_X2 : mv_fk RX2 fp_X2 = true := by decide +kernel
def fp_X11 : List (Nat × Nat × Nat × Nat × Nat) := [(592, 12, 11, 0, 2), (593, 16, 11, 1, 2), (594, 22, 11, 2, 2), (595, 29, 11, 3, 2), (596, 36, 11, 4, 2), (597, 45, 11, 5, 2), (598, 52, 11, 6, 2), (599, 59, 11, 7, 2), (600, 68, 11, 8, 2), (601, 77, 11, 9, 2), (253, 88, 2, 0, 0), (260, 104, 2, 1, 0), (282, 107, 2, 7, 2), (286, 111, 2, 8, 2), (366, 138, 7, 0, 0), (300, 147, 2, 12, 2), (374, 151, 7, 4, 2), (213, 158, 3, 0, 0), (294, 161, 2, 10, 2), (297, 165, 2, 11, 2), (372, 168, 7, 3, 2), (176, 176, 5, 0, 0), (368, 177, 7, 1, 0), (370, 180, 7, 2, 0), (267, 183, 2, 2, 0), (278, 196, 2, 6, 2), (272, 199, 2, 4, 2), (270, 216, 2, 3, 0), (291, 217, 2, 9, 2), (477, 232, 8, 0, 2), (572, 283, 0, 0, 0), (574, 286, 0, 1, 0), (602, 295, 11, 10, 1), (336, 305, 6, 0, 0)]
def fl_X11 : List (Nat × Nat × Nat × Nat) := fp_X11.map fun x => x.2
theorem fk_X11 : mv_fk RX11 fp_X11 = true := by decide +kernel
def fp_X5 : List (Nat × Nat × Nat × Nat × Nat) := [(180, 11, 5, 2, 2), (181, 15, 5, 3, 2), (183, 18, 5, 4, 2), (185, 21, 5, 5, 2), (187, 24, 5, 6, 2), (175, 27, 5, 0, 0), (178, 31, 5, 1, 0)]
def fl_X5 : List (Nat × Nat × Nat × Nat) := fp_X5.map fun x => x.2
theorem fk_X5 : mv_fk RX5 fp_X5 = true := by decide +kernel
def fp_X3 : List (Nat × Nat × Nat × Nat × Nat) := [(215, 9, 3, 1, 2), (217, 15, 3, 2, 2), (219, 18, 3, 3, 2), (210, 21, 3, 0, 0)]
def fl_X3 : List (Nat × Nat × Nat × Nat) := fp_X3.map fun x => x.2
theorem fk_X3 : mv_fk RX3 fp_X3 = true := by decide +kernel
def fp_X6 : List (Nat × Nat × Nat × Nat × Nat) := [(338, 13, 6, 2, 2), (339, 16, 6, 3, 2), (340, 19, 6, 4, 2), (341, 23, 6, 5, 2), (335, 26, 6, 0, 0), (337, 30, 6, 1, 0), (288, 46, 2, 8, 2), (276, 56, 2, 6, 2), (266, 58, 2, 2, 0), (269, 60, 2, 3, 0)]
def fl_X6 : List (Nat × Nat × Nat × Nat) := fp_X6.map fun x => x.2
theorem fk_X6 : mv_fk RX6 fp_X6 = true := by decide +kernel
def fp_X0 : List (Nat × Nat × Nat × Nat × Nat) := [(573, 9, 0, 1, 0), (575, 15, 0, 2, 2), (576, 19, 0, 3, 2), (577, 23, 0, 4, 2), (578, 27, 0, 5, 2), (285, 52, 2, 8, 2), (261, 75, 2, 1, 0), (476, 78, 8, 0, 2), (571, 81, 0, 0, 0), (264, 84, 2, 2, 0), (299, 87, 2, 12, 2), (212, 91, 3, 0, 0), (218, 96, 3, 2, 2), (216, 99, 3, 1, 2), (220, 102, 3, 3, 2)]
def fl_X0 : List (Nat × Nat × Nat × Nat) := fp_X0.map fun x => x.2
theorem fk_X0 : mv_fk RX0 fp_X0 = true := by decide +kernel
def fp_X9 : List (Nat × Nat × Nat × Nat × Nat) := [(414, 9, 9, 1, 2), (416, 15, 9, 2, 2), (418, 18, 9, 3, 2), (420, 21, 9, 4, 2), (421, 24, 9, 5, 2), (410, 27, 9, 0, 0), (256, 31, 2, 1, 0), (284, 40, 2, 8, 2), (280, 50, 2, 7, 2), (424, 57, 9, 6, 0), (425, 60, 9, 7, 0), (427, 63, 9, 8, 0), (429, 66, 9, 9, 0)]
def fl_X9 : List (Nat × Nat × Nat × Nat) := fp_X9.map fun x => x.2
theorem fk_X9 : mv_fk RX9 fp_X9 = true := by decide +kernel
def fp_X10 : List (Nat × Nat × Nat × Nat × Nat) := [(460, 11, 10, 2, 2), (458, 17, 10, 0, 2), (459, 21, 10, 1, 2), (252, 34, 2, 0, 0), (423, 44, 9, 6, 0), (412, 57, 9, 0, 0), (426, 72, 9, 7, 0), (428, 75, 9, 8, 0), (430, 78, 9, 9, 0), (265, 81, 2, 2, 0), (293, 97, 2, 10, 2), (277, 112, 2, 6, 2)]
def fl_X10 : List (Nat × Nat × Nat × Nat) := fp_X10.map fun x => x.2
theorem fk_X10 : mv_fk RX10 fp_X10 = true := by decide +kernel
def fp_X8 : List (Nat × Nat × Nat × Nat × Nat) := [(475, 9, 8, 0, 2), (480, 17, 8, 3, 2), (481, 22, 8, 4, 2), (482, 25, 8, 5, 2), (483, 28, 8, 6, 2), (484, 31, 8, 7, 2), (478, 34, 8, 1, 2), (479, 38, 8, 2, 2), (485, 42, 8, 8, 0), (263, 46, 2, 2, 0), (259, 51, 2, 1, 0), (281, 58, 2, 7, 2), (255, 61, 2, 0, 0), (296, 64, 2, 11, 2), (413, 88, 9, 0, 0), (422, 91, 9, 5, 2), (289, 120, 2, 8, 2)]
def fl_X8 : List (Nat × Nat × Nat × Nat) := fp_X8.map fun x => x.2
theorem fk_X8 : mv_fk RX8 fp_X8 = true := by decide +kernel
def fp_X4 : List (Nat × Nat × Nat × Nat × Nat) := [(514, 9, 4, 2, 2), (515, 15, 4, 3, 2), (516, 20, 4, 4, 2), (517, 23, 4, 5, 2), (518, 26, 4, 6, 0), (512, 30, 4, 0, 2), (513, 34, 4, 1, 2), (519, 44, 4, 7, 0), (411, 47, 9, 0, 0), (417, 52, 9, 2, 2), (419, 55, 9, 3, 2), (254, 57, 2, 0, 0), (415, 62, 9, 1, 2), (274, 65, 2, 5, 2)]
def fl_X4 : List (Nat × Nat × Nat × Nat) := fp_X4.map fun x => x.2
theorem fk_X4 : mv_fk RX4 fp_X4 = true := by decide +kernel
def fp_X1 : List (Nat × Nat × Nat × Nat × Nat) := [(546, 9, 1, 3, 2), (547, 15, 1, 4, 2), (548, 18, 1, 5, 2), (543, 21, 1, 0, 2), (544, 25, 1, 1, 2), (545, 29, 1, 2, 2), (549, 33, 1, 6, 0), (257, 37, 2, 1, 0), (287, 71, 2, 8, 2)]
def fl_X1 : List (Nat × Nat × Nat × Nat) := fp_X1.map fun x => x.2
theorem fk_X1 : mv_fk RX1 fp_X1 = true := by decide +kernel
def fp_J0 : List (Nat × Nat × Nat × Nat × Nat) := [(2009, 9, 100, 0, 2), (2010, 15, 100, 1, 2)]
def fl_J0 : List (Nat × Nat × Nat × Nat) := fp_J0.map fun x => x.2
theorem fk_J0 : mv_fk RJ0 fp_J0 = true := by decide +kernel
def fp_X7 : List (Nat × Nat × Nat × Nat × Nat) := [(369, 13, 7, 2, 0), (371, 18, 7, 3, 2), (373, 25, 7, 4, 2), (378, 29, 7, 8, 2), (379, 33, 7, 9, 2), (380, 36, 7, 10, 2), (365, 39, 7, 0, 0), (367, 42, 7, 1, 0), (375, 45, 7, 5, 0), (377, 48, 7, 7, 0), (376, 61, 7, 6, 0), (177, 109, 5, 0, 0), (182, 112, 5, 3, 2), (179, 115, 5, 1, 0), (184, 119, 5, 4, 2), (186, 125, 5, 5, 2), (214, 143, 3, 0, 0)]
def fl_X7 : List (Nat × Nat × Nat × Nat) := fp_X7.map fun x => x.2
theorem fk_X7 : mv_fk RX7 fp_X7 = true := by decide +kernel
end
section
def ic_X12_length : List (Nat × Instr × Nat) := [(0, .aload_n 0, 1), (1, .getfield 136, 3), (4, .bipush 40, 2), (6, .iadd, 1), (7, .ireturn, 1)]
noncomputable def mm_X12_length : mv_M := (ic_X12_length, fl_X12, [], [], [], [], none)
noncomputable def ff_X12_length : mv_F := mv_fn mv_rc mm_X12_length mv_sh 400 1
theorem dk_X12_length : mv_dk cX12_length ic_X12_length = true := by decide +kernel
set_option maxRecDepth 20000 in
theorem cc_X12_length {ad : Nat → Nat → Value} {cA : Nat → ClassId} {D : va_G} {tys : List (ClassId × FieldType)} {A : Nat → Prop} (l : Launch) (hF : mv_Fix mv_sh mv_ids mv_ros ad cA tys A mv_rc) : mv_Met l yX12_length cX12_length 1 (some .int) mv_Ts (mv_rm 1) 1 false mv_sh mv_ids mv_ros ad cA mv_cl D tys A mv_rc mv_cr (mv_EX ad A) ff_X12_length := mv_met_of (by decide +kernel) (by decide) hF mv_stok (mv_rzI (by decide +kernel)) mv_clok (mv_dk_ok dk_X12_length) (mv_fk_ok fk_X12) (fun p e s m args below meth c Q hBg hX hR => ⟨fun _ h => absurd h List.not_mem_nil, fun _ h => absurd h List.not_mem_nil⟩) (fun p e s m args below meth c Q hBg hX hR hK => fun _ h => absurd h List.not_mem_nil)
def ic_X12_sits : List (Nat × Instr × Nat) := [(0, .aload_n 0, 1), (1, .getfield 7, 3), (4, .iconst 2, 1), (5, .iload_n 1, 1), (6, .iadd, 1), (7, .iaload, 1), (8, .ifCond .le 7, 3), (11, .iconst 1, 1), (12, .goto 4, 3), (15, .iconst 0, 1), (16, .ireturn, 1)]
noncomputable def mm_X12_sits : mv_M := (ic_X12_sits, fl_X12, [], [], [], [], (some (0, 1)))
noncomputable def ff_X12_sits : mv_F := mv_fn mv_rc mm_X12_sits mv_sh 400 2
theorem dk_X12_sits : mv_dk cX12_sits ic_X12_sits = true := by decide +kernel
set_option maxRecDepth 20000 in
theorem cc_X12_sits {ad : Nat → Nat → Value} {cA : Nat → ClassId} {D : va_G} {tys : List (ClassId × FieldType)} {A : Nat → Prop} (l : Launch) (hF : mv_Fix mv_sh mv_ids mv_ros ad cA tys A mv_rc) : mv_Met l yX12_sits cX12_sits 2 (some .boolean) mv_Ts (mv_rm 1) 2 false mv_sh mv_ids mv_ros ad cA mv_cl D tys A mv_rc mv_cr (mv_EX ad A) ff_X12_sits := mv_met_of (by decide +kernel) (by decide) hF mv_stok (mv_rzZ (by decide +kernel) rfl) mv_clok (mv_dk_ok dk_X12_sits) (mv_fk_ok fk_X12) (fun p e s m args below meth c Q hBg hX hR => ⟨fun _ h => absurd h List.not_mem_nil, fun _ h => absurd h List.not_mem_nil⟩) (fun p e s m args below meth c Q hBg hX hR hK => fun _ h => absurd h List.not_mem_nil)
set_option maxRecDepth 20000 in
theorem cw_X12_153 : mv_Cw RX12 153 yX12_sits cX12_sits 2 (some .boolean) (some 12) 2 := mv_cw_of (a := 1547) (b := 143) (c := 1549) (d := 37) (mv_T 1550 rfl rfl) (by decide +kernel)
def ic_X12_sittingSet : List (Nat × Instr × Nat) := [(0, .iconst 0, 1), (1, .istore_n 1, 1), (2, .iconst 0, 1), (3, .istore_n 2, 1), (4, .iload_n 2, 1), (5, .aload_n 0, 1), (6, .getfield 139, 3), (9, .if_icmp .ge 23, 3), (12, .aload_n 0, 1), (13, .iload_n 2, 1), (14, .invokevirtual 153, 3), (17, .ifCond .eq 9, 3), (20, .iload_n 1, 1), (21, .iconst 1, 1), (22, .iload_n 2, 1), (23, .ishl, 1), (24, .ior, 1), (25, .istore_n 1, 1), (26, .iinc 2 1, 3), (29, .goto (-25), 3), (32, .iload_n 1, 1), (33, .ireturn, 1)]
noncomputable def mm_X12_sittingSet : mv_M := (ic_X12_sittingSet, fl_X12, [], [], [(153, 2, some 12, false, ff_X12_sits)], [(4, [true, true, true])], none)
noncomputable def ff_X12_sittingSet : mv_F := mv_fn mv_rc mm_X12_sittingSet mv_sh 400 3
theorem dk_X12_sittingSet : mv_dk cX12_sittingSet ic_X12_sittingSet = true := by decide +kernel
set_option maxRecDepth 20000 in
theorem cc_X12_sittingSet {ad : Nat → Nat → Value} {cA : Nat → ClassId} {D : va_G} {tys : List (ClassId × FieldType)} {A : Nat → Prop} (l : Launch) (hF : mv_Fix mv_sh mv_ids mv_ros ad cA tys A mv_rc) : mv_Met l yX12_sittingSet cX12_sittingSet 3 (some .int) mv_Ts (mv_rm 2) 1 false mv_sh mv_ids mv_ros ad cA mv_cl D tys A mv_rc mv_cr (mv_EX ad A) ff_X12_sittingSet := mv_met_of (by decide +kernel) (by decide) hF mv_stok (mv_rzI (by decide +kernel)) mv_clok (mv_dk_ok dk_X12_sittingSet) (mv_fk_ok fk_X12) (fun p e s m args below meth c Q hBg hX hR => ⟨fun _ h => absurd h List.not_mem_nil, fun _ h => absurd h List.not_mem_nil⟩) (fun p e s m args below meth c Q hBg hX hR hK => List.forall_mem_cons.mpr ⟨mv_cal_of (cc_X12_sits l hF) hBg hX hR hK mv_EX_ok hF mv_good mv_stok cw_X12_153.1 cw_X12_153.2.1 cw_X12_153.2.2 ⟨rfl, rfl, by exact Nat.le_of_ble_eq_true rfl, by exact Nat.le_of_ble_eq_true rfl⟩ ⟨Nat.zero_le _, Nat.zero_le _⟩, fun _ h => absurd h List.not_mem_nil⟩)
def ic_X12_onesOf : List (Nat × Instr × Nat) := [(0, .iconst 0, 1), (1, .istore_n 2, 1), (2, .iload_n 1, 1), (3, .istore_n 3, 1), (4, .iload_n 3, 1), (5, .ifCond .eq 16, 3), (8, .iload_n 2, 1), (9, .iconst 1, 1), (10, .iadd, 1), (11, .istore_n 2, 1), (12, .iload_n 3, 1), (13, .iload_n 3, 1), (14, .iconst 1, 1), (15, .isub, 1), (16, .iand, 1), (17, .istore_n 3, 1), (18, .goto (-14), 3), (21, .iload_n 2, 1), (22, .ireturn, 1)]
noncomputable def mm_X12_onesOf : mv_M := (ic_X12_onesOf, fl_X12, [], [], [], [(4, [false, false, true, true])], none)
noncomputable def ff_X12_onesOf : mv_F := mv_fn mv_rc mm_X12_onesOf mv_sh 400 4
theorem dk_X12_onesOf : mv_dk cX12_onesOf ic_X12_onesOf = true := by decide +kernel
set_option maxRecDepth 20000 in
theorem cc_X12_onesOf {ad : Nat → Nat → Value} {cA : Nat → ClassId} {D : va_G} {tys : List (ClassId × FieldType)} {A : Nat → Prop} (l : Launch) (hF : mv_Fix mv_sh mv_ids mv_ros ad cA tys A mv_rc) : mv_Met l yX12_onesOf cX12_onesOf 4 (some .int) mv_Ts (mv_rm 1) 2 false mv_sh mv_ids mv_ros ad cA mv_cl D tys A mv_rc mv_cr (mv_EX ad A) ff_X12_onesOf := mv_met_of (by decide +kernel) (by decide) hF mv_stok (mv_rzI (by decide +kernel)) mv_clok (mv_dk_ok dk_X12_onesOf) (mv_fk_ok fk_X12) (fun p e s m args below meth c Q hBg hX hR => ⟨fun _ h => absurd h List.not_mem_nil, fun _ h => absurd h List.not_mem_nil⟩) (fun p e s m args below meth c Q hBg hX hR hK => fun _ h => absurd h List.not_mem_nil)
def ic_X12_inchOf : List (Nat × Instr × Nat) := [(0, .aload_n 0, 1), (1, .getfield 7, 3), (4, .iconst 2, 1), (5, .iload_n 1, 1), (6, .iadd, 1), (7, .iaload, 1), (8, .iconst 1, 1), (9, .isub, 1), (10, .ireturn, 1)]
noncomputable def mm_X12_inchOf : mv_M := (ic_X12_inchOf, fl_X12, [], [], [], [], none)
noncomputable def ff_X12_inchOf : mv_F := mv_fn mv_rc mm_X12_inchOf mv_sh 400 2
theorem dk_X12_inchOf : mv_dk cX12_inchOf ic_X12_inchOf = true := by decide +kernel
set_option maxRecDepth 20000 in
theorem cc_X12_inchOf {ad : Nat → Nat → Value} {cA : Nat → ClassId} {D : va_G} {tys : List (ClassId × FieldType)} {A : Nat → Prop} (l : Launch) (hF : mv_Fix mv_sh mv_ids mv_ros ad cA tys A mv_rc) : mv_Met l yX12_inchOf cX12_inchOf 2 (some .int) mv_Ts (mv_rm 1) 2 false mv_sh mv_ids mv_ros ad cA mv_cl D tys A mv_rc mv_cr (mv_EX ad A) ff_X12_inchOf := mv_met_of (by decide +kernel) (by decide) hF mv_stok (mv_rzI (by decide +kernel)) mv_clok (mv_dk_ok dk_X12_inchOf) (mv_fk_ok fk_X12) (fun p e s m args below meth c Q hBg hX hR => ⟨fun _ h => absurd h List.not_mem_nil, fun _ h => absurd h List.not_mem_nil⟩) (fun p e s m args below meth c Q hBg hX hR hK => fun _ h => absurd h List.not_mem_nil)
def ic_X12_takesOf : List (Nat × Instr × Nat) := [(0, .aload_n 0, 1), (1, .getfield 23, 3), (4, .iload_n 1, 1), (5, .iaload, 1), (6, .aload_n 0, 1), (7, .getfield 29, 3), (10, .iload_n 1, 1), (11, .iaload, 1), (12, .iadd, 1), (13, .ireturn, 1)]
noncomputable def mm_X12_takesOf : mv_M := (ic_X12_takesOf, fl_X12, [], [], [], [], none)
noncomputable def ff_X12_takesOf : mv_F := mv_fn mv_rc mm_X12_takesOf mv_sh 400 2
theorem dk_X12_takesOf : mv_dk cX12_takesOf ic_X12_takesOf = true := by decide +kernel
set_option maxRecDepth 20000 in
theorem cc_X12_takesOf {ad : Nat → Nat → Value} {cA : Nat → ClassId} {D : va_G} {tys : List (ClassId × FieldType)} {A : Nat → Prop} (l : Launch) (hF : mv_Fix mv_sh mv_ids mv_ros ad cA tys A mv_rc) : mv_Met l yX12_takesOf cX12_takesOf 2 (some .int) mv_Ts (mv_rm 1) 2 false mv_sh mv_ids mv_ros ad cA mv_cl D tys A mv_rc mv_cr (mv_EX ad A) ff_X12_takesOf := mv_met_of (by decide +kernel) (by decide) hF mv_stok (mv_rzI (by decide +kernel)) mv_clok (mv_dk_ok dk_X12_takesOf) (mv_fk_ok fk_X12) (fun p e s m args below meth c Q hBg hX hR => ⟨fun _ h => absurd h List.not_mem_nil, fun _ h => absurd h List.not_mem_nil⟩) (fun p e s m args below meth c Q hBg hX hR hK => fun _ h => absurd h List.not_mem_nil)
def ic_X12_isIn : List (Nat × Instr × Nat) := [(0, .iload_n 1, 1), (1, .iload_n 2, 1), (2, .if_icmp .lt 12, 3), (5, .iload_n 1, 1), (6, .iload_n 3, 1), (7, .if_icmp .gt 7, 3), (10, .iconst 1, 1), (11, .goto 4, 3), (14, .iconst 0, 1), (15, .ireturn, 1)]
noncomputable def mm_X12_isIn : mv_M := (ic_X12_isIn, fl_X12, [], [], [], [], (some (0, 1)))
noncomputable def ff_X12_isIn : mv_F := mv_fn mv_rc mm_X12_isIn mv_sh 400 4
theorem dk_X12_isIn : mv_dk cX12_isIn ic_X12_isIn = true := by decide +kernel
set_option maxRecDepth 20000 in
theorem cc_X12_isIn {ad : Nat → Nat → Value} {cA : Nat → ClassId} {D : va_G} {tys : List (ClassId × FieldType)} {A : Nat → Prop} (l : Launch) (hF : mv_Fix mv_sh mv_ids mv_ros ad cA tys A mv_rc) : mv_Met l yX12_isIn cX12_isIn 4 (some .boolean) mv_Ts (mv_rm 1) 4 false mv_sh mv_ids mv_ros ad cA mv_cl D tys A mv_rc mv_cr (mv_EX ad A) ff_X12_isIn := mv_met_of (by decide +kernel) (by decide) hF mv_stok (mv_rzZ (by decide +kernel) rfl) mv_clok (mv_dk_ok dk_X12_isIn) (mv_fk_ok fk_X12) (fun p e s m args below meth c Q hBg hX hR => ⟨fun _ h => absurd h List.not_mem_nil, fun _ h => absurd h List.not_mem_nil⟩) (fun p e s m args below meth c Q hBg hX hR hK => fun _ h => absurd h List.not_mem_nil)
set_option maxRecDepth 20000 in
theorem cw_X12_157 : mv_Cw RX12 157 yX12_inchOf cX12_inchOf 2 (some .int) (some 12) 2 := mv_cw_of (a := 1551) (b := 143) (c := 1553) (d := 38) (mv_T 1554 rfl rfl) (by decide +kernel)
set_option maxRecDepth 20000 in
theorem cw_X12_292 : mv_Cw RX12 292 yX12_takesOf cX12_takesOf 2 (some .int) (some 12) 2 := mv_cw_of (a := 1700) (b := 143) (c := 1702) (d := 68) (mv_T 1703 rfl rfl) (by decide +kernel)
set_option maxRecDepth 20000 in
theorem cw_X12_142 : mv_Cw RX12 142 yX12_isIn cX12_isIn 4 (some .boolean) (some 12) 4 := mv_cw_of (a := 1535) (b := 143) (c := 1537) (d := 35) (mv_T 1538 rfl rfl) (by decide +kernel)
def ic_X12_whoAt : List (Nat × Instr × Nat) := [(0, .iconst 0, 1), (1, .istore_n 2, 1), (2, .iload_n 2, 1), (3, .aload_n 0, 1), (4, .getfield 139, 3), (7, .if_icmp .ge 45, 3), (10, .aload_n 0, 1), (11, .iload_n 2, 1), (12, .invokevirtual 153, 3), (15, .ifCond .eq 31, 3), (18, .aload_n 0, 1), (19, .iload_n 1, 1), (20, .aload_n 0, 1), (21, .iload_n 2, 1), (22, .invokevirtual 157, 3), (25, .aload_n 0, 1), (26, .iload_n 2, 1), (27, .invokevirtual 157, 3), (30, .aload_n 0, 1), (31, .iload_n 2, 1), (32, .invokevirtual 292, 3), (35, .iadd, 1), (36, .iconst 1, 1), (37, .isub, 1), (38, .invokevirtual 142, 3), (41, .ifCond .eq 5, 3), (44, .iload_n 2, 1), (45, .ireturn, 1), (46, .iinc 2 1, 3), (49, .goto (-47), 3), (52, .iconst (-1), 1), (53, .ireturn, 1)]
noncomputable def mm_X12_whoAt : mv_M := (ic_X12_whoAt, fl_X12, [], [], [(153, 2, some 12, false, ff_X12_sits), (157, 2, some 12, false, ff_X12_inchOf), (292, 2, some 12, false, ff_X12_takesOf), (142, 4, some 12, false, ff_X12_isIn)], [(2, [true, true, true])], none)
noncomputable def ff_X12_whoAt : mv_F := mv_fn mv_rc mm_X12_whoAt mv_sh 400 3
theorem dk_X12_whoAt : mv_dk cX12_whoAt ic_X12_whoAt = true := by decide +kernel
set_option maxRecDepth 20000 in
theorem cc_X12_whoAt {ad : Nat → Nat → Value} {cA : Nat → ClassId} {D : va_G} {tys : List (ClassId × FieldType)} {A : Nat → Prop} (l : Launch) (hF : mv_Fix mv_sh mv_ids mv_ros ad cA tys A mv_rc) : mv_Met l yX12_whoAt cX12_whoAt 3 (some .int) mv_Ts (mv_rm 2) 2 false mv_sh mv_ids mv_ros ad cA mv_cl D tys A mv_rc mv_cr (mv_EX ad A) ff_X12_whoAt := mv_met_of (by decide +kernel) (by decide) hF mv_stok (mv_rzI (by decide +kernel)) mv_clok (mv_dk_ok dk_X12_whoAt) (mv_fk_ok fk_X12) (fun p e s m args below meth c Q hBg hX hR => ⟨fun _ h => absurd h List.not_mem_nil, fun _ h => absurd h List.not_mem_nil⟩) (fun p e s m args below meth c Q hBg hX hR hK => List.forall_mem_cons.mpr ⟨mv_cal_of (cc_X12_sits l hF) hBg hX hR hK mv_EX_ok hF mv_good mv_stok cw_X12_153.1 cw_X12_153.2.1 cw_X12_153.2.2 ⟨rfl, rfl, by exact Nat.le_of_ble_eq_true rfl, by exact Nat.le_of_ble_eq_true rfl⟩ ⟨Nat.zero_le _, Nat.zero_le _⟩, List.forall_mem_cons.mpr ⟨mv_cal_of (cc_X12_inchOf l hF) hBg hX hR hK mv_EX_ok hF mv_good mv_stok cw_X12_157.1 cw_X12_157.2.1 cw_X12_157.2.2 ⟨rfl, rfl, by exact Nat.le_of_ble_eq_true rfl, by exact Nat.le_of_ble_eq_true rfl⟩ ⟨Nat.zero_le _, Nat.zero_le _⟩, List.forall_mem_cons.mpr ⟨mv_cal_of (cc_X12_takesOf l hF) hBg hX hR hK mv_EX_ok hF mv_good mv_stok cw_X12_292.1 cw_X12_292.2.1 cw_X12_292.2.2 ⟨rfl, rfl, by exact Nat.le_of_ble_eq_true rfl, by exact Nat.le_of_ble_eq_true rfl⟩ ⟨Nat.zero_le _, Nat.zero_le _⟩, List.forall_mem_cons.mpr ⟨mv_cal_of (cc_X12_isIn l hF) hBg hX hR hK mv_EX_ok hF mv_good mv_stok cw_X12_142.1 cw_X12_142.2.1 cw_X12_142.2.2 ⟨rfl, rfl, by exact Nat.le_of_ble_eq_true rfl, by exact Nat.le_of_ble_eq_true rfl⟩ ⟨Nat.zero_le _, Nat.zero_le _⟩, fun _ h => absurd h List.not_mem_nil⟩⟩⟩⟩)
set_option maxRecDepth 20000 in
theorem cw_X12_149 : mv_Cw RX12 149 yX12_length cX12_length 1 (some .int) (some 12) 1 := mv_cw_of (a := 1543) (b := 143) (c := 1545) (d := 36) (mv_T 1546 rfl rfl) (by decide +kernel)
set_option maxRecDepth 20000 in
theorem cw_X12_402 : mv_Cw RX12 402 yX12_whoAt cX12_whoAt 3 (some .int) (some 12) 2 := mv_cw_of (a := 1877) (b := 143) (c := 1879) (d := 105) (mv_T 1880 rfl rfl) (by decide +kernel)
def ic_X12_freeInches : List (Nat × Instr × Nat) := [(0, .iconst 0, 1), (1, .istore_n 1, 1), (2, .iconst 0, 1), (3, .istore_n 2, 1), (4, .iload_n 2, 1), (5, .aload_n 0, 1), (6, .invokevirtual 149, 3), (9, .if_icmp .ge 22, 3), (12, .aload_n 0, 1), (13, .iload_n 2, 1), (14, .invokevirtual 402, 3), (17, .iconst (-1), 1), (18, .if_icmp .ne 7, 3), (21, .iload_n 1, 1), (22, .iconst 1, 1), (23, .iadd, 1), (24, .istore_n 1, 1), (25, .iinc 2 1, 3), (28, .goto (-24), 3), (31, .iload_n 1, 1), (32, .ireturn, 1)]
noncomputable def mm_X12_freeInches : mv_M := (ic_X12_freeInches, fl_X12, [], [], [(149, 1, some 12, false, ff_X12_length), (402, 2, some 12, false, ff_X12_whoAt)], [(4, [true, true, true])], none)
noncomputable def ff_X12_freeInches : mv_F := mv_fn mv_rc mm_X12_freeInches mv_sh 400 3
theorem dk_X12_freeInches : mv_dk cX12_freeInches ic_X12_freeInches = true := by decide +kernel
set_option maxRecDepth 20000 in
theorem cc_X12_freeInches {ad : Nat → Nat → Value} {cA : Nat → ClassId} {D : va_G} {tys : List (ClassId × FieldType)} {A : Nat → Prop} (l : Launch) (hF : mv_Fix mv_sh mv_ids mv_ros ad cA tys A mv_rc) : mv_Met l yX12_freeInches cX12_freeInches 3 (some .int) mv_Ts (mv_rm 3) 1 false mv_sh mv_ids mv_ros ad cA mv_cl D tys A mv_rc mv_cr (mv_EX ad A) ff_X12_freeInches := mv_met_of (by decide +kernel) (by decide) hF mv_stok (mv_rzI (by decide +kernel)) mv_clok (mv_dk_ok dk_X12_freeInches) (mv_fk_ok fk_X12) (fun p e s m args below meth c Q hBg hX hR => ⟨fun _ h => absurd h List.not_mem_nil, fun _ h => absurd h List.not_mem_nil⟩) (fun p e s m args below meth c Q hBg hX hR hK => List.forall_mem_cons.mpr ⟨mv_cal_of (cc_X12_length l hF) hBg hX hR hK mv_EX_ok hF mv_good mv_stok cw_X12_149.1 cw_X12_149.2.1 cw_X12_149.2.2 ⟨rfl, rfl, by exact Nat.le_of_ble_eq_true rfl, by exact Nat.le_of_ble_eq_true rfl⟩ ⟨Nat.zero_le _, Nat.zero_le _⟩, List.forall_mem_cons.mpr ⟨mv_cal_of (cc_X12_whoAt l hF) hBg hX hR hK mv_EX_ok hF mv_good mv_stok cw_X12_402.1 cw_X12_402.2.1 cw_X12_402.2.2 ⟨rfl, rfl, by exact Nat.le_of_ble_eq_true rfl, by exact Nat.le_of_ble_eq_true rfl⟩ ⟨Nat.zero_le _, Nat.zero_le _⟩, fun _ h => absurd h List.not_mem_nil⟩⟩)
def ic_X12_restMany : List (Nat × Instr × Nat) := [(0, .iconst 0, 1), (1, .istore_n 1, 1), (2, .iconst 0, 1), (3, .istore_n 2, 1), (4, .iload_n 2, 1), (5, .aload_n 0, 1), (6, .invokevirtual 149, 3), (9, .if_icmp .ge 22, 3), (12, .aload_n 0, 1), (13, .getfield 19, 3), (16, .iload_n 2, 1), (17, .baload, 1), (18, .ifCond .eq 7, 3), (21, .iload_n 1, 1), (22, .iconst 1, 1), (23, .iadd, 1), (24, .istore_n 1, 1), (25, .iinc 2 1, 3), (28, .goto (-24), 3), (31, .iload_n 1, 1), (32, .ireturn, 1)]
noncomputable def mm_X12_restMany : mv_M := (ic_X12_restMany, fl_X12, [], [], [(149, 1, some 12, false, ff_X12_length)], [(4, [true, true, true])], none)
noncomputable def ff_X12_restMany : mv_F := mv_fn mv_rc mm_X12_restMany mv_sh 400 3
theorem dk_X12_restMany : mv_dk cX12_restMany ic_X12_restMany = true := by decide +kernel
set_option maxRecDepth 20000 in
theorem cc_X12_restMany {ad : Nat → Nat → Value} {cA : Nat → ClassId} {D : va_G} {tys : List (ClassId × FieldType)} {A : Nat → Prop} (l : Launch) (hF : mv_Fix mv_sh mv_ids mv_ros ad cA tys A mv_rc) : mv_Met l yX12_restMany cX12_restMany 3 (some .int) mv_Ts (mv_rm 2) 1 false mv_sh mv_ids mv_ros ad cA mv_cl D tys A mv_rc mv_cr (mv_EX ad A) ff_X12_restMany := mv_met_of (by decide +kernel) (by decide) hF mv_stok (mv_rzI (by decide +kernel)) mv_clok (mv_dk_ok dk_X12_restMany) (mv_fk_ok fk_X12) (fun p e s m args below meth c Q hBg hX hR => ⟨fun _ h => absurd h List.not_mem_nil, fun _ h => absurd h List.not_mem_nil⟩) (fun p e s m args below meth c Q hBg hX hR hK => List.forall_mem_cons.mpr ⟨mv_cal_of (cc_X12_length l hF) hBg hX hR hK mv_EX_ok hF mv_good mv_stok cw_X12_149.1 cw_X12_149.2.1 cw_X12_149.2.2 ⟨rfl, rfl, by exact Nat.le_of_ble_eq_true rfl, by exact Nat.le_of_ble_eq_true rfl⟩ ⟨Nat.zero_le _, Nat.zero_le _⟩, fun _ h => absurd h List.not_mem_nil⟩)
def ic_X12_placeOf : List (Nat × Instr × Nat) := [(0, .aload_n 0, 1), (1, .iload_n 1, 1), (2, .invokevirtual 153, 3), (5, .ifCond .ne 5, 3), (8, .iconst (-1), 1), (9, .ireturn, 1), (10, .iconst 0, 1), (11, .istore_n 2, 1), (12, .iconst 0, 1), (13, .istore_n 3, 1), (14, .iload_n 3, 1), (15, .aload_n 0, 1), (16, .getfield 139, 3), (19, .if_icmp .ge 34, 3), (22, .aload_n 0, 1), (23, .iload_n 3, 1), (24, .invokevirtual 153, 3), (27, .ifCond .eq 20, 3), (30, .aload_n 0, 1), (31, .iload_n 3, 1), (32, .invokevirtual 157, 3), (35, .aload_n 0, 1), (36, .iload_n 1, 1), (37, .invokevirtual 157, 3), (40, .if_icmp .ge 7, 3), (43, .iload_n 2, 1), (44, .iconst 1, 1), (45, .iadd, 1), (46, .istore_n 2, 1), (47, .iinc 3 1, 3), (50, .goto (-36), 3), (53, .iload_n 2, 1), (54, .ireturn, 1)]
noncomputable def mm_X12_placeOf : mv_M := (ic_X12_placeOf, fl_X12, [], [], [(153, 2, some 12, false, ff_X12_sits), (157, 2, some 12, false, ff_X12_inchOf)], [(14, [true, true, true, true])], none)
noncomputable def ff_X12_placeOf : mv_F := mv_fn mv_rc mm_X12_placeOf mv_sh 400 4
theorem dk_X12_placeOf : mv_dk cX12_placeOf ic_X12_placeOf = true := by decide +kernel
set_option maxRecDepth 20000 in
theorem cc_X12_placeOf {ad : Nat → Nat → Value} {cA : Nat → ClassId} {D : va_G} {tys : List (ClassId × FieldType)} {A : Nat → Prop} (l : Launch) (hF : mv_Fix mv_sh mv_ids mv_ros ad cA tys A mv_rc) : mv_Met l yX12_placeOf cX12_placeOf 4 (some .int) mv_Ts (mv_rm 2) 2 false mv_sh mv_ids mv_ros ad cA mv_cl D tys A mv_rc mv_cr (mv_EX ad A) ff_X12_placeOf := mv_met_of (by decide +kernel) (by decide) hF mv_stok (mv_rzI (by decide +kernel)) mv_clok (mv_dk_ok dk_X12_placeOf) (mv_fk_ok fk_X12) (fun p e s m args below meth c Q hBg hX hR => ⟨fun _ h => absurd h List.not_mem_nil, fun _ h => absurd h List.not_mem_nil⟩) (fun p e s m args below meth c Q hBg hX hR hK => List.forall_mem_cons.mpr ⟨mv_cal_of (cc_X12_sits l hF) hBg hX hR hK mv_EX_ok hF mv_good mv_stok cw_X12_153.1 cw_X12_153.2.1 cw_X12_153.2.2 ⟨rfl, rfl, by exact Nat.le_of_ble_eq_true rfl, by exact Nat.le_of_ble_eq_true rfl⟩ ⟨Nat.zero_le _, Nat.zero_le _⟩, List.forall_mem_cons.mpr ⟨mv_cal_of (cc_X12_inchOf l hF) hBg hX hR hK mv_EX_ok hF mv_good mv_stok cw_X12_157.1 cw_X12_157.2.1 cw_X12_157.2.2 ⟨rfl, rfl, by exact Nat.le_of_ble_eq_true rfl, by exact Nat.le_of_ble_eq_true rfl⟩ ⟨Nat.zero_le _, Nat.zero_le _⟩, fun _ h => absurd h List.not_mem_nil⟩⟩)
set_option maxRecDepth 20000 in
theorem cw_X12_399 : mv_Cw RX12 399 yX12_placeOf cX12_placeOf 4 (some .int) (some 12) 2 := mv_cw_of (a := 1869) (b := 143) (c := 1871) (d := 104) (mv_T 1872 rfl rfl) (by decide +kernel)
def ic_X12_whoIs : List (Nat × Instr × Nat) := [(0, .iconst 0, 1), (1, .istore_n 2, 1), (2, .iload_n 2, 1), (3, .aload_n 0, 1), (4, .getfield 139, 3), (7, .if_icmp .ge 20, 3), (10, .aload_n 0, 1), (11, .iload_n 2, 1), (12, .invokevirtual 399, 3), (15, .iload_n 1, 1), (16, .if_icmp .ne 5, 3), (19, .iload_n 2, 1), (20, .ireturn, 1), (21, .iinc 2 1, 3), (24, .goto (-22), 3), (27, .iconst (-1), 1), (28, .ireturn, 1)]
noncomputable def mm_X12_whoIs : mv_M := (ic_X12_whoIs, fl_X12, [], [], [(399, 2, some 12, false, ff_X12_placeOf)], [(2, [true, true, true])], none)
noncomputable def ff_X12_whoIs : mv_F := mv_fn mv_rc mm_X12_whoIs mv_sh 400 3
theorem dk_X12_whoIs : mv_dk cX12_whoIs ic_X12_whoIs = true := by decide +kernel
set_option maxRecDepth 20000 in
theorem cc_X12_whoIs {ad : Nat → Nat → Value} {cA : Nat → ClassId} {D : va_G} {tys : List (ClassId × FieldType)} {A : Nat → Prop} (l : Launch) (hF : mv_Fix mv_sh mv_ids mv_ros ad cA tys A mv_rc) : mv_Met l yX12_whoIs cX12_whoIs 3 (some .int) mv_Ts (mv_rm 3) 2 false mv_sh mv_ids mv_ros ad cA mv_cl D tys A mv_rc mv_cr (mv_EX ad A) ff_X12_whoIs := mv_met_of (by decide +kernel) (by decide) hF mv_stok (mv_rzI (by decide +kernel)) mv_clok (mv_dk_ok dk_X12_whoIs) (mv_fk_ok fk_X12) (fun p e s m args below meth c Q hBg hX hR => ⟨fun _ h => absurd h List.not_mem_nil, fun _ h => absurd h List.not_mem_nil⟩) (fun p e s m args below meth c Q hBg hX hR hK => List.forall_mem_cons.mpr ⟨mv_cal_of (cc_X12_placeOf l hF) hBg hX hR hK mv_EX_ok hF mv_good mv_stok cw_X12_399.1 cw_X12_399.2.1 cw_X12_399.2.2 ⟨rfl, rfl, by exact Nat.le_of_ble_eq_true rfl, by exact Nat.le_of_ble_eq_true rfl⟩ ⟨Nat.zero_le _, Nat.zero_le _⟩, fun _ h => absurd h List.not_mem_nil⟩)
set_option maxRecDepth 20000 in
theorem cw_X12_484 : mv_Cw RX12 484 yX12_sittingSet cX12_sittingSet 3 (some .int) (some 12) 1 := mv_cw_of (a := 1957) (b := 143) (c := 1959) (d := 117) (mv_T 1960 rfl rfl) (by decide +kernel)
set_option maxRecDepth 20000 in
theorem cw_X12_487 : mv_Cw RX12 487 yX12_onesOf cX12_onesOf 4 (some .int) (some 12) 2 := mv_cw_of (a := 1961) (b := 143) (c := 1963) (d := 118) (mv_T 1964 rfl rfl) (by decide +kernel)
set_option maxRecDepth 20000 in
theorem cw_X12_514 : mv_Cw RX12 514 yX12_freeInches cX12_freeInches 3 (some .int) (some 12) 1 := mv_cw_of (a := 1997) (b := 143) (c := 1999) (d := 125) (mv_T 2000 rfl rfl) (by decide +kernel)
set_option maxRecDepth 20000 in
theorem cw_X12_517 : mv_Cw RX12 517 yX12_restMany cX12_restMany 3 (some .int) (some 12) 1 := mv_cw_of (a := 2001) (b := 143) (c := 2003) (d := 126) (mv_T 2004 rfl rfl) (by decide +kernel)
set_option maxRecDepth 20000 in
theorem cw_X12_520 : mv_Cw RX12 520 yX12_whoIs cX12_whoIs 3 (some .int) (some 12) 2 := mv_cw_of (a := 2005) (b := 143) (c := 2007) (d := 127) (mv_T 2008 rfl rfl) (by decide +kernel)
def ic_X12_look : List (Nat × Instr × Nat) := [(0, .aload_n 0, 1), (1, .iconst 0, 1), (2, .putfield 126, 3), (5, .iload_n 1, 1), (6, .ifCond .ne 8, 3), (9, .aload_n 0, 1), (10, .invokevirtual 149, 3), (13, .ireturn, 1), (14, .iload_n 1, 1), (15, .iconst 1, 1), (16, .if_icmp .ne 8, 3), (19, .aload_n 0, 1), (20, .getfield 139, 3), (23, .ireturn, 1), (24, .iload_n 1, 1), (25, .iconst 2, 1), (26, .if_icmp .ne 12, 3), (29, .aload_n 0, 1), (30, .aload_n 0, 1), (31, .invokevirtual 484, 3), (34, .invokevirtual 487, 3), (37, .ireturn, 1), (38, .iload_n 1, 1), (39, .iconst 3, 1), (40, .if_icmp .ne 10, 3), (43, .aload_n 0, 1), (44, .getfield 7, 3), (47, .iconst 0, 1), (48, .iaload, 1), (49, .ireturn, 1), (50, .iload_n 1, 1), (51, .iconst 4, 1), (52, .if_icmp .ne 10, 3), (55, .aload_n 0, 1), (56, .getfield 7, 3), (59, .iconst 1, 1), (60, .iaload, 1), (61, .ireturn, 1), (62, .iload_n 1, 1), (63, .iconst 5, 1), (64, .if_icmp .ne 10, 3), (67, .aload_n 0, 1), (68, .getfield 47, 3), (71, .iconst 0, 1), (72, .iaload, 1), (73, .ireturn, 1), (74, .iload_n 1, 1), (75, .bipush 6, 2), (77, .if_icmp .ne 10, 3), (80, .aload_n 0, 1), (81, .getfield 47, 3), (84, .iconst 1, 1), (85, .iaload, 1), (86, .ireturn, 1), (87, .iload_n 1, 1), (88, .bipush 7, 2), (90, .if_icmp .ne 8, 3), (93, .aload_n 0, 1), (94, .getfield 146, 3), (97, .ireturn, 1), (98, .iload_n 1, 1), (99, .bipush 8, 2), (101, .if_icmp .ne 8, 3), (104, .aload_n 0, 1), (105, .getfield 129, 3), (108, .ireturn, 1), (109, .iload_n 1, 1), (110, .bipush 9, 2), (112, .if_icmp .ne 8, 3), (115, .aload_n 0, 1), (116, .invokevirtual 514, 3), (119, .ireturn, 1), (120, .iload_n 1, 1), (121, .bipush 10, 2), (123, .if_icmp .ne 8, 3), (126, .aload_n 0, 1), (127, .invokevirtual 517, 3), (130, .ireturn, 1), (131, .iload_n 1, 1), (132, .bipush 20, 2), (134, .if_icmp .lt 14, 3), (137, .aload_n 0, 1), (138, .iload_n 1, 1), (139, .bipush 20, 2), (141, .isub, 1), (142, .invokevirtual 520, 3), (145, .goto 4, 3), (148, .iconst (-1), 1), (149, .ireturn, 1)]
noncomputable def mm_X12_look : mv_M := (ic_X12_look, fl_X12, [], [], [(149, 1, some 12, false, ff_X12_length), (484, 1, some 12, false, ff_X12_sittingSet), (487, 2, some 12, false, ff_X12_onesOf), (514, 1, some 12, false, ff_X12_freeInches), (517, 1, some 12, false, ff_X12_restMany), (520, 2, some 12, false, ff_X12_whoIs)], [], none)
noncomputable def ff_X12_look : mv_F := mv_fn mv_rc mm_X12_look mv_sh 400 2
theorem dk_X12_look : mv_dk cX12_look ic_X12_look = true := by decide +kernel
set_option maxRecDepth 20000 in
theorem cc_X12_look {ad : Nat → Nat → Value} {cA : Nat → ClassId} {D : va_G} {tys : List (ClassId × FieldType)} {A : Nat → Prop} (l : Launch) (hF : mv_Fix mv_sh mv_ids mv_ros ad cA tys A mv_rc) : mv_Met l yX12_look cX12_look 2 (some .int) mv_Ts (mv_rm 4) 2 false mv_sh mv_ids mv_ros ad cA mv_cl D tys A mv_rc mv_cr (mv_EX ad A) ff_X12_look := mv_met_of (by decide +kernel) (by decide) hF mv_stok (mv_rzI (by decide +kernel)) mv_clok (mv_dk_ok dk_X12_look) (mv_fk_ok fk_X12) (fun p e s m args below meth c Q hBg hX hR => ⟨fun _ h => absurd h List.not_mem_nil, fun _ h => absurd h List.not_mem_nil⟩) (fun p e s m args below meth c Q hBg hX hR hK => List.forall_mem_cons.mpr ⟨mv_cal_of (cc_X12_length l hF) hBg hX hR hK mv_EX_ok hF mv_good mv_stok cw_X12_149.1 cw_X12_149.2.1 cw_X12_149.2.2 ⟨rfl, rfl, by exact Nat.le_of_ble_eq_true rfl, by exact Nat.le_of_ble_eq_true rfl⟩ ⟨Nat.zero_le _, Nat.zero_le _⟩, List.forall_mem_cons.mpr ⟨mv_cal_of (cc_X12_sittingSet l hF) hBg hX hR hK mv_EX_ok hF mv_good mv_stok cw_X12_484.1 cw_X12_484.2.1 cw_X12_484.2.2 ⟨rfl, rfl, by exact Nat.le_of_ble_eq_true rfl, by exact Nat.le_of_ble_eq_true rfl⟩ ⟨Nat.zero_le _, Nat.zero_le _⟩, List.forall_mem_cons.mpr ⟨mv_cal_of (cc_X12_onesOf l hF) hBg hX hR hK mv_EX_ok hF mv_good mv_stok cw_X12_487.1 cw_X12_487.2.1 cw_X12_487.2.2 ⟨rfl, rfl, by exact Nat.le_of_ble_eq_true rfl, by exact Nat.le_of_ble_eq_true rfl⟩ ⟨Nat.zero_le _, Nat.zero_le _⟩, List.forall_mem_cons.mpr ⟨mv_cal_of (cc_X12_freeInches l hF) hBg hX hR hK mv_EX_ok hF mv_good mv_stok cw_X12_514.1 cw_X12_514.2.1 cw_X12_514.2.2 ⟨rfl, rfl, by exact Nat.le_of_ble_eq_true rfl, by exact Nat.le_of_ble_eq_true rfl⟩ ⟨Nat.zero_le _, Nat.zero_le _⟩, List.forall_mem_cons.mpr ⟨mv_cal_of (cc_X12_restMany l hF) hBg hX hR hK mv_EX_ok hF mv_good mv_stok cw_X12_517.1 cw_X12_517.2.1 cw_X12_517.2.2 ⟨rfl, rfl, by exact Nat.le_of_ble_eq_true rfl, by exact Nat.le_of_ble_eq_true rfl⟩ ⟨Nat.zero_le _, Nat.zero_le _⟩, List.forall_mem_cons.mpr ⟨mv_cal_of (cc_X12_whoIs l hF) hBg hX hR hK mv_EX_ok hF mv_good mv_stok cw_X12_520.1 cw_X12_520.2.1 cw_X12_520.2.2 ⟨rfl, rfl, by exact Nat.le_of_ble_eq_true rfl, by exact Nat.le_of_ble_eq_true rfl⟩ ⟨Nat.zero_le _, Nat.zero_le _⟩, fun _ h => absurd h List.not_mem_nil⟩⟩⟩⟩⟩⟩)
def ic_X2_isPerson : List (Nat × Instr × Nat) := [(0, .iload_n 1, 1), (1, .ifCond .lt 21, 3), (4, .iload_n 1, 1), (5, .aload_n 0, 1), (6, .getfield 69, 3), (9, .if_icmp .ge 13, 3), (12, .iload_n 1, 1), (13, .bipush 10, 2), (15, .if_icmp .ge 7, 3), (18, .iconst 1, 1), (19, .goto 4, 3), (22, .iconst 0, 1), (23, .ireturn, 1)]
noncomputable def mm_X2_isPerson : mv_M := (ic_X2_isPerson, fl_X2, [], [], [], [], (some (0, 1)))
noncomputable def ff_X2_isPerson : mv_F := mv_fn mv_rc mm_X2_isPerson mv_sh 400 2
theorem dk_X2_isPerson : mv_dk cX2_isPerson ic_X2_isPerson = true := by decide +kernel
set_option maxRecDepth 20000 in
theorem cc_X2_isPerson {ad : Nat → Nat → Value} {cA : Nat → ClassId} {D : va_G} {tys : List (ClassId × FieldType)} {A : Nat → Prop} (l : Launch) (hF : mv_Fix mv_sh mv_ids mv_ros ad cA tys A mv_rc) : mv_Met l yX2_isPerson cX2_isPerson 2 (some .boolean) mv_Ts (mv_rm 1) 2 false mv_sh mv_ids mv_ros ad cA mv_cl D tys A mv_rc mv_cr (mv_EX ad A) ff_X2_isPerson := mv_met_of (by decide +kernel) (by decide) hF mv_stok (mv_rzZ (by decide +kernel) rfl) mv_clok (mv_dk_ok dk_X2_isPerson) (mv_fk_ok fk_X2) (fun p e s m args below meth c Q hBg hX hR => ⟨fun _ h => absurd h List.not_mem_nil, fun _ h => absurd h List.not_mem_nil⟩) (fun p e s m args below meth c Q hBg hX hR hK => fun _ h => absurd h List.not_mem_nil)
set_option maxRecDepth 20000 in
theorem cw_X2_103 : mv_Cw RX2 103 yX2_isPerson cX2_isPerson 2 (some .boolean) (some 2) 2 := mv_cw_of (a := 669) (b := 130) (c := 662) (d := 663) (mv_T 664 rfl rfl) (by decide +kernel)
def ic_X2_isSeated : List (Nat × Instr × Nat) := [(0, .aload_n 0, 1), (1, .iload_n 1, 1), (2, .invokevirtual 103, 3), (5, .ifCond .eq 17, 3), (8, .aload_n 0, 1), (9, .getfield 29, 3), (12, .iload_n 1, 1), (13, .iaload, 1), (14, .iconst (-1), 1), (15, .if_icmp .eq 7, 3), (18, .iconst 1, 1), (19, .goto 4, 3), (22, .iconst 0, 1), (23, .ireturn, 1)]
noncomputable def mm_X2_isSeated : mv_M := (ic_X2_isSeated, fl_X2, [], [], [(103, 2, some 2, false, ff_X2_isPerson)], [], (some (0, 1)))
noncomputable def ff_X2_isSeated : mv_F := mv_fn mv_rc mm_X2_isSeated mv_sh 400 2
theorem dk_X2_isSeated : mv_dk cX2_isSeated ic_X2_isSeated = true := by decide +kernel
set_option maxRecDepth 20000 in
theorem cc_X2_isSeated {ad : Nat → Nat → Value} {cA : Nat → ClassId} {D : va_G} {tys : List (ClassId × FieldType)} {A : Nat → Prop} (l : Launch) (hF : mv_Fix mv_sh mv_ids mv_ros ad cA tys A mv_rc) : mv_Met l yX2_isSeated cX2_isSeated 2 (some .boolean) mv_Ts (mv_rm 2) 2 false mv_sh mv_ids mv_ros ad cA mv_cl D tys A mv_rc mv_cr (mv_EX ad A) ff_X2_isSeated := mv_met_of (by decide +kernel) (by decide) hF mv_stok (mv_rzZ (by decide +kernel) rfl) mv_clok (mv_dk_ok dk_X2_isSeated) (mv_fk_ok fk_X2) (fun p e s m args below meth c Q hBg hX hR => ⟨fun _ h => absurd h List.not_mem_nil, fun _ h => absurd h List.not_mem_nil⟩) (fun p e s m args below meth c Q hBg hX hR hK => List.forall_mem_cons.mpr ⟨mv_cal_of (cc_X2_isPerson l hF) hBg hX hR hK mv_EX_ok hF mv_good mv_stok cw_X2_103.1 cw_X2_103.2.1 cw_X2_103.2.2 ⟨rfl, rfl, by exact Nat.le_of_ble_eq_true rfl, by exact Nat.le_of_ble_eq_true rfl⟩ ⟨Nat.zero_le _, Nat.zero_le _⟩, fun _ h => absurd h List.not_mem_nil⟩)
set_option maxRecDepth 20000 in
theorem cw_X2_115 : mv_Cw RX2 115 yX2_isSeated cX2_isSeated 2 (some .boolean) (some 2) 2 := mv_cw_of (a := 1079) (b := 130) (c := 666) (d := 667) (mv_T 668 rfl rfl) (by decide +kernel)
def ic_X2_rank : List (Nat × Instr × Nat) := [(0, .aload_n 0, 1), (1, .iload_n 1, 1), (2, .invokevirtual 115, 3), (5, .ifCond .ne 5, 3), (8, .iconst (-1), 1), (9, .ireturn, 1), (10, .iconst 0, 1), (11, .istore_n 2, 1), (12, .iconst 0, 1), (13, .istore_n 3, 1), (14, .iload_n 3, 1), (15, .aload_n 0, 1), (16, .getfield 69, 3), (19, .if_icmp .ge 37, 3), (22, .aload_n 0, 1), (23, .getfield 29, 3), (26, .iload_n 3, 1), (27, .iaload, 1), (28, .iconst (-1), 1), (29, .if_icmp .eq 21, 3), (32, .aload_n 0, 1), (33, .getfield 29, 3), (36, .iload_n 3, 1), (37, .iaload, 1), (38, .aload_n 0, 1), (39, .getfield 29, 3), (42, .iload_n 1, 1), (43, .iaload, 1), (44, .if_icmp .ge 6, 3), (47, .iinc 2 1, 3), (50, .iinc 3 1, 3), (53, .goto (-39), 3), (56, .iload_n 2, 1), (57, .ireturn, 1)]
noncomputable def mm_X2_rank : mv_M := (ic_X2_rank, fl_X2, [], [], [(115, 2, some 2, false, ff_X2_isSeated)], [(14, [true, true, true, true])], none)
noncomputable def ff_X2_rank : mv_F := mv_fn mv_rc mm_X2_rank mv_sh 400 4
theorem dk_X2_rank : mv_dk cX2_rank ic_X2_rank = true := by decide +kernel
set_option maxRecDepth 20000 in
theorem cc_X2_rank {ad : Nat → Nat → Value} {cA : Nat → ClassId} {D : va_G} {tys : List (ClassId × FieldType)} {A : Nat → Prop} (l : Launch) (hF : mv_Fix mv_sh mv_ids mv_ros ad cA tys A mv_rc) : mv_Met l yX2_rank cX2_rank 4 (some .int) mv_Ts (mv_rm 3) 2 false mv_sh mv_ids mv_ros ad cA mv_cl D tys A mv_rc mv_cr (mv_EX ad A) ff_X2_rank := mv_met_of (by decide +kernel) (by decide) hF mv_stok (mv_rzI (by decide +kernel)) mv_clok (mv_dk_ok dk_X2_rank) (mv_fk_ok fk_X2) (fun p e s m args below meth c Q hBg hX hR => ⟨fun _ h => absurd h List.not_mem_nil, fun _ h => absurd h List.not_mem_nil⟩) (fun p e s m args below meth c Q hBg hX hR hK => List.forall_mem_cons.mpr ⟨mv_cal_of (cc_X2_isSeated l hF) hBg hX hR hK mv_EX_ok hF mv_good mv_stok cw_X2_115.1 cw_X2_115.2.1 cw_X2_115.2.2 ⟨rfl, rfl, by exact Nat.le_of_ble_eq_true rfl, by exact Nat.le_of_ble_eq_true rfl⟩ ⟨Nat.zero_le _, Nat.zero_le _⟩, fun _ h => absurd h List.not_mem_nil⟩)
set_option maxRecDepth 20000 in
theorem cw_X2_118 : mv_Cw RX2 118 yX2_rank cX2_rank 4 (some .int) (some 2) 2 := mv_cw_of (a := 1293) (b := 130) (c := 1076) (d := 1077) (mv_T 1078 rfl rfl) (by decide +kernel)
def ic_X2_whoIsNth : List (Nat × Instr × Nat) := [(0, .iconst 0, 1), (1, .istore_n 2, 1), (2, .iload_n 2, 1), (3, .aload_n 0, 1), (4, .getfield 69, 3), (7, .if_icmp .ge 30, 3), (10, .aload_n 0, 1), (11, .getfield 29, 3), (14, .iload_n 2, 1), (15, .iaload, 1), (16, .iconst (-1), 1), (17, .if_icmp .eq 14, 3), (20, .aload_n 0, 1), (21, .iload_n 2, 1), (22, .invokevirtual 118, 3), (25, .iload_n 1, 1), (26, .if_icmp .ne 5, 3), (29, .iload_n 2, 1), (30, .ireturn, 1), (31, .iinc 2 1, 3), (34, .goto (-32), 3), (37, .iconst (-1), 1), (38, .ireturn, 1)]
noncomputable def mm_X2_whoIsNth : mv_M := (ic_X2_whoIsNth, fl_X2, [], [], [(118, 2, some 2, false, ff_X2_rank)], [(2, [true, true, true])], none)
noncomputable def ff_X2_whoIsNth : mv_F := mv_fn mv_rc mm_X2_whoIsNth mv_sh 400 3
theorem dk_X2_whoIsNth : mv_dk cX2_whoIsNth ic_X2_whoIsNth = true := by decide +kernel
set_option maxRecDepth 20000 in
theorem cc_X2_whoIsNth {ad : Nat → Nat → Value} {cA : Nat → ClassId} {D : va_G} {tys : List (ClassId × FieldType)} {A : Nat → Prop} (l : Launch) (hF : mv_Fix mv_sh mv_ids mv_ros ad cA tys A mv_rc) : mv_Met l yX2_whoIsNth cX2_whoIsNth 3 (some .int) mv_Ts (mv_rm 4) 2 false mv_sh mv_ids mv_ros ad cA mv_cl D tys A mv_rc mv_cr (mv_EX ad A) ff_X2_whoIsNth := mv_met_of (by decide +kernel) (by decide) hF mv_stok (mv_rzI (by decide +kernel)) mv_clok (mv_dk_ok dk_X2_whoIsNth) (mv_fk_ok fk_X2) (fun p e s m args below meth c Q hBg hX hR => ⟨fun _ h => absurd h List.not_mem_nil, fun _ h => absurd h List.not_mem_nil⟩) (fun p e s m args below meth c Q hBg hX hR hK => List.forall_mem_cons.mpr ⟨mv_cal_of (cc_X2_rank l hF) hBg hX hR hK mv_EX_ok hF mv_good mv_stok cw_X2_118.1 cw_X2_118.2.1 cw_X2_118.2.2 ⟨rfl, rfl, by exact Nat.le_of_ble_eq_true rfl, by exact Nat.le_of_ble_eq_true rfl⟩ ⟨Nat.zero_le _, Nat.zero_le _⟩, fun _ h => absurd h List.not_mem_nil⟩)
def ic_X2_seated : List (Nat × Instr × Nat) := [(0, .iconst 0, 1), (1, .istore_n 1, 1), (2, .iconst 0, 1), (3, .istore_n 2, 1), (4, .iload_n 2, 1), (5, .aload_n 0, 1), (6, .getfield 69, 3), (9, .if_icmp .ge 22, 3), (12, .aload_n 0, 1), (13, .getfield 29, 3), (16, .iload_n 2, 1), (17, .iaload, 1), (18, .iconst (-1), 1), (19, .if_icmp .eq 6, 3), (22, .iinc 1 1, 3), (25, .iinc 2 1, 3), (28, .goto (-24), 3), (31, .iload_n 1, 1), (32, .ireturn, 1)]
noncomputable def mm_X2_seated : mv_M := (ic_X2_seated, fl_X2, [], [], [], [(4, [true, true, true])], none)
noncomputable def ff_X2_seated : mv_F := mv_fn mv_rc mm_X2_seated mv_sh 400 3
theorem dk_X2_seated : mv_dk cX2_seated ic_X2_seated = true := by decide +kernel
set_option maxRecDepth 20000 in
theorem cc_X2_seated {ad : Nat → Nat → Value} {cA : Nat → ClassId} {D : va_G} {tys : List (ClassId × FieldType)} {A : Nat → Prop} (l : Launch) (hF : mv_Fix mv_sh mv_ids mv_ros ad cA tys A mv_rc) : mv_Met l yX2_seated cX2_seated 3 (some .int) mv_Ts (mv_rm 1) 1 false mv_sh mv_ids mv_ros ad cA mv_cl D tys A mv_rc mv_cr (mv_EX ad A) ff_X2_seated := mv_met_of (by decide +kernel) (by decide) hF mv_stok (mv_rzI (by decide +kernel)) mv_clok (mv_dk_ok dk_X2_seated) (mv_fk_ok fk_X2) (fun p e s m args below meth c Q hBg hX hR => ⟨fun _ h => absurd h List.not_mem_nil, fun _ h => absurd h List.not_mem_nil⟩) (fun p e s m args below meth c Q hBg hX hR hK => fun _ h => absurd h List.not_mem_nil)
def ic_X2_takes : List (Nat × Instr × Nat) := [(0, .aload_n 0, 1), (1, .iload_n 1, 1), (2, .invokevirtual 103, 3), (5, .ifCond .eq 23, 3), (8, .aload_n 0, 1), (9, .getfield 26, 3), (12, .iconst 0, 1), (13, .aaload, 1), (14, .iload_n 1, 1), (15, .iaload, 1), (16, .aload_n 0, 1), (17, .getfield 26, 3), (20, .iconst 2, 1), (21, .aaload, 1), (22, .iload_n 1, 1), (23, .iaload, 1), (24, .iadd, 1), (25, .goto 4, 3), (28, .iconst 0, 1), (29, .ireturn, 1)]
noncomputable def mm_X2_takes : mv_M := (ic_X2_takes, fl_X2, [], [], [(103, 2, some 2, false, ff_X2_isPerson)], [], none)
noncomputable def ff_X2_takes : mv_F := mv_fn mv_rc mm_X2_takes mv_sh 400 2
theorem dk_X2_takes : mv_dk cX2_takes ic_X2_takes = true := by decide +kernel
set_option maxRecDepth 20000 in
theorem cc_X2_takes {ad : Nat → Nat → Value} {cA : Nat → ClassId} {D : va_G} {tys : List (ClassId × FieldType)} {A : Nat → Prop} (l : Launch) (hF : mv_Fix mv_sh mv_ids mv_ros ad cA tys A mv_rc) : mv_Met l yX2_takes cX2_takes 2 (some .int) mv_Ts (mv_rm 2) 2 false mv_sh mv_ids mv_ros ad cA mv_cl D tys A mv_rc mv_cr (mv_EX ad A) ff_X2_takes := mv_met_of (by decide +kernel) (by decide) hF mv_stok (mv_rzI (by decide +kernel)) mv_clok (mv_dk_ok dk_X2_takes) (mv_fk_ok fk_X2) (fun p e s m args below meth c Q hBg hX hR => ⟨fun _ h => absurd h List.not_mem_nil, fun _ h => absurd h List.not_mem_nil⟩) (fun p e s m args below meth c Q hBg hX hR hK => List.forall_mem_cons.mpr ⟨mv_cal_of (cc_X2_isPerson l hF) hBg hX hR hK mv_EX_ok hF mv_good mv_stok cw_X2_103.1 cw_X2_103.2.1 cw_X2_103.2.2 ⟨rfl, rfl, by exact Nat.le_of_ble_eq_true rfl, by exact Nat.le_of_ble_eq_true rfl⟩ ⟨Nat.zero_le _, Nat.zero_le _⟩, fun _ h => absurd h List.not_mem_nil⟩)
set_option maxRecDepth 20000 in
theorem cw_X2_111 : mv_Cw RX2 111 yX2_takes cX2_takes 2 (some .int) (some 2) 2 := mv_cw_of (a := 1088) (b := 130) (c := 705) (d := 706) (mv_T 707 rfl rfl) (by decide +kernel)
def ic_X2_free : List (Nat × Instr × Nat) := [(0, .aload_n 0, 1), (1, .getfield 65, 3), (4, .istore_n 1, 1), (5, .iconst 0, 1), (6, .istore_n 2, 1), (7, .iload_n 2, 1), (8, .aload_n 0, 1), (9, .getfield 69, 3), (12, .if_icmp .ge 27, 3), (15, .aload_n 0, 1), (16, .getfield 29, 3), (19, .iload_n 2, 1), (20, .iaload, 1), (21, .iconst (-1), 1), (22, .if_icmp .eq 11, 3), (25, .iload_n 1, 1), (26, .aload_n 0, 1), (27, .iload_n 2, 1), (28, .invokevirtual 111, 3), (31, .isub, 1), (32, .istore_n 1, 1), (33, .iinc 2 1, 3), (36, .goto (-29), 3), (39, .iload_n 1, 1), (40, .ireturn, 1)]
noncomputable def mm_X2_free : mv_M := (ic_X2_free, fl_X2, [], [], [(111, 2, some 2, false, ff_X2_takes)], [(7, [true, true, true])], none)
noncomputable def ff_X2_free : mv_F := mv_fn mv_rc mm_X2_free mv_sh 400 3
theorem dk_X2_free : mv_dk cX2_free ic_X2_free = true := by decide +kernel
set_option maxRecDepth 20000 in
theorem cc_X2_free {ad : Nat → Nat → Value} {cA : Nat → ClassId} {D : va_G} {tys : List (ClassId × FieldType)} {A : Nat → Prop} (l : Launch) (hF : mv_Fix mv_sh mv_ids mv_ros ad cA tys A mv_rc) : mv_Met l yX2_free cX2_free 3 (some .int) mv_Ts (mv_rm 3) 1 false mv_sh mv_ids mv_ros ad cA mv_cl D tys A mv_rc mv_cr (mv_EX ad A) ff_X2_free := mv_met_of (by decide +kernel) (by decide) hF mv_stok (mv_rzI (by decide +kernel)) mv_clok (mv_dk_ok dk_X2_free) (mv_fk_ok fk_X2) (fun p e s m args below meth c Q hBg hX hR => ⟨fun _ h => absurd h List.not_mem_nil, fun _ h => absurd h List.not_mem_nil⟩) (fun p e s m args below meth c Q hBg hX hR hK => List.forall_mem_cons.mpr ⟨mv_cal_of (cc_X2_takes l hF) hBg hX hR hK mv_EX_ok hF mv_good mv_stok cw_X2_111.1 cw_X2_111.2.1 cw_X2_111.2.2 ⟨rfl, rfl, by exact Nat.le_of_ble_eq_true rfl, by exact Nat.le_of_ble_eq_true rfl⟩ ⟨Nat.zero_le _, Nat.zero_le _⟩, fun _ h => absurd h List.not_mem_nil⟩)
def ic_X2_rests : List (Nat × Instr × Nat) := [(0, .iconst 0, 1), (1, .istore_n 1, 1), (2, .iconst 0, 1), (3, .istore_n 2, 1), (4, .iload_n 2, 1), (5, .aload_n 0, 1), (6, .getfield 65, 3), (9, .if_icmp .ge 18, 3), (12, .iload_n 1, 1), (13, .aload_n 0, 1), (14, .getfield 9, 3), (17, .iload_n 2, 1), (18, .iaload, 1), (19, .iadd, 1), (20, .istore_n 1, 1), (21, .iinc 2 1, 3), (24, .goto (-20), 3), (27, .iload_n 1, 1), (28, .ireturn, 1)]
noncomputable def mm_X2_rests : mv_M := (ic_X2_rests, fl_X2, [], [], [], [(4, [true, true, true])], none)
noncomputable def ff_X2_rests : mv_F := mv_fn mv_rc mm_X2_rests mv_sh 400 3
theorem dk_X2_rests : mv_dk cX2_rests ic_X2_rests = true := by decide +kernel
set_option maxRecDepth 20000 in
theorem cc_X2_rests {ad : Nat → Nat → Value} {cA : Nat → ClassId} {D : va_G} {tys : List (ClassId × FieldType)} {A : Nat → Prop} (l : Launch) (hF : mv_Fix mv_sh mv_ids mv_ros ad cA tys A mv_rc) : mv_Met l yX2_rests cX2_rests 3 (some .int) mv_Ts (mv_rm 1) 1 false mv_sh mv_ids mv_ros ad cA mv_cl D tys A mv_rc mv_cr (mv_EX ad A) ff_X2_rests := mv_met_of (by decide +kernel) (by decide) hF mv_stok (mv_rzI (by decide +kernel)) mv_clok (mv_dk_ok dk_X2_rests) (mv_fk_ok fk_X2) (fun p e s m args below meth c Q hBg hX hR => ⟨fun _ h => absurd h List.not_mem_nil, fun _ h => absurd h List.not_mem_nil⟩) (fun p e s m args below meth c Q hBg hX hR hK => fun _ h => absurd h List.not_mem_nil)
set_option maxRecDepth 20000 in
theorem cw_X11_299 : mv_Cw RX11 299 yX2_whoIsNth cX2_whoIsNth 3 (some .int) (some 2) 2 := mv_cw_of (a := 1289) (b := 130) (c := 1290) (d := 1291) (mv_T 1292 rfl rfl) (by decide +kernel)
set_option maxRecDepth 20000 in
theorem cw_X11_302 : mv_Cw RX11 302 yX2_seated cX2_seated 3 (some .int) (some 2) 1 := mv_cw_of (a := 1294) (b := 130) (c := 1295) (d := 1296) (mv_T 1297 rfl rfl) (by decide +kernel)
set_option maxRecDepth 20000 in
theorem cw_X11_308 : mv_Cw RX11 308 yX2_free cX2_free 3 (some .int) (some 2) 1 := mv_cw_of (a := 1298) (b := 130) (c := 1299) (d := 1300) (mv_T 1301 rfl rfl) (by decide +kernel)
set_option maxRecDepth 20000 in
theorem cw_X11_311 : mv_Cw RX11 311 yX2_rests cX2_rests 3 (some .int) (some 2) 1 := mv_cw_of (a := 1302) (b := 130) (c := 1303) (d := 1304) (mv_T 1305 rfl rfl) (by decide +kernel)
def ic_X11_look : List (Nat × Instr × Nat) := [(0, .iload_n 1, 1), (1, .bipush 20, 2), (3, .if_icmp .lt 15, 3), (6, .aload_n 0, 1), (7, .getfield 12, 3), (10, .iload_n 1, 1), (11, .bipush 20, 2), (13, .isub, 1), (14, .invokevirtual 299, 3), (17, .ireturn, 1), (18, .iload_n 1, 1), (19, .tableswitch 154 0 10 #[57, 65, 73, 81, 89, 97, 108, 119, 130, 138, 146], 57), (76, .aload_n 0, 1), (77, .getfield 12, 3), (80, .getfield 88, 3), (83, .ireturn, 1), (84, .aload_n 0, 1), (85, .getfield 12, 3), (88, .getfield 104, 3), (91, .ireturn, 1), (92, .aload_n 0, 1), (93, .getfield 12, 3), (96, .invokevirtual 302, 3), (99, .ireturn, 1), (100, .aload_n 0, 1), (101, .getfield 12, 3), (104, .getfield 183, 3), (107, .ireturn, 1), (108, .aload_n 0, 1), (109, .getfield 12, 3), (112, .getfield 216, 3), (115, .ireturn, 1), (116, .aload_n 0, 1), (117, .getfield 12, 3), (120, .getfield 161, 3), (123, .getfield 176, 3), (126, .ireturn, 1), (127, .aload_n 0, 1), (128, .getfield 12, 3), (131, .getfield 165, 3), (134, .getfield 176, 3), (137, .ireturn, 1), (138, .aload_n 0, 1), (139, .getfield 12, 3), (142, .getfield 147, 3), (145, .getfield 158, 3), (148, .ireturn, 1), (149, .aload_n 0, 1), (150, .getfield 22, 3), (153, .getfield 305, 3), (156, .ireturn, 1), (157, .aload_n 0, 1), (158, .getfield 12, 3), (161, .invokevirtual 308, 3), (164, .ireturn, 1), (165, .aload_n 0, 1), (166, .getfield 12, 3), (169, .invokevirtual 311, 3), (172, .ireturn, 1), (173, .iconst (-1), 1), (174, .ireturn, 1)]
noncomputable def mm_X11_look : mv_M := (ic_X11_look, fl_X11, [], [], [(299, 2, some 2, false, ff_X2_whoIsNth), (302, 1, some 2, false, ff_X2_seated), (308, 1, some 2, false, ff_X2_free), (311, 1, some 2, false, ff_X2_rests)], [], none)
noncomputable def ff_X11_look : mv_F := mv_fn mv_rc mm_X11_look mv_sh 400 2
theorem dk_X11_look : mv_dk cX11_look ic_X11_look = true := by decide +kernel
set_option maxRecDepth 20000 in
theorem cc_X11_look {ad : Nat → Nat → Value} {cA : Nat → ClassId} {D : va_G} {tys : List (ClassId × FieldType)} {A : Nat → Prop} (l : Launch) (hF : mv_Fix mv_sh mv_ids mv_ros ad cA tys A mv_rc) : mv_Met l yX11_look cX11_look 2 (some .int) mv_Ts (mv_rm 5) 2 false mv_sh mv_ids mv_ros ad cA mv_cl D tys A mv_rc mv_cr (mv_EX ad A) ff_X11_look := mv_met_of (by decide +kernel) (by decide) hF mv_stok (mv_rzI (by decide +kernel)) mv_clok (mv_dk_ok dk_X11_look) (mv_fk_ok fk_X11) (fun p e s m args below meth c Q hBg hX hR => ⟨fun _ h => absurd h List.not_mem_nil, fun _ h => absurd h List.not_mem_nil⟩) (fun p e s m args below meth c Q hBg hX hR hK => List.forall_mem_cons.mpr ⟨mv_cal_of (cc_X2_whoIsNth l hF) hBg hX hR hK mv_EX_ok hF mv_good mv_stok cw_X11_299.1 cw_X11_299.2.1 cw_X11_299.2.2 ⟨rfl, rfl, by exact Nat.le_of_ble_eq_true rfl, by exact Nat.le_of_ble_eq_true rfl⟩ ⟨Nat.zero_le _, Nat.zero_le _⟩, List.forall_mem_cons.mpr ⟨mv_cal_of (cc_X2_seated l hF) hBg hX hR hK mv_EX_ok hF mv_good mv_stok cw_X11_302.1 cw_X11_302.2.1 cw_X11_302.2.2 ⟨rfl, rfl, by exact Nat.le_of_ble_eq_true rfl, by exact Nat.le_of_ble_eq_true rfl⟩ ⟨Nat.zero_le _, Nat.zero_le _⟩, List.forall_mem_cons.mpr ⟨mv_cal_of (cc_X2_free l hF) hBg hX hR hK mv_EX_ok hF mv_good mv_stok cw_X11_308.1 cw_X11_308.2.1 cw_X11_308.2.2 ⟨rfl, rfl, by exact Nat.le_of_ble_eq_true rfl, by exact Nat.le_of_ble_eq_true rfl⟩ ⟨Nat.zero_le _, Nat.zero_le _⟩, List.forall_mem_cons.mpr ⟨mv_cal_of (cc_X2_rests l hF) hBg hX hR hK mv_EX_ok hF mv_good mv_stok cw_X11_311.1 cw_X11_311.2.1 cw_X11_311.2.2 ⟨rfl, rfl, by exact Nat.le_of_ble_eq_true rfl, by exact Nat.le_of_ble_eq_true rfl⟩ ⟨Nat.zero_le _, Nat.zero_le _⟩, fun _ h => absurd h List.not_mem_nil⟩⟩⟩⟩)
def ic_X12_kept : List (Nat × Instr × Nat) := [(0, .aload_n 0, 1), (1, .aload_n 0, 1), (2, .getfield 496, 3), (5, .iconst 1, 1), (6, .iadd, 1), (7, .putfield 496, 3), (10, .aload_n 0, 1), (11, .getfield 499, 3), (14, .ifCond .ne 15, 3), (17, .aload_n 0, 1), (18, .getfield 123, 3), (21, .aload_n 0, 1), (22, .getfield 496, 3), (25, .iconst 1, 1), (26, .isub, 1), (27, .iaload, 1), (28, .ireturn, 1), (29, .aload_n 0, 1), (30, .getfield 123, 3), (33, .aload_n 0, 1), (34, .getfield 496, 3), (37, .iconst 1, 1), (38, .isub, 1), (39, .iload_n 1, 1), (40, .iastore, 1), (41, .iload_n 1, 1), (42, .ireturn, 1)]
noncomputable def mm_X12_kept : mv_M := (ic_X12_kept, fl_X12, [], [], [], [], none)
noncomputable def ff_X12_kept : mv_F := mv_fn mv_rc mm_X12_kept mv_sh 400 2
theorem dk_X12_kept : mv_dk cX12_kept ic_X12_kept = true := by decide +kernel
set_option maxRecDepth 20000 in
theorem cc_X12_kept {ad : Nat → Nat → Value} {cA : Nat → ClassId} {D : va_G} {tys : List (ClassId × FieldType)} {A : Nat → Prop} (l : Launch) (hF : mv_Fix mv_sh mv_ids mv_ros ad cA tys A mv_rc) : mv_Met l yX12_kept cX12_kept 2 (some .int) mv_Ts (mv_rm 1) 2 false mv_sh mv_ids mv_ros ad cA mv_cl D tys A mv_rc mv_cr (mv_EX ad A) ff_X12_kept := mv_met_of (by decide +kernel) (by decide) hF mv_stok (mv_rzI (by decide +kernel)) mv_clok (mv_dk_ok dk_X12_kept) (mv_fk_ok fk_X12) (fun p e s m args below meth c Q hBg hX hR => ⟨fun _ h => absurd h List.not_mem_nil, fun _ h => absurd h List.not_mem_nil⟩) (fun p e s m args below meth c Q hBg hX hR hK => fun _ h => absurd h List.not_mem_nil)
set_option maxRecDepth 20000 in
theorem cw_X12_502 : mv_Cw RX12 502 yX12_kept cX12_kept 2 (some .int) (some 12) 2 := mv_cw_of (a := 1981) (b := 143) (c := 1983) (d := 122) (mv_T 1984 rfl rfl) (by decide +kernel)
def ic_X12_keepsBench : List (Nat × Instr × Nat) := [(0, .aload_n 0, 1), (1, .aload_n 0, 1), (2, .aload_n 0, 1), (3, .getfield 136, 3), (6, .invokevirtual 502, 3), (9, .putfield 136, 3), (12, .iconst 0, 1), (13, .istore_n 1, 1), (14, .iload_n 1, 1), (15, .bipush 60, 2), (17, .if_icmp .gt 42, 3), (20, .aload_n 0, 1), (21, .getfield 19, 3), (24, .iload_n 1, 1), (25, .aload_n 0, 1), (26, .aload_n 0, 1), (27, .getfield 19, 3), (30, .iload_n 1, 1), (31, .baload, 1), (32, .ifCond .eq 7, 3), (35, .iconst 1, 1), (36, .goto 4, 3), (39, .iconst 0, 1), (40, .invokevirtual 502, 3), (43, .iconst 1, 1), (44, .if_icmp .ne 7, 3), (47, .iconst 1, 1), (48, .goto 4, 3), (51, .iconst 0, 1), (52, .bastore, 1), (53, .iinc 1 1, 3), (56, .goto (-42), 3), (59, .aload_n 0, 1), (60, .aload_n 0, 1), (61, .aload_n 0, 1), (62, .getfield 139, 3), (65, .invokevirtual 502, 3), (68, .putfield 139, 3), (71, .iconst 0, 1), (72, .istore_n 1, 1), (73, .iload_n 1, 1), (74, .bipush 10, 2), (76, .if_icmp .ge 89, 3), (79, .aload_n 0, 1), (80, .getfield 23, 3), (83, .iload_n 1, 1), (84, .aload_n 0, 1), (85, .aload_n 0, 1), (86, .getfield 23, 3), (89, .iload_n 1, 1), (90, .iaload, 1), (91, .invokevirtual 502, 3), (94, .iastore, 1), (95, .aload_n 0, 1), (96, .getfield 26, 3), (99, .iload_n 1, 1), (100, .aload_n 0, 1), (101, .aload_n 0, 1), (102, .getfield 26, 3), (105, .iload_n 1, 1), (106, .iaload, 1), (107, .invokevirtual 502, 3), (110, .iastore, 1), (111, .aload_n 0, 1), (112, .getfield 29, 3), (115, .iload_n 1, 1), (116, .aload_n 0, 1), (117, .aload_n 0, 1), (118, .getfield 29, 3), (121, .iload_n 1, 1), (122, .iaload, 1), (123, .invokevirtual 502, 3), (126, .iastore, 1), (127, .aload_n 0, 1), (128, .getfield 32, 3), (131, .iload_n 1, 1), (132, .aload_n 0, 1), (133, .aload_n 0, 1), (134, .getfield 32, 3), (137, .iload_n 1, 1), (138, .iaload, 1), (139, .invokevirtual 502, 3), (142, .iastore, 1), (143, .aload_n 0, 1), (144, .getfield 35, 3), (147, .iload_n 1, 1), (148, .aload_n 0, 1), (149, .aload_n 0, 1), (150, .getfield 35, 3), (153, .iload_n 1, 1), (154, .iaload, 1), (155, .invokevirtual 502, 3), (158, .iastore, 1), (159, .iinc 1 1, 3), (162, .goto (-89), 3), (165, .aload_n 0, 1), (166, .aload_n 0, 1), (167, .aload_n 0, 1), (168, .getfield 146, 3), (171, .invokevirtual 502, 3), (174, .putfield 146, 3), (177, .iconst 0, 1), (178, .istore_n 1, 1), (179, .iload_n 1, 1), (180, .bipush 72, 2), (182, .if_icmp .ge 25, 3), (185, .aload_n 0, 1), (186, .getfield 72, 3), (189, .iload_n 1, 1), (190, .aload_n 0, 1), (191, .aload_n 0, 1), (192, .getfield 72, 3), (195, .iload_n 1, 1), (196, .iaload, 1), (197, .invokevirtual 502, 3), (200, .iastore, 1), (201, .iinc 1 1, 3), (204, .goto (-25), 3), (207, .return_, 1)]
noncomputable def mm_X12_keepsBench : mv_M := (ic_X12_keepsBench, fl_X12, [], [], [(502, 2, some 12, false, ff_X12_kept)], [(14, [true, true]), (73, [true, true]), (179, [true, true])], none)
noncomputable def ff_X12_keepsBench : mv_F := mv_fn mv_rc mm_X12_keepsBench mv_sh 400 2
theorem dk_X12_keepsBench : mv_dk cX12_keepsBench ic_X12_keepsBench = true := by decide +kernel
set_option maxRecDepth 20000 in
theorem cc_X12_keepsBench {ad : Nat → Nat → Value} {cA : Nat → ClassId} {D : va_G} {tys : List (ClassId × FieldType)} {A : Nat → Prop} (l : Launch) (hF : mv_Fix mv_sh mv_ids mv_ros ad cA tys A mv_rc) : mv_Met l yX12_keepsBench cX12_keepsBench 2 none mv_Ts (mv_rm 2) 1 true mv_sh mv_ids mv_ros ad cA mv_cl D tys A mv_rc mv_cr (mv_EX ad A) ff_X12_keepsBench := mv_met_of (by decide +kernel) (by decide) hF mv_stok (mv_rzV (by decide +kernel)) mv_clok (mv_dk_ok dk_X12_keepsBench) (mv_fk_ok fk_X12) (fun p e s m args below meth c Q hBg hX hR => ⟨fun _ h => absurd h List.not_mem_nil, fun _ h => absurd h List.not_mem_nil⟩) (fun p e s m args below meth c Q hBg hX hR hK => List.forall_mem_cons.mpr ⟨mv_cal_of (cc_X12_kept l hF) hBg hX hR hK mv_EX_ok hF mv_good mv_stok cw_X12_502.1 cw_X12_502.2.1 cw_X12_502.2.2 ⟨rfl, rfl, by exact Nat.le_of_ble_eq_true rfl, by exact Nat.le_of_ble_eq_true rfl⟩ ⟨Nat.zero_le _, Nat.zero_le _⟩, fun _ h => absurd h List.not_mem_nil⟩)
def ic_X12_keepsLaw : List (Nat × Instr × Nat) := [(0, .aload_n 0, 1), (1, .getfield 47, 3), (4, .iload_n 1, 1), (5, .aload_n 0, 1), (6, .aload_n 0, 1), (7, .getfield 47, 3), (10, .iload_n 1, 1), (11, .iaload, 1), (12, .invokevirtual 502, 3), (15, .iastore, 1), (16, .bipush 16, 2), (18, .iload_n 1, 1), (19, .imul, 1), (20, .istore_n 2, 1), (21, .iload_n 2, 1), (22, .bipush 16, 2), (24, .iload_n 1, 1), (25, .imul, 1), (26, .bipush 16, 2), (28, .iadd, 1), (29, .if_icmp .ge 57, 3), (32, .aload_n 0, 1), (33, .getfield 50, 3), (36, .iload_n 2, 1), (37, .aload_n 0, 1), (38, .aload_n 0, 1), (39, .getfield 50, 3), (42, .iload_n 2, 1), (43, .iaload, 1), (44, .invokevirtual 502, 3), (47, .iastore, 1), (48, .aload_n 0, 1), (49, .getfield 53, 3), (52, .iload_n 2, 1), (53, .aload_n 0, 1), (54, .aload_n 0, 1), (55, .getfield 53, 3), (58, .iload_n 2, 1), (59, .iaload, 1), (60, .invokevirtual 502, 3), (63, .iastore, 1), (64, .aload_n 0, 1), (65, .getfield 56, 3), (68, .iload_n 2, 1), (69, .aload_n 0, 1), (70, .aload_n 0, 1), (71, .getfield 56, 3), (74, .iload_n 2, 1), (75, .iaload, 1), (76, .invokevirtual 502, 3), (79, .iastore, 1), (80, .iinc 2 1, 3), (83, .goto (-62), 3), (86, .sipush 400, 3), (89, .iload_n 1, 1), (90, .imul, 1), (91, .istore_n 2, 1), (92, .iload_n 2, 1), (93, .sipush 400, 3), (96, .iload_n 1, 1), (97, .imul, 1), (98, .sipush 400, 3), (101, .iadd, 1), (102, .if_icmp .ge 41, 3), (105, .aload_n 0, 1), (106, .getfield 59, 3), (109, .iload_n 2, 1), (110, .aload_n 0, 1), (111, .aload_n 0, 1), (112, .getfield 59, 3), (115, .iload_n 2, 1), (116, .iaload, 1), (117, .invokevirtual 502, 3), (120, .iastore, 1), (121, .aload_n 0, 1), (122, .getfield 62, 3), (125, .iload_n 2, 1), (126, .aload_n 0, 1), (127, .aload_n 0, 1), (128, .getfield 62, 3), (131, .iload_n 2, 1), (132, .iaload, 1), (133, .invokevirtual 502, 3), (136, .iastore, 1), (137, .iinc 2 1, 3), (140, .goto (-48), 3), (143, .return_, 1)]
noncomputable def mm_X12_keepsLaw : mv_M := (ic_X12_keepsLaw, fl_X12, [], [], [(502, 2, some 12, false, ff_X12_kept)], [(21, [true, true, true]), (92, [true, true, true])], none)
noncomputable def ff_X12_keepsLaw : mv_F := mv_fn mv_rc mm_X12_keepsLaw mv_sh 400 3
theorem dk_X12_keepsLaw : mv_dk cX12_keepsLaw ic_X12_keepsLaw = true := by decide +kernel
set_option maxRecDepth 20000 in
theorem cc_X12_keepsLaw {ad : Nat → Nat → Value} {cA : Nat → ClassId} {D : va_G} {tys : List (ClassId × FieldType)} {A : Nat → Prop} (l : Launch) (hF : mv_Fix mv_sh mv_ids mv_ros ad cA tys A mv_rc) : mv_Met l yX12_keepsLaw cX12_keepsLaw 3 none mv_Ts (mv_rm 2) 2 true mv_sh mv_ids mv_ros ad cA mv_cl D tys A mv_rc mv_cr (mv_EX ad A) ff_X12_keepsLaw := mv_met_of (by decide +kernel) (by decide) hF mv_stok (mv_rzV (by decide +kernel)) mv_clok (mv_dk_ok dk_X12_keepsLaw) (mv_fk_ok fk_X12) (fun p e s m args below meth c Q hBg hX hR => ⟨fun _ h => absurd h List.not_mem_nil, fun _ h => absurd h List.not_mem_nil⟩) (fun p e s m args below meth c Q hBg hX hR hK => List.forall_mem_cons.mpr ⟨mv_cal_of (cc_X12_kept l hF) hBg hX hR hK mv_EX_ok hF mv_good mv_stok cw_X12_502.1 cw_X12_502.2.1 cw_X12_502.2.2 ⟨rfl, rfl, by exact Nat.le_of_ble_eq_true rfl, by exact Nat.le_of_ble_eq_true rfl⟩ ⟨Nat.zero_le _, Nat.zero_le _⟩, fun _ h => absurd h List.not_mem_nil⟩)
set_option maxRecDepth 20000 in
theorem cw_X12_508 : mv_Cw RX12 508 yX12_keepsBench cX12_keepsBench 2 none (some 12) 1 := mv_cw_of (a := 1985) (b := 143) (c := 1987) (d := 123) (mv_T 1988 rfl rfl) (by decide +kernel)
set_option maxRecDepth 20000 in
theorem cw_X12_511 : mv_Cw RX12 511 yX12_keepsLaw cX12_keepsLaw 3 none (some 12) 2 := mv_cw_of (a := 1989) (b := 143) (c := 1991) (d := 124) (mv_T 1992 rfl rfl) (by decide +kernel)
def ic_X12_image : List (Nat × Instr × Nat) := [(0, .aload_n 0, 1), (1, .iconst 0, 1), (2, .putfield 126, 3), (5, .iload_n 1, 1), (6, .ifCond .ne 12, 3), (9, .aload_n 0, 1), (10, .getfield 505, 3), (13, .ifCond .ne 5, 3), (16, .iconst 0, 1), (17, .ireturn, 1), (18, .aload_n 0, 1), (19, .iload_n 1, 1), (20, .putfield 499, 3), (23, .aload_n 0, 1), (24, .iconst 1, 1), (25, .putfield 505, 3), (28, .aload_n 0, 1), (29, .iconst 0, 1), (30, .putfield 496, 3), (33, .iconst 0, 1), (34, .istore_n 2, 1), (35, .iload_n 2, 1), (36, .bipush 72, 2), (38, .if_icmp .ge 25, 3), (41, .aload_n 0, 1), (42, .getfield 7, 3), (45, .iload_n 2, 1), (46, .aload_n 0, 1), (47, .aload_n 0, 1), (48, .getfield 7, 3), (51, .iload_n 2, 1), (52, .iaload, 1), (53, .invokevirtual 502, 3), (56, .iastore, 1), (57, .iinc 2 1, 3), (60, .goto (-25), 3), (63, .aload_n 0, 1), (64, .invokevirtual 508, 3), (67, .iconst 0, 1), (68, .istore_n 2, 1), (69, .iload_n 2, 1), (70, .sipush 600, 3), (73, .if_icmp .ge 25, 3), (76, .aload_n 0, 1), (77, .getfield 38, 3), (80, .iload_n 2, 1), (81, .aload_n 0, 1), (82, .aload_n 0, 1), (83, .getfield 38, 3), (86, .iload_n 2, 1), (87, .iaload, 1), (88, .invokevirtual 502, 3), (91, .iastore, 1), (92, .iinc 2 1, 3), (95, .goto (-26), 3), (98, .aload_n 0, 1), (99, .iconst 0, 1), (100, .invokevirtual 511, 3), (103, .aload_n 0, 1), (104, .iconst 1, 1), (105, .invokevirtual 511, 3), (108, .iload_n 1, 1), (109, .ifCond .ne 8, 3), (112, .aload_n 0, 1), (113, .iconst 0, 1), (114, .putfield 129, 3), (117, .iconst 1, 1), (118, .ireturn, 1)]
noncomputable def mm_X12_image : mv_M := (ic_X12_image, fl_X12, [], [], [(502, 2, some 12, false, ff_X12_kept), (508, 1, some 12, true, ff_X12_keepsBench), (511, 2, some 12, true, ff_X12_keepsLaw)], [(35, [true, true, true]), (69, [true, true, true])], (some (0, 1)))
noncomputable def ff_X12_image : mv_F := mv_fn mv_rc mm_X12_image mv_sh 400 3
theorem dk_X12_image : mv_dk cX12_image ic_X12_image = true := by decide +kernel
set_option maxRecDepth 20000 in
theorem cc_X12_image {ad : Nat → Nat → Value} {cA : Nat → ClassId} {D : va_G} {tys : List (ClassId × FieldType)} {A : Nat → Prop} (l : Launch) (hF : mv_Fix mv_sh mv_ids mv_ros ad cA tys A mv_rc) : mv_Met l yX12_image cX12_image 3 (some .boolean) mv_Ts (mv_rm 3) 2 false mv_sh mv_ids mv_ros ad cA mv_cl D tys A mv_rc mv_cr (mv_EX ad A) ff_X12_image := mv_met_of (by decide +kernel) (by decide) hF mv_stok (mv_rzZ (by decide +kernel) rfl) mv_clok (mv_dk_ok dk_X12_image) (mv_fk_ok fk_X12) (fun p e s m args below meth c Q hBg hX hR => ⟨fun _ h => absurd h List.not_mem_nil, fun _ h => absurd h List.not_mem_nil⟩) (fun p e s m args below meth c Q hBg hX hR hK => List.forall_mem_cons.mpr ⟨mv_cal_of (cc_X12_kept l hF) hBg hX hR hK mv_EX_ok hF mv_good mv_stok cw_X12_502.1 cw_X12_502.2.1 cw_X12_502.2.2 ⟨rfl, rfl, by exact Nat.le_of_ble_eq_true rfl, by exact Nat.le_of_ble_eq_true rfl⟩ ⟨Nat.zero_le _, Nat.zero_le _⟩, List.forall_mem_cons.mpr ⟨mv_cal_of (cc_X12_keepsBench l hF) hBg hX hR hK mv_EX_ok hF mv_good mv_stok cw_X12_508.1 cw_X12_508.2.1 cw_X12_508.2.2 ⟨rfl, rfl, by exact Nat.le_of_ble_eq_true rfl, by exact Nat.le_of_ble_eq_true rfl⟩ ⟨Nat.zero_le _, Nat.zero_le _⟩, List.forall_mem_cons.mpr ⟨mv_cal_of (cc_X12_keepsLaw l hF) hBg hX hR hK mv_EX_ok hF mv_good mv_stok cw_X12_511.1 cw_X12_511.2.1 cw_X12_511.2.2 ⟨rfl, rfl, by exact Nat.le_of_ble_eq_true rfl, by exact Nat.le_of_ble_eq_true rfl⟩ ⟨Nat.zero_le _, Nat.zero_le _⟩, fun _ h => absurd h List.not_mem_nil⟩⟩⟩)
def ic_X5_copyFrom : List (Nat × Instr × Nat) := [(0, .aload_n 0, 1), (1, .aload_n 1, 1), (2, .getfield 27, 3), (5, .putfield 27, 3), (8, .aload_n 0, 1), (9, .aload_n 1, 1), (10, .getfield 31, 3), (13, .putfield 31, 3), (16, .aload_n 1, 1), (17, .getfield 11, 3), (20, .iconst 0, 1), (21, .aload_n 0, 1), (22, .getfield 11, 3), (25, .iconst 0, 1), (26, .aload_n 0, 1), (27, .getfield 11, 3), (30, .arraylength, 1), (31, .invokestatic 34, 3), (34, .aload_n 1, 1), (35, .getfield 15, 3), (38, .iconst 0, 1), (39, .aload_n 0, 1), (40, .getfield 15, 3), (43, .iconst 0, 1), (44, .bipush 16, 2), (46, .invokestatic 34, 3), (49, .aload_n 1, 1), (50, .getfield 18, 3), (53, .iconst 0, 1), (54, .aload_n 0, 1), (55, .getfield 18, 3), (58, .iconst 0, 1), (59, .bipush 16, 2), (61, .invokestatic 34, 3), (64, .aload_n 1, 1), (65, .getfield 21, 3), (68, .iconst 0, 1), (69, .aload_n 0, 1), (70, .getfield 21, 3), (73, .iconst 0, 1), (74, .bipush 16, 2), (76, .invokestatic 34, 3), (79, .return_, 1)]
noncomputable def mm_X5_copyFrom : mv_M := (ic_X5_copyFrom, fl_X5, [], [], [(34, 5, none, true, mv_acp mv_sh)], [], none)
noncomputable def ff_X5_copyFrom : mv_F := mv_fn mv_rc mm_X5_copyFrom mv_sh 400 2
theorem dk_X5_copyFrom : mv_dk cX5_copyFrom ic_X5_copyFrom = true := by decide +kernel
set_option maxRecDepth 20000 in
theorem cc_X5_copyFrom {ad : Nat → Nat → Value} {cA : Nat → ClassId} {D : va_G} {tys : List (ClassId × FieldType)} {A : Nat → Prop} (l : Launch) (hF : mv_Fix mv_sh mv_ids mv_ros ad cA tys A mv_rc) : mv_Met l yX5_copyFrom cX5_copyFrom 2 none mv_Ts (mv_rm 1) 2 true mv_sh mv_ids mv_ros ad cA mv_cl D tys A mv_rc mv_cr (mv_EX ad A) ff_X5_copyFrom := mv_met_of (by decide +kernel) (by decide) hF mv_stok (mv_rzV (by decide +kernel)) mv_clok (mv_dk_ok dk_X5_copyFrom) (mv_fk_ok fk_X5) (fun p e s m args below meth c Q hBg hX hR => ⟨fun _ h => absurd h List.not_mem_nil, fun _ h => absurd h List.not_mem_nil⟩) (fun p e s m args below meth c Q hBg hX hR hK => List.forall_mem_cons.mpr ⟨mv_cal_acp (cr := mv_cr) hF hBg hK ⟨mv_T 1050 rfl rfl, mv_T 688 rfl rfl, mv_T 687 rfl rfl, mv_T 144 rfl rfl⟩ ⟨by decide, by decide⟩, fun _ h => absurd h List.not_mem_nil⟩)
end
section
def ic_X3_copyFrom : List (Nat × Instr × Nat) := [(0, .aload_n 0, 1), (1, .aload_n 1, 1), (2, .getfield 21, 3), (5, .putfield 21, 3), (8, .aload_n 1, 1), (9, .getfield 9, 3), (12, .iconst 0, 1), (13, .aload_n 0, 1), (14, .getfield 9, 3), (17, .iconst 0, 1), (18, .bipush 24, 2), (20, .invokestatic 25, 3), (23, .aload_n 1, 1), (24, .getfield 15, 3), (27, .iconst 0, 1), (28, .aload_n 0, 1), (29, .getfield 15, 3), (32, .iconst 0, 1), (33, .bipush 24, 2), (35, .invokestatic 25, 3), (38, .aload_n 1, 1), (39, .getfield 18, 3), (42, .iconst 0, 1), (43, .aload_n 0, 1), (44, .getfield 18, 3), (47, .iconst 0, 1), (48, .bipush 24, 2), (50, .invokestatic 25, 3), (53, .return_, 1)]
noncomputable def mm_X3_copyFrom : mv_M := (ic_X3_copyFrom, fl_X3, [], [], [(25, 5, none, true, mv_acp mv_sh)], [], none)
noncomputable def ff_X3_copyFrom : mv_F := mv_fn mv_rc mm_X3_copyFrom mv_sh 400 2
theorem dk_X3_copyFrom : mv_dk cX3_copyFrom ic_X3_copyFrom = true := by decide +kernel
set_option maxRecDepth 20000 in
theorem cc_X3_copyFrom {ad : Nat → Nat → Value} {cA : Nat → ClassId} {D : va_G} {tys : List (ClassId × FieldType)} {A : Nat → Prop} (l : Launch) (hF : mv_Fix mv_sh mv_ids mv_ros ad cA tys A mv_rc) : mv_Met l yX3_copyFrom cX3_copyFrom 2 none mv_Ts (mv_rm 1) 2 true mv_sh mv_ids mv_ros ad cA mv_cl D tys A mv_rc mv_cr (mv_EX ad A) ff_X3_copyFrom := mv_met_of (by decide +kernel) (by decide) hF mv_stok (mv_rzV (by decide +kernel)) mv_clok (mv_dk_ok dk_X3_copyFrom) (mv_fk_ok fk_X3) (fun p e s m args below meth c Q hBg hX hR => ⟨fun _ h => absurd h List.not_mem_nil, fun _ h => absurd h List.not_mem_nil⟩) (fun p e s m args below meth c Q hBg hX hR hK => List.forall_mem_cons.mpr ⟨mv_cal_acp (cr := mv_cr) hF hBg hK ⟨mv_T 1045 rfl rfl, mv_T 688 rfl rfl, mv_T 687 rfl rfl, mv_T 144 rfl rfl⟩ ⟨by decide, by decide⟩, fun _ h => absurd h List.not_mem_nil⟩)
set_option maxRecDepth 20000 in
theorem cw_X2_96 : mv_Cw RX2 96 yX5_copyFrom cX5_copyFrom 2 none (some 5) 2 := mv_cw_of (a := 1283) (b := 131) (c := 1047) (d := 1048) (mv_T 1049 rfl rfl) (by decide +kernel)
set_option maxRecDepth 20000 in
theorem cw_X2_100 : mv_Cw RX2 100 yX3_copyFrom cX3_copyFrom 2 none (some 3) 2 := mv_cw_of (a := 1284) (b := 132) (c := 1042) (d := 1043) (mv_T 1044 rfl rfl) (by decide +kernel)
def ic_X2_copyFrom : List (Nat × Instr × Nat) := [(0, .aload_n 0, 1), (1, .aload_n 1, 1), (2, .getfield 65, 3), (5, .putfield 65, 3), (8, .aload_n 0, 1), (9, .aload_n 1, 1), (10, .getfield 69, 3), (13, .putfield 69, 3), (16, .aload_n 0, 1), (17, .aload_n 1, 1), (18, .getfield 72, 3), (21, .putfield 72, 3), (24, .aload_n 0, 1), (25, .aload_n 1, 1), (26, .getfield 75, 3), (29, .putfield 75, 3), (32, .aload_n 1, 1), (33, .getfield 9, 3), (36, .iconst 0, 1), (37, .aload_n 0, 1), (38, .getfield 9, 3), (41, .iconst 0, 1), (42, .bipush 60, 2), (44, .invokestatic 90, 3), (47, .aload_n 1, 1), (48, .getfield 15, 3), (51, .iconst 0, 1), (52, .aload_n 0, 1), (53, .getfield 15, 3), (56, .iconst 0, 1), (57, .bipush 60, 2), (59, .invokestatic 90, 3), (62, .aload_n 1, 1), (63, .getfield 18, 3), (66, .iconst 0, 1), (67, .aload_n 0, 1), (68, .getfield 18, 3), (71, .iconst 0, 1), (72, .bipush 60, 2), (74, .invokestatic 90, 3), (77, .aload_n 1, 1), (78, .getfield 29, 3), (81, .iconst 0, 1), (82, .aload_n 0, 1), (83, .getfield 29, 3), (86, .iconst 0, 1), (87, .bipush 10, 2), (89, .invokestatic 90, 3), (92, .iconst 0, 1), (93, .istore_n 2, 1), (94, .iload_n 2, 1), (95, .aload_n 0, 1), (96, .getfield 26, 3), (99, .arraylength, 1), (100, .if_icmp .ge 28, 3), (103, .aload_n 1, 1), (104, .getfield 26, 3), (107, .iload_n 2, 1), (108, .aaload, 1), (109, .iconst 0, 1), (110, .aload_n 0, 1), (111, .getfield 26, 3), (114, .iload_n 2, 1), (115, .aaload, 1), (116, .iconst 0, 1), (117, .bipush 10, 2), (119, .invokestatic 90, 3), (122, .iinc 2 1, 3), (125, .goto (-31), 3), (128, .iconst 0, 1), (129, .istore_n 2, 1), (130, .iload_n 2, 1), (131, .aload_n 0, 1), (132, .getfield 32, 3), (135, .arraylength, 1), (136, .if_icmp .ge 29, 3), (139, .aload_n 1, 1), (140, .getfield 32, 3), (143, .iload_n 2, 1), (144, .aaload, 1), (145, .iconst 0, 1), (146, .aload_n 0, 1), (147, .getfield 32, 3), (150, .iload_n 2, 1), (151, .aaload, 1), (152, .iconst 0, 1), (153, .sipush 150, 3), (156, .invokestatic 90, 3), (159, .iinc 2 1, 3), (162, .goto (-32), 3), (165, .aload_n 0, 1), (166, .getfield 38, 3), (169, .aload_n 1, 1), (170, .getfield 38, 3), (173, .invokevirtual 96, 3), (176, .aload_n 0, 1), (177, .getfield 42, 3), (180, .aload_n 1, 1), (181, .getfield 42, 3), (184, .invokevirtual 96, 3), (187, .aload_n 0, 1), (188, .getfield 48, 3), (191, .aload_n 1, 1), (192, .getfield 48, 3), (195, .invokevirtual 100, 3), (198, .return_, 1)]
noncomputable def mm_X2_copyFrom : mv_M := (ic_X2_copyFrom, fl_X2, [], [], [(90, 5, none, true, mv_acp mv_sh), (96, 2, some 5, true, ff_X5_copyFrom), (100, 2, some 3, true, ff_X3_copyFrom)], [(94, [true, true, true]), (130, [true, true, true])], none)
noncomputable def ff_X2_copyFrom : mv_F := mv_fn mv_rc mm_X2_copyFrom mv_sh 400 3
theorem dk_X2_copyFrom : mv_dk cX2_copyFrom ic_X2_copyFrom = true := by decide +kernel
set_option maxRecDepth 20000 in
theorem cc_X2_copyFrom {ad : Nat → Nat → Value} {cA : Nat → ClassId} {D : va_G} {tys : List (ClassId × FieldType)} {A : Nat → Prop} (l : Launch) (hF : mv_Fix mv_sh mv_ids mv_ros ad cA tys A mv_rc) : mv_Met l yX2_copyFrom cX2_copyFrom 3 none mv_Ts (mv_rm 2) 2 true mv_sh mv_ids mv_ros ad cA mv_cl D tys A mv_rc mv_cr (mv_EX ad A) ff_X2_copyFrom := mv_met_of (by decide +kernel) (by decide) hF mv_stok (mv_rzV (by decide +kernel)) mv_clok (mv_dk_ok dk_X2_copyFrom) (mv_fk_ok fk_X2) (fun p e s m args below meth c Q hBg hX hR => ⟨fun _ h => absurd h List.not_mem_nil, fun _ h => absurd h List.not_mem_nil⟩) (fun p e s m args below meth c Q hBg hX hR hK => List.forall_mem_cons.mpr ⟨mv_cal_acp (cr := mv_cr) hF hBg hK ⟨mv_T 1282 rfl rfl, mv_T 688 rfl rfl, mv_T 687 rfl rfl, mv_T 144 rfl rfl⟩ ⟨by decide, by decide⟩, List.forall_mem_cons.mpr ⟨mv_cal_of (cc_X5_copyFrom l hF) hBg hX hR hK mv_EX_ok hF mv_good mv_stok cw_X2_96.1 cw_X2_96.2.1 cw_X2_96.2.2 ⟨rfl, rfl, by exact Nat.le_of_ble_eq_true rfl, by exact Nat.le_of_ble_eq_true rfl⟩ ⟨Nat.zero_le _, Nat.zero_le _⟩, List.forall_mem_cons.mpr ⟨mv_cal_of (cc_X3_copyFrom l hF) hBg hX hR hK mv_EX_ok hF mv_good mv_stok cw_X2_100.1 cw_X2_100.2.1 cw_X2_100.2.2 ⟨rfl, rfl, by exact Nat.le_of_ble_eq_true rfl, by exact Nat.le_of_ble_eq_true rfl⟩ ⟨Nat.zero_le _, Nat.zero_le _⟩, fun _ h => absurd h List.not_mem_nil⟩⟩⟩)
def ic_X6_forget : List (Nat × Instr × Nat) := [(0, .aload_n 0, 1), (1, .iconst 0, 1), (2, .putfield 26, 3), (5, .return_, 1)]
noncomputable def mm_X6_forget : mv_M := (ic_X6_forget, fl_X6, [], [], [], [], none)
noncomputable def ff_X6_forget : mv_F := mv_fn mv_rc mm_X6_forget mv_sh 400 1
theorem dk_X6_forget : mv_dk cX6_forget ic_X6_forget = true := by decide +kernel
set_option maxRecDepth 20000 in
theorem cc_X6_forget {ad : Nat → Nat → Value} {cA : Nat → ClassId} {D : va_G} {tys : List (ClassId × FieldType)} {A : Nat → Prop} (l : Launch) (hF : mv_Fix mv_sh mv_ids mv_ros ad cA tys A mv_rc) : mv_Met l yX6_forget cX6_forget 1 none mv_Ts (mv_rm 1) 1 true mv_sh mv_ids mv_ros ad cA mv_cl D tys A mv_rc mv_cr (mv_EX ad A) ff_X6_forget := mv_met_of (by decide +kernel) (by decide) hF mv_stok (mv_rzV (by decide +kernel)) mv_clok (mv_dk_ok dk_X6_forget) (mv_fk_ok fk_X6) (fun p e s m args below meth c Q hBg hX hR => ⟨fun _ h => absurd h List.not_mem_nil, fun _ h => absurd h List.not_mem_nil⟩) (fun p e s m args below meth c Q hBg hX hR hK => fun _ h => absurd h List.not_mem_nil)
set_option maxRecDepth 20000 in
theorem cw_X11_293 : mv_Cw RX11 293 yX2_copyFrom cX2_copyFrom 3 none (some 2) 2 := mv_cw_of (a := 1278) (b := 130) (c := 1279) (d := 1280) (mv_T 1281 rfl rfl) (by decide +kernel)
set_option maxRecDepth 20000 in
theorem cw_X11_85 : mv_Cw RX11 85 yX6_forget cX6_forget 1 none (some 6) 1 := mv_cw_of (a := 631) (b := 135) (c := 632) (d := 633) (mv_T 634 rfl rfl) (by decide +kernel)
def ic_X11_image : List (Nat × Instr × Nat) := [(0, .iload_n 1, 1), (1, .ifCond .eq 21, 3), (4, .aload_n 0, 1), (5, .getfield 16, 3), (8, .aload_n 0, 1), (9, .getfield 12, 3), (12, .invokevirtual 293, 3), (15, .aload_n 0, 1), (16, .iconst 1, 1), (17, .putfield 295, 3), (20, .iconst 1, 1), (21, .ireturn, 1), (22, .aload_n 0, 1), (23, .getfield 295, 3), (26, .ifCond .ne 5, 3), (29, .iconst 0, 1), (30, .ireturn, 1), (31, .aload_n 0, 1), (32, .getfield 12, 3), (35, .aload_n 0, 1), (36, .getfield 16, 3), (39, .invokevirtual 293, 3), (42, .aload_n 0, 1), (43, .getfield 22, 3), (46, .invokevirtual 85, 3), (49, .iconst 1, 1), (50, .ireturn, 1)]
noncomputable def mm_X11_image : mv_M := (ic_X11_image, fl_X11, [], [], [(293, 2, some 2, true, ff_X2_copyFrom), (85, 1, some 6, true, ff_X6_forget)], [], (some (0, 1)))
noncomputable def ff_X11_image : mv_F := mv_fn mv_rc mm_X11_image mv_sh 400 2
theorem dk_X11_image : mv_dk cX11_image ic_X11_image = true := by decide +kernel
set_option maxRecDepth 20000 in
theorem cc_X11_image {ad : Nat → Nat → Value} {cA : Nat → ClassId} {D : va_G} {tys : List (ClassId × FieldType)} {A : Nat → Prop} (l : Launch) (hF : mv_Fix mv_sh mv_ids mv_ros ad cA tys A mv_rc) : mv_Met l yX11_image cX11_image 2 (some .boolean) mv_Ts (mv_rm 3) 2 false mv_sh mv_ids mv_ros ad cA mv_cl D tys A mv_rc mv_cr (mv_EX ad A) ff_X11_image := mv_met_of (by decide +kernel) (by decide) hF mv_stok (mv_rzZ (by decide +kernel) rfl) mv_clok (mv_dk_ok dk_X11_image) (mv_fk_ok fk_X11) (fun p e s m args below meth c Q hBg hX hR => ⟨fun _ h => absurd h List.not_mem_nil, fun _ h => absurd h List.not_mem_nil⟩) (fun p e s m args below meth c Q hBg hX hR hK => List.forall_mem_cons.mpr ⟨mv_cal_of (cc_X2_copyFrom l hF) hBg hX hR hK mv_EX_ok hF mv_good mv_stok cw_X11_293.1 cw_X11_293.2.1 cw_X11_293.2.2 ⟨rfl, rfl, by exact Nat.le_of_ble_eq_true rfl, by exact Nat.le_of_ble_eq_true rfl⟩ ⟨Nat.zero_le _, Nat.zero_le _⟩, List.forall_mem_cons.mpr ⟨mv_cal_of (cc_X6_forget l hF) hBg hX hR hK mv_EX_ok hF mv_good mv_stok cw_X11_85.1 cw_X11_85.2.1 cw_X11_85.2.2 ⟨rfl, rfl, by exact Nat.le_of_ble_eq_true rfl, by exact Nat.le_of_ble_eq_true rfl⟩ ⟨Nat.zero_le _, Nat.zero_le _⟩, fun _ h => absurd h List.not_mem_nil⟩⟩)
def ic_X12_undo : List (Nat × Instr × Nat) := [(0, .aload_n 0, 1), (1, .iconst 0, 1), (2, .putfield 126, 3), (5, .aload_n 0, 1), (6, .getfield 129, 3), (9, .ifCond .ne 5, 3), (12, .iconst 0, 1), (13, .ireturn, 1), (14, .aload_n 0, 1), (15, .aload_n 0, 1), (16, .getfield 129, 3), (19, .iconst 1, 1), (20, .isub, 1), (21, .putfield 129, 3), (24, .iconst 0, 1), (25, .istore_n 1, 1), (26, .iload_n 1, 1), (27, .bipush 72, 2), (29, .if_icmp .ge 29, 3), (32, .aload_n 0, 1), (33, .getfield 7, 3), (36, .iload_n 1, 1), (37, .aload_n 0, 1), (38, .getfield 13, 3), (41, .bipush 72, 2), (43, .aload_n 0, 1), (44, .getfield 129, 3), (47, .imul, 1), (48, .iload_n 1, 1), (49, .iadd, 1), (50, .iaload, 1), (51, .iastore, 1), (52, .iinc 1 1, 3), (55, .goto (-29), 3), (58, .iconst 1, 1), (59, .ireturn, 1)]
noncomputable def mm_X12_undo : mv_M := (ic_X12_undo, fl_X12, [], [], [], [(26, [true, true])], (some (0, 1)))
noncomputable def ff_X12_undo : mv_F := mv_fn mv_rc mm_X12_undo mv_sh 400 2
theorem dk_X12_undo : mv_dk cX12_undo ic_X12_undo = true := by decide +kernel
set_option maxRecDepth 20000 in
theorem cc_X12_undo {ad : Nat → Nat → Value} {cA : Nat → ClassId} {D : va_G} {tys : List (ClassId × FieldType)} {A : Nat → Prop} (l : Launch) (hF : mv_Fix mv_sh mv_ids mv_ros ad cA tys A mv_rc) : mv_Met l yX12_undo cX12_undo 2 (some .boolean) mv_Ts (mv_rm 1) 1 false mv_sh mv_ids mv_ros ad cA mv_cl D tys A mv_rc mv_cr (mv_EX ad A) ff_X12_undo := mv_met_of (by decide +kernel) (by decide) hF mv_stok (mv_rzZ (by decide +kernel) rfl) mv_clok (mv_dk_ok dk_X12_undo) (mv_fk_ok fk_X12) (fun p e s m args below meth c Q hBg hX hR => ⟨fun _ h => absurd h List.not_mem_nil, fun _ h => absurd h List.not_mem_nil⟩) (fun p e s m args below meth c Q hBg hX hR hK => fun _ h => absurd h List.not_mem_nil)
def ic_X6_load : List (Nat × Instr × Nat) := [(0, .iload_n 2, 1), (1, .ifCond .lt 9, 3), (4, .iload_n 2, 1), (5, .bipush 6, 2), (7, .if_icmp .le 4, 3), (10, .return_, 1), (11, .aload_n 0, 1), (12, .getfield 13, 3), (15, .iload_n 2, 1), (16, .aaload, 1), (17, .iconst 0, 1), (18, .aload_n 1, 1), (19, .getfield 46, 3), (22, .iconst 0, 1), (23, .bipush 10, 2), (25, .invokestatic 50, 3), (28, .aload_n 0, 1), (29, .getfield 16, 3), (32, .iload_n 2, 1), (33, .aaload, 1), (34, .iconst 0, 1), (35, .aload_n 1, 1), (36, .getfield 56, 3), (39, .iconst 0, 1), (40, .bipush 60, 2), (42, .invokestatic 50, 3), (45, .aload_n 1, 1), (46, .aload_n 0, 1), (47, .getfield 19, 3), (50, .iload_n 2, 1), (51, .iaload, 1), (52, .putfield 58, 3), (55, .aload_n 1, 1), (56, .aload_n 0, 1), (57, .getfield 23, 3), (60, .iload_n 2, 1), (61, .iaload, 1), (62, .putfield 60, 3), (65, .return_, 1)]
noncomputable def mm_X6_load : mv_M := (ic_X6_load, fl_X6, [], [], [(50, 5, none, true, mv_acp mv_sh)], [], none)
noncomputable def ff_X6_load : mv_F := mv_fn mv_rc mm_X6_load mv_sh 400 3
theorem dk_X6_load : mv_dk cX6_load ic_X6_load = true := by decide +kernel
set_option maxRecDepth 20000 in
theorem cc_X6_load {ad : Nat → Nat → Value} {cA : Nat → ClassId} {D : va_G} {tys : List (ClassId × FieldType)} {A : Nat → Prop} (l : Launch) (hF : mv_Fix mv_sh mv_ids mv_ros ad cA tys A mv_rc) : mv_Met l yX6_load cX6_load 3 none mv_Ts (mv_rm 1) 3 true mv_sh mv_ids mv_ros ad cA mv_cl D tys A mv_rc mv_cr (mv_EX ad A) ff_X6_load := mv_met_of (by decide +kernel) (by decide) hF mv_stok (mv_rzV (by decide +kernel)) mv_clok (mv_dk_ok dk_X6_load) (mv_fk_ok fk_X6) (fun p e s m args below meth c Q hBg hX hR => ⟨fun _ h => absurd h List.not_mem_nil, fun _ h => absurd h List.not_mem_nil⟩) (fun p e s m args below meth c Q hBg hX hR hK => List.forall_mem_cons.mpr ⟨mv_cal_acp (cr := mv_cr) hF hBg hK ⟨mv_T 686 rfl rfl, mv_T 688 rfl rfl, mv_T 687 rfl rfl, mv_T 144 rfl rfl⟩ ⟨by decide, by decide⟩, fun _ h => absurd h List.not_mem_nil⟩)
set_option maxRecDepth 20000 in
theorem cw_X6_43 : mv_Cw RX6 43 yX6_load cX6_load 3 none (some 6) 3 := mv_cw_of (a := 1262) (b := 135) (c := 1264) (d := 34) (mv_T 1265 rfl rfl) (by decide +kernel)
def ic_X6_goBack : List (Nat × Instr × Nat) := [(0, .aload_n 0, 1), (1, .getfield 26, 3), (4, .ifCond .ne 5, 3), (7, .iconst 0, 1), (8, .ireturn, 1), (9, .aload_n 0, 1), (10, .dup, 1), (11, .getfield 26, 3), (14, .iconst 1, 1), (15, .isub, 1), (16, .putfield 26, 3), (19, .aload_n 0, 1), (20, .aload_n 0, 1), (21, .getfield 30, 3), (24, .bipush 6, 2), (26, .iadd, 1), (27, .iconst 1, 1), (28, .isub, 1), (29, .bipush 6, 2), (31, .irem, 1), (32, .putfield 30, 3), (35, .aload_n 0, 1), (36, .aload_n 1, 1), (37, .aload_n 0, 1), (38, .getfield 30, 3), (41, .invokevirtual 43, 3), (44, .iconst 1, 1), (45, .ireturn, 1)]
noncomputable def mm_X6_goBack : mv_M := (ic_X6_goBack, fl_X6, [], [], [(43, 3, some 6, true, ff_X6_load)], [], (some (0, 1)))
noncomputable def ff_X6_goBack : mv_F := mv_fn mv_rc mm_X6_goBack mv_sh 400 2
theorem dk_X6_goBack : mv_dk cX6_goBack ic_X6_goBack = true := by decide +kernel
set_option maxRecDepth 20000 in
theorem cc_X6_goBack {ad : Nat → Nat → Value} {cA : Nat → ClassId} {D : va_G} {tys : List (ClassId × FieldType)} {A : Nat → Prop} (l : Launch) (hF : mv_Fix mv_sh mv_ids mv_ros ad cA tys A mv_rc) : mv_Met l yX6_goBack cX6_goBack 2 (some .boolean) mv_Ts (mv_rm 2) 2 false mv_sh mv_ids mv_ros ad cA mv_cl D tys A mv_rc mv_cr (mv_EX ad A) ff_X6_goBack := mv_met_of (by decide +kernel) (by decide) hF mv_stok (mv_rzZ (by decide +kernel) rfl) mv_clok (mv_dk_ok dk_X6_goBack) (mv_fk_ok fk_X6) (fun p e s m args below meth c Q hBg hX hR => ⟨fun _ h => absurd h List.not_mem_nil, fun _ h => absurd h List.not_mem_nil⟩) (fun p e s m args below meth c Q hBg hX hR hK => List.forall_mem_cons.mpr ⟨mv_cal_of (cc_X6_load l hF) hBg hX hR hK mv_EX_ok hF mv_good mv_stok cw_X6_43.1 cw_X6_43.2.1 cw_X6_43.2.2 ⟨rfl, rfl, by exact Nat.le_of_ble_eq_true rfl, by exact Nat.le_of_ble_eq_true rfl⟩ ⟨Nat.zero_le _, Nat.zero_le _⟩, fun _ h => absurd h List.not_mem_nil⟩)
set_option maxRecDepth 20000 in
theorem cw_X11_289 : mv_Cw RX11 289 yX6_goBack cX6_goBack 2 (some .boolean) (some 6) 2 := mv_cw_of (a := 1270) (b := 135) (c := 1271) (d := 1272) (mv_T 1273 rfl rfl) (by decide +kernel)
def ic_X11_undo : List (Nat × Instr × Nat) := [(0, .aload_n 0, 1), (1, .getfield 22, 3), (4, .aload_n 0, 1), (5, .getfield 12, 3), (8, .invokevirtual 289, 3), (11, .ireturn, 1)]
noncomputable def mm_X11_undo : mv_M := (ic_X11_undo, fl_X11, [], [], [(289, 2, some 6, false, ff_X6_goBack)], [], (some (0, 1)))
noncomputable def ff_X11_undo : mv_F := mv_fn mv_rc mm_X11_undo mv_sh 400 1
theorem dk_X11_undo : mv_dk cX11_undo ic_X11_undo = true := by decide +kernel
set_option maxRecDepth 20000 in
theorem cc_X11_undo {ad : Nat → Nat → Value} {cA : Nat → ClassId} {D : va_G} {tys : List (ClassId × FieldType)} {A : Nat → Prop} (l : Launch) (hF : mv_Fix mv_sh mv_ids mv_ros ad cA tys A mv_rc) : mv_Met l yX11_undo cX11_undo 1 (some .boolean) mv_Ts (mv_rm 3) 1 false mv_sh mv_ids mv_ros ad cA mv_cl D tys A mv_rc mv_cr (mv_EX ad A) ff_X11_undo := mv_met_of (by decide +kernel) (by decide) hF mv_stok (mv_rzZ (by decide +kernel) rfl) mv_clok (mv_dk_ok dk_X11_undo) (mv_fk_ok fk_X11) (fun p e s m args below meth c Q hBg hX hR => ⟨fun _ h => absurd h List.not_mem_nil, fun _ h => absurd h List.not_mem_nil⟩) (fun p e s m args below meth c Q hBg hX hR hK => List.forall_mem_cons.mpr ⟨mv_cal_of (cc_X6_goBack l hF) hBg hX hR hK mv_EX_ok hF mv_good mv_stok cw_X11_289.1 cw_X11_289.2.1 cw_X11_289.2.2 ⟨rfl, rfl, by exact Nat.le_of_ble_eq_true rfl, by exact Nat.le_of_ble_eq_true rfl⟩ ⟨Nat.zero_le _, Nat.zero_le _⟩, fun _ h => absurd h List.not_mem_nil⟩)
def ic_X12_thinks : List (Nat × Instr × Nat) := [(0, .iconst 0, 1), (1, .istore_n 1, 1), (2, .iload_n 1, 1), (3, .bipush 72, 2), (5, .if_icmp .ge 21, 3), (8, .aload_n 0, 1), (9, .getfield 16, 3), (12, .iload_n 1, 1), (13, .aload_n 0, 1), (14, .getfield 7, 3), (17, .iload_n 1, 1), (18, .iaload, 1), (19, .iastore, 1), (20, .iinc 1 1, 3), (23, .goto (-21), 3), (26, .aload_n 0, 1), (27, .iconst 1, 1), (28, .putfield 132, 3), (31, .return_, 1)]
noncomputable def mm_X12_thinks : mv_M := (ic_X12_thinks, fl_X12, [], [], [], [(2, [true, true])], none)
noncomputable def ff_X12_thinks : mv_F := mv_fn mv_rc mm_X12_thinks mv_sh 400 2
theorem dk_X12_thinks : mv_dk cX12_thinks ic_X12_thinks = true := by decide +kernel
set_option maxRecDepth 20000 in
theorem cc_X12_thinks {ad : Nat → Nat → Value} {cA : Nat → ClassId} {D : va_G} {tys : List (ClassId × FieldType)} {A : Nat → Prop} (l : Launch) (hF : mv_Fix mv_sh mv_ids mv_ros ad cA tys A mv_rc) : mv_Met l yX12_thinks cX12_thinks 2 none mv_Ts (mv_rm 1) 1 true mv_sh mv_ids mv_ros ad cA mv_cl D tys A mv_rc mv_cr (mv_EX ad A) ff_X12_thinks := mv_met_of (by decide +kernel) (by decide) hF mv_stok (mv_rzV (by decide +kernel)) mv_clok (mv_dk_ok dk_X12_thinks) (mv_fk_ok fk_X12) (fun p e s m args below meth c Q hBg hX hR => ⟨fun _ h => absurd h List.not_mem_nil, fun _ h => absurd h List.not_mem_nil⟩) (fun p e s m args below meth c Q hBg hX hR hK => fun _ h => absurd h List.not_mem_nil)
def ic_X12_notes : List (Nat × Instr × Nat) := [(0, .aload_n 0, 1), (1, .getfield 132, 3), (4, .ifCond .ne 15, 3), (7, .aload_n 0, 1), (8, .getfield 7, 3), (11, .iconst 1, 1), (12, .iaload, 1), (13, .sipush 150, 3), (16, .if_icmp .ne 4, 3), (19, .return_, 1), (20, .iconst 4, 1), (21, .aload_n 0, 1), (22, .getfield 7, 3), (25, .iconst 1, 1), (26, .iaload, 1), (27, .imul, 1), (28, .istore 4, 2), (30, .aload_n 0, 1), (31, .getfield 38, 3), (34, .iload 4, 2), (36, .aload_n 0, 1), (37, .getfield 7, 3), (40, .iconst 0, 1), (41, .iaload, 1), (42, .iastore, 1), (43, .aload_n 0, 1), (44, .getfield 38, 3), (47, .iload 4, 2), (49, .iconst 1, 1), (50, .iadd, 1), (51, .iload_n 1, 1), (52, .iastore, 1), (53, .aload_n 0, 1), (54, .getfield 38, 3), (57, .iload 4, 2), (59, .iconst 2, 1), (60, .iadd, 1), (61, .iload_n 2, 1), (62, .iastore, 1), (63, .aload_n 0, 1), (64, .getfield 38, 3), (67, .iload 4, 2), (69, .iconst 3, 1), (70, .iadd, 1), (71, .iload_n 3, 1), (72, .iastore, 1), (73, .aload_n 0, 1), (74, .getfield 7, 3), (77, .iconst 1, 1), (78, .aload_n 0, 1), (79, .getfield 7, 3), (82, .iconst 1, 1), (83, .iaload, 1), (84, .iconst 1, 1), (85, .iadd, 1), (86, .iastore, 1), (87, .return_, 1)]
noncomputable def mm_X12_notes : mv_M := (ic_X12_notes, fl_X12, [], [], [], [], none)
noncomputable def ff_X12_notes : mv_F := mv_fn mv_rc mm_X12_notes mv_sh 400 5
theorem dk_X12_notes : mv_dk cX12_notes ic_X12_notes = true := by decide +kernel
set_option maxRecDepth 20000 in
theorem cc_X12_notes {ad : Nat → Nat → Value} {cA : Nat → ClassId} {D : va_G} {tys : List (ClassId × FieldType)} {A : Nat → Prop} (l : Launch) (hF : mv_Fix mv_sh mv_ids mv_ros ad cA tys A mv_rc) : mv_Met l yX12_notes cX12_notes 5 none mv_Ts (mv_rm 1) 4 true mv_sh mv_ids mv_ros ad cA mv_cl D tys A mv_rc mv_cr (mv_EX ad A) ff_X12_notes := mv_met_of (by decide +kernel) (by decide) hF mv_stok (mv_rzV (by decide +kernel)) mv_clok (mv_dk_ok dk_X12_notes) (mv_fk_ok fk_X12) (fun p e s m args below meth c Q hBg hX hR => ⟨fun _ h => absurd h List.not_mem_nil, fun _ h => absurd h List.not_mem_nil⟩) (fun p e s m args below meth c Q hBg hX hR hK => fun _ h => absurd h List.not_mem_nil)
set_option maxRecDepth 20000 in
theorem cw_X12_356 : mv_Cw RX12 356 yX12_notes cX12_notes 5 none (some 12) 4 := mv_cw_of (a := 1780) (b := 143) (c := 1782) (d := 87) (mv_T 1783 rfl rfl) (by decide +kernel)
def ic_X12_goes : List (Nat × Instr × Nat) := [(0, .aload_n 0, 1), (1, .iload_n 1, 1), (2, .iconst 2, 1), (3, .aload_n 0, 1), (4, .iload_n 1, 1), (5, .invokevirtual 157, 3), (8, .invokevirtual 356, 3), (11, .aload_n 0, 1), (12, .getfield 7, 3), (15, .iconst 2, 1), (16, .iload_n 1, 1), (17, .iadd, 1), (18, .iconst 0, 1), (19, .iastore, 1), (20, .return_, 1)]
noncomputable def mm_X12_goes : mv_M := (ic_X12_goes, fl_X12, [], [], [(157, 2, some 12, false, ff_X12_inchOf), (356, 4, some 12, true, ff_X12_notes)], [], none)
noncomputable def ff_X12_goes : mv_F := mv_fn mv_rc mm_X12_goes mv_sh 400 2
theorem dk_X12_goes : mv_dk cX12_goes ic_X12_goes = true := by decide +kernel
set_option maxRecDepth 20000 in
theorem cc_X12_goes {ad : Nat → Nat → Value} {cA : Nat → ClassId} {D : va_G} {tys : List (ClassId × FieldType)} {A : Nat → Prop} (l : Launch) (hF : mv_Fix mv_sh mv_ids mv_ros ad cA tys A mv_rc) : mv_Met l yX12_goes cX12_goes 2 none mv_Ts (mv_rm 2) 2 true mv_sh mv_ids mv_ros ad cA mv_cl D tys A mv_rc mv_cr (mv_EX ad A) ff_X12_goes := mv_met_of (by decide +kernel) (by decide) hF mv_stok (mv_rzV (by decide +kernel)) mv_clok (mv_dk_ok dk_X12_goes) (mv_fk_ok fk_X12) (fun p e s m args below meth c Q hBg hX hR => ⟨fun _ h => absurd h List.not_mem_nil, fun _ h => absurd h List.not_mem_nil⟩) (fun p e s m args below meth c Q hBg hX hR hK => List.forall_mem_cons.mpr ⟨mv_cal_of (cc_X12_inchOf l hF) hBg hX hR hK mv_EX_ok hF mv_good mv_stok cw_X12_157.1 cw_X12_157.2.1 cw_X12_157.2.2 ⟨rfl, rfl, by exact Nat.le_of_ble_eq_true rfl, by exact Nat.le_of_ble_eq_true rfl⟩ ⟨Nat.zero_le _, Nat.zero_le _⟩, List.forall_mem_cons.mpr ⟨mv_cal_of (cc_X12_notes l hF) hBg hX hR hK mv_EX_ok hF mv_good mv_stok cw_X12_356.1 cw_X12_356.2.1 cw_X12_356.2.2 ⟨rfl, rfl, by exact Nat.le_of_ble_eq_true rfl, by exact Nat.le_of_ble_eq_true rfl⟩ ⟨Nat.zero_le _, Nat.zero_le _⟩, fun _ h => absurd h List.not_mem_nil⟩⟩)
def ic_X12_everyone : List (Nat × Instr × Nat) := [(0, .iconst 1, 1), (1, .aload_n 0, 1), (2, .getfield 139, 3), (5, .ishl, 1), (6, .iconst 1, 1), (7, .isub, 1), (8, .ireturn, 1)]
noncomputable def mm_X12_everyone : mv_M := (ic_X12_everyone, fl_X12, [], [], [], [], none)
noncomputable def ff_X12_everyone : mv_F := mv_fn mv_rc mm_X12_everyone mv_sh 400 1
theorem dk_X12_everyone : mv_dk cX12_everyone ic_X12_everyone = true := by decide +kernel
set_option maxRecDepth 20000 in
theorem cc_X12_everyone {ad : Nat → Nat → Value} {cA : Nat → ClassId} {D : va_G} {tys : List (ClassId × FieldType)} {A : Nat → Prop} (l : Launch) (hF : mv_Fix mv_sh mv_ids mv_ros ad cA tys A mv_rc) : mv_Met l yX12_everyone cX12_everyone 1 (some .int) mv_Ts (mv_rm 1) 1 false mv_sh mv_ids mv_ros ad cA mv_cl D tys A mv_rc mv_cr (mv_EX ad A) ff_X12_everyone := mv_met_of (by decide +kernel) (by decide) hF mv_stok (mv_rzI (by decide +kernel)) mv_clok (mv_dk_ok dk_X12_everyone) (mv_fk_ok fk_X12) (fun p e s m args below meth c Q hBg hX hR => ⟨fun _ h => absurd h List.not_mem_nil, fun _ h => absurd h List.not_mem_nil⟩) (fun p e s m args below meth c Q hBg hX hR hK => fun _ h => absurd h List.not_mem_nil)
def ic_X12_seats : List (Nat × Instr × Nat) := [(0, .aload_n 0, 1), (1, .getfield 289, 3), (4, .istore 6, 2), (6, .iload 6, 2), (8, .ifCond .le 105, 3), (11, .aload_n 0, 1), (12, .getfield 81, 3), (15, .iload 6, 2), (17, .iconst 1, 1), (18, .isub, 1), (19, .iaload, 1), (20, .iload_n 2, 1), (21, .if_icmp .le 92, 3), (24, .aload_n 0, 1), (25, .getfield 81, 3), (28, .iload 6, 2), (30, .aload_n 0, 1), (31, .getfield 81, 3), (34, .iload 6, 2), (36, .iconst 1, 1), (37, .isub, 1), (38, .iaload, 1), (39, .iastore, 1), (40, .aload_n 0, 1), (41, .getfield 84, 3), (44, .iload 6, 2), (46, .aload_n 0, 1), (47, .getfield 84, 3), (50, .iload 6, 2), (52, .iconst 1, 1), (53, .isub, 1), (54, .iaload, 1), (55, .iastore, 1), (56, .aload_n 0, 1), (57, .getfield 87, 3), (60, .iload 6, 2), (62, .aload_n 0, 1), (63, .getfield 87, 3), (66, .iload 6, 2), (68, .iconst 1, 1), (69, .isub, 1), (70, .iaload, 1), (71, .iastore, 1), (72, .aload_n 0, 1), (73, .getfield 90, 3), (76, .iload 6, 2), (78, .aload_n 0, 1), (79, .getfield 90, 3), (82, .iload 6, 2), (84, .iconst 1, 1), (85, .isub, 1), (86, .iaload, 1), (87, .iastore, 1), (88, .aload_n 0, 1), (89, .getfield 93, 3), (92, .iload 6, 2), (94, .aload_n 0, 1), (95, .getfield 93, 3), (98, .iload 6, 2), (100, .iconst 1, 1), (101, .isub, 1), (102, .iaload, 1), (103, .iastore, 1), (104, .iload 6, 2), (106, .iconst 1, 1), (107, .isub, 1), (108, .istore 6, 2), (110, .goto (-104), 3), (113, .aload_n 0, 1), (114, .getfield 81, 3), (117, .iload 6, 2), (119, .iload_n 2, 1), (120, .iastore, 1), (121, .aload_n 0, 1), (122, .getfield 84, 3), (125, .iload 6, 2), (127, .iload_n 3, 1), (128, .iastore, 1), (129, .aload_n 0, 1), (130, .getfield 87, 3), (133, .iload 6, 2), (135, .iload 4, 2), (137, .iastore, 1), (138, .aload_n 0, 1), (139, .getfield 90, 3), (142, .iload 6, 2), (144, .iload 5, 2), (146, .iastore, 1), (147, .aload_n 0, 1), (148, .getfield 93, 3), (151, .iload 6, 2), (153, .iload_n 1, 1), (154, .iastore, 1), (155, .aload_n 0, 1), (156, .aload_n 0, 1), (157, .getfield 289, 3), (160, .iconst 1, 1), (161, .iadd, 1), (162, .putfield 289, 3), (165, .return_, 1)]
noncomputable def mm_X12_seats : mv_M := (ic_X12_seats, fl_X12, [], [], [], [(6, [true, true, true, true, true, true, true])], none)
noncomputable def ff_X12_seats : mv_F := mv_fn mv_rc mm_X12_seats mv_sh 400 7
theorem dk_X12_seats : mv_dk cX12_seats ic_X12_seats = true := by decide +kernel
set_option maxRecDepth 20000 in
theorem cc_X12_seats {ad : Nat → Nat → Value} {cA : Nat → ClassId} {D : va_G} {tys : List (ClassId × FieldType)} {A : Nat → Prop} (l : Launch) (hF : mv_Fix mv_sh mv_ids mv_ros ad cA tys A mv_rc) : mv_Met l yX12_seats cX12_seats 7 none mv_Ts (mv_rm 1) 6 true mv_sh mv_ids mv_ros ad cA mv_cl D tys A mv_rc mv_cr (mv_EX ad A) ff_X12_seats := mv_met_of (by decide +kernel) (by decide) hF mv_stok (mv_rzV (by decide +kernel)) mv_clok (mv_dk_ok dk_X12_seats) (mv_fk_ok fk_X12) (fun p e s m args below meth c Q hBg hX hR => ⟨fun _ h => absurd h List.not_mem_nil, fun _ h => absurd h List.not_mem_nil⟩) (fun p e s m args below meth c Q hBg hX hR hK => fun _ h => absurd h List.not_mem_nil)
set_option maxRecDepth 20000 in
theorem cw_X12_295 : mv_Cw RX12 295 yX12_seats cX12_seats 7 none (some 12) 6 := mv_cw_of (a := 1704) (b := 143) (c := 1706) (d := 69) (mv_T 1707 rfl rfl) (by decide +kernel)
def ic_X12_lists : List (Nat × Instr × Nat) := [(0, .aload_n 0, 1), (1, .iconst 0, 1), (2, .putfield 289, 3), (5, .iconst 0, 1), (6, .istore_n 2, 1), (7, .iload_n 2, 1), (8, .aload_n 0, 1), (9, .getfield 139, 3), (12, .if_icmp .ge 59, 3), (15, .iload_n 1, 1), (16, .iload_n 2, 1), (17, .ishr, 1), (18, .iconst 1, 1), (19, .iand, 1), (20, .iconst 1, 1), (21, .if_icmp .ne 44, 3), (24, .aload_n 0, 1), (25, .iload_n 2, 1), (26, .invokevirtual 153, 3), (29, .ifCond .eq 36, 3), (32, .aload_n 0, 1), (33, .iload_n 2, 1), (34, .aload_n 0, 1), (35, .iload_n 2, 1), (36, .invokevirtual 157, 3), (39, .aload_n 0, 1), (40, .iload_n 2, 1), (41, .invokevirtual 157, 3), (44, .aload_n 0, 1), (45, .iload_n 2, 1), (46, .invokevirtual 292, 3), (49, .iadd, 1), (50, .aload_n 0, 1), (51, .getfield 26, 3), (54, .iload_n 2, 1), (55, .iaload, 1), (56, .aload_n 0, 1), (57, .getfield 32, 3), (60, .iload_n 2, 1), (61, .iaload, 1), (62, .invokevirtual 295, 3), (65, .iinc 2 1, 3), (68, .goto (-61), 3), (71, .return_, 1)]
noncomputable def mm_X12_lists : mv_M := (ic_X12_lists, fl_X12, [], [], [(153, 2, some 12, false, ff_X12_sits), (157, 2, some 12, false, ff_X12_inchOf), (292, 2, some 12, false, ff_X12_takesOf), (295, 6, some 12, true, ff_X12_seats)], [(7, [true, true, true])], none)
noncomputable def ff_X12_lists : mv_F := mv_fn mv_rc mm_X12_lists mv_sh 400 3
theorem dk_X12_lists : mv_dk cX12_lists ic_X12_lists = true := by decide +kernel
set_option maxRecDepth 20000 in
theorem cc_X12_lists {ad : Nat → Nat → Value} {cA : Nat → ClassId} {D : va_G} {tys : List (ClassId × FieldType)} {A : Nat → Prop} (l : Launch) (hF : mv_Fix mv_sh mv_ids mv_ros ad cA tys A mv_rc) : mv_Met l yX12_lists cX12_lists 3 none mv_Ts (mv_rm 2) 2 true mv_sh mv_ids mv_ros ad cA mv_cl D tys A mv_rc mv_cr (mv_EX ad A) ff_X12_lists := mv_met_of (by decide +kernel) (by decide) hF mv_stok (mv_rzV (by decide +kernel)) mv_clok (mv_dk_ok dk_X12_lists) (mv_fk_ok fk_X12) (fun p e s m args below meth c Q hBg hX hR => ⟨fun _ h => absurd h List.not_mem_nil, fun _ h => absurd h List.not_mem_nil⟩) (fun p e s m args below meth c Q hBg hX hR hK => List.forall_mem_cons.mpr ⟨mv_cal_of (cc_X12_sits l hF) hBg hX hR hK mv_EX_ok hF mv_good mv_stok cw_X12_153.1 cw_X12_153.2.1 cw_X12_153.2.2 ⟨rfl, rfl, by exact Nat.le_of_ble_eq_true rfl, by exact Nat.le_of_ble_eq_true rfl⟩ ⟨Nat.zero_le _, Nat.zero_le _⟩, List.forall_mem_cons.mpr ⟨mv_cal_of (cc_X12_inchOf l hF) hBg hX hR hK mv_EX_ok hF mv_good mv_stok cw_X12_157.1 cw_X12_157.2.1 cw_X12_157.2.2 ⟨rfl, rfl, by exact Nat.le_of_ble_eq_true rfl, by exact Nat.le_of_ble_eq_true rfl⟩ ⟨Nat.zero_le _, Nat.zero_le _⟩, List.forall_mem_cons.mpr ⟨mv_cal_of (cc_X12_takesOf l hF) hBg hX hR hK mv_EX_ok hF mv_good mv_stok cw_X12_292.1 cw_X12_292.2.1 cw_X12_292.2.2 ⟨rfl, rfl, by exact Nat.le_of_ble_eq_true rfl, by exact Nat.le_of_ble_eq_true rfl⟩ ⟨Nat.zero_le _, Nat.zero_le _⟩, List.forall_mem_cons.mpr ⟨mv_cal_of (cc_X12_seats l hF) hBg hX hR hK mv_EX_ok hF mv_good mv_stok cw_X12_295.1 cw_X12_295.2.1 cw_X12_295.2.2 ⟨rfl, rfl, by exact Nat.le_of_ble_eq_true rfl, by exact Nat.le_of_ble_eq_true rfl⟩ ⟨Nat.zero_le _, Nat.zero_le _⟩, fun _ h => absurd h List.not_mem_nil⟩⟩⟩⟩)
def ic_X12_asksFor : List (Nat × Instr × Nat) := [(0, .aload_n 0, 1), (1, .aload_n 0, 1), (2, .getfield 23, 3), (5, .iload_n 1, 1), (6, .iaload, 1), (7, .putfield 299, 3), (10, .aload_n 0, 1), (11, .aload_n 0, 1), (12, .getfield 26, 3), (15, .iload_n 1, 1), (16, .iaload, 1), (17, .putfield 302, 3), (20, .aload_n 0, 1), (21, .aload_n 0, 1), (22, .getfield 29, 3), (25, .iload_n 1, 1), (26, .iaload, 1), (27, .putfield 305, 3), (30, .aload_n 0, 1), (31, .aload_n 0, 1), (32, .getfield 32, 3), (35, .iload_n 1, 1), (36, .iaload, 1), (37, .putfield 308, 3), (40, .return_, 1)]
noncomputable def mm_X12_asksFor : mv_M := (ic_X12_asksFor, fl_X12, [], [], [], [], none)
noncomputable def ff_X12_asksFor : mv_F := mv_fn mv_rc mm_X12_asksFor mv_sh 400 2
theorem dk_X12_asksFor : mv_dk cX12_asksFor ic_X12_asksFor = true := by decide +kernel
set_option maxRecDepth 20000 in
theorem cc_X12_asksFor {ad : Nat → Nat → Value} {cA : Nat → ClassId} {D : va_G} {tys : List (ClassId × FieldType)} {A : Nat → Prop} (l : Launch) (hF : mv_Fix mv_sh mv_ids mv_ros ad cA tys A mv_rc) : mv_Met l yX12_asksFor cX12_asksFor 2 none mv_Ts (mv_rm 1) 2 true mv_sh mv_ids mv_ros ad cA mv_cl D tys A mv_rc mv_cr (mv_EX ad A) ff_X12_asksFor := mv_met_of (by decide +kernel) (by decide) hF mv_stok (mv_rzV (by decide +kernel)) mv_clok (mv_dk_ok dk_X12_asksFor) (mv_fk_ok fk_X12) (fun p e s m args below meth c Q hBg hX hR => ⟨fun _ h => absurd h List.not_mem_nil, fun _ h => absurd h List.not_mem_nil⟩) (fun p e s m args below meth c Q hBg hX hR hK => fun _ h => absurd h List.not_mem_nil)
def ic_X12_isOverRest : List (Nat × Instr × Nat) := [(0, .iload_n 1, 1), (1, .iconst 1, 1), (2, .iadd, 1), (3, .istore_n 3, 1), (4, .iload_n 3, 1), (5, .iload_n 1, 1), (6, .iload_n 2, 1), (7, .iadd, 1), (8, .if_icmp .ge 20, 3), (11, .aload_n 0, 1), (12, .getfield 19, 3), (15, .iload_n 3, 1), (16, .baload, 1), (17, .ifCond .eq 5, 3), (20, .iconst 1, 1), (21, .ireturn, 1), (22, .iinc 3 1, 3), (25, .goto (-21), 3), (28, .iconst 0, 1), (29, .ireturn, 1)]
noncomputable def mm_X12_isOverRest : mv_M := (ic_X12_isOverRest, fl_X12, [], [], [], [(4, [true, true, true, true])], (some (0, 1)))
noncomputable def ff_X12_isOverRest : mv_F := mv_fn mv_rc mm_X12_isOverRest mv_sh 400 4
theorem dk_X12_isOverRest : mv_dk cX12_isOverRest ic_X12_isOverRest = true := by decide +kernel
set_option maxRecDepth 20000 in
theorem cc_X12_isOverRest {ad : Nat → Nat → Value} {cA : Nat → ClassId} {D : va_G} {tys : List (ClassId × FieldType)} {A : Nat → Prop} (l : Launch) (hF : mv_Fix mv_sh mv_ids mv_ros ad cA tys A mv_rc) : mv_Met l yX12_isOverRest cX12_isOverRest 4 (some .boolean) mv_Ts (mv_rm 1) 3 false mv_sh mv_ids mv_ros ad cA mv_cl D tys A mv_rc mv_cr (mv_EX ad A) ff_X12_isOverRest := mv_met_of (by decide +kernel) (by decide) hF mv_stok (mv_rzZ (by decide +kernel) rfl) mv_clok (mv_dk_ok dk_X12_isOverRest) (mv_fk_ok fk_X12) (fun p e s m args below meth c Q hBg hX hR => ⟨fun _ h => absurd h List.not_mem_nil, fun _ h => absurd h List.not_mem_nil⟩) (fun p e s m args below meth c Q hBg hX hR hK => fun _ h => absurd h List.not_mem_nil)
def ic_X12_leftOf : List (Nat × Instr × Nat) := [(0, .iconst 0, 1), (1, .istore_n 2, 1), (2, .iload_n 2, 1), (3, .aload_n 0, 1), (4, .getfield 289, 3), (7, .if_icmp .ge 20, 3), (10, .aload_n 0, 1), (11, .getfield 81, 3), (14, .iload_n 2, 1), (15, .iaload, 1), (16, .iload_n 1, 1), (17, .if_icmp .ge 10, 3), (20, .iload_n 2, 1), (21, .iconst 1, 1), (22, .iadd, 1), (23, .istore_n 2, 1), (24, .goto (-22), 3), (27, .iload_n 2, 1), (28, .ireturn, 1)]
noncomputable def mm_X12_leftOf : mv_M := (ic_X12_leftOf, fl_X12, [], [], [], [(2, [true, true, true])], none)
noncomputable def ff_X12_leftOf : mv_F := mv_fn mv_rc mm_X12_leftOf mv_sh 400 3
theorem dk_X12_leftOf : mv_dk cX12_leftOf ic_X12_leftOf = true := by decide +kernel
set_option maxRecDepth 20000 in
theorem cc_X12_leftOf {ad : Nat → Nat → Value} {cA : Nat → ClassId} {D : va_G} {tys : List (ClassId × FieldType)} {A : Nat → Prop} (l : Launch) (hF : mv_Fix mv_sh mv_ids mv_ros ad cA tys A mv_rc) : mv_Met l yX12_leftOf cX12_leftOf 3 (some .int) mv_Ts (mv_rm 1) 2 false mv_sh mv_ids mv_ros ad cA mv_cl D tys A mv_rc mv_cr (mv_EX ad A) ff_X12_leftOf := mv_met_of (by decide +kernel) (by decide) hF mv_stok (mv_rzI (by decide +kernel)) mv_clok (mv_dk_ok dk_X12_leftOf) (mv_fk_ok fk_X12) (fun p e s m args below meth c Q hBg hX hR => ⟨fun _ h => absurd h List.not_mem_nil, fun _ h => absurd h List.not_mem_nil⟩) (fun p e s m args below meth c Q hBg hX hR hK => fun _ h => absurd h List.not_mem_nil)
def ic_X12_greater : List (Nat × Instr × Nat) := [(0, .iload_n 1, 1), (1, .iload_n 2, 1), (2, .if_icmp .le 7, 3), (5, .iload_n 1, 1), (6, .goto 4, 3), (9, .iload_n 2, 1), (10, .ireturn, 1)]
noncomputable def mm_X12_greater : mv_M := (ic_X12_greater, fl_X12, [], [], [], [], none)
noncomputable def ff_X12_greater : mv_F := mv_fn mv_rc mm_X12_greater mv_sh 400 3
theorem dk_X12_greater : mv_dk cX12_greater ic_X12_greater = true := by decide +kernel
set_option maxRecDepth 20000 in
theorem cc_X12_greater {ad : Nat → Nat → Value} {cA : Nat → ClassId} {D : va_G} {tys : List (ClassId × FieldType)} {A : Nat → Prop} (l : Launch) (hF : mv_Fix mv_sh mv_ids mv_ros ad cA tys A mv_rc) : mv_Met l yX12_greater cX12_greater 3 (some .int) mv_Ts (mv_rm 1) 3 false mv_sh mv_ids mv_ros ad cA mv_cl D tys A mv_rc mv_cr (mv_EX ad A) ff_X12_greater := mv_met_of (by decide +kernel) (by decide) hF mv_stok (mv_rzI (by decide +kernel)) mv_clok (mv_dk_ok dk_X12_greater) (mv_fk_ok fk_X12) (fun p e s m args below meth c Q hBg hX hR => ⟨fun _ h => absurd h List.not_mem_nil, fun _ h => absurd h List.not_mem_nil⟩) (fun p e s m args below meth c Q hBg hX hR hK => fun _ h => absurd h List.not_mem_nil)
set_option maxRecDepth 20000 in
theorem cw_X12_311 : mv_Cw RX12 311 yX12_greater cX12_greater 3 (some .int) (some 12) 3 := mv_cw_of (a := 1728) (b := 143) (c := 1730) (d := 75) (mv_T 1731 rfl rfl) (by decide +kernel)
def ic_X12_apartOf : List (Nat × Instr × Nat) := [(0, .iload_n 2, 1), (1, .ifCond .le 13, 3), (4, .iload_n 2, 1), (5, .iload 4, 2), (7, .if_icmp .ne 7, 3), (10, .iconst 0, 1), (11, .goto 9, 3), (14, .aload_n 0, 1), (15, .iload_n 1, 1), (16, .iload_n 3, 1), (17, .invokevirtual 311, 3), (20, .ireturn, 1)]
noncomputable def mm_X12_apartOf : mv_M := (ic_X12_apartOf, fl_X12, [], [], [(311, 3, some 12, false, ff_X12_greater)], [], none)
noncomputable def ff_X12_apartOf : mv_F := mv_fn mv_rc mm_X12_apartOf mv_sh 400 5
theorem dk_X12_apartOf : mv_dk cX12_apartOf ic_X12_apartOf = true := by decide +kernel
set_option maxRecDepth 20000 in
theorem cc_X12_apartOf {ad : Nat → Nat → Value} {cA : Nat → ClassId} {D : va_G} {tys : List (ClassId × FieldType)} {A : Nat → Prop} (l : Launch) (hF : mv_Fix mv_sh mv_ids mv_ros ad cA tys A mv_rc) : mv_Met l yX12_apartOf cX12_apartOf 5 (some .int) mv_Ts (mv_rm 2) 5 false mv_sh mv_ids mv_ros ad cA mv_cl D tys A mv_rc mv_cr (mv_EX ad A) ff_X12_apartOf := mv_met_of (by decide +kernel) (by decide) hF mv_stok (mv_rzI (by decide +kernel)) mv_clok (mv_dk_ok dk_X12_apartOf) (mv_fk_ok fk_X12) (fun p e s m args below meth c Q hBg hX hR => ⟨fun _ h => absurd h List.not_mem_nil, fun _ h => absurd h List.not_mem_nil⟩) (fun p e s m args below meth c Q hBg hX hR hK => List.forall_mem_cons.mpr ⟨mv_cal_of (cc_X12_greater l hF) hBg hX hR hK mv_EX_ok hF mv_good mv_stok cw_X12_311.1 cw_X12_311.2.1 cw_X12_311.2.2 ⟨rfl, rfl, by exact Nat.le_of_ble_eq_true rfl, by exact Nat.le_of_ble_eq_true rfl⟩ ⟨Nat.zero_le _, Nat.zero_le _⟩, fun _ h => absurd h List.not_mem_nil⟩)
set_option maxRecDepth 20000 in
theorem cw_X12_314 : mv_Cw RX12 314 yX12_isOverRest cX12_isOverRest 4 (some .boolean) (some 12) 3 := mv_cw_of (a := 1716) (b := 143) (c := 1718) (d := 72) (mv_T 1719 rfl rfl) (by decide +kernel)
set_option maxRecDepth 20000 in
theorem cw_X12_318 : mv_Cw RX12 318 yX12_leftOf cX12_leftOf 3 (some .int) (some 12) 2 := mv_cw_of (a := 1720) (b := 143) (c := 1722) (d := 73) (mv_T 1723 rfl rfl) (by decide +kernel)
set_option maxRecDepth 20000 in
theorem cw_X12_321 : mv_Cw RX12 321 yX12_apartOf cX12_apartOf 5 (some .int) (some 12) 5 := mv_cw_of (a := 1724) (b := 143) (c := 1726) (d := 74) (mv_T 1727 rfl rfl) (by decide +kernel)
def ic_X12_canSit : List (Nat × Instr × Nat) := [(0, .iload_n 1, 1), (1, .ifCond .lt 33, 3), (4, .iload_n 1, 1), (5, .aload_n 0, 1), (6, .invokevirtual 149, 3), (9, .aload_n 0, 1), (10, .getfield 299, 3), (13, .isub, 1), (14, .aload_n 0, 1), (15, .getfield 305, 3), (18, .isub, 1), (19, .if_icmp .gt 15, 3), (22, .aload_n 0, 1), (23, .iload_n 1, 1), (24, .aload_n 0, 1), (25, .getfield 299, 3), (28, .invokevirtual 314, 3), (31, .ifCond .eq 5, 3), (34, .iconst 0, 1), (35, .ireturn, 1), (36, .iload_n 1, 1), (37, .aload_n 0, 1), (38, .getfield 299, 3), (41, .iadd, 1), (42, .aload_n 0, 1), (43, .getfield 305, 3), (46, .iadd, 1), (47, .istore_n 2, 1), (48, .aload_n 0, 1), (49, .iload_n 1, 1), (50, .invokevirtual 318, 3), (53, .istore_n 3, 1), (54, .iload_n 3, 1), (55, .ifCond .le 46, 3), (58, .iload_n 1, 1), (59, .aload_n 0, 1), (60, .getfield 84, 3), (63, .iload_n 3, 1), (64, .iconst 1, 1), (65, .isub, 1), (66, .iaload, 1), (67, .isub, 1), (68, .aload_n 0, 1), (69, .aload_n 0, 1), (70, .getfield 302, 3), (73, .aload_n 0, 1), (74, .getfield 308, 3), (77, .aload_n 0, 1), (78, .getfield 87, 3), (81, .iload_n 3, 1), (82, .iconst 1, 1), (83, .isub, 1), (84, .iaload, 1), (85, .aload_n 0, 1), (86, .getfield 90, 3), (89, .iload_n 3, 1), (90, .iconst 1, 1), (91, .isub, 1), (92, .iaload, 1), (93, .invokevirtual 321, 3), (96, .if_icmp .ge 5, 3), (99, .iconst 0, 1), (100, .ireturn, 1), (101, .iload_n 3, 1), (102, .aload_n 0, 1), (103, .getfield 289, 3), (106, .if_icmp .eq 38, 3), (109, .aload_n 0, 1), (110, .getfield 81, 3), (113, .iload_n 3, 1), (114, .iaload, 1), (115, .iload_n 2, 1), (116, .isub, 1), (117, .aload_n 0, 1), (118, .aload_n 0, 1), (119, .getfield 302, 3), (122, .aload_n 0, 1), (123, .getfield 308, 3), (126, .aload_n 0, 1), (127, .getfield 87, 3), (130, .iload_n 3, 1), (131, .iaload, 1), (132, .aload_n 0, 1), (133, .getfield 90, 3), (136, .iload_n 3, 1), (137, .iaload, 1), (138, .invokevirtual 321, 3), (141, .if_icmp .lt 7, 3), (144, .iconst 1, 1), (145, .goto 4, 3), (148, .iconst 0, 1), (149, .ireturn, 1)]
noncomputable def mm_X12_canSit : mv_M := (ic_X12_canSit, fl_X12, [], [], [(149, 1, some 12, false, ff_X12_length), (314, 3, some 12, false, ff_X12_isOverRest), (318, 2, some 12, false, ff_X12_leftOf), (321, 5, some 12, false, ff_X12_apartOf)], [], (some (0, 1)))
noncomputable def ff_X12_canSit : mv_F := mv_fn mv_rc mm_X12_canSit mv_sh 400 4
theorem dk_X12_canSit : mv_dk cX12_canSit ic_X12_canSit = true := by decide +kernel
set_option maxRecDepth 20000 in
theorem cc_X12_canSit {ad : Nat → Nat → Value} {cA : Nat → ClassId} {D : va_G} {tys : List (ClassId × FieldType)} {A : Nat → Prop} (l : Launch) (hF : mv_Fix mv_sh mv_ids mv_ros ad cA tys A mv_rc) : mv_Met l yX12_canSit cX12_canSit 4 (some .boolean) mv_Ts (mv_rm 3) 2 false mv_sh mv_ids mv_ros ad cA mv_cl D tys A mv_rc mv_cr (mv_EX ad A) ff_X12_canSit := mv_met_of (by decide +kernel) (by decide) hF mv_stok (mv_rzZ (by decide +kernel) rfl) mv_clok (mv_dk_ok dk_X12_canSit) (mv_fk_ok fk_X12) (fun p e s m args below meth c Q hBg hX hR => ⟨fun _ h => absurd h List.not_mem_nil, fun _ h => absurd h List.not_mem_nil⟩) (fun p e s m args below meth c Q hBg hX hR hK => List.forall_mem_cons.mpr ⟨mv_cal_of (cc_X12_length l hF) hBg hX hR hK mv_EX_ok hF mv_good mv_stok cw_X12_149.1 cw_X12_149.2.1 cw_X12_149.2.2 ⟨rfl, rfl, by exact Nat.le_of_ble_eq_true rfl, by exact Nat.le_of_ble_eq_true rfl⟩ ⟨Nat.zero_le _, Nat.zero_le _⟩, List.forall_mem_cons.mpr ⟨mv_cal_of (cc_X12_isOverRest l hF) hBg hX hR hK mv_EX_ok hF mv_good mv_stok cw_X12_314.1 cw_X12_314.2.1 cw_X12_314.2.2 ⟨rfl, rfl, by exact Nat.le_of_ble_eq_true rfl, by exact Nat.le_of_ble_eq_true rfl⟩ ⟨Nat.zero_le _, Nat.zero_le _⟩, List.forall_mem_cons.mpr ⟨mv_cal_of (cc_X12_leftOf l hF) hBg hX hR hK mv_EX_ok hF mv_good mv_stok cw_X12_318.1 cw_X12_318.2.1 cw_X12_318.2.2 ⟨rfl, rfl, by exact Nat.le_of_ble_eq_true rfl, by exact Nat.le_of_ble_eq_true rfl⟩ ⟨Nat.zero_le _, Nat.zero_le _⟩, List.forall_mem_cons.mpr ⟨mv_cal_of (cc_X12_apartOf l hF) hBg hX hR hK mv_EX_ok hF mv_good mv_stok cw_X12_321.1 cw_X12_321.2.1 cw_X12_321.2.2 ⟨rfl, rfl, by exact Nat.le_of_ble_eq_true rfl, by exact Nat.le_of_ble_eq_true rfl⟩ ⟨Nat.zero_le _, Nat.zero_le _⟩, fun _ h => absurd h List.not_mem_nil⟩⟩⟩⟩)
def ic_X12_asksHim : List (Nat × Instr × Nat) := [(0, .aload_n 0, 1), (1, .getfield 75, 3), (4, .iconst 0, 1), (5, .aload_n 0, 1), (6, .getfield 299, 3), (9, .iastore, 1), (10, .aload_n 0, 1), (11, .getfield 75, 3), (14, .iconst 1, 1), (15, .aload_n 0, 1), (16, .getfield 302, 3), (19, .iastore, 1), (20, .aload_n 0, 1), (21, .getfield 75, 3), (24, .iconst 2, 1), (25, .aload_n 0, 1), (26, .getfield 305, 3), (29, .iastore, 1), (30, .aload_n 0, 1), (31, .getfield 75, 3), (34, .iconst 3, 1), (35, .aload_n 0, 1), (36, .getfield 308, 3), (39, .iastore, 1), (40, .aload_n 0, 1), (41, .getfield 75, 3), (44, .iconst 4, 1), (45, .aload_n 0, 1), (46, .getfield 7, 3), (49, .iconst 0, 1), (50, .iaload, 1), (51, .iastore, 1), (52, .return_, 1)]
noncomputable def mm_X12_asksHim : mv_M := (ic_X12_asksHim, fl_X12, [], [], [], [], none)
noncomputable def ff_X12_asksHim : mv_F := mv_fn mv_rc mm_X12_asksHim mv_sh 400 1
theorem dk_X12_asksHim : mv_dk cX12_asksHim ic_X12_asksHim = true := by decide +kernel
set_option maxRecDepth 20000 in
theorem cc_X12_asksHim {ad : Nat → Nat → Value} {cA : Nat → ClassId} {D : va_G} {tys : List (ClassId × FieldType)} {A : Nat → Prop} (l : Launch) (hF : mv_Fix mv_sh mv_ids mv_ros ad cA tys A mv_rc) : mv_Met l yX12_asksHim cX12_asksHim 1 none mv_Ts (mv_rm 1) 1 true mv_sh mv_ids mv_ros ad cA mv_cl D tys A mv_rc mv_cr (mv_EX ad A) ff_X12_asksHim := mv_met_of (by decide +kernel) (by decide) hF mv_stok (mv_rzV (by decide +kernel)) mv_clok (mv_dk_ok dk_X12_asksHim) (mv_fk_ok fk_X12) (fun p e s m args below meth c Q hBg hX hR => ⟨fun _ h => absurd h List.not_mem_nil, fun _ h => absurd h List.not_mem_nil⟩) (fun p e s m args below meth c Q hBg hX hR hK => fun _ h => absurd h List.not_mem_nil)
def ic_X12_warmAt : List (Nat × Instr × Nat) := [(0, .iconst 0, 1), (1, .istore_n 2, 1), (2, .iload_n 1, 1), (3, .istore_n 3, 1), (4, .iload_n 3, 1), (5, .iload_n 1, 1), (6, .aload_n 0, 1), (7, .getfield 299, 3), (10, .iadd, 1), (11, .if_icmp .ge 48, 3), (14, .aload_n 0, 1), (15, .getfield 7, 3), (18, .bipush 12, 2), (20, .iload_n 3, 1), (21, .iadd, 1), (22, .iaload, 1), (23, .ifCond .le 30, 3), (26, .aload_n 0, 1), (27, .getfield 7, 3), (30, .iconst 0, 1), (31, .iaload, 1), (32, .aload_n 0, 1), (33, .getfield 7, 3), (36, .bipush 12, 2), (38, .iload_n 3, 1), (39, .iadd, 1), (40, .iaload, 1), (41, .iconst 1, 1), (42, .isub, 1), (43, .isub, 1), (44, .bipush 9, 2), (46, .if_icmp .gt 7, 3), (49, .iload_n 2, 1), (50, .iconst 1, 1), (51, .iadd, 1), (52, .istore_n 2, 1), (53, .iinc 3 1, 3), (56, .goto (-52), 3), (59, .iload_n 2, 1), (60, .ireturn, 1)]
noncomputable def mm_X12_warmAt : mv_M := (ic_X12_warmAt, fl_X12, [], [], [], [(4, [true, true, true, true])], none)
noncomputable def ff_X12_warmAt : mv_F := mv_fn mv_rc mm_X12_warmAt mv_sh 400 4
theorem dk_X12_warmAt : mv_dk cX12_warmAt ic_X12_warmAt = true := by decide +kernel
set_option maxRecDepth 20000 in
theorem cc_X12_warmAt {ad : Nat → Nat → Value} {cA : Nat → ClassId} {D : va_G} {tys : List (ClassId × FieldType)} {A : Nat → Prop} (l : Launch) (hF : mv_Fix mv_sh mv_ids mv_ros ad cA tys A mv_rc) : mv_Met l yX12_warmAt cX12_warmAt 4 (some .int) mv_Ts (mv_rm 1) 2 false mv_sh mv_ids mv_ros ad cA mv_cl D tys A mv_rc mv_cr (mv_EX ad A) ff_X12_warmAt := mv_met_of (by decide +kernel) (by decide) hF mv_stok (mv_rzI (by decide +kernel)) mv_clok (mv_dk_ok dk_X12_warmAt) (mv_fk_ok fk_X12) (fun p e s m args below meth c Q hBg hX hR => ⟨fun _ h => absurd h List.not_mem_nil, fun _ h => absurd h List.not_mem_nil⟩) (fun p e s m args below meth c Q hBg hX hR hK => fun _ h => absurd h List.not_mem_nil)
def ic_X12_isFriend : List (Nat × Instr × Nat) := [(0, .aload_n 0, 1), (1, .getfield 308, 3), (4, .ifCond .le 20, 3), (7, .aload_n 0, 1), (8, .getfield 90, 3), (11, .iload_n 1, 1), (12, .iaload, 1), (13, .aload_n 0, 1), (14, .getfield 308, 3), (17, .if_icmp .ne 7, 3), (20, .iconst 1, 1), (21, .goto 4, 3), (24, .iconst 0, 1), (25, .ireturn, 1)]
noncomputable def mm_X12_isFriend : mv_M := (ic_X12_isFriend, fl_X12, [], [], [], [], (some (0, 1)))
noncomputable def ff_X12_isFriend : mv_F := mv_fn mv_rc mm_X12_isFriend mv_sh 400 2
theorem dk_X12_isFriend : mv_dk cX12_isFriend ic_X12_isFriend = true := by decide +kernel
set_option maxRecDepth 20000 in
theorem cc_X12_isFriend {ad : Nat → Nat → Value} {cA : Nat → ClassId} {D : va_G} {tys : List (ClassId × FieldType)} {A : Nat → Prop} (l : Launch) (hF : mv_Fix mv_sh mv_ids mv_ros ad cA tys A mv_rc) : mv_Met l yX12_isFriend cX12_isFriend 2 (some .boolean) mv_Ts (mv_rm 1) 2 false mv_sh mv_ids mv_ros ad cA mv_cl D tys A mv_rc mv_cr (mv_EX ad A) ff_X12_isFriend := mv_met_of (by decide +kernel) (by decide) hF mv_stok (mv_rzZ (by decide +kernel) rfl) mv_clok (mv_dk_ok dk_X12_isFriend) (mv_fk_ok fk_X12) (fun p e s m args below meth c Q hBg hX hR => ⟨fun _ h => absurd h List.not_mem_nil, fun _ h => absurd h List.not_mem_nil⟩) (fun p e s m args below meth c Q hBg hX hR hK => fun _ h => absurd h List.not_mem_nil)
def ic_X12_twoOf : List (Nat × Instr × Nat) := [(0, .iload_n 1, 1), (1, .iconst 2, 1), (2, .if_icmp .ne 7, 3), (5, .iload_n 2, 1), (6, .iload_n 3, 1), (7, .iadd, 1), (8, .ireturn, 1), (9, .iload_n 1, 1), (10, .iconst 3, 1), (11, .if_icmp .ne 7, 3), (14, .iload_n 2, 1), (15, .iload_n 3, 1), (16, .isub, 1), (17, .ireturn, 1), (18, .iload_n 1, 1), (19, .iconst 4, 1), (20, .if_icmp .ne 7, 3), (23, .iload_n 2, 1), (24, .iload_n 3, 1), (25, .imul, 1), (26, .ireturn, 1), (27, .iload_n 1, 1), (28, .iconst 5, 1), (29, .if_icmp .ne 7, 3), (32, .iload_n 2, 1), (33, .iload_n 3, 1), (34, .idiv, 1), (35, .ireturn, 1), (36, .iload_n 1, 1), (37, .bipush 6, 2), (39, .if_icmp .ne 14, 3), (42, .iload_n 2, 1), (43, .iload_n 3, 1), (44, .if_icmp .ge 7, 3), (47, .iconst 1, 1), (48, .goto 4, 3), (51, .iconst 0, 1), (52, .ireturn, 1), (53, .iload_n 1, 1), (54, .bipush 7, 2), (56, .if_icmp .ne 14, 3), (59, .iload_n 2, 1), (60, .iload_n 3, 1), (61, .if_icmp .ne 7, 3), (64, .iconst 1, 1), (65, .goto 4, 3), (68, .iconst 0, 1), (69, .ireturn, 1), (70, .iload_n 1, 1), (71, .bipush 8, 2), (73, .if_icmp .ne 14, 3), (76, .iload_n 2, 1), (77, .iload_n 3, 1), (78, .if_icmp .le 7, 3), (81, .iconst 1, 1), (82, .goto 4, 3), (85, .iconst 0, 1), (86, .ireturn, 1), (87, .iload_n 1, 1), (88, .bipush 10, 2), (90, .if_icmp .ne 9, 3), (93, .iload_n 2, 1), (94, .iload_n 3, 1), (95, .imul, 1), (96, .goto 14, 3), (99, .iload_n 2, 1), (100, .iload_n 3, 1), (101, .iadd, 1), (102, .ifCond .le 7, 3), (105, .iconst 1, 1), (106, .goto 4, 3), (109, .iconst 0, 1), (110, .ireturn, 1)]
noncomputable def mm_X12_twoOf : mv_M := (ic_X12_twoOf, fl_X12, [], [], [], [], none)
noncomputable def ff_X12_twoOf : mv_F := mv_fn mv_rc mm_X12_twoOf mv_sh 400 4
theorem dk_X12_twoOf : mv_dk cX12_twoOf ic_X12_twoOf = true := by decide +kernel
set_option maxRecDepth 20000 in
theorem cc_X12_twoOf {ad : Nat → Nat → Value} {cA : Nat → ClassId} {D : va_G} {tys : List (ClassId × FieldType)} {A : Nat → Prop} (l : Launch) (hF : mv_Fix mv_sh mv_ids mv_ros ad cA tys A mv_rc) : mv_Met l yX12_twoOf cX12_twoOf 4 (some .int) mv_Ts (mv_rm 1) 4 false mv_sh mv_ids mv_ros ad cA mv_cl D tys A mv_rc mv_cr (mv_EX ad A) ff_X12_twoOf := mv_met_of (by decide +kernel) (by decide) hF mv_stok (mv_rzI (by decide +kernel)) mv_clok (mv_dk_ok dk_X12_twoOf) (mv_fk_ok fk_X12) (fun p e s m args below meth c Q hBg hX hR => ⟨fun _ h => absurd h List.not_mem_nil, fun _ h => absurd h List.not_mem_nil⟩) (fun p e s m args below meth c Q hBg hX hR hK => fun _ h => absurd h List.not_mem_nil)
set_option maxRecDepth 20000 in
theorem cw_X12_282 : mv_Cw RX12 282 yX12_twoOf cX12_twoOf 4 (some .int) (some 12) 4 := mv_cw_of (a := 1756) (b := 143) (c := 1758) (d := 82) (mv_T 1759 rfl rfl) (by decide +kernel)
def ic_X12_runs : List (Nat × Instr × Nat) := [(0, .iconst 0, 1), (1, .istore 4, 2), (3, .sipush 400, 3), (6, .iload_n 1, 1), (7, .imul, 1), (8, .iload_n 2, 1), (9, .iadd, 1), (10, .istore 5, 2), (12, .iload 5, 2), (14, .sipush 400, 3), (17, .iload_n 1, 1), (18, .imul, 1), (19, .iload_n 3, 1), (20, .iadd, 1), (21, .if_icmp .ge 155, 3), (24, .aload_n 0, 1), (25, .getfield 59, 3), (28, .iload 5, 2), (30, .iaload, 1), (31, .ifCond .eq 14, 3), (34, .aload_n 0, 1), (35, .getfield 59, 3), (38, .iload 5, 2), (40, .iaload, 1), (41, .iconst 1, 1), (42, .if_icmp .ne 51, 3), (45, .aload_n 0, 1), (46, .getfield 78, 3), (49, .iload 4, 2), (51, .aload_n 0, 1), (52, .getfield 59, 3), (55, .iload 5, 2), (57, .iaload, 1), (58, .ifCond .ne 13, 3), (61, .aload_n 0, 1), (62, .getfield 62, 3), (65, .iload 5, 2), (67, .iaload, 1), (68, .goto 15, 3), (71, .aload_n 0, 1), (72, .getfield 75, 3), (75, .aload_n 0, 1), (76, .getfield 62, 3), (79, .iload 5, 2), (81, .iaload, 1), (82, .iaload, 1), (83, .iastore, 1), (84, .iload 4, 2), (86, .iconst 1, 1), (87, .iadd, 1), (88, .istore 4, 2), (90, .goto 80, 3), (93, .aload_n 0, 1), (94, .getfield 59, 3), (97, .iload 5, 2), (99, .iaload, 1), (100, .bipush 9, 2), (102, .if_icmp .ne 26, 3), (105, .aload_n 0, 1), (106, .getfield 78, 3), (109, .iload 4, 2), (111, .iconst 1, 1), (112, .isub, 1), (113, .iconst 1, 1), (114, .aload_n 0, 1), (115, .getfield 78, 3), (118, .iload 4, 2), (120, .iconst 1, 1), (121, .isub, 1), (122, .iaload, 1), (123, .isub, 1), (124, .iastore, 1), (125, .goto 45, 3), (128, .iload 4, 2), (130, .iconst 1, 1), (131, .isub, 1), (132, .istore 4, 2), (134, .aload_n 0, 1), (135, .getfield 78, 3), (138, .iload 4, 2), (140, .iconst 1, 1), (141, .isub, 1), (142, .aload_n 0, 1), (143, .aload_n 0, 1), (144, .getfield 59, 3), (147, .iload 5, 2), (149, .iaload, 1), (150, .aload_n 0, 1), (151, .getfield 78, 3), (154, .iload 4, 2), (156, .iconst 1, 1), (157, .isub, 1), (158, .iaload, 1), (159, .aload_n 0, 1), (160, .getfield 78, 3), (163, .iload 4, 2), (165, .iaload, 1), (166, .invokevirtual 282, 3), (169, .iastore, 1), (170, .iinc 5 1, 3), (173, .goto (-161), 3), (176, .aload_n 0, 1), (177, .getfield 78, 3), (180, .iconst 0, 1), (181, .iaload, 1), (182, .ireturn, 1)]
noncomputable def mm_X12_runs : mv_M := (ic_X12_runs, fl_X12, [], [], [(282, 4, some 12, false, ff_X12_twoOf)], [(12, [true, true, false, true, true, true])], none)
noncomputable def ff_X12_runs : mv_F := mv_fn mv_rc mm_X12_runs mv_sh 400 6
theorem dk_X12_runs : mv_dk cX12_runs ic_X12_runs = true := by decide +kernel
set_option maxRecDepth 20000 in
theorem cc_X12_runs {ad : Nat → Nat → Value} {cA : Nat → ClassId} {D : va_G} {tys : List (ClassId × FieldType)} {A : Nat → Prop} (l : Launch) (hF : mv_Fix mv_sh mv_ids mv_ros ad cA tys A mv_rc) : mv_Met l yX12_runs cX12_runs 6 (some .int) mv_Ts (mv_rm 2) 4 false mv_sh mv_ids mv_ros ad cA mv_cl D tys A mv_rc mv_cr (mv_EX ad A) ff_X12_runs := mv_met_of (by decide +kernel) (by decide) hF mv_stok (mv_rzI (by decide +kernel)) mv_clok (mv_dk_ok dk_X12_runs) (mv_fk_ok fk_X12) (fun p e s m args below meth c Q hBg hX hR => ⟨fun _ h => absurd h List.not_mem_nil, fun _ h => absurd h List.not_mem_nil⟩) (fun p e s m args below meth c Q hBg hX hR hK => List.forall_mem_cons.mpr ⟨mv_cal_of (cc_X12_twoOf l hF) hBg hX hR hK mv_EX_ok hF mv_good mv_stok cw_X12_282.1 cw_X12_282.2.1 cw_X12_282.2.2 ⟨rfl, rfl, by exact Nat.le_of_ble_eq_true rfl, by exact Nat.le_of_ble_eq_true rfl⟩ ⟨Nat.zero_le _, Nat.zero_le _⟩, fun _ h => absurd h List.not_mem_nil⟩)
set_option maxRecDepth 20000 in
theorem cw_X12_286 : mv_Cw RX12 286 yX12_runs cX12_runs 6 (some .int) (some 12) 4 := mv_cw_of (a := 1752) (b := 143) (c := 1754) (d := 81) (mv_T 1755 rfl rfl) (by decide +kernel)
def ic_X12_lineOf : List (Nat × Instr × Nat) := [(0, .iconst 0, 1), (1, .istore_n 2, 1), (2, .iload_n 2, 1), (3, .aload_n 0, 1), (4, .getfield 47, 3), (7, .iload_n 1, 1), (8, .iaload, 1), (9, .if_icmp .ge 53, 3), (12, .bipush 16, 2), (14, .iload_n 1, 1), (15, .imul, 1), (16, .iload_n 2, 1), (17, .iadd, 1), (18, .istore_n 3, 1), (19, .aload_n 0, 1), (20, .getfield 53, 3), (23, .iload_n 3, 1), (24, .iaload, 1), (25, .aload_n 0, 1), (26, .getfield 56, 3), (29, .iload_n 3, 1), (30, .iaload, 1), (31, .if_icmp .eq 23, 3), (34, .aload_n 0, 1), (35, .iload_n 1, 1), (36, .aload_n 0, 1), (37, .getfield 53, 3), (40, .iload_n 3, 1), (41, .iaload, 1), (42, .aload_n 0, 1), (43, .getfield 56, 3), (46, .iload_n 3, 1), (47, .iaload, 1), (48, .invokevirtual 286, 3), (51, .ifCond .eq 5, 3), (54, .iload_n 3, 1), (55, .ireturn, 1), (56, .iinc 2 1, 3), (59, .goto (-57), 3), (62, .iconst (-1), 1), (63, .ireturn, 1)]
noncomputable def mm_X12_lineOf : mv_M := (ic_X12_lineOf, fl_X12, [], [], [(286, 4, some 12, false, ff_X12_runs)], [(2, [true, true, true, false])], none)
noncomputable def ff_X12_lineOf : mv_F := mv_fn mv_rc mm_X12_lineOf mv_sh 400 4
theorem dk_X12_lineOf : mv_dk cX12_lineOf ic_X12_lineOf = true := by decide +kernel
set_option maxRecDepth 20000 in
theorem cc_X12_lineOf {ad : Nat → Nat → Value} {cA : Nat → ClassId} {D : va_G} {tys : List (ClassId × FieldType)} {A : Nat → Prop} (l : Launch) (hF : mv_Fix mv_sh mv_ids mv_ros ad cA tys A mv_rc) : mv_Met l yX12_lineOf cX12_lineOf 4 (some .int) mv_Ts (mv_rm 3) 2 false mv_sh mv_ids mv_ros ad cA mv_cl D tys A mv_rc mv_cr (mv_EX ad A) ff_X12_lineOf := mv_met_of (by decide +kernel) (by decide) hF mv_stok (mv_rzI (by decide +kernel)) mv_clok (mv_dk_ok dk_X12_lineOf) (mv_fk_ok fk_X12) (fun p e s m args below meth c Q hBg hX hR => ⟨fun _ h => absurd h List.not_mem_nil, fun _ h => absurd h List.not_mem_nil⟩) (fun p e s m args below meth c Q hBg hX hR hK => List.forall_mem_cons.mpr ⟨mv_cal_of (cc_X12_runs l hF) hBg hX hR hK mv_EX_ok hF mv_good mv_stok cw_X12_286.1 cw_X12_286.2.1 cw_X12_286.2.2 ⟨rfl, rfl, by exact Nat.le_of_ble_eq_true rfl, by exact Nat.le_of_ble_eq_true rfl⟩ ⟨Nat.zero_le _, Nat.zero_le _⟩, fun _ h => absurd h List.not_mem_nil⟩)
set_option maxRecDepth 20000 in
theorem cw_X12_325 : mv_Cw RX12 325 yX12_asksHim cX12_asksHim 1 none (some 12) 1 := mv_cw_of (a := 1736) (b := 143) (c := 1738) (d := 77) (mv_T 1739 rfl rfl) (by decide +kernel)
set_option maxRecDepth 20000 in
theorem cw_X12_328 : mv_Cw RX12 328 yX12_warmAt cX12_warmAt 4 (some .int) (some 12) 2 := mv_cw_of (a := 1740) (b := 143) (c := 1742) (d := 78) (mv_T 1743 rfl rfl) (by decide +kernel)
set_option maxRecDepth 20000 in
theorem cw_X12_331 : mv_Cw RX12 331 yX12_isFriend cX12_isFriend 2 (some .boolean) (some 12) 2 := mv_cw_of (a := 1744) (b := 143) (c := 1746) (d := 79) (mv_T 1747 rfl rfl) (by decide +kernel)
set_option maxRecDepth 20000 in
theorem cw_X12_334 : mv_Cw RX12 334 yX12_lineOf cX12_lineOf 4 (some .int) (some 12) 2 := mv_cw_of (a := 1748) (b := 143) (c := 1750) (d := 80) (mv_T 1751 rfl rfl) (by decide +kernel)
def ic_X12_tellsOf : List (Nat × Instr × Nat) := [(0, .aload_n 0, 1), (1, .iload_n 1, 1), (2, .invokevirtual 318, 3), (5, .istore_n 2, 1), (6, .aload_n 0, 1), (7, .invokevirtual 325, 3), (10, .aload_n 0, 1), (11, .getfield 75, 3), (14, .iconst 5, 1), (15, .iload_n 1, 1), (16, .iastore, 1), (17, .aload_n 0, 1), (18, .getfield 75, 3), (21, .bipush 6, 2), (23, .iload_n 1, 1), (24, .iload_n 2, 1), (25, .ifCond .le 14, 3), (28, .aload_n 0, 1), (29, .getfield 84, 3), (32, .iload_n 2, 1), (33, .iconst 1, 1), (34, .isub, 1), (35, .iaload, 1), (36, .goto 4, 3), (39, .iconst 0, 1), (40, .isub, 1), (41, .iastore, 1), (42, .aload_n 0, 1), (43, .getfield 75, 3), (46, .bipush 7, 2), (48, .iload_n 2, 1), (49, .aload_n 0, 1), (50, .getfield 289, 3), (53, .if_icmp .ge 12, 3), (56, .aload_n 0, 1), (57, .getfield 81, 3), (60, .iload_n 2, 1), (61, .iaload, 1), (62, .goto 7, 3), (65, .aload_n 0, 1), (66, .invokevirtual 149, 3), (69, .iload_n 1, 1), (70, .isub, 1), (71, .aload_n 0, 1), (72, .getfield 299, 3), (75, .isub, 1), (76, .aload_n 0, 1), (77, .getfield 305, 3), (80, .isub, 1), (81, .iastore, 1), (82, .aload_n 0, 1), (83, .getfield 75, 3), (86, .bipush 8, 2), (88, .aload_n 0, 1), (89, .iload_n 1, 1), (90, .invokevirtual 328, 3), (93, .iastore, 1), (94, .aload_n 0, 1), (95, .getfield 75, 3), (98, .bipush 9, 2), (100, .iload_n 2, 1), (101, .ifCond .le 17, 3), (104, .aload_n 0, 1), (105, .iload_n 2, 1), (106, .iconst 1, 1), (107, .isub, 1), (108, .invokevirtual 331, 3), (111, .ifCond .eq 7, 3), (114, .iconst 1, 1), (115, .goto 4, 3), (118, .iconst 0, 1), (119, .iload_n 2, 1), (120, .aload_n 0, 1), (121, .getfield 289, 3), (124, .if_icmp .ge 15, 3), (127, .aload_n 0, 1), (128, .iload_n 2, 1), (129, .invokevirtual 331, 3), (132, .ifCond .eq 7, 3), (135, .iconst 1, 1), (136, .goto 4, 3), (139, .iconst 0, 1), (140, .iadd, 1), (141, .iastore, 1), (142, .aload_n 0, 1), (143, .getfield 75, 3), (146, .bipush 10, 2), (148, .aload_n 0, 1), (149, .getfield 289, 3), (152, .iastore, 1), (153, .aload_n 0, 1), (154, .iconst 0, 1), (155, .invokevirtual 334, 3), (158, .istore_n 3, 1), (159, .iload_n 3, 1), (160, .iconst (-1), 1), (161, .if_icmp .ne 7, 3), (164, .iconst 0, 1), (165, .goto 20, 3), (168, .aload_n 0, 1), (169, .iconst 0, 1), (170, .aload_n 0, 1), (171, .getfield 50, 3), (174, .iload_n 3, 1), (175, .iaload, 1), (176, .aload_n 0, 1), (177, .getfield 53, 3), (180, .iload_n 3, 1), (181, .iaload, 1), (182, .invokevirtual 286, 3), (185, .ireturn, 1)]
noncomputable def mm_X12_tellsOf : mv_M := (ic_X12_tellsOf, fl_X12, [], [], [(318, 2, some 12, false, ff_X12_leftOf), (325, 1, some 12, true, ff_X12_asksHim), (149, 1, some 12, false, ff_X12_length), (328, 2, some 12, false, ff_X12_warmAt), (331, 2, some 12, false, ff_X12_isFriend), (334, 2, some 12, false, ff_X12_lineOf), (286, 4, some 12, false, ff_X12_runs)], [], none)
noncomputable def ff_X12_tellsOf : mv_F := mv_fn mv_rc mm_X12_tellsOf mv_sh 400 4
theorem dk_X12_tellsOf : mv_dk cX12_tellsOf ic_X12_tellsOf = true := by decide +kernel
set_option maxRecDepth 20000 in
theorem cc_X12_tellsOf {ad : Nat → Nat → Value} {cA : Nat → ClassId} {D : va_G} {tys : List (ClassId × FieldType)} {A : Nat → Prop} (l : Launch) (hF : mv_Fix mv_sh mv_ids mv_ros ad cA tys A mv_rc) : mv_Met l yX12_tellsOf cX12_tellsOf 4 (some .int) mv_Ts (mv_rm 4) 2 false mv_sh mv_ids mv_ros ad cA mv_cl D tys A mv_rc mv_cr (mv_EX ad A) ff_X12_tellsOf := mv_met_of (by decide +kernel) (by decide) hF mv_stok (mv_rzI (by decide +kernel)) mv_clok (mv_dk_ok dk_X12_tellsOf) (mv_fk_ok fk_X12) (fun p e s m args below meth c Q hBg hX hR => ⟨fun _ h => absurd h List.not_mem_nil, fun _ h => absurd h List.not_mem_nil⟩) (fun p e s m args below meth c Q hBg hX hR hK => List.forall_mem_cons.mpr ⟨mv_cal_of (cc_X12_leftOf l hF) hBg hX hR hK mv_EX_ok hF mv_good mv_stok cw_X12_318.1 cw_X12_318.2.1 cw_X12_318.2.2 ⟨rfl, rfl, by exact Nat.le_of_ble_eq_true rfl, by exact Nat.le_of_ble_eq_true rfl⟩ ⟨Nat.zero_le _, Nat.zero_le _⟩, List.forall_mem_cons.mpr ⟨mv_cal_of (cc_X12_asksHim l hF) hBg hX hR hK mv_EX_ok hF mv_good mv_stok cw_X12_325.1 cw_X12_325.2.1 cw_X12_325.2.2 ⟨rfl, rfl, by exact Nat.le_of_ble_eq_true rfl, by exact Nat.le_of_ble_eq_true rfl⟩ ⟨Nat.zero_le _, Nat.zero_le _⟩, List.forall_mem_cons.mpr ⟨mv_cal_of (cc_X12_length l hF) hBg hX hR hK mv_EX_ok hF mv_good mv_stok cw_X12_149.1 cw_X12_149.2.1 cw_X12_149.2.2 ⟨rfl, rfl, by exact Nat.le_of_ble_eq_true rfl, by exact Nat.le_of_ble_eq_true rfl⟩ ⟨Nat.zero_le _, Nat.zero_le _⟩, List.forall_mem_cons.mpr ⟨mv_cal_of (cc_X12_warmAt l hF) hBg hX hR hK mv_EX_ok hF mv_good mv_stok cw_X12_328.1 cw_X12_328.2.1 cw_X12_328.2.2 ⟨rfl, rfl, by exact Nat.le_of_ble_eq_true rfl, by exact Nat.le_of_ble_eq_true rfl⟩ ⟨Nat.zero_le _, Nat.zero_le _⟩, List.forall_mem_cons.mpr ⟨mv_cal_of (cc_X12_isFriend l hF) hBg hX hR hK mv_EX_ok hF mv_good mv_stok cw_X12_331.1 cw_X12_331.2.1 cw_X12_331.2.2 ⟨rfl, rfl, by exact Nat.le_of_ble_eq_true rfl, by exact Nat.le_of_ble_eq_true rfl⟩ ⟨Nat.zero_le _, Nat.zero_le _⟩, List.forall_mem_cons.mpr ⟨mv_cal_of (cc_X12_lineOf l hF) hBg hX hR hK mv_EX_ok hF mv_good mv_stok cw_X12_334.1 cw_X12_334.2.1 cw_X12_334.2.2 ⟨rfl, rfl, by exact Nat.le_of_ble_eq_true rfl, by exact Nat.le_of_ble_eq_true rfl⟩ ⟨Nat.zero_le _, Nat.zero_le _⟩, List.forall_mem_cons.mpr ⟨mv_cal_of (cc_X12_runs l hF) hBg hX hR hK mv_EX_ok hF mv_good mv_stok cw_X12_286.1 cw_X12_286.2.1 cw_X12_286.2.2 ⟨rfl, rfl, by exact Nat.le_of_ble_eq_true rfl, by exact Nat.le_of_ble_eq_true rfl⟩ ⟨Nat.zero_le _, Nat.zero_le _⟩, fun _ h => absurd h List.not_mem_nil⟩⟩⟩⟩⟩⟩⟩)
end
section
set_option maxRecDepth 20000 in
theorem cw_X12_337 : mv_Cw RX12 337 yX12_canSit cX12_canSit 4 (some .boolean) (some 12) 2 := mv_cw_of (a := 1712) (b := 143) (c := 1714) (d := 71) (mv_T 1715 rfl rfl) (by decide +kernel)
set_option maxRecDepth 20000 in
theorem cw_X12_340 : mv_Cw RX12 340 yX12_tellsOf cX12_tellsOf 4 (some .int) (some 12) 2 := mv_cw_of (a := 1732) (b := 143) (c := 1734) (d := 76) (mv_T 1735 rfl rfl) (by decide +kernel)
def ic_X12_bestInch : List (Nat × Instr × Nat) := [(0, .iconst (-1), 1), (1, .istore_n 1, 1), (2, .iconst 0, 1), (3, .istore_n 2, 1), (4, .iconst 0, 1), (5, .istore_n 3, 1), (6, .iload_n 3, 1), (7, .aload_n 0, 1), (8, .invokevirtual 149, 3), (11, .if_icmp .ge 46, 3), (14, .aload_n 0, 1), (15, .iload_n 3, 1), (16, .invokevirtual 337, 3), (19, .ifCond .ne 6, 3), (22, .goto 29, 3), (25, .aload_n 0, 1), (26, .iload_n 3, 1), (27, .invokevirtual 340, 3), (30, .istore 4, 2), (32, .iload_n 1, 1), (33, .iconst (-1), 1), (34, .if_icmp .eq 12, 3), (37, .iload 4, 2), (39, .iload_n 2, 1), (40, .if_icmp .gt 6, 3), (43, .goto 8, 3), (46, .iload_n 3, 1), (47, .istore_n 1, 1), (48, .iload 4, 2), (50, .istore_n 2, 1), (51, .iinc 3 1, 3), (54, .goto (-48), 3), (57, .iload_n 1, 1), (58, .ireturn, 1)]
noncomputable def mm_X12_bestInch : mv_M := (ic_X12_bestInch, fl_X12, [], [], [(149, 1, some 12, false, ff_X12_length), (337, 2, some 12, false, ff_X12_canSit), (340, 2, some 12, false, ff_X12_tellsOf)], [(6, [true, true, true, true, false])], none)
noncomputable def ff_X12_bestInch : mv_F := mv_fn mv_rc mm_X12_bestInch mv_sh 400 5
theorem dk_X12_bestInch : mv_dk cX12_bestInch ic_X12_bestInch = true := by decide +kernel
set_option maxRecDepth 20000 in
theorem cc_X12_bestInch {ad : Nat → Nat → Value} {cA : Nat → ClassId} {D : va_G} {tys : List (ClassId × FieldType)} {A : Nat → Prop} (l : Launch) (hF : mv_Fix mv_sh mv_ids mv_ros ad cA tys A mv_rc) : mv_Met l yX12_bestInch cX12_bestInch 5 (some .int) mv_Ts (mv_rm 5) 1 false mv_sh mv_ids mv_ros ad cA mv_cl D tys A mv_rc mv_cr (mv_EX ad A) ff_X12_bestInch := mv_met_of (by decide +kernel) (by decide) hF mv_stok (mv_rzI (by decide +kernel)) mv_clok (mv_dk_ok dk_X12_bestInch) (mv_fk_ok fk_X12) (fun p e s m args below meth c Q hBg hX hR => ⟨fun _ h => absurd h List.not_mem_nil, fun _ h => absurd h List.not_mem_nil⟩) (fun p e s m args below meth c Q hBg hX hR hK => List.forall_mem_cons.mpr ⟨mv_cal_of (cc_X12_length l hF) hBg hX hR hK mv_EX_ok hF mv_good mv_stok cw_X12_149.1 cw_X12_149.2.1 cw_X12_149.2.2 ⟨rfl, rfl, by exact Nat.le_of_ble_eq_true rfl, by exact Nat.le_of_ble_eq_true rfl⟩ ⟨Nat.zero_le _, Nat.zero_le _⟩, List.forall_mem_cons.mpr ⟨mv_cal_of (cc_X12_canSit l hF) hBg hX hR hK mv_EX_ok hF mv_good mv_stok cw_X12_337.1 cw_X12_337.2.1 cw_X12_337.2.2 ⟨rfl, rfl, by exact Nat.le_of_ble_eq_true rfl, by exact Nat.le_of_ble_eq_true rfl⟩ ⟨Nat.zero_le _, Nat.zero_le _⟩, List.forall_mem_cons.mpr ⟨mv_cal_of (cc_X12_tellsOf l hF) hBg hX hR hK mv_EX_ok hF mv_good mv_stok cw_X12_340.1 cw_X12_340.2.1 cw_X12_340.2.2 ⟨rfl, rfl, by exact Nat.le_of_ble_eq_true rfl, by exact Nat.le_of_ble_eq_true rfl⟩ ⟨Nat.zero_le _, Nat.zero_le _⟩, fun _ h => absurd h List.not_mem_nil⟩⟩⟩)
set_option maxRecDepth 20000 in
theorem cw_X12_344 : mv_Cw RX12 344 yX12_everyone cX12_everyone 1 (some .int) (some 12) 1 := mv_cw_of (a := 1692) (b := 143) (c := 1694) (d := 66) (mv_T 1695 rfl rfl) (by decide +kernel)
set_option maxRecDepth 20000 in
theorem cw_X12_347 : mv_Cw RX12 347 yX12_lists cX12_lists 3 none (some 12) 2 := mv_cw_of (a := 1696) (b := 143) (c := 1698) (d := 67) (mv_T 1699 rfl rfl) (by decide +kernel)
set_option maxRecDepth 20000 in
theorem cw_X12_350 : mv_Cw RX12 350 yX12_asksFor cX12_asksFor 2 none (some 12) 2 := mv_cw_of (a := 1708) (b := 143) (c := 1710) (d := 70) (mv_T 1711 rfl rfl) (by decide +kernel)
set_option maxRecDepth 20000 in
theorem cw_X12_353 : mv_Cw RX12 353 yX12_bestInch cX12_bestInch 5 (some .int) (some 12) 1 := mv_cw_of (a := 1776) (b := 143) (c := 1778) (d := 86) (mv_T 1779 rfl rfl) (by decide +kernel)
def ic_X12_comes : List (Nat × Instr × Nat) := [(0, .aload_n 0, 1), (1, .aload_n 0, 1), (2, .invokevirtual 344, 3), (5, .invokevirtual 347, 3), (8, .aload_n 0, 1), (9, .iload_n 1, 1), (10, .invokevirtual 350, 3), (13, .aload_n 0, 1), (14, .invokevirtual 353, 3), (17, .istore_n 2, 1), (18, .aload_n 0, 1), (19, .getfield 7, 3), (22, .iconst 2, 1), (23, .iload_n 1, 1), (24, .iadd, 1), (25, .iload_n 2, 1), (26, .iconst 1, 1), (27, .iadd, 1), (28, .iastore, 1), (29, .aload_n 0, 1), (30, .iload_n 1, 1), (31, .iload_n 2, 1), (32, .iconst (-1), 1), (33, .if_icmp .ne 7, 3), (36, .iconst 1, 1), (37, .goto 4, 3), (40, .iconst 0, 1), (41, .iload_n 2, 1), (42, .invokevirtual 356, 3), (45, .iload_n 2, 1), (46, .ireturn, 1)]
noncomputable def mm_X12_comes : mv_M := (ic_X12_comes, fl_X12, [], [], [(344, 1, some 12, false, ff_X12_everyone), (347, 2, some 12, true, ff_X12_lists), (350, 2, some 12, true, ff_X12_asksFor), (353, 1, some 12, false, ff_X12_bestInch), (356, 4, some 12, true, ff_X12_notes)], [], none)
noncomputable def ff_X12_comes : mv_F := mv_fn mv_rc mm_X12_comes mv_sh 400 3
theorem dk_X12_comes : mv_dk cX12_comes ic_X12_comes = true := by decide +kernel
set_option maxRecDepth 20000 in
theorem cc_X12_comes {ad : Nat → Nat → Value} {cA : Nat → ClassId} {D : va_G} {tys : List (ClassId × FieldType)} {A : Nat → Prop} (l : Launch) (hF : mv_Fix mv_sh mv_ids mv_ros ad cA tys A mv_rc) : mv_Met l yX12_comes cX12_comes 3 (some .int) mv_Ts (mv_rm 6) 2 false mv_sh mv_ids mv_ros ad cA mv_cl D tys A mv_rc mv_cr (mv_EX ad A) ff_X12_comes := mv_met_of (by decide +kernel) (by decide) hF mv_stok (mv_rzI (by decide +kernel)) mv_clok (mv_dk_ok dk_X12_comes) (mv_fk_ok fk_X12) (fun p e s m args below meth c Q hBg hX hR => ⟨fun _ h => absurd h List.not_mem_nil, fun _ h => absurd h List.not_mem_nil⟩) (fun p e s m args below meth c Q hBg hX hR hK => List.forall_mem_cons.mpr ⟨mv_cal_of (cc_X12_everyone l hF) hBg hX hR hK mv_EX_ok hF mv_good mv_stok cw_X12_344.1 cw_X12_344.2.1 cw_X12_344.2.2 ⟨rfl, rfl, by exact Nat.le_of_ble_eq_true rfl, by exact Nat.le_of_ble_eq_true rfl⟩ ⟨Nat.zero_le _, Nat.zero_le _⟩, List.forall_mem_cons.mpr ⟨mv_cal_of (cc_X12_lists l hF) hBg hX hR hK mv_EX_ok hF mv_good mv_stok cw_X12_347.1 cw_X12_347.2.1 cw_X12_347.2.2 ⟨rfl, rfl, by exact Nat.le_of_ble_eq_true rfl, by exact Nat.le_of_ble_eq_true rfl⟩ ⟨Nat.zero_le _, Nat.zero_le _⟩, List.forall_mem_cons.mpr ⟨mv_cal_of (cc_X12_asksFor l hF) hBg hX hR hK mv_EX_ok hF mv_good mv_stok cw_X12_350.1 cw_X12_350.2.1 cw_X12_350.2.2 ⟨rfl, rfl, by exact Nat.le_of_ble_eq_true rfl, by exact Nat.le_of_ble_eq_true rfl⟩ ⟨Nat.zero_le _, Nat.zero_le _⟩, List.forall_mem_cons.mpr ⟨mv_cal_of (cc_X12_bestInch l hF) hBg hX hR hK mv_EX_ok hF mv_good mv_stok cw_X12_353.1 cw_X12_353.2.1 cw_X12_353.2.2 ⟨rfl, rfl, by exact Nat.le_of_ble_eq_true rfl, by exact Nat.le_of_ble_eq_true rfl⟩ ⟨Nat.zero_le _, Nat.zero_le _⟩, List.forall_mem_cons.mpr ⟨mv_cal_of (cc_X12_notes l hF) hBg hX hR hK mv_EX_ok hF mv_good mv_stok cw_X12_356.1 cw_X12_356.2.1 cw_X12_356.2.2 ⟨rfl, rfl, by exact Nat.le_of_ble_eq_true rfl, by exact Nat.le_of_ble_eq_true rfl⟩ ⟨Nat.zero_le _, Nat.zero_le _⟩, fun _ h => absurd h List.not_mem_nil⟩⟩⟩⟩⟩)
def ic_X12_itemsFor : List (Nat × Instr × Nat) := [(0, .iconst 0, 1), (1, .istore_n 3, 1), (2, .iload_n 3, 1), (3, .aload_n 0, 1), (4, .getfield 289, 3), (7, .if_icmp .gt 73, 3), (10, .aload_n 0, 1), (11, .getfield 96, 3), (14, .iload_n 3, 1), (15, .iload_n 3, 1), (16, .iload_n 2, 1), (17, .if_icmp .ne 7, 3), (20, .iload_n 1, 1), (21, .goto 20, 3), (24, .aload_n 0, 1), (25, .getfield 93, 3), (28, .iload_n 3, 1), (29, .iload_n 2, 1), (30, .if_icmp .ge 7, 3), (33, .iload_n 3, 1), (34, .goto 6, 3), (37, .iload_n 3, 1), (38, .iconst 1, 1), (39, .isub, 1), (40, .iaload, 1), (41, .iastore, 1), (42, .aload_n 0, 1), (43, .getfield 99, 3), (46, .iload_n 3, 1), (47, .iload_n 3, 1), (48, .iload_n 2, 1), (49, .if_icmp .ne 7, 3), (52, .iconst (-1), 1), (53, .goto 20, 3), (56, .aload_n 0, 1), (57, .getfield 81, 3), (60, .iload_n 3, 1), (61, .iload_n 2, 1), (62, .if_icmp .ge 7, 3), (65, .iload_n 3, 1), (66, .goto 6, 3), (69, .iload_n 3, 1), (70, .iconst 1, 1), (71, .isub, 1), (72, .iaload, 1), (73, .iastore, 1), (74, .iinc 3 1, 3), (77, .goto (-75), 3), (80, .return_, 1)]
noncomputable def mm_X12_itemsFor : mv_M := (ic_X12_itemsFor, fl_X12, [], [], [], [(2, [true, true, true, true])], none)
noncomputable def ff_X12_itemsFor : mv_F := mv_fn mv_rc mm_X12_itemsFor mv_sh 400 4
theorem dk_X12_itemsFor : mv_dk cX12_itemsFor ic_X12_itemsFor = true := by decide +kernel
set_option maxRecDepth 20000 in
theorem cc_X12_itemsFor {ad : Nat → Nat → Value} {cA : Nat → ClassId} {D : va_G} {tys : List (ClassId × FieldType)} {A : Nat → Prop} (l : Launch) (hF : mv_Fix mv_sh mv_ids mv_ros ad cA tys A mv_rc) : mv_Met l yX12_itemsFor cX12_itemsFor 4 none mv_Ts (mv_rm 1) 3 true mv_sh mv_ids mv_ros ad cA mv_cl D tys A mv_rc mv_cr (mv_EX ad A) ff_X12_itemsFor := mv_met_of (by decide +kernel) (by decide) hF mv_stok (mv_rzV (by decide +kernel)) mv_clok (mv_dk_ok dk_X12_itemsFor) (mv_fk_ok fk_X12) (fun p e s m args below meth c Q hBg hX hR => ⟨fun _ h => absurd h List.not_mem_nil, fun _ h => absurd h List.not_mem_nil⟩) (fun p e s m args below meth c Q hBg hX hR hK => fun _ h => absurd h List.not_mem_nil)
def ic_X12_without : List (Nat × Instr × Nat) := [(0, .iload_n 1, 1), (1, .ifCond .ge 8, 3), (4, .iload_n 1, 1), (5, .ineg, 1), (6, .goto 4, 3), (9, .iload_n 1, 1), (10, .ireturn, 1)]
noncomputable def mm_X12_without : mv_M := (ic_X12_without, fl_X12, [], [], [], [], none)
noncomputable def ff_X12_without : mv_F := mv_fn mv_rc mm_X12_without mv_sh 400 2
theorem dk_X12_without : mv_dk cX12_without ic_X12_without = true := by decide +kernel
set_option maxRecDepth 20000 in
theorem cc_X12_without {ad : Nat → Nat → Value} {cA : Nat → ClassId} {D : va_G} {tys : List (ClassId × FieldType)} {A : Nat → Prop} (l : Launch) (hF : mv_Fix mv_sh mv_ids mv_ros ad cA tys A mv_rc) : mv_Met l yX12_without cX12_without 2 (some .int) mv_Ts (mv_rm 1) 2 false mv_sh mv_ids mv_ros ad cA mv_cl D tys A mv_rc mv_cr (mv_EX ad A) ff_X12_without := mv_met_of (by decide +kernel) (by decide) hF mv_stok (mv_rzI (by decide +kernel)) mv_clok (mv_dk_ok dk_X12_without) (mv_fk_ok fk_X12) (fun p e s m args below meth c Q hBg hX hR => ⟨fun _ h => absurd h List.not_mem_nil, fun _ h => absurd h List.not_mem_nil⟩) (fun p e s m args below meth c Q hBg hX hR hK => fun _ h => absurd h List.not_mem_nil)
def ic_X12_held : List (Nat × Instr × Nat) := [(0, .iload_n 1, 1), (1, .iload_n 2, 1), (2, .if_icmp .ge 7, 3), (5, .iload_n 2, 1), (6, .goto 13, 3), (9, .iload_n 1, 1), (10, .iload_n 3, 1), (11, .if_icmp .le 7, 3), (14, .iload_n 3, 1), (15, .goto 4, 3), (18, .iload_n 1, 1), (19, .ireturn, 1)]
noncomputable def mm_X12_held : mv_M := (ic_X12_held, fl_X12, [], [], [], [], none)
noncomputable def ff_X12_held : mv_F := mv_fn mv_rc mm_X12_held mv_sh 400 4
theorem dk_X12_held : mv_dk cX12_held ic_X12_held = true := by decide +kernel
set_option maxRecDepth 20000 in
theorem cc_X12_held {ad : Nat → Nat → Value} {cA : Nat → ClassId} {D : va_G} {tys : List (ClassId × FieldType)} {A : Nat → Prop} (l : Launch) (hF : mv_Fix mv_sh mv_ids mv_ros ad cA tys A mv_rc) : mv_Met l yX12_held cX12_held 4 (some .int) mv_Ts (mv_rm 1) 4 false mv_sh mv_ids mv_ros ad cA mv_cl D tys A mv_rc mv_cr (mv_EX ad A) ff_X12_held := mv_met_of (by decide +kernel) (by decide) hF mv_stok (mv_rzI (by decide +kernel)) mv_clok (mv_dk_ok dk_X12_held) (mv_fk_ok fk_X12) (fun p e s m args below meth c Q hBg hX hR => ⟨fun _ h => absurd h List.not_mem_nil, fun _ h => absurd h List.not_mem_nil⟩) (fun p e s m args below meth c Q hBg hX hR hK => fun _ h => absurd h List.not_mem_nil)
set_option maxRecDepth 20000 in
theorem cw_X12_405 : mv_Cw RX12 405 yX12_held cX12_held 4 (some .int) (some 12) 4 := mv_cw_of (a := 1825) (b := 143) (c := 1827) (d := 96) (mv_T 1828 rfl rfl) (by decide +kernel)
def ic_X12_costOf : List (Nat × Instr × Nat) := [(0, .aload_n 0, 1), (1, .iload_n 1, 1), (2, .invokevirtual 350, 3), (5, .aload_n 0, 1), (6, .invokevirtual 325, 3), (9, .aload_n 0, 1), (10, .getfield 75, 3), (13, .bipush 11, 2), (15, .iload_n 2, 1), (16, .iastore, 1), (17, .aload_n 0, 1), (18, .iconst 1, 1), (19, .invokevirtual 334, 3), (22, .istore_n 3, 1), (23, .iload_n 3, 1), (24, .iconst (-1), 1), (25, .if_icmp .ne 7, 3), (28, .iload_n 2, 1), (29, .goto 28, 3), (32, .aload_n 0, 1), (33, .aload_n 0, 1), (34, .iconst 1, 1), (35, .aload_n 0, 1), (36, .getfield 50, 3), (39, .iload_n 3, 1), (40, .iaload, 1), (41, .aload_n 0, 1), (42, .getfield 53, 3), (45, .iload_n 3, 1), (46, .iaload, 1), (47, .invokevirtual 286, 3), (50, .iconst 0, 1), (51, .sipush 999, 3), (54, .invokevirtual 405, 3), (57, .ireturn, 1)]
noncomputable def mm_X12_costOf : mv_M := (ic_X12_costOf, fl_X12, [], [], [(350, 2, some 12, true, ff_X12_asksFor), (325, 1, some 12, true, ff_X12_asksHim), (334, 2, some 12, false, ff_X12_lineOf), (286, 4, some 12, false, ff_X12_runs), (405, 4, some 12, false, ff_X12_held)], [], none)
noncomputable def ff_X12_costOf : mv_F := mv_fn mv_rc mm_X12_costOf mv_sh 400 4
theorem dk_X12_costOf : mv_dk cX12_costOf ic_X12_costOf = true := by decide +kernel
set_option maxRecDepth 20000 in
theorem cc_X12_costOf {ad : Nat → Nat → Value} {cA : Nat → ClassId} {D : va_G} {tys : List (ClassId × FieldType)} {A : Nat → Prop} (l : Launch) (hF : mv_Fix mv_sh mv_ids mv_ros ad cA tys A mv_rc) : mv_Met l yX12_costOf cX12_costOf 4 (some .int) mv_Ts (mv_rm 4) 3 false mv_sh mv_ids mv_ros ad cA mv_cl D tys A mv_rc mv_cr (mv_EX ad A) ff_X12_costOf := mv_met_of (by decide +kernel) (by decide) hF mv_stok (mv_rzI (by decide +kernel)) mv_clok (mv_dk_ok dk_X12_costOf) (mv_fk_ok fk_X12) (fun p e s m args below meth c Q hBg hX hR => ⟨fun _ h => absurd h List.not_mem_nil, fun _ h => absurd h List.not_mem_nil⟩) (fun p e s m args below meth c Q hBg hX hR hK => List.forall_mem_cons.mpr ⟨mv_cal_of (cc_X12_asksFor l hF) hBg hX hR hK mv_EX_ok hF mv_good mv_stok cw_X12_350.1 cw_X12_350.2.1 cw_X12_350.2.2 ⟨rfl, rfl, by exact Nat.le_of_ble_eq_true rfl, by exact Nat.le_of_ble_eq_true rfl⟩ ⟨Nat.zero_le _, Nat.zero_le _⟩, List.forall_mem_cons.mpr ⟨mv_cal_of (cc_X12_asksHim l hF) hBg hX hR hK mv_EX_ok hF mv_good mv_stok cw_X12_325.1 cw_X12_325.2.1 cw_X12_325.2.2 ⟨rfl, rfl, by exact Nat.le_of_ble_eq_true rfl, by exact Nat.le_of_ble_eq_true rfl⟩ ⟨Nat.zero_le _, Nat.zero_le _⟩, List.forall_mem_cons.mpr ⟨mv_cal_of (cc_X12_lineOf l hF) hBg hX hR hK mv_EX_ok hF mv_good mv_stok cw_X12_334.1 cw_X12_334.2.1 cw_X12_334.2.2 ⟨rfl, rfl, by exact Nat.le_of_ble_eq_true rfl, by exact Nat.le_of_ble_eq_true rfl⟩ ⟨Nat.zero_le _, Nat.zero_le _⟩, List.forall_mem_cons.mpr ⟨mv_cal_of (cc_X12_runs l hF) hBg hX hR hK mv_EX_ok hF mv_good mv_stok cw_X12_286.1 cw_X12_286.2.1 cw_X12_286.2.2 ⟨rfl, rfl, by exact Nat.le_of_ble_eq_true rfl, by exact Nat.le_of_ble_eq_true rfl⟩ ⟨Nat.zero_le _, Nat.zero_le _⟩, List.forall_mem_cons.mpr ⟨mv_cal_of (cc_X12_held l hF) hBg hX hR hK mv_EX_ok hF mv_good mv_stok cw_X12_405.1 cw_X12_405.2.1 cw_X12_405.2.2 ⟨rfl, rfl, by exact Nat.le_of_ble_eq_true rfl, by exact Nat.le_of_ble_eq_true rfl⟩ ⟨Nat.zero_le _, Nat.zero_le _⟩, fun _ h => absurd h List.not_mem_nil⟩⟩⟩⟩⟩)
set_option maxRecDepth 20000 in
theorem cw_X12_409 : mv_Cw RX12 409 yX12_without cX12_without 2 (some .int) (some 12) 2 := mv_cw_of (a := 1817) (b := 143) (c := 1819) (d := 94) (mv_T 1820 rfl rfl) (by decide +kernel)
set_option maxRecDepth 20000 in
theorem cw_X12_412 : mv_Cw RX12 412 yX12_costOf cX12_costOf 4 (some .int) (some 12) 3 := mv_cw_of (a := 1821) (b := 143) (c := 1823) (d := 95) (mv_T 1824 rfl rfl) (by decide +kernel)
def ic_X12_costAt : List (Nat × Instr × Nat) := [(0, .aload_n 0, 1), (1, .getfield 96, 3), (4, .iload_n 1, 1), (5, .iaload, 1), (6, .istore_n 3, 1), (7, .iload_n 2, 1), (8, .aload_n 0, 1), (9, .iload_n 3, 1), (10, .invokevirtual 292, 3), (13, .iadd, 1), (14, .aload_n 0, 1), (15, .invokevirtual 149, 3), (18, .if_icmp .gt 17, 3), (21, .aload_n 0, 1), (22, .iload_n 2, 1), (23, .aload_n 0, 1), (24, .getfield 23, 3), (27, .iload_n 3, 1), (28, .iaload, 1), (29, .invokevirtual 314, 3), (32, .ifCond .eq 7, 3), (35, .ldc_w 408, 3), (38, .ireturn, 1), (39, .aload_n 0, 1), (40, .getfield 99, 3), (43, .iload_n 1, 1), (44, .iaload, 1), (45, .iconst (-1), 1), (46, .if_icmp .eq 13, 3), (49, .aload_n 0, 1), (50, .getfield 99, 3), (53, .iload_n 1, 1), (54, .iaload, 1), (55, .iload_n 2, 1), (56, .if_icmp .ne 5, 3), (59, .iconst 0, 1), (60, .ireturn, 1), (61, .aload_n 0, 1), (62, .getfield 35, 3), (65, .iload_n 3, 1), (66, .iaload, 1), (67, .ifCond .ne 9, 3), (70, .ldc_w 408, 3), (73, .goto 25, 3), (76, .bipush 100, 2), (78, .aload_n 0, 1), (79, .iload_n 3, 1), (80, .aload_n 0, 1), (81, .iload_n 2, 1), (82, .aload_n 0, 1), (83, .getfield 99, 3), (86, .iload_n 1, 1), (87, .iaload, 1), (88, .isub, 1), (89, .invokevirtual 409, 3), (92, .invokevirtual 412, 3), (95, .imul, 1), (96, .iconst 1, 1), (97, .iadd, 1), (98, .ireturn, 1)]
noncomputable def mm_X12_costAt : mv_M := (ic_X12_costAt, fl_X12, [(408, .inl 1000000)], [], [(292, 2, some 12, false, ff_X12_takesOf), (149, 1, some 12, false, ff_X12_length), (314, 3, some 12, false, ff_X12_isOverRest), (409, 2, some 12, false, ff_X12_without), (412, 3, some 12, false, ff_X12_costOf)], [], none)
noncomputable def ff_X12_costAt : mv_F := mv_fn mv_rc mm_X12_costAt mv_sh 400 4
theorem dk_X12_costAt : mv_dk cX12_costAt ic_X12_costAt = true := by decide +kernel
set_option maxRecDepth 20000 in
theorem cc_X12_costAt {ad : Nat → Nat → Value} {cA : Nat → ClassId} {D : va_G} {tys : List (ClassId × FieldType)} {A : Nat → Prop} (l : Launch) (hF : mv_Fix mv_sh mv_ids mv_ros ad cA tys A mv_rc) : mv_Met l yX12_costAt cX12_costAt 4 (some .int) mv_Ts (mv_rm 5) 3 false mv_sh mv_ids mv_ros ad cA mv_cl D tys A mv_rc mv_cr (mv_EX ad A) ff_X12_costAt := mv_met_of (by decide +kernel) (by decide) hF mv_stok (mv_rzI (by decide +kernel)) mv_clok (mv_dk_ok dk_X12_costAt) (mv_fk_ok fk_X12) (fun p e s m args below meth c Q hBg hX hR => ⟨List.forall_mem_cons.mpr ⟨mv_cs_i hBg (mv_T 1804 rfl rfl) (by decide), fun _ h => absurd h List.not_mem_nil⟩, fun _ h => absurd h List.not_mem_nil⟩) (fun p e s m args below meth c Q hBg hX hR hK => List.forall_mem_cons.mpr ⟨mv_cal_of (cc_X12_takesOf l hF) hBg hX hR hK mv_EX_ok hF mv_good mv_stok cw_X12_292.1 cw_X12_292.2.1 cw_X12_292.2.2 ⟨rfl, rfl, by exact Nat.le_of_ble_eq_true rfl, by exact Nat.le_of_ble_eq_true rfl⟩ ⟨Nat.zero_le _, Nat.zero_le _⟩, List.forall_mem_cons.mpr ⟨mv_cal_of (cc_X12_length l hF) hBg hX hR hK mv_EX_ok hF mv_good mv_stok cw_X12_149.1 cw_X12_149.2.1 cw_X12_149.2.2 ⟨rfl, rfl, by exact Nat.le_of_ble_eq_true rfl, by exact Nat.le_of_ble_eq_true rfl⟩ ⟨Nat.zero_le _, Nat.zero_le _⟩, List.forall_mem_cons.mpr ⟨mv_cal_of (cc_X12_isOverRest l hF) hBg hX hR hK mv_EX_ok hF mv_good mv_stok cw_X12_314.1 cw_X12_314.2.1 cw_X12_314.2.2 ⟨rfl, rfl, by exact Nat.le_of_ble_eq_true rfl, by exact Nat.le_of_ble_eq_true rfl⟩ ⟨Nat.zero_le _, Nat.zero_le _⟩, List.forall_mem_cons.mpr ⟨mv_cal_of (cc_X12_without l hF) hBg hX hR hK mv_EX_ok hF mv_good mv_stok cw_X12_409.1 cw_X12_409.2.1 cw_X12_409.2.2 ⟨rfl, rfl, by exact Nat.le_of_ble_eq_true rfl, by exact Nat.le_of_ble_eq_true rfl⟩ ⟨Nat.zero_le _, Nat.zero_le _⟩, List.forall_mem_cons.mpr ⟨mv_cal_of (cc_X12_costOf l hF) hBg hX hR hK mv_EX_ok hF mv_good mv_stok cw_X12_412.1 cw_X12_412.2.1 cw_X12_412.2.2 ⟨rfl, rfl, by exact Nat.le_of_ble_eq_true rfl, by exact Nat.le_of_ble_eq_true rfl⟩ ⟨Nat.zero_le _, Nat.zero_le _⟩, fun _ h => absurd h List.not_mem_nil⟩⟩⟩⟩⟩)
def ic_X12_canBeside : List (Nat × Instr × Nat) := [(0, .iload 4, 2), (2, .iload_n 2, 1), (3, .isub, 1), (4, .aload_n 0, 1), (5, .iload_n 1, 1), (6, .invokevirtual 292, 3), (9, .isub, 1), (10, .aload_n 0, 1), (11, .aload_n 0, 1), (12, .getfield 26, 3), (15, .iload_n 1, 1), (16, .iaload, 1), (17, .aload_n 0, 1), (18, .getfield 32, 3), (21, .iload_n 1, 1), (22, .iaload, 1), (23, .aload_n 0, 1), (24, .getfield 26, 3), (27, .iload_n 3, 1), (28, .iaload, 1), (29, .aload_n 0, 1), (30, .getfield 32, 3), (33, .iload_n 3, 1), (34, .iaload, 1), (35, .invokevirtual 321, 3), (38, .if_icmp .lt 7, 3), (41, .iconst 1, 1), (42, .goto 4, 3), (45, .iconst 0, 1), (46, .ireturn, 1)]
noncomputable def mm_X12_canBeside : mv_M := (ic_X12_canBeside, fl_X12, [], [], [(292, 2, some 12, false, ff_X12_takesOf), (321, 5, some 12, false, ff_X12_apartOf)], [], (some (0, 1)))
noncomputable def ff_X12_canBeside : mv_F := mv_fn mv_rc mm_X12_canBeside mv_sh 400 5
theorem dk_X12_canBeside : mv_dk cX12_canBeside ic_X12_canBeside = true := by decide +kernel
set_option maxRecDepth 20000 in
theorem cc_X12_canBeside {ad : Nat → Nat → Value} {cA : Nat → ClassId} {D : va_G} {tys : List (ClassId × FieldType)} {A : Nat → Prop} (l : Launch) (hF : mv_Fix mv_sh mv_ids mv_ros ad cA tys A mv_rc) : mv_Met l yX12_canBeside cX12_canBeside 5 (some .boolean) mv_Ts (mv_rm 3) 5 false mv_sh mv_ids mv_ros ad cA mv_cl D tys A mv_rc mv_cr (mv_EX ad A) ff_X12_canBeside := mv_met_of (by decide +kernel) (by decide) hF mv_stok (mv_rzZ (by decide +kernel) rfl) mv_clok (mv_dk_ok dk_X12_canBeside) (mv_fk_ok fk_X12) (fun p e s m args below meth c Q hBg hX hR => ⟨fun _ h => absurd h List.not_mem_nil, fun _ h => absurd h List.not_mem_nil⟩) (fun p e s m args below meth c Q hBg hX hR hK => List.forall_mem_cons.mpr ⟨mv_cal_of (cc_X12_takesOf l hF) hBg hX hR hK mv_EX_ok hF mv_good mv_stok cw_X12_292.1 cw_X12_292.2.1 cw_X12_292.2.2 ⟨rfl, rfl, by exact Nat.le_of_ble_eq_true rfl, by exact Nat.le_of_ble_eq_true rfl⟩ ⟨Nat.zero_le _, Nat.zero_le _⟩, List.forall_mem_cons.mpr ⟨mv_cal_of (cc_X12_apartOf l hF) hBg hX hR hK mv_EX_ok hF mv_good mv_stok cw_X12_321.1 cw_X12_321.2.1 cw_X12_321.2.2 ⟨rfl, rfl, by exact Nat.le_of_ble_eq_true rfl, by exact Nat.le_of_ble_eq_true rfl⟩ ⟨Nat.zero_le _, Nat.zero_le _⟩, fun _ h => absurd h List.not_mem_nil⟩⟩)
set_option maxRecDepth 20000 in
theorem cw_X12_415 : mv_Cw RX12 415 yX12_canBeside cX12_canBeside 5 (some .boolean) (some 12) 5 := mv_cw_of (a := 1833) (b := 143) (c := 1835) (d := 98) (mv_T 1836 rfl rfl) (by decide +kernel)
def ic_X12_leastBehind : List (Nat × Instr × Nat) := [(0, .iload_n 1, 1), (1, .aload_n 0, 1), (2, .getfield 289, 3), (5, .if_icmp .le 5, 3), (8, .iconst 0, 1), (9, .ireturn, 1), (10, .ldc_w 408, 3), (13, .istore_n 3, 1), (14, .iconst 0, 1), (15, .istore 4, 2), (17, .iload 4, 2), (19, .aload_n 0, 1), (20, .invokevirtual 149, 3), (23, .if_icmp .ge 60, 3), (26, .aload_n 0, 1), (27, .getfield 102, 3), (30, .bipush 60, 2), (32, .iload_n 1, 1), (33, .imul, 1), (34, .iload 4, 2), (36, .iadd, 1), (37, .iaload, 1), (38, .istore 5, 2), (40, .iload 5, 2), (42, .iload_n 3, 1), (43, .if_icmp .ge 34, 3), (46, .iload_n 1, 1), (47, .ifCond .eq 27, 3), (50, .aload_n 0, 1), (51, .aload_n 0, 1), (52, .getfield 96, 3), (55, .iload_n 1, 1), (56, .iconst 1, 1), (57, .isub, 1), (58, .iaload, 1), (59, .iload_n 2, 1), (60, .aload_n 0, 1), (61, .getfield 96, 3), (64, .iload_n 1, 1), (65, .iaload, 1), (66, .iload 4, 2), (68, .invokevirtual 415, 3), (71, .ifCond .eq 6, 3), (74, .iload 5, 2), (76, .istore_n 3, 1), (77, .iinc 4 1, 3), (80, .goto (-63), 3), (83, .iload_n 3, 1), (84, .ireturn, 1)]
noncomputable def mm_X12_leastBehind : mv_M := (ic_X12_leastBehind, fl_X12, [(408, .inl 1000000)], [], [(149, 1, some 12, false, ff_X12_length), (415, 5, some 12, false, ff_X12_canBeside)], [(17, [true, true, true, true, true, false])], none)
noncomputable def ff_X12_leastBehind : mv_F := mv_fn mv_rc mm_X12_leastBehind mv_sh 400 6
theorem dk_X12_leastBehind : mv_dk cX12_leastBehind ic_X12_leastBehind = true := by decide +kernel
set_option maxRecDepth 20000 in
theorem cc_X12_leastBehind {ad : Nat → Nat → Value} {cA : Nat → ClassId} {D : va_G} {tys : List (ClassId × FieldType)} {A : Nat → Prop} (l : Launch) (hF : mv_Fix mv_sh mv_ids mv_ros ad cA tys A mv_rc) : mv_Met l yX12_leastBehind cX12_leastBehind 6 (some .int) mv_Ts (mv_rm 4) 3 false mv_sh mv_ids mv_ros ad cA mv_cl D tys A mv_rc mv_cr (mv_EX ad A) ff_X12_leastBehind := mv_met_of (by decide +kernel) (by decide) hF mv_stok (mv_rzI (by decide +kernel)) mv_clok (mv_dk_ok dk_X12_leastBehind) (mv_fk_ok fk_X12) (fun p e s m args below meth c Q hBg hX hR => ⟨List.forall_mem_cons.mpr ⟨mv_cs_i hBg (mv_T 1804 rfl rfl) (by decide), fun _ h => absurd h List.not_mem_nil⟩, fun _ h => absurd h List.not_mem_nil⟩) (fun p e s m args below meth c Q hBg hX hR hK => List.forall_mem_cons.mpr ⟨mv_cal_of (cc_X12_length l hF) hBg hX hR hK mv_EX_ok hF mv_good mv_stok cw_X12_149.1 cw_X12_149.2.1 cw_X12_149.2.2 ⟨rfl, rfl, by exact Nat.le_of_ble_eq_true rfl, by exact Nat.le_of_ble_eq_true rfl⟩ ⟨Nat.zero_le _, Nat.zero_le _⟩, List.forall_mem_cons.mpr ⟨mv_cal_of (cc_X12_canBeside l hF) hBg hX hR hK mv_EX_ok hF mv_good mv_stok cw_X12_415.1 cw_X12_415.2.1 cw_X12_415.2.2 ⟨rfl, rfl, by exact Nat.le_of_ble_eq_true rfl, by exact Nat.le_of_ble_eq_true rfl⟩ ⟨Nat.zero_le _, Nat.zero_le _⟩, fun _ h => absurd h List.not_mem_nil⟩⟩)
set_option maxRecDepth 20000 in
theorem cw_X12_419 : mv_Cw RX12 419 yX12_itemsFor cX12_itemsFor 4 none (some 12) 3 := mv_cw_of (a := 1809) (b := 143) (c := 1811) (d := 92) (mv_T 1812 rfl rfl) (by decide +kernel)
set_option maxRecDepth 20000 in
theorem cw_X12_422 : mv_Cw RX12 422 yX12_costAt cX12_costAt 4 (some .int) (some 12) 3 := mv_cw_of (a := 1813) (b := 143) (c := 1815) (d := 93) (mv_T 1816 rfl rfl) (by decide +kernel)
set_option maxRecDepth 20000 in
theorem cw_X12_425 : mv_Cw RX12 425 yX12_leastBehind cX12_leastBehind 6 (some .int) (some 12) 3 := mv_cw_of (a := 1829) (b := 143) (c := 1831) (d := 97) (mv_T 1832 rfl rfl) (by decide +kernel)
def ic_X12_leastBy : List (Nat × Instr × Nat) := [(0, .aload_n 0, 1), (1, .iload_n 1, 1), (2, .iload_n 2, 1), (3, .invokevirtual 419, 3), (6, .aload_n 0, 1), (7, .getfield 289, 3), (10, .istore_n 3, 1), (11, .iload_n 3, 1), (12, .ifCond .lt 92, 3), (15, .iconst 0, 1), (16, .istore 4, 2), (18, .iload 4, 2), (20, .aload_n 0, 1), (21, .invokevirtual 149, 3), (24, .if_icmp .ge 74, 3), (27, .aload_n 0, 1), (28, .iload_n 3, 1), (29, .iload 4, 2), (31, .invokevirtual 422, 3), (34, .istore 5, 2), (36, .iload 5, 2), (38, .ldc_w 408, 3), (41, .if_icmp .ne 9, 3), (44, .ldc_w 408, 3), (47, .goto 12, 3), (50, .aload_n 0, 1), (51, .iload_n 3, 1), (52, .iconst 1, 1), (53, .iadd, 1), (54, .iload 4, 2), (56, .invokevirtual 425, 3), (59, .istore 6, 2), (61, .aload_n 0, 1), (62, .getfield 102, 3), (65, .bipush 60, 2), (67, .iload_n 3, 1), (68, .imul, 1), (69, .iload 4, 2), (71, .iadd, 1), (72, .iload 6, 2), (74, .ldc_w 408, 3), (77, .if_icmp .ne 9, 3), (80, .ldc_w 408, 3), (83, .goto 8, 3), (86, .iload 5, 2), (88, .iload 6, 2), (90, .iadd, 1), (91, .iastore, 1), (92, .iinc 4 1, 3), (95, .goto (-77), 3), (98, .iinc 3 (-1), 3), (101, .goto (-90), 3), (104, .aload_n 0, 1), (105, .iconst 0, 1), (106, .iconst 0, 1), (107, .invokevirtual 425, 3), (110, .ireturn, 1)]
noncomputable def mm_X12_leastBy : mv_M := (ic_X12_leastBy, fl_X12, [(408, .inl 1000000)], [], [(419, 3, some 12, true, ff_X12_itemsFor), (149, 1, some 12, false, ff_X12_length), (422, 3, some 12, false, ff_X12_costAt), (425, 3, some 12, false, ff_X12_leastBehind)], [(11, [true, false, false, true, false, false, false]), (18, [true, false, false, true, true, false, false])], none)
noncomputable def ff_X12_leastBy : mv_F := mv_fn mv_rc mm_X12_leastBy mv_sh 400 7
theorem dk_X12_leastBy : mv_dk cX12_leastBy ic_X12_leastBy = true := by decide +kernel
set_option maxRecDepth 20000 in
theorem cc_X12_leastBy {ad : Nat → Nat → Value} {cA : Nat → ClassId} {D : va_G} {tys : List (ClassId × FieldType)} {A : Nat → Prop} (l : Launch) (hF : mv_Fix mv_sh mv_ids mv_ros ad cA tys A mv_rc) : mv_Met l yX12_leastBy cX12_leastBy 7 (some .int) mv_Ts (mv_rm 6) 3 false mv_sh mv_ids mv_ros ad cA mv_cl D tys A mv_rc mv_cr (mv_EX ad A) ff_X12_leastBy := mv_met_of (by decide +kernel) (by decide) hF mv_stok (mv_rzI (by decide +kernel)) mv_clok (mv_dk_ok dk_X12_leastBy) (mv_fk_ok fk_X12) (fun p e s m args below meth c Q hBg hX hR => ⟨List.forall_mem_cons.mpr ⟨mv_cs_i hBg (mv_T 1804 rfl rfl) (by decide), fun _ h => absurd h List.not_mem_nil⟩, fun _ h => absurd h List.not_mem_nil⟩) (fun p e s m args below meth c Q hBg hX hR hK => List.forall_mem_cons.mpr ⟨mv_cal_of (cc_X12_itemsFor l hF) hBg hX hR hK mv_EX_ok hF mv_good mv_stok cw_X12_419.1 cw_X12_419.2.1 cw_X12_419.2.2 ⟨rfl, rfl, by exact Nat.le_of_ble_eq_true rfl, by exact Nat.le_of_ble_eq_true rfl⟩ ⟨Nat.zero_le _, Nat.zero_le _⟩, List.forall_mem_cons.mpr ⟨mv_cal_of (cc_X12_length l hF) hBg hX hR hK mv_EX_ok hF mv_good mv_stok cw_X12_149.1 cw_X12_149.2.1 cw_X12_149.2.2 ⟨rfl, rfl, by exact Nat.le_of_ble_eq_true rfl, by exact Nat.le_of_ble_eq_true rfl⟩ ⟨Nat.zero_le _, Nat.zero_le _⟩, List.forall_mem_cons.mpr ⟨mv_cal_of (cc_X12_costAt l hF) hBg hX hR hK mv_EX_ok hF mv_good mv_stok cw_X12_422.1 cw_X12_422.2.1 cw_X12_422.2.2 ⟨rfl, rfl, by exact Nat.le_of_ble_eq_true rfl, by exact Nat.le_of_ble_eq_true rfl⟩ ⟨Nat.zero_le _, Nat.zero_le _⟩, List.forall_mem_cons.mpr ⟨mv_cal_of (cc_X12_leastBehind l hF) hBg hX hR hK mv_EX_ok hF mv_good mv_stok cw_X12_425.1 cw_X12_425.2.1 cw_X12_425.2.2 ⟨rfl, rfl, by exact Nat.le_of_ble_eq_true rfl, by exact Nat.le_of_ble_eq_true rfl⟩ ⟨Nat.zero_le _, Nat.zero_le _⟩, fun _ h => absurd h List.not_mem_nil⟩⟩⟩⟩)
set_option maxRecDepth 20000 in
theorem cw_X12_428 : mv_Cw RX12 428 yX12_leastBy cX12_leastBy 7 (some .int) (some 12) 3 := mv_cw_of (a := 1805) (b := 143) (c := 1807) (d := 91) (mv_T 1808 rfl rfl) (by decide +kernel)
def ic_X12_findsRoom : List (Nat × Instr × Nat) := [(0, .aload_n 0, 1), (1, .iload_n 2, 1), (2, .invokevirtual 347, 3), (5, .ldc_w 408, 3), (8, .istore_n 3, 1), (9, .iconst (-1), 1), (10, .istore 4, 2), (12, .iconst 0, 1), (13, .istore 5, 2), (15, .iload 5, 2), (17, .aload_n 0, 1), (18, .getfield 289, 3), (21, .if_icmp .gt 34, 3), (24, .aload_n 0, 1), (25, .iload_n 1, 1), (26, .iload 5, 2), (28, .invokevirtual 428, 3), (31, .istore 6, 2), (33, .iload 6, 2), (35, .iload_n 3, 1), (36, .if_icmp .lt 6, 3), (39, .goto 10, 3), (42, .iload 6, 2), (44, .istore_n 3, 1), (45, .iload 5, 2), (47, .istore 4, 2), (49, .iinc 5 1, 3), (52, .goto (-37), 3), (55, .aload_n 0, 1), (56, .iload_n 3, 1), (57, .putfield 431, 3), (60, .iload 4, 2), (62, .iconst (-1), 1), (63, .if_icmp .ne 5, 3), (66, .iconst 0, 1), (67, .ireturn, 1), (68, .aload_n 0, 1), (69, .iload_n 1, 1), (70, .iload 4, 2), (72, .invokevirtual 428, 3), (75, .pop, 1), (76, .iconst 0, 1), (77, .istore 5, 2), (79, .iconst 0, 1), (80, .istore 6, 2), (82, .iload 6, 2), (84, .aload_n 0, 1), (85, .getfield 289, 3), (88, .if_icmp .gt 94, 3), (91, .aload_n 0, 1), (92, .iload 6, 2), (94, .iload 5, 2), (96, .invokevirtual 425, 3), (99, .istore 7, 2), (101, .iconst 0, 1), (102, .istore 8, 2), (104, .aload_n 0, 1), (105, .getfield 102, 3), (108, .bipush 60, 2), (110, .iload 6, 2), (112, .imul, 1), (113, .iload 8, 2), (115, .iadd, 1), (116, .iaload, 1), (117, .iload 7, 2), (119, .if_icmp .ne 35, 3), (122, .iload 6, 2), (124, .ifCond .le 39, 3), (127, .aload_n 0, 1), (128, .aload_n 0, 1), (129, .getfield 96, 3), (132, .iload 6, 2), (134, .iconst 1, 1), (135, .isub, 1), (136, .iaload, 1), (137, .iload 5, 2), (139, .aload_n 0, 1), (140, .getfield 96, 3), (143, .iload 6, 2), (145, .iaload, 1), (146, .iload 8, 2), (148, .invokevirtual 415, 3), (151, .ifCond .ne 12, 3), (154, .iload 8, 2), (156, .iconst 1, 1), (157, .iadd, 1), (158, .istore 8, 2), (160, .goto (-56), 3), (163, .aload_n 0, 1), (164, .getfield 105, 3), (167, .iload 6, 2), (169, .iload 8, 2), (171, .iastore, 1), (172, .iload 8, 2), (174, .istore 5, 2), (176, .iinc 6 1, 3), (179, .goto (-97), 3), (182, .iconst 1, 1), (183, .ireturn, 1)]
noncomputable def mm_X12_findsRoom : mv_M := (ic_X12_findsRoom, fl_X12, [(408, .inl 1000000)], [], [(347, 2, some 12, true, ff_X12_lists), (428, 3, some 12, false, ff_X12_leastBy), (425, 3, some 12, false, ff_X12_leastBehind), (415, 5, some 12, false, ff_X12_canBeside)], [(15, [true, true, false, true, true, true, false, false, false]), (82, [true, false, false, false, false, true, true, false, false]), (104, [true, false, false, false, false, true, true, true, true])], (some (0, 1)))
noncomputable def ff_X12_findsRoom : mv_F := mv_fn mv_rc mm_X12_findsRoom mv_sh 400 9
theorem dk_X12_findsRoom : mv_dk cX12_findsRoom ic_X12_findsRoom = true := by decide +kernel
set_option maxRecDepth 20000 in
theorem cc_X12_findsRoom {ad : Nat → Nat → Value} {cA : Nat → ClassId} {D : va_G} {tys : List (ClassId × FieldType)} {A : Nat → Prop} (l : Launch) (hF : mv_Fix mv_sh mv_ids mv_ros ad cA tys A mv_rc) : mv_Met l yX12_findsRoom cX12_findsRoom 9 (some .boolean) mv_Ts (mv_rm 7) 3 false mv_sh mv_ids mv_ros ad cA mv_cl D tys A mv_rc mv_cr (mv_EX ad A) ff_X12_findsRoom := mv_met_of (by decide +kernel) (by decide) hF mv_stok (mv_rzZ (by decide +kernel) rfl) mv_clok (mv_dk_ok dk_X12_findsRoom) (mv_fk_ok fk_X12) (fun p e s m args below meth c Q hBg hX hR => ⟨List.forall_mem_cons.mpr ⟨mv_cs_i hBg (mv_T 1804 rfl rfl) (by decide), fun _ h => absurd h List.not_mem_nil⟩, fun _ h => absurd h List.not_mem_nil⟩) (fun p e s m args below meth c Q hBg hX hR hK => List.forall_mem_cons.mpr ⟨mv_cal_of (cc_X12_lists l hF) hBg hX hR hK mv_EX_ok hF mv_good mv_stok cw_X12_347.1 cw_X12_347.2.1 cw_X12_347.2.2 ⟨rfl, rfl, by exact Nat.le_of_ble_eq_true rfl, by exact Nat.le_of_ble_eq_true rfl⟩ ⟨Nat.zero_le _, Nat.zero_le _⟩, List.forall_mem_cons.mpr ⟨mv_cal_of (cc_X12_leastBy l hF) hBg hX hR hK mv_EX_ok hF mv_good mv_stok cw_X12_428.1 cw_X12_428.2.1 cw_X12_428.2.2 ⟨rfl, rfl, by exact Nat.le_of_ble_eq_true rfl, by exact Nat.le_of_ble_eq_true rfl⟩ ⟨Nat.zero_le _, Nat.zero_le _⟩, List.forall_mem_cons.mpr ⟨mv_cal_of (cc_X12_leastBehind l hF) hBg hX hR hK mv_EX_ok hF mv_good mv_stok cw_X12_425.1 cw_X12_425.2.1 cw_X12_425.2.2 ⟨rfl, rfl, by exact Nat.le_of_ble_eq_true rfl, by exact Nat.le_of_ble_eq_true rfl⟩ ⟨Nat.zero_le _, Nat.zero_le _⟩, List.forall_mem_cons.mpr ⟨mv_cal_of (cc_X12_canBeside l hF) hBg hX hR hK mv_EX_ok hF mv_good mv_stok cw_X12_415.1 cw_X12_415.2.1 cw_X12_415.2.2 ⟨rfl, rfl, by exact Nat.le_of_ble_eq_true rfl, by exact Nat.le_of_ble_eq_true rfl⟩ ⟨Nat.zero_le _, Nat.zero_le _⟩, fun _ h => absurd h List.not_mem_nil⟩⟩⟩⟩)
set_option maxRecDepth 20000 in
theorem cw_X12_360 : mv_Cw RX12 360 yX12_findsRoom cX12_findsRoom 9 (some .boolean) (some 12) 3 := mv_cw_of (a := 1800) (b := 143) (c := 1802) (d := 90) (mv_T 1803 rfl rfl) (by decide +kernel)
def ic_X12_begs : List (Nat × Instr × Nat) := [(0, .iconst (-1), 1), (1, .istore_n 2, 1), (2, .aload_n 0, 1), (3, .iload_n 1, 1), (4, .aload_n 0, 1), (5, .invokevirtual 344, 3), (8, .invokevirtual 360, 3), (11, .ifCond .eq 46, 3), (14, .iconst 0, 1), (15, .istore_n 3, 1), (16, .iload_n 3, 1), (17, .aload_n 0, 1), (18, .getfield 289, 3), (21, .if_icmp .gt 30, 3), (24, .aload_n 0, 1), (25, .getfield 7, 3), (28, .iconst 2, 1), (29, .aload_n 0, 1), (30, .getfield 96, 3), (33, .iload_n 3, 1), (34, .iaload, 1), (35, .iadd, 1), (36, .aload_n 0, 1), (37, .getfield 105, 3), (40, .iload_n 3, 1), (41, .iaload, 1), (42, .iconst 1, 1), (43, .iadd, 1), (44, .iastore, 1), (45, .iinc 3 1, 3), (48, .goto (-32), 3), (51, .aload_n 0, 1), (52, .iload_n 1, 1), (53, .invokevirtual 157, 3), (56, .istore_n 2, 1), (57, .aload_n 0, 1), (58, .iload_n 1, 1), (59, .iload_n 2, 1), (60, .iconst (-1), 1), (61, .if_icmp .ne 7, 3), (64, .iconst 4, 1), (65, .goto 4, 3), (68, .iconst 3, 1), (69, .iload_n 2, 1), (70, .invokevirtual 356, 3), (73, .iload_n 2, 1), (74, .ireturn, 1)]
noncomputable def mm_X12_begs : mv_M := (ic_X12_begs, fl_X12, [], [], [(344, 1, some 12, false, ff_X12_everyone), (360, 3, some 12, false, ff_X12_findsRoom), (157, 2, some 12, false, ff_X12_inchOf), (356, 4, some 12, true, ff_X12_notes)], [(16, [true, true, false, true])], none)
noncomputable def ff_X12_begs : mv_F := mv_fn mv_rc mm_X12_begs mv_sh 400 4
theorem dk_X12_begs : mv_dk cX12_begs ic_X12_begs = true := by decide +kernel
set_option maxRecDepth 20000 in
theorem cc_X12_begs {ad : Nat → Nat → Value} {cA : Nat → ClassId} {D : va_G} {tys : List (ClassId × FieldType)} {A : Nat → Prop} (l : Launch) (hF : mv_Fix mv_sh mv_ids mv_ros ad cA tys A mv_rc) : mv_Met l yX12_begs cX12_begs 4 (some .int) mv_Ts (mv_rm 8) 2 false mv_sh mv_ids mv_ros ad cA mv_cl D tys A mv_rc mv_cr (mv_EX ad A) ff_X12_begs := mv_met_of (by decide +kernel) (by decide) hF mv_stok (mv_rzI (by decide +kernel)) mv_clok (mv_dk_ok dk_X12_begs) (mv_fk_ok fk_X12) (fun p e s m args below meth c Q hBg hX hR => ⟨fun _ h => absurd h List.not_mem_nil, fun _ h => absurd h List.not_mem_nil⟩) (fun p e s m args below meth c Q hBg hX hR hK => List.forall_mem_cons.mpr ⟨mv_cal_of (cc_X12_everyone l hF) hBg hX hR hK mv_EX_ok hF mv_good mv_stok cw_X12_344.1 cw_X12_344.2.1 cw_X12_344.2.2 ⟨rfl, rfl, by exact Nat.le_of_ble_eq_true rfl, by exact Nat.le_of_ble_eq_true rfl⟩ ⟨Nat.zero_le _, Nat.zero_le _⟩, List.forall_mem_cons.mpr ⟨mv_cal_of (cc_X12_findsRoom l hF) hBg hX hR hK mv_EX_ok hF mv_good mv_stok cw_X12_360.1 cw_X12_360.2.1 cw_X12_360.2.2 ⟨rfl, rfl, by exact Nat.le_of_ble_eq_true rfl, by exact Nat.le_of_ble_eq_true rfl⟩ ⟨Nat.zero_le _, Nat.zero_le _⟩, List.forall_mem_cons.mpr ⟨mv_cal_of (cc_X12_inchOf l hF) hBg hX hR hK mv_EX_ok hF mv_good mv_stok cw_X12_157.1 cw_X12_157.2.1 cw_X12_157.2.2 ⟨rfl, rfl, by exact Nat.le_of_ble_eq_true rfl, by exact Nat.le_of_ble_eq_true rfl⟩ ⟨Nat.zero_le _, Nat.zero_le _⟩, List.forall_mem_cons.mpr ⟨mv_cal_of (cc_X12_notes l hF) hBg hX hR hK mv_EX_ok hF mv_good mv_stok cw_X12_356.1 cw_X12_356.2.1 cw_X12_356.2.2 ⟨rfl, rfl, by exact Nat.le_of_ble_eq_true rfl, by exact Nat.le_of_ble_eq_true rfl⟩ ⟨Nat.zero_le _, Nat.zero_le _⟩, fun _ h => absurd h List.not_mem_nil⟩⟩⟩⟩)
def ic_X12_standsNow : List (Nat × Instr × Nat) := [(0, .iload_n 1, 1), (1, .iconst (-1), 1), (2, .if_icmp .eq 4, 3), (5, .return_, 1), (6, .aload_n 0, 1), (7, .aload_n 0, 1), (8, .getfield 378, 3), (11, .iconst 1, 1), (12, .iadd, 1), (13, .putfield 378, 3), (16, .aload_n 0, 1), (17, .getfield 381, 3), (20, .iconst (-1), 1), (21, .if_icmp .ne 13, 3), (24, .aload_n 0, 1), (25, .aload_n 0, 1), (26, .getfield 7, 3), (29, .iconst 0, 1), (30, .iaload, 1), (31, .putfield 381, 3), (34, .return_, 1)]
noncomputable def mm_X12_standsNow : mv_M := (ic_X12_standsNow, fl_X12, [], [], [], [], none)
noncomputable def ff_X12_standsNow : mv_F := mv_fn mv_rc mm_X12_standsNow mv_sh 400 2
theorem dk_X12_standsNow : mv_dk cX12_standsNow ic_X12_standsNow = true := by decide +kernel
set_option maxRecDepth 20000 in
theorem cc_X12_standsNow {ad : Nat → Nat → Value} {cA : Nat → ClassId} {D : va_G} {tys : List (ClassId × FieldType)} {A : Nat → Prop} (l : Launch) (hF : mv_Fix mv_sh mv_ids mv_ros ad cA tys A mv_rc) : mv_Met l yX12_standsNow cX12_standsNow 2 none mv_Ts (mv_rm 1) 2 true mv_sh mv_ids mv_ros ad cA mv_cl D tys A mv_rc mv_cr (mv_EX ad A) ff_X12_standsNow := mv_met_of (by decide +kernel) (by decide) hF mv_stok (mv_rzV (by decide +kernel)) mv_clok (mv_dk_ok dk_X12_standsNow) (mv_fk_ok fk_X12) (fun p e s m args below meth c Q hBg hX hR => ⟨fun _ h => absurd h List.not_mem_nil, fun _ h => absurd h List.not_mem_nil⟩) (fun p e s m args below meth c Q hBg hX hR hK => fun _ h => absurd h List.not_mem_nil)
set_option maxRecDepth 20000 in
theorem cw_X12_372 : mv_Cw RX12 372 yX12_goes cX12_goes 2 none (some 12) 2 := mv_cw_of (a := 1788) (b := 143) (c := 1790) (d := 88) (mv_T 1791 rfl rfl) (by decide +kernel)
set_option maxRecDepth 20000 in
theorem cw_X12_369 : mv_Cw RX12 369 yX12_comes cX12_comes 3 (some .int) (some 12) 2 := mv_cw_of (a := 1772) (b := 143) (c := 1774) (d := 85) (mv_T 1775 rfl rfl) (by decide +kernel)
set_option maxRecDepth 20000 in
theorem cw_X12_375 : mv_Cw RX12 375 yX12_begs cX12_begs 4 (some .int) (some 12) 2 := mv_cw_of (a := 1796) (b := 143) (c := 1798) (d := 89) (mv_T 1799 rfl rfl) (by decide +kernel)
set_option maxRecDepth 20000 in
theorem cw_X12_384 : mv_Cw RX12 384 yX12_standsNow cX12_standsNow 2 none (some 12) 2 := mv_cw_of (a := 1849) (b := 143) (c := 1851) (d := 101) (mv_T 1852 rfl rfl) (by decide +kernel)
def ic_X12_doesLine : List (Nat × Instr × Nat) := [(0, .aload_n 0, 1), (1, .getfield 72, 3), (4, .iconst 3, 1), (5, .iload_n 1, 1), (6, .imul, 1), (7, .iaload, 1), (8, .istore_n 2, 1), (9, .aload_n 0, 1), (10, .getfield 72, 3), (13, .iconst 3, 1), (14, .iload_n 1, 1), (15, .imul, 1), (16, .iconst 1, 1), (17, .iadd, 1), (18, .iaload, 1), (19, .istore_n 3, 1), (20, .iload_n 2, 1), (21, .iconst 1, 1), (22, .if_icmp .ne 14, 3), (25, .aload_n 0, 1), (26, .iload_n 3, 1), (27, .invokevirtual 153, 3), (30, .ifCond .ne 16, 3), (33, .goto 11, 3), (36, .aload_n 0, 1), (37, .iload_n 3, 1), (38, .invokevirtual 153, 3), (41, .ifCond .eq 5, 3), (44, .iconst 0, 1), (45, .ireturn, 1), (46, .iload_n 2, 1), (47, .iconst 1, 1), (48, .if_icmp .ne 11, 3), (51, .aload_n 0, 1), (52, .iload_n 3, 1), (53, .invokevirtual 372, 3), (56, .goto 24, 3), (59, .aload_n 0, 1), (60, .iload_n 2, 1), (61, .ifCond .ne 11, 3), (64, .aload_n 0, 1), (65, .iload_n 3, 1), (66, .invokevirtual 369, 3), (69, .goto 8, 3), (72, .aload_n 0, 1), (73, .iload_n 3, 1), (74, .invokevirtual 375, 3), (77, .invokevirtual 384, 3), (80, .iconst 1, 1), (81, .ireturn, 1)]
noncomputable def mm_X12_doesLine : mv_M := (ic_X12_doesLine, fl_X12, [], [], [(153, 2, some 12, false, ff_X12_sits), (372, 2, some 12, true, ff_X12_goes), (369, 2, some 12, false, ff_X12_comes), (375, 2, some 12, false, ff_X12_begs), (384, 2, some 12, true, ff_X12_standsNow)], [], (some (0, 1)))
noncomputable def ff_X12_doesLine : mv_F := mv_fn mv_rc mm_X12_doesLine mv_sh 400 4
theorem dk_X12_doesLine : mv_dk cX12_doesLine ic_X12_doesLine = true := by decide +kernel
set_option maxRecDepth 20000 in
theorem cc_X12_doesLine {ad : Nat → Nat → Value} {cA : Nat → ClassId} {D : va_G} {tys : List (ClassId × FieldType)} {A : Nat → Prop} (l : Launch) (hF : mv_Fix mv_sh mv_ids mv_ros ad cA tys A mv_rc) : mv_Met l yX12_doesLine cX12_doesLine 4 (some .boolean) mv_Ts (mv_rm 9) 2 false mv_sh mv_ids mv_ros ad cA mv_cl D tys A mv_rc mv_cr (mv_EX ad A) ff_X12_doesLine := mv_met_of (by decide +kernel) (by decide) hF mv_stok (mv_rzZ (by decide +kernel) rfl) mv_clok (mv_dk_ok dk_X12_doesLine) (mv_fk_ok fk_X12) (fun p e s m args below meth c Q hBg hX hR => ⟨fun _ h => absurd h List.not_mem_nil, fun _ h => absurd h List.not_mem_nil⟩) (fun p e s m args below meth c Q hBg hX hR hK => List.forall_mem_cons.mpr ⟨mv_cal_of (cc_X12_sits l hF) hBg hX hR hK mv_EX_ok hF mv_good mv_stok cw_X12_153.1 cw_X12_153.2.1 cw_X12_153.2.2 ⟨rfl, rfl, by exact Nat.le_of_ble_eq_true rfl, by exact Nat.le_of_ble_eq_true rfl⟩ ⟨Nat.zero_le _, Nat.zero_le _⟩, List.forall_mem_cons.mpr ⟨mv_cal_of (cc_X12_goes l hF) hBg hX hR hK mv_EX_ok hF mv_good mv_stok cw_X12_372.1 cw_X12_372.2.1 cw_X12_372.2.2 ⟨rfl, rfl, by exact Nat.le_of_ble_eq_true rfl, by exact Nat.le_of_ble_eq_true rfl⟩ ⟨Nat.zero_le _, Nat.zero_le _⟩, List.forall_mem_cons.mpr ⟨mv_cal_of (cc_X12_comes l hF) hBg hX hR hK mv_EX_ok hF mv_good mv_stok cw_X12_369.1 cw_X12_369.2.1 cw_X12_369.2.2 ⟨rfl, rfl, by exact Nat.le_of_ble_eq_true rfl, by exact Nat.le_of_ble_eq_true rfl⟩ ⟨Nat.zero_le _, Nat.zero_le _⟩, List.forall_mem_cons.mpr ⟨mv_cal_of (cc_X12_begs l hF) hBg hX hR hK mv_EX_ok hF mv_good mv_stok cw_X12_375.1 cw_X12_375.2.1 cw_X12_375.2.2 ⟨rfl, rfl, by exact Nat.le_of_ble_eq_true rfl, by exact Nat.le_of_ble_eq_true rfl⟩ ⟨Nat.zero_le _, Nat.zero_le _⟩, List.forall_mem_cons.mpr ⟨mv_cal_of (cc_X12_standsNow l hF) hBg hX hR hK mv_EX_ok hF mv_good mv_stok cw_X12_384.1 cw_X12_384.2.1 cw_X12_384.2.2 ⟨rfl, rfl, by exact Nat.le_of_ble_eq_true rfl, by exact Nat.le_of_ble_eq_true rfl⟩ ⟨Nat.zero_le _, Nat.zero_le _⟩, fun _ h => absurd h List.not_mem_nil⟩⟩⟩⟩⟩)
set_option maxRecDepth 20000 in
theorem cw_X12_387 : mv_Cw RX12 387 yX12_doesLine cX12_doesLine 4 (some .boolean) (some 12) 2 := mv_cw_of (a := 1845) (b := 143) (c := 1847) (d := 100) (mv_T 1848 rfl rfl) (by decide +kernel)
def ic_X12_goesBy : List (Nat × Instr × Nat) := [(0, .iconst 0, 1), (1, .istore_n 1, 1), (2, .iconst 0, 1), (3, .istore_n 2, 1), (4, .iload_n 2, 1), (5, .aload_n 0, 1), (6, .getfield 146, 3), (9, .if_icmp .ge 40, 3), (12, .aload_n 0, 1), (13, .getfield 72, 3), (16, .iconst 3, 1), (17, .iload_n 2, 1), (18, .imul, 1), (19, .iconst 2, 1), (20, .iadd, 1), (21, .iaload, 1), (22, .aload_n 0, 1), (23, .getfield 7, 3), (26, .iconst 0, 1), (27, .iaload, 1), (28, .if_icmp .ne 15, 3), (31, .aload_n 0, 1), (32, .iload_n 2, 1), (33, .invokevirtual 387, 3), (36, .ifCond .eq 7, 3), (39, .iload_n 1, 1), (40, .iconst 1, 1), (41, .iadd, 1), (42, .istore_n 1, 1), (43, .iinc 2 1, 3), (46, .goto (-42), 3), (49, .iconst 0, 1), (50, .istore_n 2, 1), (51, .iload_n 2, 1), (52, .aload_n 0, 1), (53, .getfield 139, 3), (56, .if_icmp .ge 58, 3), (59, .iconst 0, 1), (60, .istore_n 3, 1), (61, .iload_n 3, 1), (62, .aload_n 0, 1), (63, .getfield 23, 3), (66, .iload_n 2, 1), (67, .iaload, 1), (68, .if_icmp .ge 40, 3), (71, .aload_n 0, 1), (72, .iload_n 2, 1), (73, .invokevirtual 153, 3), (76, .ifCond .eq 32, 3), (79, .aload_n 0, 1), (80, .getfield 7, 3), (83, .bipush 12, 2), (85, .aload_n 0, 1), (86, .iload_n 2, 1), (87, .invokevirtual 157, 3), (90, .iadd, 1), (91, .iload_n 3, 1), (92, .iadd, 1), (93, .aload_n 0, 1), (94, .getfield 7, 3), (97, .iconst 0, 1), (98, .iaload, 1), (99, .iconst 1, 1), (100, .iadd, 1), (101, .iastore, 1), (102, .iinc 3 1, 3), (105, .goto (-44), 3), (108, .iinc 2 1, 3), (111, .goto (-60), 3), (114, .aload_n 0, 1), (115, .getfield 7, 3), (118, .iconst 0, 1), (119, .aload_n 0, 1), (120, .getfield 7, 3), (123, .iconst 0, 1), (124, .iaload, 1), (125, .iconst 1, 1), (126, .iadd, 1), (127, .iastore, 1), (128, .iload_n 1, 1), (129, .ireturn, 1)]
noncomputable def mm_X12_goesBy : mv_M := (ic_X12_goesBy, fl_X12, [], [], [(387, 2, some 12, false, ff_X12_doesLine), (153, 2, some 12, false, ff_X12_sits), (157, 2, some 12, false, ff_X12_inchOf)], [(4, [true, true, true, false]), (51, [true, true, true, false]), (61, [true, true, true, true])], none)
noncomputable def ff_X12_goesBy : mv_F := mv_fn mv_rc mm_X12_goesBy mv_sh 400 4
theorem dk_X12_goesBy : mv_dk cX12_goesBy ic_X12_goesBy = true := by decide +kernel
set_option maxRecDepth 20000 in
theorem cc_X12_goesBy {ad : Nat → Nat → Value} {cA : Nat → ClassId} {D : va_G} {tys : List (ClassId × FieldType)} {A : Nat → Prop} (l : Launch) (hF : mv_Fix mv_sh mv_ids mv_ros ad cA tys A mv_rc) : mv_Met l yX12_goesBy cX12_goesBy 4 (some .int) mv_Ts (mv_rm 10) 1 false mv_sh mv_ids mv_ros ad cA mv_cl D tys A mv_rc mv_cr (mv_EX ad A) ff_X12_goesBy := mv_met_of (by decide +kernel) (by decide) hF mv_stok (mv_rzI (by decide +kernel)) mv_clok (mv_dk_ok dk_X12_goesBy) (mv_fk_ok fk_X12) (fun p e s m args below meth c Q hBg hX hR => ⟨fun _ h => absurd h List.not_mem_nil, fun _ h => absurd h List.not_mem_nil⟩) (fun p e s m args below meth c Q hBg hX hR hK => List.forall_mem_cons.mpr ⟨mv_cal_of (cc_X12_doesLine l hF) hBg hX hR hK mv_EX_ok hF mv_good mv_stok cw_X12_387.1 cw_X12_387.2.1 cw_X12_387.2.2 ⟨rfl, rfl, by exact Nat.le_of_ble_eq_true rfl, by exact Nat.le_of_ble_eq_true rfl⟩ ⟨Nat.zero_le _, Nat.zero_le _⟩, List.forall_mem_cons.mpr ⟨mv_cal_of (cc_X12_sits l hF) hBg hX hR hK mv_EX_ok hF mv_good mv_stok cw_X12_153.1 cw_X12_153.2.1 cw_X12_153.2.2 ⟨rfl, rfl, by exact Nat.le_of_ble_eq_true rfl, by exact Nat.le_of_ble_eq_true rfl⟩ ⟨Nat.zero_le _, Nat.zero_le _⟩, List.forall_mem_cons.mpr ⟨mv_cal_of (cc_X12_inchOf l hF) hBg hX hR hK mv_EX_ok hF mv_good mv_stok cw_X12_157.1 cw_X12_157.2.1 cw_X12_157.2.2 ⟨rfl, rfl, by exact Nat.le_of_ble_eq_true rfl, by exact Nat.le_of_ble_eq_true rfl⟩ ⟨Nat.zero_le _, Nat.zero_le _⟩, fun _ h => absurd h List.not_mem_nil⟩⟩⟩)
def ic_X12_endsThought : List (Nat × Instr × Nat) := [(0, .iconst 0, 1), (1, .istore_n 1, 1), (2, .iload_n 1, 1), (3, .bipush 72, 2), (5, .if_icmp .ge 21, 3), (8, .aload_n 0, 1), (9, .getfield 7, 3), (12, .iload_n 1, 1), (13, .aload_n 0, 1), (14, .getfield 16, 3), (17, .iload_n 1, 1), (18, .iaload, 1), (19, .iastore, 1), (20, .iinc 1 1, 3), (23, .goto (-21), 3), (26, .aload_n 0, 1), (27, .iconst 0, 1), (28, .putfield 132, 3), (31, .return_, 1)]
noncomputable def mm_X12_endsThought : mv_M := (ic_X12_endsThought, fl_X12, [], [], [], [(2, [true, true])], none)
noncomputable def ff_X12_endsThought : mv_F := mv_fn mv_rc mm_X12_endsThought mv_sh 400 2
theorem dk_X12_endsThought : mv_dk cX12_endsThought ic_X12_endsThought = true := by decide +kernel
set_option maxRecDepth 20000 in
theorem cc_X12_endsThought {ad : Nat → Nat → Value} {cA : Nat → ClassId} {D : va_G} {tys : List (ClassId × FieldType)} {A : Nat → Prop} (l : Launch) (hF : mv_Fix mv_sh mv_ids mv_ros ad cA tys A mv_rc) : mv_Met l yX12_endsThought cX12_endsThought 2 none mv_Ts (mv_rm 1) 1 true mv_sh mv_ids mv_ros ad cA mv_cl D tys A mv_rc mv_cr (mv_EX ad A) ff_X12_endsThought := mv_met_of (by decide +kernel) (by decide) hF mv_stok (mv_rzV (by decide +kernel)) mv_clok (mv_dk_ok dk_X12_endsThought) (mv_fk_ok fk_X12) (fun p e s m args below meth c Q hBg hX hR => ⟨fun _ h => absurd h List.not_mem_nil, fun _ h => absurd h List.not_mem_nil⟩) (fun p e s m args below meth c Q hBg hX hR hK => fun _ h => absurd h List.not_mem_nil)
set_option maxRecDepth 20000 in
theorem cw_X12_393 : mv_Cw RX12 393 yX12_thinks cX12_thinks 2 none (some 12) 1 := mv_cw_of (a := 1857) (b := 143) (c := 1859) (d := 102) (mv_T 1860 rfl rfl) (by decide +kernel)
set_option maxRecDepth 20000 in
theorem cw_X12_390 : mv_Cw RX12 390 yX12_goesBy cX12_goesBy 4 (some .int) (some 12) 1 := mv_cw_of (a := 1841) (b := 143) (c := 1843) (d := 99) (mv_T 1844 rfl rfl) (by decide +kernel)
set_option maxRecDepth 20000 in
theorem cw_X12_396 : mv_Cw RX12 396 yX12_endsThought cX12_endsThought 2 none (some 12) 1 := mv_cw_of (a := 1861) (b := 143) (c := 1863) (d := 103) (mv_T 1864 rfl rfl) (by decide +kernel)
def ic_X12_stands : List (Nat × Instr × Nat) := [(0, .aload_n 0, 1), (1, .iconst 0, 1), (2, .putfield 126, 3), (5, .aload_n 0, 1), (6, .iload_n 1, 1), (7, .iconst 0, 1), (8, .iconst 1, 1), (9, .invokevirtual 142, 3), (12, .ifCond .ne 5, 3), (15, .iconst (-1), 1), (16, .ireturn, 1), (17, .aload_n 0, 1), (18, .invokevirtual 393, 3), (21, .aload_n 0, 1), (22, .iconst 0, 1), (23, .putfield 378, 3), (26, .aload_n 0, 1), (27, .iconst (-1), 1), (28, .putfield 381, 3), (31, .aload_n 0, 1), (32, .getfield 7, 3), (35, .iconst 0, 1), (36, .iaload, 1), (37, .sipush 999, 3), (40, .if_icmp .gt 11, 3), (43, .aload_n 0, 1), (44, .invokevirtual 390, 3), (47, .pop, 1), (48, .goto (-17), 3), (51, .aload_n 0, 1), (52, .invokevirtual 396, 3), (55, .iload_n 1, 1), (56, .ifCond .ne 10, 3), (59, .aload_n 0, 1), (60, .getfield 378, 3), (63, .goto 7, 3), (66, .aload_n 0, 1), (67, .getfield 381, 3), (70, .ireturn, 1)]
noncomputable def mm_X12_stands : mv_M := (ic_X12_stands, fl_X12, [], [], [(142, 4, some 12, false, ff_X12_isIn), (393, 1, some 12, true, ff_X12_thinks), (390, 1, some 12, false, ff_X12_goesBy), (396, 1, some 12, true, ff_X12_endsThought)], [(31, [true, true])], none)
noncomputable def ff_X12_stands : mv_F := mv_fn mv_rc mm_X12_stands mv_sh 400 2
theorem dk_X12_stands : mv_dk cX12_stands ic_X12_stands = true := by decide +kernel
set_option maxRecDepth 20000 in
theorem cc_X12_stands {ad : Nat → Nat → Value} {cA : Nat → ClassId} {D : va_G} {tys : List (ClassId × FieldType)} {A : Nat → Prop} (l : Launch) (hF : mv_Fix mv_sh mv_ids mv_ros ad cA tys A mv_rc) : mv_Met l yX12_stands cX12_stands 2 (some .int) mv_Ts (mv_rm 11) 2 false mv_sh mv_ids mv_ros ad cA mv_cl D tys A mv_rc mv_cr (mv_EX ad A) ff_X12_stands := mv_met_of (by decide +kernel) (by decide) hF mv_stok (mv_rzI (by decide +kernel)) mv_clok (mv_dk_ok dk_X12_stands) (mv_fk_ok fk_X12) (fun p e s m args below meth c Q hBg hX hR => ⟨fun _ h => absurd h List.not_mem_nil, fun _ h => absurd h List.not_mem_nil⟩) (fun p e s m args below meth c Q hBg hX hR hK => List.forall_mem_cons.mpr ⟨mv_cal_of (cc_X12_isIn l hF) hBg hX hR hK mv_EX_ok hF mv_good mv_stok cw_X12_142.1 cw_X12_142.2.1 cw_X12_142.2.2 ⟨rfl, rfl, by exact Nat.le_of_ble_eq_true rfl, by exact Nat.le_of_ble_eq_true rfl⟩ ⟨Nat.zero_le _, Nat.zero_le _⟩, List.forall_mem_cons.mpr ⟨mv_cal_of (cc_X12_thinks l hF) hBg hX hR hK mv_EX_ok hF mv_good mv_stok cw_X12_393.1 cw_X12_393.2.1 cw_X12_393.2.2 ⟨rfl, rfl, by exact Nat.le_of_ble_eq_true rfl, by exact Nat.le_of_ble_eq_true rfl⟩ ⟨Nat.zero_le _, Nat.zero_le _⟩, List.forall_mem_cons.mpr ⟨mv_cal_of (cc_X12_goesBy l hF) hBg hX hR hK mv_EX_ok hF mv_good mv_stok cw_X12_390.1 cw_X12_390.2.1 cw_X12_390.2.2 ⟨rfl, rfl, by exact Nat.le_of_ble_eq_true rfl, by exact Nat.le_of_ble_eq_true rfl⟩ ⟨Nat.zero_le _, Nat.zero_le _⟩, List.forall_mem_cons.mpr ⟨mv_cal_of (cc_X12_endsThought l hF) hBg hX hR hK mv_EX_ok hF mv_good mv_stok cw_X12_396.1 cw_X12_396.2.1 cw_X12_396.2.2 ⟨rfl, rfl, by exact Nat.le_of_ble_eq_true rfl, by exact Nat.le_of_ble_eq_true rfl⟩ ⟨Nat.zero_le _, Nat.zero_le _⟩, fun _ h => absurd h List.not_mem_nil⟩⟩⟩⟩)
def ic_X6_save : List (Nat × Instr × Nat) := [(0, .iload_n 2, 1), (1, .ifCond .lt 9, 3), (4, .iload_n 2, 1), (5, .bipush 6, 2), (7, .if_icmp .le 4, 3), (10, .return_, 1), (11, .aload_n 1, 1), (12, .getfield 46, 3), (15, .iconst 0, 1), (16, .aload_n 0, 1), (17, .getfield 13, 3), (20, .iload_n 2, 1), (21, .aaload, 1), (22, .iconst 0, 1), (23, .bipush 10, 2), (25, .invokestatic 50, 3), (28, .aload_n 1, 1), (29, .getfield 56, 3), (32, .iconst 0, 1), (33, .aload_n 0, 1), (34, .getfield 16, 3), (37, .iload_n 2, 1), (38, .aaload, 1), (39, .iconst 0, 1), (40, .bipush 60, 2), (42, .invokestatic 50, 3), (45, .aload_n 0, 1), (46, .getfield 19, 3), (49, .iload_n 2, 1), (50, .aload_n 1, 1), (51, .getfield 58, 3), (54, .iastore, 1), (55, .aload_n 0, 1), (56, .getfield 23, 3), (59, .iload_n 2, 1), (60, .aload_n 1, 1), (61, .getfield 60, 3), (64, .iastore, 1), (65, .return_, 1)]
noncomputable def mm_X6_save : mv_M := (ic_X6_save, fl_X6, [], [], [(50, 5, none, true, mv_acp mv_sh)], [], none)
noncomputable def ff_X6_save : mv_F := mv_fn mv_rc mm_X6_save mv_sh 400 3
theorem dk_X6_save : mv_dk cX6_save ic_X6_save = true := by decide +kernel
set_option maxRecDepth 20000 in
theorem cc_X6_save {ad : Nat → Nat → Value} {cA : Nat → ClassId} {D : va_G} {tys : List (ClassId × FieldType)} {A : Nat → Prop} (l : Launch) (hF : mv_Fix mv_sh mv_ids mv_ros ad cA tys A mv_rc) : mv_Met l yX6_save cX6_save 3 none mv_Ts (mv_rm 1) 3 true mv_sh mv_ids mv_ros ad cA mv_cl D tys A mv_rc mv_cr (mv_EX ad A) ff_X6_save := mv_met_of (by decide +kernel) (by decide) hF mv_stok (mv_rzV (by decide +kernel)) mv_clok (mv_dk_ok dk_X6_save) (mv_fk_ok fk_X6) (fun p e s m args below meth c Q hBg hX hR => ⟨fun _ h => absurd h List.not_mem_nil, fun _ h => absurd h List.not_mem_nil⟩) (fun p e s m args below meth c Q hBg hX hR hK => List.forall_mem_cons.mpr ⟨mv_cal_acp (cr := mv_cr) hF hBg hK ⟨mv_T 686 rfl rfl, mv_T 688 rfl rfl, mv_T 687 rfl rfl, mv_T 144 rfl rfl⟩ ⟨by decide, by decide⟩, fun _ h => absurd h List.not_mem_nil⟩)
set_option maxRecDepth 20000 in
theorem cw_X6_33 : mv_Cw RX6 33 yX6_save cX6_save 3 none (some 6) 3 := mv_cw_of (a := 682) (b := 135) (c := 684) (d := 1) (mv_T 685 rfl rfl) (by decide +kernel)
def ic_X6_keepThought : List (Nat × Instr × Nat) := [(0, .aload_n 0, 1), (1, .aload_n 1, 1), (2, .bipush 6, 2), (4, .invokevirtual 33, 3), (7, .return_, 1)]
noncomputable def mm_X6_keepThought : mv_M := (ic_X6_keepThought, fl_X6, [], [], [(33, 3, some 6, true, ff_X6_save)], [], none)
noncomputable def ff_X6_keepThought : mv_F := mv_fn mv_rc mm_X6_keepThought mv_sh 400 2
theorem dk_X6_keepThought : mv_dk cX6_keepThought ic_X6_keepThought = true := by decide +kernel
set_option maxRecDepth 20000 in
theorem cc_X6_keepThought {ad : Nat → Nat → Value} {cA : Nat → ClassId} {D : va_G} {tys : List (ClassId × FieldType)} {A : Nat → Prop} (l : Launch) (hF : mv_Fix mv_sh mv_ids mv_ros ad cA tys A mv_rc) : mv_Met l yX6_keepThought cX6_keepThought 2 none mv_Ts (mv_rm 2) 2 true mv_sh mv_ids mv_ros ad cA mv_cl D tys A mv_rc mv_cr (mv_EX ad A) ff_X6_keepThought := mv_met_of (by decide +kernel) (by decide) hF mv_stok (mv_rzV (by decide +kernel)) mv_clok (mv_dk_ok dk_X6_keepThought) (mv_fk_ok fk_X6) (fun p e s m args below meth c Q hBg hX hR => ⟨fun _ h => absurd h List.not_mem_nil, fun _ h => absurd h List.not_mem_nil⟩) (fun p e s m args below meth c Q hBg hX hR hK => List.forall_mem_cons.mpr ⟨mv_cal_of (cc_X6_save l hF) hBg hX hR hK mv_EX_ok hF mv_good mv_stok cw_X6_33.1 cw_X6_33.2.1 cw_X6_33.2.2 ⟨rfl, rfl, by exact Nat.le_of_ble_eq_true rfl, by exact Nat.le_of_ble_eq_true rfl⟩ ⟨Nat.zero_le _, Nat.zero_le _⟩, fun _ h => absurd h List.not_mem_nil⟩)
def ic_X0_countNone : List (Nat × Instr × Nat) := [(0, .aload_n 0, 1), (1, .iconst 0, 1), (2, .putfield 81, 3), (5, .aload_n 0, 1), (6, .iconst (-1), 1), (7, .putfield 9, 3), (10, .return_, 1)]
noncomputable def mm_X0_countNone : mv_M := (ic_X0_countNone, fl_X0, [], [], [], [], none)
noncomputable def ff_X0_countNone : mv_F := mv_fn mv_rc mm_X0_countNone mv_sh 400 1
theorem dk_X0_countNone : mv_dk cX0_countNone ic_X0_countNone = true := by decide +kernel
set_option maxRecDepth 20000 in
theorem cc_X0_countNone {ad : Nat → Nat → Value} {cA : Nat → ClassId} {D : va_G} {tys : List (ClassId × FieldType)} {A : Nat → Prop} (l : Launch) (hF : mv_Fix mv_sh mv_ids mv_ros ad cA tys A mv_rc) : mv_Met l yX0_countNone cX0_countNone 1 none mv_Ts (mv_rm 1) 1 true mv_sh mv_ids mv_ros ad cA mv_cl D tys A mv_rc mv_cr (mv_EX ad A) ff_X0_countNone := mv_met_of (by decide +kernel) (by decide) hF mv_stok (mv_rzV (by decide +kernel)) mv_clok (mv_dk_ok dk_X0_countNone) (mv_fk_ok fk_X0) (fun p e s m args below meth c Q hBg hX hR => ⟨fun _ h => absurd h List.not_mem_nil, fun _ h => absurd h List.not_mem_nil⟩) (fun p e s m args below meth c Q hBg hX hR hK => fun _ h => absurd h List.not_mem_nil)
def ic_X3_nextHour : List (Nat × Instr × Nat) := [(0, .sipush 1000, 3), (3, .istore_n 2, 1), (4, .iconst 0, 1), (5, .istore_n 3, 1), (6, .iload_n 3, 1), (7, .aload_n 0, 1), (8, .getfield 21, 3), (11, .if_icmp .ge 42, 3), (14, .iload_n 3, 1), (15, .bipush 24, 2), (17, .if_icmp .ge 36, 3), (20, .aload_n 0, 1), (21, .getfield 18, 3), (24, .iload_n 3, 1), (25, .iaload, 1), (26, .iload_n 1, 1), (27, .if_icmp .lt 20, 3), (30, .aload_n 0, 1), (31, .getfield 18, 3), (34, .iload_n 3, 1), (35, .iaload, 1), (36, .iload_n 2, 1), (37, .if_icmp .ge 10, 3), (40, .aload_n 0, 1), (41, .getfield 18, 3), (44, .iload_n 3, 1), (45, .iaload, 1), (46, .istore_n 2, 1), (47, .iinc 3 1, 3), (50, .goto (-44), 3), (53, .iload_n 2, 1), (54, .ireturn, 1)]
noncomputable def mm_X3_nextHour : mv_M := (ic_X3_nextHour, fl_X3, [], [], [], [(6, [true, true, true, true])], none)
noncomputable def ff_X3_nextHour : mv_F := mv_fn mv_rc mm_X3_nextHour mv_sh 400 4
theorem dk_X3_nextHour : mv_dk cX3_nextHour ic_X3_nextHour = true := by decide +kernel
set_option maxRecDepth 20000 in
theorem cc_X3_nextHour {ad : Nat → Nat → Value} {cA : Nat → ClassId} {D : va_G} {tys : List (ClassId × FieldType)} {A : Nat → Prop} (l : Launch) (hF : mv_Fix mv_sh mv_ids mv_ros ad cA tys A mv_rc) : mv_Met l yX3_nextHour cX3_nextHour 4 (some .int) mv_Ts (mv_rm 1) 2 false mv_sh mv_ids mv_ros ad cA mv_cl D tys A mv_rc mv_cr (mv_EX ad A) ff_X3_nextHour := mv_met_of (by decide +kernel) (by decide) hF mv_stok (mv_rzI (by decide +kernel)) mv_clok (mv_dk_ok dk_X3_nextHour) (mv_fk_ok fk_X3) (fun p e s m args below meth c Q hBg hX hR => ⟨fun _ h => absurd h List.not_mem_nil, fun _ h => absurd h List.not_mem_nil⟩) (fun p e s m args below meth c Q hBg hX hR hK => fun _ h => absurd h List.not_mem_nil)
def ic_X2_warmSeats : List (Nat × Instr × Nat) := [(0, .iconst 0, 1), (1, .istore_n 2, 1), (2, .iload_n 2, 1), (3, .aload_n 0, 1), (4, .getfield 69, 3), (7, .if_icmp .ge 73, 3), (10, .aload_n 0, 1), (11, .getfield 29, 3), (14, .iload_n 2, 1), (15, .iaload, 1), (16, .iconst (-1), 1), (17, .if_icmp .ne 6, 3), (20, .goto 54, 3), (23, .aload_n 0, 1), (24, .getfield 29, 3), (27, .iload_n 2, 1), (28, .iaload, 1), (29, .aload_n 0, 1), (30, .getfield 26, 3), (33, .iconst 0, 1), (34, .aaload, 1), (35, .iload_n 2, 1), (36, .iaload, 1), (37, .iadd, 1), (38, .aload_n 0, 1), (39, .getfield 65, 3), (42, .invokestatic 62, 3), (45, .istore_n 3, 1), (46, .aload_n 0, 1), (47, .getfield 29, 3), (50, .iload_n 2, 1), (51, .iaload, 1), (52, .istore 4, 2), (54, .iload 4, 2), (56, .iload_n 3, 1), (57, .if_icmp .ge 17, 3), (60, .aload_n 0, 1), (61, .getfield 18, 3), (64, .iload 4, 2), (66, .iload_n 1, 1), (67, .iastore, 1), (68, .iinc 4 1, 3), (71, .goto (-17), 3), (74, .iinc 2 1, 3), (77, .goto (-75), 3), (80, .return_, 1)]
noncomputable def mm_X2_warmSeats : mv_M := (ic_X2_warmSeats, fl_X2, [], [], [(62, 2, none, false, mv_min)], [(2, [true, true, true, false, false]), (54, [true, true, true, true, true])], none)
noncomputable def ff_X2_warmSeats : mv_F := mv_fn mv_rc mm_X2_warmSeats mv_sh 400 5
theorem dk_X2_warmSeats : mv_dk cX2_warmSeats ic_X2_warmSeats = true := by decide +kernel
set_option maxRecDepth 20000 in
theorem cc_X2_warmSeats {ad : Nat → Nat → Value} {cA : Nat → ClassId} {D : va_G} {tys : List (ClassId × FieldType)} {A : Nat → Prop} (l : Launch) (hF : mv_Fix mv_sh mv_ids mv_ros ad cA tys A mv_rc) : mv_Met l yX2_warmSeats cX2_warmSeats 5 none mv_Ts (mv_rm 1) 2 true mv_sh mv_ids mv_ros ad cA mv_cl D tys A mv_rc mv_cr (mv_EX ad A) ff_X2_warmSeats := mv_met_of (by decide +kernel) (by decide) hF mv_stok (mv_rzV (by decide +kernel)) mv_clok (mv_dk_ok dk_X2_warmSeats) (mv_fk_ok fk_X2) (fun p e s m args below meth c Q hBg hX hR => ⟨fun _ h => absurd h List.not_mem_nil, fun _ h => absurd h List.not_mem_nil⟩) (fun p e s m args below meth c Q hBg hX hR hK => List.forall_mem_cons.mpr ⟨mv_cal_min hBg ⟨mv_T 237 rfl rfl, mv_T 238 rfl rfl, mv_T 133 rfl rfl, mv_T 239 rfl rfl⟩ ⟨by decide, by decide⟩ ⟨Nat.zero_le _, Nat.zero_le _⟩, fun _ h => absurd h List.not_mem_nil⟩)
end
section
set_option maxRecDepth 20000 in
theorem cw_X0_115 : mv_Cw RX0 115 yX2_warmSeats cX2_warmSeats 5 none (some 2) 2 := mv_cw_of (a := 1067) (b := 130) (c := 1068) (d := 1069) (mv_T 1070 rfl rfl) (by decide +kernel)
def ic_X0_skipTo : List (Nat × Instr × Nat) := [(0, .iload_n 1, 1), (1, .aload_n 0, 1), (2, .getfield 15, 3), (5, .getfield 84, 3), (8, .if_icmp .le 21, 3), (11, .aload_n 0, 1), (12, .getfield 15, 3), (15, .iload_n 1, 1), (16, .iconst 1, 1), (17, .isub, 1), (18, .invokevirtual 115, 3), (21, .aload_n 0, 1), (22, .getfield 15, 3), (25, .iload_n 1, 1), (26, .putfield 84, 3), (29, .return_, 1)]
noncomputable def mm_X0_skipTo : mv_M := (ic_X0_skipTo, fl_X0, [], [], [(115, 2, some 2, true, ff_X2_warmSeats)], [], none)
noncomputable def ff_X0_skipTo : mv_F := mv_fn mv_rc mm_X0_skipTo mv_sh 400 2
theorem dk_X0_skipTo : mv_dk cX0_skipTo ic_X0_skipTo = true := by decide +kernel
set_option maxRecDepth 20000 in
theorem cc_X0_skipTo {ad : Nat → Nat → Value} {cA : Nat → ClassId} {D : va_G} {tys : List (ClassId × FieldType)} {A : Nat → Prop} (l : Launch) (hF : mv_Fix mv_sh mv_ids mv_ros ad cA tys A mv_rc) : mv_Met l yX0_skipTo cX0_skipTo 2 none mv_Ts (mv_rm 2) 2 true mv_sh mv_ids mv_ros ad cA mv_cl D tys A mv_rc mv_cr (mv_EX ad A) ff_X0_skipTo := mv_met_of (by decide +kernel) (by decide) hF mv_stok (mv_rzV (by decide +kernel)) mv_clok (mv_dk_ok dk_X0_skipTo) (mv_fk_ok fk_X0) (fun p e s m args below meth c Q hBg hX hR => ⟨fun _ h => absurd h List.not_mem_nil, fun _ h => absurd h List.not_mem_nil⟩) (fun p e s m args below meth c Q hBg hX hR hK => List.forall_mem_cons.mpr ⟨mv_cal_of (cc_X2_warmSeats l hF) hBg hX hR hK mv_EX_ok hF mv_good mv_stok cw_X0_115.1 cw_X0_115.2.1 cw_X0_115.2.2 ⟨rfl, rfl, by exact Nat.le_of_ble_eq_true rfl, by exact Nat.le_of_ble_eq_true rfl⟩ ⟨Nat.zero_le _, Nat.zero_le _⟩, fun _ h => absurd h List.not_mem_nil⟩)
def ic_X2_isAside : List (Nat × Instr × Nat) := [(0, .aload_n 0, 1), (1, .iload_n 1, 1), (2, .invokevirtual 103, 3), (5, .ifCond .eq 17, 3), (8, .aload_n 0, 1), (9, .getfield 29, 3), (12, .iload_n 1, 1), (13, .iaload, 1), (14, .iconst (-1), 1), (15, .if_icmp .ne 7, 3), (18, .iconst 1, 1), (19, .goto 4, 3), (22, .iconst 0, 1), (23, .ireturn, 1)]
noncomputable def mm_X2_isAside : mv_M := (ic_X2_isAside, fl_X2, [], [], [(103, 2, some 2, false, ff_X2_isPerson)], [], (some (0, 1)))
noncomputable def ff_X2_isAside : mv_F := mv_fn mv_rc mm_X2_isAside mv_sh 400 2
theorem dk_X2_isAside : mv_dk cX2_isAside ic_X2_isAside = true := by decide +kernel
set_option maxRecDepth 20000 in
theorem cc_X2_isAside {ad : Nat → Nat → Value} {cA : Nat → ClassId} {D : va_G} {tys : List (ClassId × FieldType)} {A : Nat → Prop} (l : Launch) (hF : mv_Fix mv_sh mv_ids mv_ros ad cA tys A mv_rc) : mv_Met l yX2_isAside cX2_isAside 2 (some .boolean) mv_Ts (mv_rm 2) 2 false mv_sh mv_ids mv_ros ad cA mv_cl D tys A mv_rc mv_cr (mv_EX ad A) ff_X2_isAside := mv_met_of (by decide +kernel) (by decide) hF mv_stok (mv_rzZ (by decide +kernel) rfl) mv_clok (mv_dk_ok dk_X2_isAside) (mv_fk_ok fk_X2) (fun p e s m args below meth c Q hBg hX hR => ⟨fun _ h => absurd h List.not_mem_nil, fun _ h => absurd h List.not_mem_nil⟩) (fun p e s m args below meth c Q hBg hX hR hK => List.forall_mem_cons.mpr ⟨mv_cal_of (cc_X2_isPerson l hF) hBg hX hR hK mv_EX_ok hF mv_good mv_stok cw_X2_103.1 cw_X2_103.2.1 cw_X2_103.2.2 ⟨rfl, rfl, by exact Nat.le_of_ble_eq_true rfl, by exact Nat.le_of_ble_eq_true rfl⟩ ⟨Nat.zero_le _, Nat.zero_le _⟩, fun _ h => absurd h List.not_mem_nil⟩)
def ic_X9_placeFor : List (Nat × Instr × Nat) := [(0, .aload_n 0, 1), (1, .getfield 27, 3), (4, .bipush 60, 2), (6, .if_icmp .lt 5, 3), (9, .iconst (-1), 1), (10, .ireturn, 1), (11, .aload_n 0, 1), (12, .getfield 27, 3), (15, .istore_n 2, 1), (16, .iload_n 2, 1), (17, .ifCond .le 91, 3), (20, .aload_n 0, 1), (21, .getfield 9, 3), (24, .iload_n 2, 1), (25, .iconst 1, 1), (26, .isub, 1), (27, .iaload, 1), (28, .iload_n 1, 1), (29, .if_icmp .le 79, 3), (32, .aload_n 0, 1), (33, .getfield 9, 3), (36, .iload_n 2, 1), (37, .aload_n 0, 1), (38, .getfield 9, 3), (41, .iload_n 2, 1), (42, .iconst 1, 1), (43, .isub, 1), (44, .iaload, 1), (45, .iastore, 1), (46, .aload_n 0, 1), (47, .getfield 15, 3), (50, .iload_n 2, 1), (51, .aload_n 0, 1), (52, .getfield 15, 3), (55, .iload_n 2, 1), (56, .iconst 1, 1), (57, .isub, 1), (58, .iaload, 1), (59, .iastore, 1), (60, .aload_n 0, 1), (61, .getfield 18, 3), (64, .iload_n 2, 1), (65, .aload_n 0, 1), (66, .getfield 18, 3), (69, .iload_n 2, 1), (70, .iconst 1, 1), (71, .isub, 1), (72, .iaload, 1), (73, .iastore, 1), (74, .aload_n 0, 1), (75, .getfield 21, 3), (78, .iload_n 2, 1), (79, .aload_n 0, 1), (80, .getfield 21, 3), (83, .iload_n 2, 1), (84, .iconst 1, 1), (85, .isub, 1), (86, .iaload, 1), (87, .iastore, 1), (88, .aload_n 0, 1), (89, .getfield 24, 3), (92, .iload_n 2, 1), (93, .aload_n 0, 1), (94, .getfield 24, 3), (97, .iload_n 2, 1), (98, .iconst 1, 1), (99, .isub, 1), (100, .iaload, 1), (101, .iastore, 1), (102, .iinc 2 (-1), 3), (105, .goto (-89), 3), (108, .aload_n 0, 1), (109, .dup, 1), (110, .getfield 27, 3), (113, .iconst 1, 1), (114, .iadd, 1), (115, .putfield 27, 3), (118, .iload_n 2, 1), (119, .ireturn, 1)]
noncomputable def mm_X9_placeFor : mv_M := (ic_X9_placeFor, fl_X9, [], [], [], [(16, [true, true, true])], none)
noncomputable def ff_X9_placeFor : mv_F := mv_fn mv_rc mm_X9_placeFor mv_sh 400 3
theorem dk_X9_placeFor : mv_dk cX9_placeFor ic_X9_placeFor = true := by decide +kernel
set_option maxRecDepth 20000 in
theorem cc_X9_placeFor {ad : Nat → Nat → Value} {cA : Nat → ClassId} {D : va_G} {tys : List (ClassId × FieldType)} {A : Nat → Prop} (l : Launch) (hF : mv_Fix mv_sh mv_ids mv_ros ad cA tys A mv_rc) : mv_Met l yX9_placeFor cX9_placeFor 3 (some .int) mv_Ts (mv_rm 1) 2 false mv_sh mv_ids mv_ros ad cA mv_cl D tys A mv_rc mv_cr (mv_EX ad A) ff_X9_placeFor := mv_met_of (by decide +kernel) (by decide) hF mv_stok (mv_rzI (by decide +kernel)) mv_clok (mv_dk_ok dk_X9_placeFor) (mv_fk_ok fk_X9) (fun p e s m args below meth c Q hBg hX hR => ⟨fun _ h => absurd h List.not_mem_nil, fun _ h => absurd h List.not_mem_nil⟩) (fun p e s m args below meth c Q hBg hX hR hK => fun _ h => absurd h List.not_mem_nil)
set_option maxRecDepth 20000 in
theorem cw_X9_36 : mv_Cw RX9 36 yX2_isSeated cX2_isSeated 2 (some .boolean) (some 2) 2 := mv_cw_of (a := 699) (b := 130) (c := 666) (d := 667) (mv_T 668 rfl rfl) (by decide +kernel)
set_option maxRecDepth 20000 in
theorem cw_X9_43 : mv_Cw RX9 43 yX9_placeFor cX9_placeFor 3 (some .int) (some 9) 2 := mv_cw_of (a := 700) (b := 137) (c := 702) (d := 2) (mv_T 703 rfl rfl) (by decide +kernel)
set_option maxRecDepth 20000 in
theorem cw_X9_47 : mv_Cw RX9 47 yX2_takes cX2_takes 2 (some .int) (some 2) 2 := mv_cw_of (a := 704) (b := 130) (c := 705) (d := 706) (mv_T 707 rfl rfl) (by decide +kernel)
def ic_X9_gather : List (Nat × Instr × Nat) := [(0, .aload_n 0, 1), (1, .iconst 0, 1), (2, .putfield 27, 3), (5, .iconst 0, 1), (6, .istore_n 3, 1), (7, .iload_n 3, 1), (8, .aload_n 1, 1), (9, .getfield 31, 3), (12, .if_icmp .ge 115, 3), (15, .aload_n 1, 1), (16, .iload_n 3, 1), (17, .invokevirtual 36, 3), (20, .ifCond .eq 101, 3), (23, .iload_n 2, 1), (24, .iload_n 3, 1), (25, .ishr, 1), (26, .iconst 1, 1), (27, .iand, 1), (28, .iconst 1, 1), (29, .if_icmp .ne 92, 3), (32, .aload_n 0, 1), (33, .aload_n 1, 1), (34, .getfield 40, 3), (37, .iload_n 3, 1), (38, .iaload, 1), (39, .invokevirtual 43, 3), (42, .istore 4, 2), (44, .iload 4, 2), (46, .iconst (-1), 1), (47, .if_icmp .ne 4, 3), (50, .return_, 1), (51, .aload_n 0, 1), (52, .getfield 9, 3), (55, .iload 4, 2), (57, .aload_n 1, 1), (58, .getfield 40, 3), (61, .iload_n 3, 1), (62, .iaload, 1), (63, .iastore, 1), (64, .aload_n 0, 1), (65, .getfield 15, 3), (68, .iload 4, 2), (70, .aload_n 1, 1), (71, .getfield 40, 3), (74, .iload_n 3, 1), (75, .iaload, 1), (76, .aload_n 1, 1), (77, .iload_n 3, 1), (78, .invokevirtual 47, 3), (81, .iadd, 1), (82, .iastore, 1), (83, .aload_n 0, 1), (84, .getfield 18, 3), (87, .iload 4, 2), (89, .aload_n 1, 1), (90, .getfield 50, 3), (93, .iconst 1, 1), (94, .aaload, 1), (95, .iload_n 3, 1), (96, .iaload, 1), (97, .iastore, 1), (98, .aload_n 0, 1), (99, .getfield 21, 3), (102, .iload 4, 2), (104, .aload_n 1, 1), (105, .getfield 50, 3), (108, .iconst 3, 1), (109, .aaload, 1), (110, .iload_n 3, 1), (111, .iaload, 1), (112, .iastore, 1), (113, .aload_n 0, 1), (114, .getfield 24, 3), (117, .iload 4, 2), (119, .iload_n 3, 1), (120, .iastore, 1), (121, .iinc 3 1, 3), (124, .goto (-117), 3), (127, .return_, 1)]
noncomputable def mm_X9_gather : mv_M := (ic_X9_gather, fl_X9, [], [], [(36, 2, some 2, false, ff_X2_isSeated), (43, 2, some 9, false, ff_X9_placeFor), (47, 2, some 2, false, ff_X2_takes)], [(7, [true, true, true, true, false])], none)
noncomputable def ff_X9_gather : mv_F := mv_fn mv_rc mm_X9_gather mv_sh 400 5
theorem dk_X9_gather : mv_dk cX9_gather ic_X9_gather = true := by decide +kernel
set_option maxRecDepth 20000 in
theorem cc_X9_gather {ad : Nat → Nat → Value} {cA : Nat → ClassId} {D : va_G} {tys : List (ClassId × FieldType)} {A : Nat → Prop} (l : Launch) (hF : mv_Fix mv_sh mv_ids mv_ros ad cA tys A mv_rc) : mv_Met l yX9_gather cX9_gather 5 none mv_Ts (mv_rm 3) 3 true mv_sh mv_ids mv_ros ad cA mv_cl D tys A mv_rc mv_cr (mv_EX ad A) ff_X9_gather := mv_met_of (by decide +kernel) (by decide) hF mv_stok (mv_rzV (by decide +kernel)) mv_clok (mv_dk_ok dk_X9_gather) (mv_fk_ok fk_X9) (fun p e s m args below meth c Q hBg hX hR => ⟨fun _ h => absurd h List.not_mem_nil, fun _ h => absurd h List.not_mem_nil⟩) (fun p e s m args below meth c Q hBg hX hR hK => List.forall_mem_cons.mpr ⟨mv_cal_of (cc_X2_isSeated l hF) hBg hX hR hK mv_EX_ok hF mv_good mv_stok cw_X9_36.1 cw_X9_36.2.1 cw_X9_36.2.2 ⟨rfl, rfl, by exact Nat.le_of_ble_eq_true rfl, by exact Nat.le_of_ble_eq_true rfl⟩ ⟨Nat.zero_le _, Nat.zero_le _⟩, List.forall_mem_cons.mpr ⟨mv_cal_of (cc_X9_placeFor l hF) hBg hX hR hK mv_EX_ok hF mv_good mv_stok cw_X9_43.1 cw_X9_43.2.1 cw_X9_43.2.2 ⟨rfl, rfl, by exact Nat.le_of_ble_eq_true rfl, by exact Nat.le_of_ble_eq_true rfl⟩ ⟨Nat.zero_le _, Nat.zero_le _⟩, List.forall_mem_cons.mpr ⟨mv_cal_of (cc_X2_takes l hF) hBg hX hR hK mv_EX_ok hF mv_good mv_stok cw_X9_47.1 cw_X9_47.2.1 cw_X9_47.2.2 ⟨rfl, rfl, by exact Nat.le_of_ble_eq_true rfl, by exact Nat.le_of_ble_eq_true rfl⟩ ⟨Nat.zero_le _, Nat.zero_le _⟩, fun _ h => absurd h List.not_mem_nil⟩⟩⟩)
set_option maxRecDepth 20000 in
theorem cw_X9_54 : mv_Cw RX9 54 yX2_isPerson cX2_isPerson 2 (some .boolean) (some 2) 2 := mv_cw_of (a := 712) (b := 130) (c := 662) (d := 663) (mv_T 664 rfl rfl) (by decide +kernel)
def ic_X9_askFor : List (Nat × Instr × Nat) := [(0, .aload_n 1, 1), (1, .iload_n 2, 1), (2, .invokevirtual 54, 3), (5, .ifCond .eq 51, 3), (8, .aload_n 0, 1), (9, .aload_n 1, 1), (10, .getfield 50, 3), (13, .iconst 0, 1), (14, .aaload, 1), (15, .iload_n 2, 1), (16, .iaload, 1), (17, .putfield 57, 3), (20, .aload_n 0, 1), (21, .aload_n 1, 1), (22, .getfield 50, 3), (25, .iconst 1, 1), (26, .aaload, 1), (27, .iload_n 2, 1), (28, .iaload, 1), (29, .putfield 60, 3), (32, .aload_n 0, 1), (33, .aload_n 1, 1), (34, .getfield 50, 3), (37, .iconst 2, 1), (38, .aaload, 1), (39, .iload_n 2, 1), (40, .iaload, 1), (41, .putfield 63, 3), (44, .aload_n 0, 1), (45, .aload_n 1, 1), (46, .getfield 50, 3), (49, .iconst 3, 1), (50, .aaload, 1), (51, .iload_n 2, 1), (52, .iaload, 1), (53, .putfield 66, 3), (56, .return_, 1)]
noncomputable def mm_X9_askFor : mv_M := (ic_X9_askFor, fl_X9, [], [], [(54, 2, some 2, false, ff_X2_isPerson)], [], none)
noncomputable def ff_X9_askFor : mv_F := mv_fn mv_rc mm_X9_askFor mv_sh 400 3
theorem dk_X9_askFor : mv_dk cX9_askFor ic_X9_askFor = true := by decide +kernel
set_option maxRecDepth 20000 in
theorem cc_X9_askFor {ad : Nat → Nat → Value} {cA : Nat → ClassId} {D : va_G} {tys : List (ClassId × FieldType)} {A : Nat → Prop} (l : Launch) (hF : mv_Fix mv_sh mv_ids mv_ros ad cA tys A mv_rc) : mv_Met l yX9_askFor cX9_askFor 3 none mv_Ts (mv_rm 2) 3 true mv_sh mv_ids mv_ros ad cA mv_cl D tys A mv_rc mv_cr (mv_EX ad A) ff_X9_askFor := mv_met_of (by decide +kernel) (by decide) hF mv_stok (mv_rzV (by decide +kernel)) mv_clok (mv_dk_ok dk_X9_askFor) (mv_fk_ok fk_X9) (fun p e s m args below meth c Q hBg hX hR => ⟨fun _ h => absurd h List.not_mem_nil, fun _ h => absurd h List.not_mem_nil⟩) (fun p e s m args below meth c Q hBg hX hR hK => List.forall_mem_cons.mpr ⟨mv_cal_of (cc_X2_isPerson l hF) hBg hX hR hK mv_EX_ok hF mv_good mv_stok cw_X9_54.1 cw_X9_54.2.1 cw_X9_54.2.2 ⟨rfl, rfl, by exact Nat.le_of_ble_eq_true rfl, by exact Nat.le_of_ble_eq_true rfl⟩ ⟨Nat.zero_le _, Nat.zero_le _⟩, fun _ h => absurd h List.not_mem_nil⟩)
def ic_X10_tellAsker : List (Nat × Instr × Nat) := [(0, .aload_n 0, 1), (1, .getfield 11, 3), (4, .iconst 0, 1), (5, .aload_n 0, 1), (6, .getfield 21, 3), (9, .getfield 44, 3), (12, .iastore, 1), (13, .aload_n 0, 1), (14, .getfield 11, 3), (17, .iconst 1, 1), (18, .aload_n 0, 1), (19, .getfield 21, 3), (22, .getfield 72, 3), (25, .iastore, 1), (26, .aload_n 0, 1), (27, .getfield 11, 3), (30, .iconst 2, 1), (31, .aload_n 0, 1), (32, .getfield 21, 3), (35, .getfield 75, 3), (38, .iastore, 1), (39, .aload_n 0, 1), (40, .getfield 11, 3), (43, .iconst 3, 1), (44, .aload_n 0, 1), (45, .getfield 21, 3), (48, .getfield 78, 3), (51, .iastore, 1), (52, .aload_n 0, 1), (53, .getfield 11, 3), (56, .iconst 4, 1), (57, .aload_n 0, 1), (58, .getfield 17, 3), (61, .getfield 81, 3), (64, .iastore, 1), (65, .aload_n 0, 1), (66, .getfield 11, 3), (69, .bipush 10, 2), (71, .aload_n 0, 1), (72, .getfield 21, 3), (75, .getfield 57, 3), (78, .iastore, 1), (79, .return_, 1)]
noncomputable def mm_X10_tellAsker : mv_M := (ic_X10_tellAsker, fl_X10, [], [], [], [], none)
noncomputable def ff_X10_tellAsker : mv_F := mv_fn mv_rc mm_X10_tellAsker mv_sh 400 1
theorem dk_X10_tellAsker : mv_dk cX10_tellAsker ic_X10_tellAsker = true := by decide +kernel
set_option maxRecDepth 20000 in
theorem cc_X10_tellAsker {ad : Nat → Nat → Value} {cA : Nat → ClassId} {D : va_G} {tys : List (ClassId × FieldType)} {A : Nat → Prop} (l : Launch) (hF : mv_Fix mv_sh mv_ids mv_ros ad cA tys A mv_rc) : mv_Met l yX10_tellAsker cX10_tellAsker 1 none mv_Ts (mv_rm 1) 1 true mv_sh mv_ids mv_ros ad cA mv_cl D tys A mv_rc mv_cr (mv_EX ad A) ff_X10_tellAsker := mv_met_of (by decide +kernel) (by decide) hF mv_stok (mv_rzV (by decide +kernel)) mv_clok (mv_dk_ok dk_X10_tellAsker) (mv_fk_ok fk_X10) (fun p e s m args below meth c Q hBg hX hR => ⟨fun _ h => absurd h List.not_mem_nil, fun _ h => absurd h List.not_mem_nil⟩) (fun p e s m args below meth c Q hBg hX hR hK => fun _ h => absurd h List.not_mem_nil)
def ic_X9_isFriend : List (Nat × Instr × Nat) := [(0, .iload_n 1, 1), (1, .ifCond .lt 35, 3), (4, .iload_n 1, 1), (5, .aload_n 0, 1), (6, .getfield 27, 3), (9, .if_icmp .ge 27, 3), (12, .aload_n 0, 1), (13, .getfield 66, 3), (16, .ifCond .le 20, 3), (19, .aload_n 0, 1), (20, .getfield 21, 3), (23, .iload_n 1, 1), (24, .iaload, 1), (25, .aload_n 0, 1), (26, .getfield 66, 3), (29, .if_icmp .ne 7, 3), (32, .iconst 1, 1), (33, .goto 4, 3), (36, .iconst 0, 1), (37, .ireturn, 1)]
noncomputable def mm_X9_isFriend : mv_M := (ic_X9_isFriend, fl_X9, [], [], [], [], (some (0, 1)))
noncomputable def ff_X9_isFriend : mv_F := mv_fn mv_rc mm_X9_isFriend mv_sh 400 2
theorem dk_X9_isFriend : mv_dk cX9_isFriend ic_X9_isFriend = true := by decide +kernel
set_option maxRecDepth 20000 in
theorem cc_X9_isFriend {ad : Nat → Nat → Value} {cA : Nat → ClassId} {D : va_G} {tys : List (ClassId × FieldType)} {A : Nat → Prop} (l : Launch) (hF : mv_Fix mv_sh mv_ids mv_ros ad cA tys A mv_rc) : mv_Met l yX9_isFriend cX9_isFriend 2 (some .boolean) mv_Ts (mv_rm 1) 2 false mv_sh mv_ids mv_ros ad cA mv_cl D tys A mv_rc mv_cr (mv_EX ad A) ff_X9_isFriend := mv_met_of (by decide +kernel) (by decide) hF mv_stok (mv_rzZ (by decide +kernel) rfl) mv_clok (mv_dk_ok dk_X9_isFriend) (mv_fk_ok fk_X9) (fun p e s m args below meth c Q hBg hX hR => ⟨fun _ h => absurd h List.not_mem_nil, fun _ h => absurd h List.not_mem_nil⟩) (fun p e s m args below meth c Q hBg hX hR hK => fun _ h => absurd h List.not_mem_nil)
set_option maxRecDepth 20000 in
theorem cw_X9_69 : mv_Cw RX9 69 yX9_isFriend cX9_isFriend 2 (some .boolean) (some 9) 2 := mv_cw_of (a := 729) (b := 137) (c := 730) (d := 731) (mv_T 732 rfl rfl) (by decide +kernel)
def ic_X9_apart : List (Nat × Instr × Nat) := [(0, .aload_n 0, 1), (1, .iload_n 1, 1), (2, .invokevirtual 69, 3), (5, .ifCond .eq 7, 3), (8, .iconst 0, 1), (9, .goto 16, 3), (12, .aload_n 0, 1), (13, .getfield 18, 3), (16, .iload_n 1, 1), (17, .iaload, 1), (18, .aload_n 0, 1), (19, .getfield 60, 3), (22, .invokestatic 72, 3), (25, .ireturn, 1)]
noncomputable def mm_X9_apart : mv_M := (ic_X9_apart, fl_X9, [], [], [(69, 2, some 9, false, ff_X9_isFriend), (72, 2, none, false, mv_max)], [], none)
noncomputable def ff_X9_apart : mv_F := mv_fn mv_rc mm_X9_apart mv_sh 400 2
theorem dk_X9_apart : mv_dk cX9_apart ic_X9_apart = true := by decide +kernel
set_option maxRecDepth 20000 in
theorem cc_X9_apart {ad : Nat → Nat → Value} {cA : Nat → ClassId} {D : va_G} {tys : List (ClassId × FieldType)} {A : Nat → Prop} (l : Launch) (hF : mv_Fix mv_sh mv_ids mv_ros ad cA tys A mv_rc) : mv_Met l yX9_apart cX9_apart 2 (some .int) mv_Ts (mv_rm 2) 2 false mv_sh mv_ids mv_ros ad cA mv_cl D tys A mv_rc mv_cr (mv_EX ad A) ff_X9_apart := mv_met_of (by decide +kernel) (by decide) hF mv_stok (mv_rzI (by decide +kernel)) mv_clok (mv_dk_ok dk_X9_apart) (mv_fk_ok fk_X9) (fun p e s m args below meth c Q hBg hX hR => ⟨fun _ h => absurd h List.not_mem_nil, fun _ h => absurd h List.not_mem_nil⟩) (fun p e s m args below meth c Q hBg hX hR hK => List.forall_mem_cons.mpr ⟨mv_cal_of (cc_X9_isFriend l hF) hBg hX hR hK mv_EX_ok hF mv_good mv_stok cw_X9_69.1 cw_X9_69.2.1 cw_X9_69.2.2 ⟨rfl, rfl, by exact Nat.le_of_ble_eq_true rfl, by exact Nat.le_of_ble_eq_true rfl⟩ ⟨Nat.zero_le _, Nat.zero_le _⟩, List.forall_mem_cons.mpr ⟨mv_cal_max hBg ⟨mv_T 733 rfl rfl, mv_T 235 rfl rfl, mv_T 133 rfl rfl, mv_T 236 rfl rfl⟩ ⟨by decide, by decide⟩ ⟨Nat.zero_le _, Nat.zero_le _⟩, fun _ h => absurd h List.not_mem_nil⟩⟩)
set_option maxRecDepth 20000 in
theorem cw_X9_78 : mv_Cw RX9 78 yX9_apart cX9_apart 2 (some .int) (some 9) 2 := mv_cw_of (a := 725) (b := 137) (c := 727) (d := 4) (mv_T 728 rfl rfl) (by decide +kernel)
def ic_X9_highest : List (Nat × Instr × Nat) := [(0, .iload_n 1, 1), (1, .ifCond .lt 26, 3), (4, .iload_n 1, 1), (5, .aload_n 0, 1), (6, .getfield 27, 3), (9, .if_icmp .ge 18, 3), (12, .aload_n 0, 1), (13, .getfield 9, 3), (16, .iload_n 1, 1), (17, .iaload, 1), (18, .aload_n 0, 1), (19, .iload_n 1, 1), (20, .invokevirtual 78, 3), (23, .isub, 1), (24, .goto 4, 3), (27, .iload_n 2, 1), (28, .istore_n 3, 1), (29, .iload_n 3, 1), (30, .aload_n 0, 1), (31, .getfield 57, 3), (34, .isub, 1), (35, .aload_n 0, 1), (36, .getfield 63, 3), (39, .isub, 1), (40, .ireturn, 1)]
noncomputable def mm_X9_highest : mv_M := (ic_X9_highest, fl_X9, [], [], [(78, 2, some 9, false, ff_X9_apart)], [], none)
noncomputable def ff_X9_highest : mv_F := mv_fn mv_rc mm_X9_highest mv_sh 400 4
theorem dk_X9_highest : mv_dk cX9_highest ic_X9_highest = true := by decide +kernel
set_option maxRecDepth 20000 in
theorem cc_X9_highest {ad : Nat → Nat → Value} {cA : Nat → ClassId} {D : va_G} {tys : List (ClassId × FieldType)} {A : Nat → Prop} (l : Launch) (hF : mv_Fix mv_sh mv_ids mv_ros ad cA tys A mv_rc) : mv_Met l yX9_highest cX9_highest 4 (some .int) mv_Ts (mv_rm 3) 3 false mv_sh mv_ids mv_ros ad cA mv_cl D tys A mv_rc mv_cr (mv_EX ad A) ff_X9_highest := mv_met_of (by decide +kernel) (by decide) hF mv_stok (mv_rzI (by decide +kernel)) mv_clok (mv_dk_ok dk_X9_highest) (mv_fk_ok fk_X9) (fun p e s m args below meth c Q hBg hX hR => ⟨fun _ h => absurd h List.not_mem_nil, fun _ h => absurd h List.not_mem_nil⟩) (fun p e s m args below meth c Q hBg hX hR hK => List.forall_mem_cons.mpr ⟨mv_cal_of (cc_X9_apart l hF) hBg hX hR hK mv_EX_ok hF mv_good mv_stok cw_X9_78.1 cw_X9_78.2.1 cw_X9_78.2.2 ⟨rfl, rfl, by exact Nat.le_of_ble_eq_true rfl, by exact Nat.le_of_ble_eq_true rfl⟩ ⟨Nat.zero_le _, Nat.zero_le _⟩, fun _ h => absurd h List.not_mem_nil⟩)
def ic_X9_lowest : List (Nat × Instr × Nat) := [(0, .iload_n 1, 1), (1, .ifCond .le 30, 3), (4, .iload_n 1, 1), (5, .aload_n 0, 1), (6, .getfield 27, 3), (9, .if_icmp .gt 22, 3), (12, .aload_n 0, 1), (13, .getfield 15, 3), (16, .iload_n 1, 1), (17, .iconst 1, 1), (18, .isub, 1), (19, .iaload, 1), (20, .aload_n 0, 1), (21, .iload_n 1, 1), (22, .iconst 1, 1), (23, .isub, 1), (24, .invokevirtual 78, 3), (27, .iadd, 1), (28, .goto 4, 3), (31, .iconst 0, 1), (32, .ireturn, 1)]
noncomputable def mm_X9_lowest : mv_M := (ic_X9_lowest, fl_X9, [], [], [(78, 2, some 9, false, ff_X9_apart)], [], none)
noncomputable def ff_X9_lowest : mv_F := mv_fn mv_rc mm_X9_lowest mv_sh 400 2
theorem dk_X9_lowest : mv_dk cX9_lowest ic_X9_lowest = true := by decide +kernel
set_option maxRecDepth 20000 in
theorem cc_X9_lowest {ad : Nat → Nat → Value} {cA : Nat → ClassId} {D : va_G} {tys : List (ClassId × FieldType)} {A : Nat → Prop} (l : Launch) (hF : mv_Fix mv_sh mv_ids mv_ros ad cA tys A mv_rc) : mv_Met l yX9_lowest cX9_lowest 2 (some .int) mv_Ts (mv_rm 3) 2 false mv_sh mv_ids mv_ros ad cA mv_cl D tys A mv_rc mv_cr (mv_EX ad A) ff_X9_lowest := mv_met_of (by decide +kernel) (by decide) hF mv_stok (mv_rzI (by decide +kernel)) mv_clok (mv_dk_ok dk_X9_lowest) (mv_fk_ok fk_X9) (fun p e s m args below meth c Q hBg hX hR => ⟨fun _ h => absurd h List.not_mem_nil, fun _ h => absurd h List.not_mem_nil⟩) (fun p e s m args below meth c Q hBg hX hR hK => List.forall_mem_cons.mpr ⟨mv_cal_of (cc_X9_apart l hF) hBg hX hR hK mv_EX_ok hF mv_good mv_stok cw_X9_78.1 cw_X9_78.2.1 cw_X9_78.2.2 ⟨rfl, rfl, by exact Nat.le_of_ble_eq_true rfl, by exact Nat.le_of_ble_eq_true rfl⟩ ⟨Nat.zero_le _, Nat.zero_le _⟩, fun _ h => absurd h List.not_mem_nil⟩)
def ic_X2_isClear : List (Nat × Instr × Nat) := [(0, .iload_n 1, 1), (1, .ifCond .lt 27, 3), (4, .iload_n 1, 1), (5, .aload_n 0, 1), (6, .getfield 65, 3), (9, .if_icmp .ge 19, 3), (12, .iload_n 1, 1), (13, .iload_n 2, 1), (14, .iadd, 1), (15, .aload_n 0, 1), (16, .getfield 15, 3), (19, .iload_n 1, 1), (20, .iaload, 1), (21, .if_icmp .gt 7, 3), (24, .iconst 1, 1), (25, .goto 4, 3), (28, .iconst 0, 1), (29, .ireturn, 1)]
noncomputable def mm_X2_isClear : mv_M := (ic_X2_isClear, fl_X2, [], [], [], [], (some (0, 1)))
noncomputable def ff_X2_isClear : mv_F := mv_fn mv_rc mm_X2_isClear mv_sh 400 3
theorem dk_X2_isClear : mv_dk cX2_isClear ic_X2_isClear = true := by decide +kernel
set_option maxRecDepth 20000 in
theorem cc_X2_isClear {ad : Nat → Nat → Value} {cA : Nat → ClassId} {D : va_G} {tys : List (ClassId × FieldType)} {A : Nat → Prop} (l : Launch) (hF : mv_Fix mv_sh mv_ids mv_ros ad cA tys A mv_rc) : mv_Met l yX2_isClear cX2_isClear 3 (some .boolean) mv_Ts (mv_rm 1) 3 false mv_sh mv_ids mv_ros ad cA mv_cl D tys A mv_rc mv_cr (mv_EX ad A) ff_X2_isClear := mv_met_of (by decide +kernel) (by decide) hF mv_stok (mv_rzZ (by decide +kernel) rfl) mv_clok (mv_dk_ok dk_X2_isClear) (mv_fk_ok fk_X2) (fun p e s m args below meth c Q hBg hX hR => ⟨fun _ h => absurd h List.not_mem_nil, fun _ h => absurd h List.not_mem_nil⟩) (fun p e s m args below meth c Q hBg hX hR hK => fun _ h => absurd h List.not_mem_nil)
def ic_X9_gapStart : List (Nat × Instr × Nat) := [(0, .iload_n 1, 1), (1, .ifCond .le 22, 3), (4, .iload_n 1, 1), (5, .aload_n 0, 1), (6, .getfield 27, 3), (9, .if_icmp .gt 14, 3), (12, .aload_n 0, 1), (13, .getfield 15, 3), (16, .iload_n 1, 1), (17, .iconst 1, 1), (18, .isub, 1), (19, .iaload, 1), (20, .goto 4, 3), (23, .iconst 0, 1), (24, .ireturn, 1)]
noncomputable def mm_X9_gapStart : mv_M := (ic_X9_gapStart, fl_X9, [], [], [], [], none)
noncomputable def ff_X9_gapStart : mv_F := mv_fn mv_rc mm_X9_gapStart mv_sh 400 2
theorem dk_X9_gapStart : mv_dk cX9_gapStart ic_X9_gapStart = true := by decide +kernel
set_option maxRecDepth 20000 in
theorem cc_X9_gapStart {ad : Nat → Nat → Value} {cA : Nat → ClassId} {D : va_G} {tys : List (ClassId × FieldType)} {A : Nat → Prop} (l : Launch) (hF : mv_Fix mv_sh mv_ids mv_ros ad cA tys A mv_rc) : mv_Met l yX9_gapStart cX9_gapStart 2 (some .int) mv_Ts (mv_rm 1) 2 false mv_sh mv_ids mv_ros ad cA mv_cl D tys A mv_rc mv_cr (mv_EX ad A) ff_X9_gapStart := mv_met_of (by decide +kernel) (by decide) hF mv_stok (mv_rzI (by decide +kernel)) mv_clok (mv_dk_ok dk_X9_gapStart) (mv_fk_ok fk_X9) (fun p e s m args below meth c Q hBg hX hR => ⟨fun _ h => absurd h List.not_mem_nil, fun _ h => absurd h List.not_mem_nil⟩) (fun p e s m args below meth c Q hBg hX hR hK => fun _ h => absurd h List.not_mem_nil)
def ic_X9_gapEnd : List (Nat × Instr × Nat) := [(0, .iload_n 1, 1), (1, .ifCond .lt 20, 3), (4, .iload_n 1, 1), (5, .aload_n 0, 1), (6, .getfield 27, 3), (9, .if_icmp .ge 12, 3), (12, .aload_n 0, 1), (13, .getfield 9, 3), (16, .iload_n 1, 1), (17, .iaload, 1), (18, .goto 4, 3), (21, .iload_n 2, 1), (22, .ireturn, 1)]
noncomputable def mm_X9_gapEnd : mv_M := (ic_X9_gapEnd, fl_X9, [], [], [], [], none)
noncomputable def ff_X9_gapEnd : mv_F := mv_fn mv_rc mm_X9_gapEnd mv_sh 400 3
theorem dk_X9_gapEnd : mv_dk cX9_gapEnd ic_X9_gapEnd = true := by decide +kernel
set_option maxRecDepth 20000 in
theorem cc_X9_gapEnd {ad : Nat → Nat → Value} {cA : Nat → ClassId} {D : va_G} {tys : List (ClassId × FieldType)} {A : Nat → Prop} (l : Launch) (hF : mv_Fix mv_sh mv_ids mv_ros ad cA tys A mv_rc) : mv_Met l yX9_gapEnd cX9_gapEnd 3 (some .int) mv_Ts (mv_rm 1) 3 false mv_sh mv_ids mv_ros ad cA mv_cl D tys A mv_rc mv_cr (mv_EX ad A) ff_X9_gapEnd := mv_met_of (by decide +kernel) (by decide) hF mv_stok (mv_rzI (by decide +kernel)) mv_clok (mv_dk_ok dk_X9_gapEnd) (mv_fk_ok fk_X9) (fun p e s m args below meth c Q hBg hX hR => ⟨fun _ h => absurd h List.not_mem_nil, fun _ h => absurd h List.not_mem_nil⟩) (fun p e s m args below meth c Q hBg hX hR hK => fun _ h => absurd h List.not_mem_nil)
def ic_X10_warmInches : List (Nat × Instr × Nat) := [(0, .iconst 0, 1), (1, .istore_n 2, 1), (2, .iload_n 1, 1), (3, .aload_n 0, 1), (4, .getfield 21, 3), (7, .getfield 44, 3), (10, .iadd, 1), (11, .aload_n 0, 1), (12, .getfield 17, 3), (15, .getfield 34, 3), (18, .invokestatic 104, 3), (21, .istore_n 3, 1), (22, .iload_n 1, 1), (23, .iconst 0, 1), (24, .invokestatic 109, 3), (27, .istore 4, 2), (29, .iload 4, 2), (31, .iload_n 3, 1), (32, .if_icmp .ge 49, 3), (35, .aload_n 0, 1), (36, .getfield 17, 3), (39, .getfield 112, 3), (42, .iload 4, 2), (44, .iaload, 1), (45, .iconst (-1), 1), (46, .if_icmp .eq 29, 3), (49, .aload_n 0, 1), (50, .getfield 17, 3), (53, .getfield 81, 3), (56, .aload_n 0, 1), (57, .getfield 17, 3), (60, .getfield 112, 3), (63, .iload 4, 2), (65, .iaload, 1), (66, .isub, 1), (67, .bipush 9, 2), (69, .if_icmp .gt 6, 3), (72, .iinc 2 1, 3), (75, .iinc 4 1, 3), (78, .goto (-49), 3), (81, .iload_n 2, 1), (82, .ireturn, 1)]
noncomputable def mm_X10_warmInches : mv_M := (ic_X10_warmInches, fl_X10, [], [], [(104, 2, none, false, mv_min), (109, 2, none, false, mv_max)], [(29, [true, false, true, true, true])], none)
noncomputable def ff_X10_warmInches : mv_F := mv_fn mv_rc mm_X10_warmInches mv_sh 400 5
theorem dk_X10_warmInches : mv_dk cX10_warmInches ic_X10_warmInches = true := by decide +kernel
set_option maxRecDepth 20000 in
theorem cc_X10_warmInches {ad : Nat → Nat → Value} {cA : Nat → ClassId} {D : va_G} {tys : List (ClassId × FieldType)} {A : Nat → Prop} (l : Launch) (hF : mv_Fix mv_sh mv_ids mv_ros ad cA tys A mv_rc) : mv_Met l yX10_warmInches cX10_warmInches 5 (some .int) mv_Ts (mv_rm 1) 2 false mv_sh mv_ids mv_ros ad cA mv_cl D tys A mv_rc mv_cr (mv_EX ad A) ff_X10_warmInches := mv_met_of (by decide +kernel) (by decide) hF mv_stok (mv_rzI (by decide +kernel)) mv_clok (mv_dk_ok dk_X10_warmInches) (mv_fk_ok fk_X10) (fun p e s m args below meth c Q hBg hX hR => ⟨fun _ h => absurd h List.not_mem_nil, fun _ h => absurd h List.not_mem_nil⟩) (fun p e s m args below meth c Q hBg hX hR hK => List.forall_mem_cons.mpr ⟨mv_cal_min hBg ⟨mv_T 758 rfl rfl, mv_T 238 rfl rfl, mv_T 133 rfl rfl, mv_T 239 rfl rfl⟩ ⟨by decide, by decide⟩ ⟨Nat.zero_le _, Nat.zero_le _⟩, List.forall_mem_cons.mpr ⟨mv_cal_max hBg ⟨mv_T 759 rfl rfl, mv_T 235 rfl rfl, mv_T 133 rfl rfl, mv_T 236 rfl rfl⟩ ⟨by decide, by decide⟩ ⟨Nat.zero_le _, Nat.zero_le _⟩, fun _ h => absurd h List.not_mem_nil⟩⟩)
def ic_X5_joined : List (Nat × Instr × Nat) := [(0, .iload_n 0, 1), (1, .lookupswitch 148 #[(20003, 144), (20004, 140), (30042, 91), (30043, 83), (30045, 87), (30047, 95), (30060, 107), (30061, 118), (30062, 129)], 83), (84, .iload_n 1, 1), (85, .iload_n 2, 1), (86, .iadd, 1), (87, .ireturn, 1), (88, .iload_n 1, 1), (89, .iload_n 2, 1), (90, .isub, 1), (91, .ireturn, 1), (92, .iload_n 1, 1), (93, .iload_n 2, 1), (94, .imul, 1), (95, .ireturn, 1), (96, .iload_n 2, 1), (97, .ifCond .ne 7, 3), (100, .iconst 0, 1), (101, .goto 6, 3), (104, .iload_n 1, 1), (105, .iload_n 2, 1), (106, .idiv, 1), (107, .ireturn, 1), (108, .iload_n 1, 1), (109, .iload_n 2, 1), (110, .if_icmp .ge 7, 3), (113, .iconst 1, 1), (114, .goto 4, 3), (117, .iconst 0, 1), (118, .ireturn, 1), (119, .iload_n 1, 1), (120, .iload_n 2, 1), (121, .if_icmp .ne 7, 3), (124, .iconst 1, 1), (125, .goto 4, 3), (128, .iconst 0, 1), (129, .ireturn, 1), (130, .iload_n 1, 1), (131, .iload_n 2, 1), (132, .if_icmp .le 7, 3), (135, .iconst 1, 1), (136, .goto 4, 3), (139, .iconst 0, 1), (140, .ireturn, 1), (141, .iload_n 1, 1), (142, .iload_n 2, 1), (143, .iand, 1), (144, .ireturn, 1), (145, .iload_n 1, 1), (146, .iload_n 2, 1), (147, .ior, 1), (148, .ireturn, 1), (149, .iconst 0, 1), (150, .ireturn, 1)]
noncomputable def mm_X5_joined : mv_M := (ic_X5_joined, fl_X5, [], [], [], [], none)
noncomputable def ff_X5_joined : mv_F := mv_fn mv_rc mm_X5_joined mv_sh 400 3
theorem dk_X5_joined : mv_dk cX5_joined ic_X5_joined = true := by decide +kernel
set_option maxRecDepth 20000 in
theorem cc_X5_joined {ad : Nat → Nat → Value} {cA : Nat → ClassId} {D : va_G} {tys : List (ClassId × FieldType)} {A : Nat → Prop} (l : Launch) (hF : mv_Fix mv_sh mv_ids mv_ros ad cA tys A mv_rc) : mv_Met l yX5_joined cX5_joined 3 (some .int) mv_Ts (mv_rm 1) 3 false mv_sh mv_ids mv_ros ad cA mv_cl D tys A mv_rc mv_cr (mv_EX ad A) ff_X5_joined := mv_met_of (by decide +kernel) (by decide) hF mv_stok (mv_rzI (by decide +kernel)) mv_clok (mv_dk_ok dk_X5_joined) (mv_fk_ok fk_X5) (fun p e s m args below meth c Q hBg hX hR => ⟨fun _ h => absurd h List.not_mem_nil, fun _ h => absurd h List.not_mem_nil⟩) (fun p e s m args below meth c Q hBg hX hR hK => fun _ h => absurd h List.not_mem_nil)
set_option maxRecDepth 20000 in
theorem cw_X5_50 : mv_Cw RX5 50 yX5_joined cX5_joined 3 (some .int) (none) 3 := mv_cw_of (a := 770) (b := 131) (c := 771) (d := 0) (mv_T 772 rfl rfl) (by decide +kernel)
def ic_X5_run : List (Nat × Instr × Nat) := [(0, .iconst 0, 1), (1, .istore 4, 2), (3, .iload_n 1, 1), (4, .iconst 0, 1), (5, .invokestatic 44, 3), (8, .istore 5, 2), (10, .iload 5, 2), (12, .iload_n 2, 1), (13, .if_icmp .ge 173, 3), (16, .iload 5, 2), (18, .aload_n 0, 1), (19, .getfield 31, 3), (22, .if_icmp .ge 164, 3), (25, .aload_n 0, 1), (26, .getfield 11, 3), (29, .iload 5, 2), (31, .iaload, 1), (32, .istore 6, 2), (34, .iload 6, 2), (36, .sipush 20000, 3), (39, .if_icmp .ge 52, 3), (42, .iload 6, 2), (44, .sipush 10000, 3), (47, .isub, 1), (48, .istore 7, 2), (50, .iload 4, 2), (52, .bipush 40, 2), (54, .if_icmp .ge 34, 3), (57, .iload 7, 2), (59, .aload_n 3, 1), (60, .arraylength, 1), (61, .if_icmp .ge 27, 3), (64, .aload_n 0, 1), (65, .getfield 24, 3), (68, .iload 4, 2), (70, .iload 7, 2), (72, .ifCond .ge 8, 3), (75, .iload 6, 2), (77, .goto 7, 3), (80, .aload_n 3, 1), (81, .iload 7, 2), (83, .iaload, 1), (84, .iastore, 1), (85, .iinc 4 1, 3), (88, .goto 92, 3), (91, .iload 6, 2), (93, .sipush 20005, 3), (96, .if_icmp .ne 38, 3), (99, .iload 4, 2), (101, .ifCond .le 79, 3), (104, .iload 4, 2), (106, .bipush 40, 2), (108, .if_icmp .gt 72, 3), (111, .aload_n 0, 1), (112, .getfield 24, 3), (115, .iload 4, 2), (117, .iconst 1, 1), (118, .isub, 1), (119, .iconst 1, 1), (120, .aload_n 0, 1), (121, .getfield 24, 3), (124, .iload 4, 2), (126, .iconst 1, 1), (127, .isub, 1), (128, .iaload, 1), (129, .isub, 1), (130, .iastore, 1), (131, .goto 49, 3), (134, .iload 4, 2), (136, .iconst 1, 1), (137, .if_icmp .le 43, 3), (140, .iload 4, 2), (142, .bipush 40, 2), (144, .if_icmp .gt 36, 3), (147, .iinc 4 (-1), 3), (150, .aload_n 0, 1), (151, .getfield 24, 3), (154, .iload 4, 2), (156, .iconst 1, 1), (157, .isub, 1), (158, .iload 6, 2), (160, .aload_n 0, 1), (161, .getfield 24, 3), (164, .iload 4, 2), (166, .iconst 1, 1), (167, .isub, 1), (168, .iaload, 1), (169, .aload_n 0, 1), (170, .getfield 24, 3), (173, .iload 4, 2), (175, .iaload, 1), (176, .invokestatic 50, 3), (179, .iastore, 1), (180, .iinc 5 1, 3), (183, .goto (-173), 3), (186, .aload_n 0, 1), (187, .getfield 24, 3), (190, .iconst 0, 1), (191, .iaload, 1), (192, .ireturn, 1)]
noncomputable def mm_X5_run : mv_M := (ic_X5_run, fl_X5, [], [], [(44, 2, none, false, mv_max), (50, 3, none, false, ff_X5_joined)], [(10, [true, false, true, true, true, true, false, false])], none)
noncomputable def ff_X5_run : mv_F := mv_fn mv_rc mm_X5_run mv_sh 400 8
theorem dk_X5_run : mv_dk cX5_run ic_X5_run = true := by decide +kernel
set_option maxRecDepth 20000 in
theorem cc_X5_run {ad : Nat → Nat → Value} {cA : Nat → ClassId} {D : va_G} {tys : List (ClassId × FieldType)} {A : Nat → Prop} (l : Launch) (hF : mv_Fix mv_sh mv_ids mv_ros ad cA tys A mv_rc) : mv_Met l yX5_run cX5_run 8 (some .int) mv_Ts (mv_rm 2) 4 false mv_sh mv_ids mv_ros ad cA mv_cl D tys A mv_rc mv_cr (mv_EX ad A) ff_X5_run := mv_met_of (by decide +kernel) (by decide) hF mv_stok (mv_rzI (by decide +kernel)) mv_clok (mv_dk_ok dk_X5_run) (mv_fk_ok fk_X5) (fun p e s m args below meth c Q hBg hX hR => ⟨fun _ h => absurd h List.not_mem_nil, fun _ h => absurd h List.not_mem_nil⟩) (fun p e s m args below meth c Q hBg hX hR hK => List.forall_mem_cons.mpr ⟨mv_cal_max hBg ⟨mv_T 769 rfl rfl, mv_T 235 rfl rfl, mv_T 133 rfl rfl, mv_T 236 rfl rfl⟩ ⟨by decide, by decide⟩ ⟨Nat.zero_le _, Nat.zero_le _⟩, List.forall_mem_cons.mpr ⟨mv_cal_of (cc_X5_joined l hF) hBg hX hR hK mv_EX_ok hF mv_good mv_stok cw_X5_50.1 cw_X5_50.2.1 cw_X5_50.2.2 ⟨rfl, rfl, by exact Nat.le_of_ble_eq_true rfl, by exact Nat.le_of_ble_eq_true rfl⟩ ⟨Nat.zero_le _, Nat.zero_le _⟩, fun _ h => absurd h List.not_mem_nil⟩⟩)
set_option maxRecDepth 20000 in
theorem cw_X5_40 : mv_Cw RX5 40 yX5_run cX5_run 8 (some .int) (some 5) 4 := mv_cw_of (a := 765) (b := 131) (c := 767) (d := 7) (mv_T 768 rfl rfl) (by decide +kernel)
def ic_X5_value : List (Nat × Instr × Nat) := [(0, .iconst 0, 1), (1, .istore_n 3, 1), (2, .iload_n 3, 1), (3, .aload_n 0, 1), (4, .getfield 27, 3), (7, .if_icmp .ge 68, 3), (10, .iload_n 3, 1), (11, .bipush 16, 2), (13, .if_icmp .ge 62, 3), (16, .aload_n 0, 1), (17, .getfield 18, 3), (20, .iload_n 3, 1), (21, .iaload, 1), (22, .aload_n 0, 1), (23, .getfield 21, 3), (26, .iload_n 3, 1), (27, .iaload, 1), (28, .if_icmp .eq 23, 3), (31, .aload_n 0, 1), (32, .aload_n 0, 1), (33, .getfield 18, 3), (36, .iload_n 3, 1), (37, .iaload, 1), (38, .aload_n 0, 1), (39, .getfield 21, 3), (42, .iload_n 3, 1), (43, .iaload, 1), (44, .aload_n 1, 1), (45, .invokevirtual 40, 3), (48, .ifCond .eq 21, 3), (51, .aload_n 0, 1), (52, .aload_n 0, 1), (53, .getfield 15, 3), (56, .iload_n 3, 1), (57, .iaload, 1), (58, .aload_n 0, 1), (59, .getfield 18, 3), (62, .iload_n 3, 1), (63, .iaload, 1), (64, .aload_n 1, 1), (65, .invokevirtual 40, 3), (68, .ireturn, 1), (69, .iinc 3 1, 3), (72, .goto (-70), 3), (75, .iload_n 2, 1), (76, .ireturn, 1)]
noncomputable def mm_X5_value : mv_M := (ic_X5_value, fl_X5, [], [], [(40, 4, some 5, false, ff_X5_run)], [(2, [true, true, true, true])], none)
noncomputable def ff_X5_value : mv_F := mv_fn mv_rc mm_X5_value mv_sh 400 4
theorem dk_X5_value : mv_dk cX5_value ic_X5_value = true := by decide +kernel
set_option maxRecDepth 20000 in
theorem cc_X5_value {ad : Nat → Nat → Value} {cA : Nat → ClassId} {D : va_G} {tys : List (ClassId × FieldType)} {A : Nat → Prop} (l : Launch) (hF : mv_Fix mv_sh mv_ids mv_ros ad cA tys A mv_rc) : mv_Met l yX5_value cX5_value 4 (some .int) mv_Ts (mv_rm 3) 3 false mv_sh mv_ids mv_ros ad cA mv_cl D tys A mv_rc mv_cr (mv_EX ad A) ff_X5_value := mv_met_of (by decide +kernel) (by decide) hF mv_stok (mv_rzI (by decide +kernel)) mv_clok (mv_dk_ok dk_X5_value) (mv_fk_ok fk_X5) (fun p e s m args below meth c Q hBg hX hR => ⟨fun _ h => absurd h List.not_mem_nil, fun _ h => absurd h List.not_mem_nil⟩) (fun p e s m args below meth c Q hBg hX hR hK => List.forall_mem_cons.mpr ⟨mv_cal_of (cc_X5_run l hF) hBg hX hR hK mv_EX_ok hF mv_good mv_stok cw_X5_40.1 cw_X5_40.2.1 cw_X5_40.2.2 ⟨rfl, rfl, by exact Nat.le_of_ble_eq_true rfl, by exact Nat.le_of_ble_eq_true rfl⟩ ⟨Nat.zero_le _, Nat.zero_le _⟩, fun _ h => absurd h List.not_mem_nil⟩)
set_option maxRecDepth 20000 in
theorem cw_X10_84 : mv_Cw RX10 84 yX9_gapStart cX9_gapStart 2 (some .int) (some 9) 2 := mv_cw_of (a := 746) (b := 137) (c := 747) (d := 748) (mv_T 749 rfl rfl) (by decide +kernel)
set_option maxRecDepth 20000 in
theorem cw_X10_87 : mv_Cw RX10 87 yX9_gapEnd cX9_gapEnd 3 (some .int) (some 9) 3 := mv_cw_of (a := 750) (b := 137) (c := 751) (d := 752) (mv_T 753 rfl rfl) (by decide +kernel)
set_option maxRecDepth 20000 in
theorem cw_X10_90 : mv_Cw RX10 90 yX10_warmInches cX10_warmInches 5 (some .int) (some 10) 2 := mv_cw_of (a := 754) (b := 138) (c := 756) (d := 6) (mv_T 757 rfl rfl) (by decide +kernel)
set_option maxRecDepth 20000 in
theorem cw_X10_93 : mv_Cw RX10 93 yX9_isFriend cX9_isFriend 2 (some .boolean) (some 9) 2 := mv_cw_of (a := 760) (b := 137) (c := 730) (d := 731) (mv_T 732 rfl rfl) (by decide +kernel)
set_option maxRecDepth 20000 in
theorem cw_X10_101 : mv_Cw RX10 101 yX5_value cX5_value 4 (some .int) (some 5) 3 := mv_cw_of (a := 761) (b := 131) (c := 762) (d := 763) (mv_T 764 rfl rfl) (by decide +kernel)
def ic_X10_value : List (Nat × Instr × Nat) := [(0, .iload_n 2, 1), (1, .aload_n 0, 1), (2, .getfield 21, 3), (5, .getfield 44, 3), (8, .iadd, 1), (9, .aload_n 0, 1), (10, .getfield 21, 3), (13, .getfield 75, 3), (16, .iadd, 1), (17, .istore_n 3, 1), (18, .aload_n 0, 1), (19, .getfield 11, 3), (22, .iconst 5, 1), (23, .iload_n 2, 1), (24, .iastore, 1), (25, .aload_n 0, 1), (26, .getfield 11, 3), (29, .bipush 6, 2), (31, .iload_n 2, 1), (32, .aload_n 0, 1), (33, .getfield 21, 3), (36, .iload_n 1, 1), (37, .invokevirtual 84, 3), (40, .isub, 1), (41, .iastore, 1), (42, .aload_n 0, 1), (43, .getfield 11, 3), (46, .bipush 7, 2), (48, .aload_n 0, 1), (49, .getfield 21, 3), (52, .iload_n 1, 1), (53, .aload_n 0, 1), (54, .getfield 17, 3), (57, .getfield 34, 3), (60, .invokevirtual 87, 3), (63, .iload_n 3, 1), (64, .isub, 1), (65, .iastore, 1), (66, .aload_n 0, 1), (67, .getfield 11, 3), (70, .bipush 8, 2), (72, .aload_n 0, 1), (73, .iload_n 2, 1), (74, .invokevirtual 90, 3), (77, .iastore, 1), (78, .aload_n 0, 1), (79, .getfield 11, 3), (82, .bipush 9, 2), (84, .aload_n 0, 1), (85, .getfield 21, 3), (88, .iload_n 1, 1), (89, .iconst 1, 1), (90, .isub, 1), (91, .invokevirtual 93, 3), (94, .ifCond .eq 7, 3), (97, .iconst 1, 1), (98, .goto 4, 3), (101, .iconst 0, 1), (102, .aload_n 0, 1), (103, .getfield 21, 3), (106, .iload_n 1, 1), (107, .invokevirtual 93, 3), (110, .ifCond .eq 7, 3), (113, .iconst 1, 1), (114, .goto 4, 3), (117, .iconst 0, 1), (118, .iadd, 1), (119, .iastore, 1), (120, .aload_n 0, 1), (121, .getfield 17, 3), (124, .getfield 97, 3), (127, .aload_n 0, 1), (128, .getfield 11, 3), (131, .iconst 0, 1), (132, .invokevirtual 101, 3), (135, .ireturn, 1)]
noncomputable def mm_X10_value : mv_M := (ic_X10_value, fl_X10, [], [], [(84, 2, some 9, false, ff_X9_gapStart), (87, 3, some 9, false, ff_X9_gapEnd), (90, 2, some 10, false, ff_X10_warmInches), (93, 2, some 9, false, ff_X9_isFriend), (101, 3, some 5, false, ff_X5_value)], [], none)
noncomputable def ff_X10_value : mv_F := mv_fn mv_rc mm_X10_value mv_sh 400 4
theorem dk_X10_value : mv_dk cX10_value ic_X10_value = true := by decide +kernel
set_option maxRecDepth 20000 in
theorem cc_X10_value {ad : Nat → Nat → Value} {cA : Nat → ClassId} {D : va_G} {tys : List (ClassId × FieldType)} {A : Nat → Prop} (l : Launch) (hF : mv_Fix mv_sh mv_ids mv_ros ad cA tys A mv_rc) : mv_Met l yX10_value cX10_value 4 (some .int) mv_Ts (mv_rm 4) 3 false mv_sh mv_ids mv_ros ad cA mv_cl D tys A mv_rc mv_cr (mv_EX ad A) ff_X10_value := mv_met_of (by decide +kernel) (by decide) hF mv_stok (mv_rzI (by decide +kernel)) mv_clok (mv_dk_ok dk_X10_value) (mv_fk_ok fk_X10) (fun p e s m args below meth c Q hBg hX hR => ⟨fun _ h => absurd h List.not_mem_nil, fun _ h => absurd h List.not_mem_nil⟩) (fun p e s m args below meth c Q hBg hX hR hK => List.forall_mem_cons.mpr ⟨mv_cal_of (cc_X9_gapStart l hF) hBg hX hR hK mv_EX_ok hF mv_good mv_stok cw_X10_84.1 cw_X10_84.2.1 cw_X10_84.2.2 ⟨rfl, rfl, by exact Nat.le_of_ble_eq_true rfl, by exact Nat.le_of_ble_eq_true rfl⟩ ⟨Nat.zero_le _, Nat.zero_le _⟩, List.forall_mem_cons.mpr ⟨mv_cal_of (cc_X9_gapEnd l hF) hBg hX hR hK mv_EX_ok hF mv_good mv_stok cw_X10_87.1 cw_X10_87.2.1 cw_X10_87.2.2 ⟨rfl, rfl, by exact Nat.le_of_ble_eq_true rfl, by exact Nat.le_of_ble_eq_true rfl⟩ ⟨Nat.zero_le _, Nat.zero_le _⟩, List.forall_mem_cons.mpr ⟨mv_cal_of (cc_X10_warmInches l hF) hBg hX hR hK mv_EX_ok hF mv_good mv_stok cw_X10_90.1 cw_X10_90.2.1 cw_X10_90.2.2 ⟨rfl, rfl, by exact Nat.le_of_ble_eq_true rfl, by exact Nat.le_of_ble_eq_true rfl⟩ ⟨Nat.zero_le _, Nat.zero_le _⟩, List.forall_mem_cons.mpr ⟨mv_cal_of (cc_X9_isFriend l hF) hBg hX hR hK mv_EX_ok hF mv_good mv_stok cw_X10_93.1 cw_X10_93.2.1 cw_X10_93.2.2 ⟨rfl, rfl, by exact Nat.le_of_ble_eq_true rfl, by exact Nat.le_of_ble_eq_true rfl⟩ ⟨Nat.zero_le _, Nat.zero_le _⟩, List.forall_mem_cons.mpr ⟨mv_cal_of (cc_X5_value l hF) hBg hX hR hK mv_EX_ok hF mv_good mv_stok cw_X10_101.1 cw_X10_101.2.1 cw_X10_101.2.2 ⟨rfl, rfl, by exact Nat.le_of_ble_eq_true rfl, by exact Nat.le_of_ble_eq_true rfl⟩ ⟨Nat.zero_le _, Nat.zero_le _⟩, fun _ h => absurd h List.not_mem_nil⟩⟩⟩⟩⟩)
set_option maxRecDepth 20000 in
theorem cw_X10_51 : mv_Cw RX10 51 yX10_tellAsker cX10_tellAsker 1 none (some 10) 1 := mv_cw_of (a := 717) (b := 138) (c := 719) (d := 3) (mv_T 720 rfl rfl) (by decide +kernel)
set_option maxRecDepth 20000 in
theorem cw_X10_40 : mv_Cw RX10 40 yX9_highest cX9_highest 4 (some .int) (some 9) 3 := mv_cw_of (a := 721) (b := 137) (c := 722) (d := 723) (mv_T 724 rfl rfl) (by decide +kernel)
set_option maxRecDepth 20000 in
theorem cw_X10_31 : mv_Cw RX10 31 yX9_lowest cX9_lowest 2 (some .int) (some 9) 2 := mv_cw_of (a := 734) (b := 137) (c := 735) (d := 736) (mv_T 737 rfl rfl) (by decide +kernel)
set_option maxRecDepth 20000 in
theorem cw_X10_47 : mv_Cw RX10 47 yX2_isClear cX2_isClear 3 (some .boolean) (some 2) 3 := mv_cw_of (a := 738) (b := 130) (c := 739) (d := 740) (mv_T 741 rfl rfl) (by decide +kernel)
set_option maxRecDepth 20000 in
theorem cw_X10_54 : mv_Cw RX10 54 yX10_value cX10_value 4 (some .int) (some 10) 3 := mv_cw_of (a := 742) (b := 138) (c := 744) (d := 5) (mv_T 745 rfl rfl) (by decide +kernel)
def ic_X10_best : List (Nat × Instr × Nat) := [(0, .aload_n 0, 1), (1, .invokevirtual 51, 3), (4, .iconst (-1), 1), (5, .istore_n 1, 1), (6, .iconst 0, 1), (7, .istore_n 2, 1), (8, .iconst 0, 1), (9, .istore_n 3, 1), (10, .iload_n 3, 1), (11, .aload_n 0, 1), (12, .getfield 21, 3), (15, .getfield 57, 3), (18, .if_icmp .gt 94, 3), (21, .aload_n 0, 1), (22, .getfield 21, 3), (25, .iload_n 3, 1), (26, .aload_n 0, 1), (27, .getfield 17, 3), (30, .getfield 34, 3), (33, .invokevirtual 40, 3), (36, .istore 4, 2), (38, .aload_n 0, 1), (39, .getfield 21, 3), (42, .iload_n 3, 1), (43, .invokevirtual 31, 3), (46, .istore 5, 2), (48, .iload 5, 2), (50, .iload 4, 2), (52, .if_icmp .gt 54, 3), (55, .aload_n 0, 1), (56, .getfield 17, 3), (59, .iload 5, 2), (61, .aload_n 0, 1), (62, .getfield 21, 3), (65, .getfield 44, 3), (68, .invokevirtual 47, 3), (71, .ifCond .eq 29, 3), (74, .aload_n 0, 1), (75, .iload_n 3, 1), (76, .iload 5, 2), (78, .invokevirtual 54, 3), (81, .istore 6, 2), (83, .iload_n 1, 1), (84, .iconst (-1), 1), (85, .if_icmp .eq 9, 3), (88, .iload 6, 2), (90, .iload_n 2, 1), (91, .if_icmp .le 9, 3), (94, .iload 5, 2), (96, .istore_n 1, 1), (97, .iload 6, 2), (99, .istore_n 2, 1), (100, .iinc 5 1, 3), (103, .goto (-55), 3), (106, .iinc 3 1, 3), (109, .goto (-99), 3), (112, .iload_n 1, 1), (113, .ireturn, 1)]
noncomputable def mm_X10_best : mv_M := (ic_X10_best, fl_X10, [], [], [(51, 1, some 10, true, ff_X10_tellAsker), (40, 3, some 9, false, ff_X9_highest), (31, 2, some 9, false, ff_X9_lowest), (47, 3, some 2, false, ff_X2_isClear), (54, 3, some 10, false, ff_X10_value)], [(10, [true, true, true, true, false, false, false]), (48, [true, true, true, true, true, true, false])], none)
noncomputable def ff_X10_best : mv_F := mv_fn mv_rc mm_X10_best mv_sh 400 7
theorem dk_X10_best : mv_dk cX10_best ic_X10_best = true := by decide +kernel
set_option maxRecDepth 20000 in
theorem cc_X10_best {ad : Nat → Nat → Value} {cA : Nat → ClassId} {D : va_G} {tys : List (ClassId × FieldType)} {A : Nat → Prop} (l : Launch) (hF : mv_Fix mv_sh mv_ids mv_ros ad cA tys A mv_rc) : mv_Met l yX10_best cX10_best 7 (some .int) mv_Ts (mv_rm 5) 1 false mv_sh mv_ids mv_ros ad cA mv_cl D tys A mv_rc mv_cr (mv_EX ad A) ff_X10_best := mv_met_of (by decide +kernel) (by decide) hF mv_stok (mv_rzI (by decide +kernel)) mv_clok (mv_dk_ok dk_X10_best) (mv_fk_ok fk_X10) (fun p e s m args below meth c Q hBg hX hR => ⟨fun _ h => absurd h List.not_mem_nil, fun _ h => absurd h List.not_mem_nil⟩) (fun p e s m args below meth c Q hBg hX hR hK => List.forall_mem_cons.mpr ⟨mv_cal_of (cc_X10_tellAsker l hF) hBg hX hR hK mv_EX_ok hF mv_good mv_stok cw_X10_51.1 cw_X10_51.2.1 cw_X10_51.2.2 ⟨rfl, rfl, by exact Nat.le_of_ble_eq_true rfl, by exact Nat.le_of_ble_eq_true rfl⟩ ⟨Nat.zero_le _, Nat.zero_le _⟩, List.forall_mem_cons.mpr ⟨mv_cal_of (cc_X9_highest l hF) hBg hX hR hK mv_EX_ok hF mv_good mv_stok cw_X10_40.1 cw_X10_40.2.1 cw_X10_40.2.2 ⟨rfl, rfl, by exact Nat.le_of_ble_eq_true rfl, by exact Nat.le_of_ble_eq_true rfl⟩ ⟨Nat.zero_le _, Nat.zero_le _⟩, List.forall_mem_cons.mpr ⟨mv_cal_of (cc_X9_lowest l hF) hBg hX hR hK mv_EX_ok hF mv_good mv_stok cw_X10_31.1 cw_X10_31.2.1 cw_X10_31.2.2 ⟨rfl, rfl, by exact Nat.le_of_ble_eq_true rfl, by exact Nat.le_of_ble_eq_true rfl⟩ ⟨Nat.zero_le _, Nat.zero_le _⟩, List.forall_mem_cons.mpr ⟨mv_cal_of (cc_X2_isClear l hF) hBg hX hR hK mv_EX_ok hF mv_good mv_stok cw_X10_47.1 cw_X10_47.2.1 cw_X10_47.2.2 ⟨rfl, rfl, by exact Nat.le_of_ble_eq_true rfl, by exact Nat.le_of_ble_eq_true rfl⟩ ⟨Nat.zero_le _, Nat.zero_le _⟩, List.forall_mem_cons.mpr ⟨mv_cal_of (cc_X10_value l hF) hBg hX hR hK mv_EX_ok hF mv_good mv_stok cw_X10_54.1 cw_X10_54.2.1 cw_X10_54.2.2 ⟨rfl, rfl, by exact Nat.le_of_ble_eq_true rfl, by exact Nat.le_of_ble_eq_true rfl⟩ ⟨Nat.zero_le _, Nat.zero_le _⟩, fun _ h => absurd h List.not_mem_nil⟩⟩⟩⟩⟩)
def ic_X2_write : List (Nat × Instr × Nat) := [(0, .aload_n 0, 1), (1, .getfield 75, 3), (4, .sipush 150, 3), (7, .if_icmp .lt 4, 3), (10, .return_, 1), (11, .aload_n 0, 1), (12, .getfield 32, 3), (15, .iconst 0, 1), (16, .aaload, 1), (17, .aload_n 0, 1), (18, .getfield 75, 3), (21, .aload_n 0, 1), (22, .getfield 72, 3), (25, .iastore, 1), (26, .aload_n 0, 1), (27, .getfield 32, 3), (30, .iconst 1, 1), (31, .aaload, 1), (32, .aload_n 0, 1), (33, .getfield 75, 3), (36, .iload_n 1, 1), (37, .iastore, 1), (38, .aload_n 0, 1), (39, .getfield 32, 3), (42, .iconst 2, 1), (43, .aaload, 1), (44, .aload_n 0, 1), (45, .getfield 75, 3), (48, .iload_n 2, 1), (49, .iastore, 1), (50, .aload_n 0, 1), (51, .getfield 32, 3), (54, .iconst 3, 1), (55, .aaload, 1), (56, .aload_n 0, 1), (57, .getfield 75, 3), (60, .iload_n 3, 1), (61, .iastore, 1), (62, .aload_n 0, 1), (63, .dup, 1), (64, .getfield 75, 3), (67, .iconst 1, 1), (68, .iadd, 1), (69, .putfield 75, 3), (72, .return_, 1)]
noncomputable def mm_X2_write : mv_M := (ic_X2_write, fl_X2, [], [], [], [], none)
noncomputable def ff_X2_write : mv_F := mv_fn mv_rc mm_X2_write mv_sh 400 4
theorem dk_X2_write : mv_dk cX2_write ic_X2_write = true := by decide +kernel
set_option maxRecDepth 20000 in
theorem cc_X2_write {ad : Nat → Nat → Value} {cA : Nat → ClassId} {D : va_G} {tys : List (ClassId × FieldType)} {A : Nat → Prop} (l : Launch) (hF : mv_Fix mv_sh mv_ids mv_ros ad cA tys A mv_rc) : mv_Met l yX2_write cX2_write 4 none mv_Ts (mv_rm 1) 4 true mv_sh mv_ids mv_ros ad cA mv_cl D tys A mv_rc mv_cr (mv_EX ad A) ff_X2_write := mv_met_of (by decide +kernel) (by decide) hF mv_stok (mv_rzV (by decide +kernel)) mv_clok (mv_dk_ok dk_X2_write) (mv_fk_ok fk_X2) (fun p e s m args below meth c Q hBg hX hR => ⟨fun _ h => absurd h List.not_mem_nil, fun _ h => absurd h List.not_mem_nil⟩) (fun p e s m args below meth c Q hBg hX hR hK => fun _ h => absurd h List.not_mem_nil)
def ic_X0_countStanding : List (Nat × Instr × Nat) := [(0, .aload_n 0, 1), (1, .dup, 1), (2, .getfield 81, 3), (5, .iconst 1, 1), (6, .iadd, 1), (7, .putfield 81, 3), (10, .aload_n 0, 1), (11, .getfield 9, 3), (14, .iconst (-1), 1), (15, .if_icmp .ne 14, 3), (18, .aload_n 0, 1), (19, .aload_n 0, 1), (20, .getfield 15, 3), (23, .getfield 84, 3), (26, .putfield 9, 3), (29, .return_, 1)]
noncomputable def mm_X0_countStanding : mv_M := (ic_X0_countStanding, fl_X0, [], [], [], [], none)
noncomputable def ff_X0_countStanding : mv_F := mv_fn mv_rc mm_X0_countStanding mv_sh 400 1
theorem dk_X0_countStanding : mv_dk cX0_countStanding ic_X0_countStanding = true := by decide +kernel
set_option maxRecDepth 20000 in
theorem cc_X0_countStanding {ad : Nat → Nat → Value} {cA : Nat → ClassId} {D : va_G} {tys : List (ClassId × FieldType)} {A : Nat → Prop} (l : Launch) (hF : mv_Fix mv_sh mv_ids mv_ros ad cA tys A mv_rc) : mv_Met l yX0_countStanding cX0_countStanding 1 none mv_Ts (mv_rm 1) 1 true mv_sh mv_ids mv_ros ad cA mv_cl D tys A mv_rc mv_cr (mv_EX ad A) ff_X0_countStanding := mv_met_of (by decide +kernel) (by decide) hF mv_stok (mv_rzV (by decide +kernel)) mv_clok (mv_dk_ok dk_X0_countStanding) (mv_fk_ok fk_X0) (fun p e s m args below meth c Q hBg hX hR => ⟨fun _ h => absurd h List.not_mem_nil, fun _ h => absurd h List.not_mem_nil⟩) (fun p e s m args below meth c Q hBg hX hR hK => fun _ h => absurd h List.not_mem_nil)
set_option maxRecDepth 20000 in
theorem cw_X0_31 : mv_Cw RX0 31 yX2_isAside cX2_isAside 2 (some .boolean) (some 2) 2 := mv_cw_of (a := 694) (b := 130) (c := 675) (d := 676) (mv_T 677 rfl rfl) (by decide +kernel)
set_option maxRecDepth 20000 in
theorem cw_X0_37 : mv_Cw RX0 37 yX9_gather cX9_gather 5 none (some 9) 3 := mv_cw_of (a := 695) (b := 137) (c := 696) (d := 697) (mv_T 698 rfl rfl) (by decide +kernel)
set_option maxRecDepth 20000 in
theorem cw_X0_43 : mv_Cw RX0 43 yX9_askFor cX9_askFor 3 none (some 9) 3 := mv_cw_of (a := 708) (b := 137) (c := 709) (d := 710) (mv_T 711 rfl rfl) (by decide +kernel)
set_option maxRecDepth 20000 in
theorem cw_X0_46 : mv_Cw RX0 46 yX10_best cX10_best 7 (some .int) (some 10) 1 := mv_cw_of (a := 713) (b := 138) (c := 714) (d := 715) (mv_T 716 rfl rfl) (by decide +kernel)
set_option maxRecDepth 20000 in
theorem cw_X0_56 : mv_Cw RX0 56 yX2_write cX2_write 4 none (some 2) 4 := mv_cw_of (a := 773) (b := 130) (c := 774) (d := 775) (mv_T 776 rfl rfl) (by decide +kernel)
set_option maxRecDepth 20000 in
theorem cw_X0_60 : mv_Cw RX0 60 yX0_countStanding cX0_countStanding 1 none (some 0) 1 := mv_cw_of (a := 777) (b := 142) (c := 779) (d := 8) (mv_T 780 rfl rfl) (by decide +kernel)
def ic_X0_comes : List (Nat × Instr × Nat) := [(0, .aload_n 0, 1), (1, .getfield 15, 3), (4, .iload_n 1, 1), (5, .invokevirtual 31, 3), (8, .ifCond .ne 5, 3), (11, .iconst (-1), 1), (12, .ireturn, 1), (13, .aload_n 0, 1), (14, .getfield 19, 3), (17, .aload_n 0, 1), (18, .getfield 15, 3), (21, .sipush 1023, 3), (24, .invokevirtual 37, 3), (27, .aload_n 0, 1), (28, .getfield 19, 3), (31, .aload_n 0, 1), (32, .getfield 15, 3), (35, .iload_n 1, 1), (36, .invokevirtual 43, 3), (39, .aload_n 0, 1), (40, .getfield 23, 3), (43, .invokevirtual 46, 3), (46, .istore_n 2, 1), (47, .aload_n 0, 1), (48, .getfield 15, 3), (51, .getfield 52, 3), (54, .iload_n 1, 1), (55, .iload_n 2, 1), (56, .iastore, 1), (57, .aload_n 0, 1), (58, .getfield 15, 3), (61, .iload_n 1, 1), (62, .iload_n 2, 1), (63, .iconst (-1), 1), (64, .if_icmp .ne 7, 3), (67, .iconst 1, 1), (68, .goto 4, 3), (71, .iconst 0, 1), (72, .iload_n 2, 1), (73, .invokevirtual 56, 3), (76, .iload_n 2, 1), (77, .iconst (-1), 1), (78, .if_icmp .ne 7, 3), (81, .aload_n 0, 1), (82, .invokevirtual 60, 3), (85, .iload_n 2, 1), (86, .ireturn, 1)]
noncomputable def mm_X0_comes : mv_M := (ic_X0_comes, fl_X0, [], [], [(31, 2, some 2, false, ff_X2_isAside), (37, 3, some 9, true, ff_X9_gather), (43, 3, some 9, true, ff_X9_askFor), (46, 1, some 10, false, ff_X10_best), (56, 4, some 2, true, ff_X2_write), (60, 1, some 0, true, ff_X0_countStanding)], [], none)
noncomputable def ff_X0_comes : mv_F := mv_fn mv_rc mm_X0_comes mv_sh 400 3
theorem dk_X0_comes : mv_dk cX0_comes ic_X0_comes = true := by decide +kernel
set_option maxRecDepth 20000 in
theorem cc_X0_comes {ad : Nat → Nat → Value} {cA : Nat → ClassId} {D : va_G} {tys : List (ClassId × FieldType)} {A : Nat → Prop} (l : Launch) (hF : mv_Fix mv_sh mv_ids mv_ros ad cA tys A mv_rc) : mv_Met l yX0_comes cX0_comes 3 (some .int) mv_Ts (mv_rm 6) 2 false mv_sh mv_ids mv_ros ad cA mv_cl D tys A mv_rc mv_cr (mv_EX ad A) ff_X0_comes := mv_met_of (by decide +kernel) (by decide) hF mv_stok (mv_rzI (by decide +kernel)) mv_clok (mv_dk_ok dk_X0_comes) (mv_fk_ok fk_X0) (fun p e s m args below meth c Q hBg hX hR => ⟨fun _ h => absurd h List.not_mem_nil, fun _ h => absurd h List.not_mem_nil⟩) (fun p e s m args below meth c Q hBg hX hR hK => List.forall_mem_cons.mpr ⟨mv_cal_of (cc_X2_isAside l hF) hBg hX hR hK mv_EX_ok hF mv_good mv_stok cw_X0_31.1 cw_X0_31.2.1 cw_X0_31.2.2 ⟨rfl, rfl, by exact Nat.le_of_ble_eq_true rfl, by exact Nat.le_of_ble_eq_true rfl⟩ ⟨Nat.zero_le _, Nat.zero_le _⟩, List.forall_mem_cons.mpr ⟨mv_cal_of (cc_X9_gather l hF) hBg hX hR hK mv_EX_ok hF mv_good mv_stok cw_X0_37.1 cw_X0_37.2.1 cw_X0_37.2.2 ⟨rfl, rfl, by exact Nat.le_of_ble_eq_true rfl, by exact Nat.le_of_ble_eq_true rfl⟩ ⟨Nat.zero_le _, Nat.zero_le _⟩, List.forall_mem_cons.mpr ⟨mv_cal_of (cc_X9_askFor l hF) hBg hX hR hK mv_EX_ok hF mv_good mv_stok cw_X0_43.1 cw_X0_43.2.1 cw_X0_43.2.2 ⟨rfl, rfl, by exact Nat.le_of_ble_eq_true rfl, by exact Nat.le_of_ble_eq_true rfl⟩ ⟨Nat.zero_le _, Nat.zero_le _⟩, List.forall_mem_cons.mpr ⟨mv_cal_of (cc_X10_best l hF) hBg hX hR hK mv_EX_ok hF mv_good mv_stok cw_X0_46.1 cw_X0_46.2.1 cw_X0_46.2.2 ⟨rfl, rfl, by exact Nat.le_of_ble_eq_true rfl, by exact Nat.le_of_ble_eq_true rfl⟩ ⟨Nat.zero_le _, Nat.zero_le _⟩, List.forall_mem_cons.mpr ⟨mv_cal_of (cc_X2_write l hF) hBg hX hR hK mv_EX_ok hF mv_good mv_stok cw_X0_56.1 cw_X0_56.2.1 cw_X0_56.2.2 ⟨rfl, rfl, by exact Nat.le_of_ble_eq_true rfl, by exact Nat.le_of_ble_eq_true rfl⟩ ⟨Nat.zero_le _, Nat.zero_le _⟩, List.forall_mem_cons.mpr ⟨mv_cal_of (cc_X0_countStanding l hF) hBg hX hR hK mv_EX_ok hF mv_good mv_stok cw_X0_60.1 cw_X0_60.2.1 cw_X0_60.2.2 ⟨rfl, rfl, by exact Nat.le_of_ble_eq_true rfl, by exact Nat.le_of_ble_eq_true rfl⟩ ⟨Nat.zero_le _, Nat.zero_le _⟩, fun _ h => absurd h List.not_mem_nil⟩⟩⟩⟩⟩⟩)
set_option maxRecDepth 20000 in
theorem cw_X0_63 : mv_Cw RX0 63 yX2_isSeated cX2_isSeated 2 (some .boolean) (some 2) 2 := mv_cw_of (a := 789) (b := 130) (c := 666) (d := 667) (mv_T 668 rfl rfl) (by decide +kernel)
def ic_X0_goes : List (Nat × Instr × Nat) := [(0, .aload_n 0, 1), (1, .getfield 15, 3), (4, .iload_n 1, 1), (5, .invokevirtual 63, 3), (8, .ifCond .eq 31, 3), (11, .aload_n 0, 1), (12, .getfield 15, 3), (15, .iload_n 1, 1), (16, .iconst 2, 1), (17, .aload_n 0, 1), (18, .getfield 15, 3), (21, .getfield 52, 3), (24, .iload_n 1, 1), (25, .iaload, 1), (26, .invokevirtual 56, 3), (29, .aload_n 0, 1), (30, .getfield 15, 3), (33, .getfield 52, 3), (36, .iload_n 1, 1), (37, .iconst (-1), 1), (38, .iastore, 1), (39, .return_, 1)]
noncomputable def mm_X0_goes : mv_M := (ic_X0_goes, fl_X0, [], [], [(63, 2, some 2, false, ff_X2_isSeated), (56, 4, some 2, true, ff_X2_write)], [], none)
noncomputable def ff_X0_goes : mv_F := mv_fn mv_rc mm_X0_goes mv_sh 400 2
theorem dk_X0_goes : mv_dk cX0_goes ic_X0_goes = true := by decide +kernel
set_option maxRecDepth 20000 in
theorem cc_X0_goes {ad : Nat → Nat → Value} {cA : Nat → ClassId} {D : va_G} {tys : List (ClassId × FieldType)} {A : Nat → Prop} (l : Launch) (hF : mv_Fix mv_sh mv_ids mv_ros ad cA tys A mv_rc) : mv_Met l yX0_goes cX0_goes 2 none mv_Ts (mv_rm 3) 2 true mv_sh mv_ids mv_ros ad cA mv_cl D tys A mv_rc mv_cr (mv_EX ad A) ff_X0_goes := mv_met_of (by decide +kernel) (by decide) hF mv_stok (mv_rzV (by decide +kernel)) mv_clok (mv_dk_ok dk_X0_goes) (mv_fk_ok fk_X0) (fun p e s m args below meth c Q hBg hX hR => ⟨fun _ h => absurd h List.not_mem_nil, fun _ h => absurd h List.not_mem_nil⟩) (fun p e s m args below meth c Q hBg hX hR hK => List.forall_mem_cons.mpr ⟨mv_cal_of (cc_X2_isSeated l hF) hBg hX hR hK mv_EX_ok hF mv_good mv_stok cw_X0_63.1 cw_X0_63.2.1 cw_X0_63.2.2 ⟨rfl, rfl, by exact Nat.le_of_ble_eq_true rfl, by exact Nat.le_of_ble_eq_true rfl⟩ ⟨Nat.zero_le _, Nat.zero_le _⟩, List.forall_mem_cons.mpr ⟨mv_cal_of (cc_X2_write l hF) hBg hX hR hK mv_EX_ok hF mv_good mv_stok cw_X0_56.1 cw_X0_56.2.1 cw_X0_56.2.2 ⟨rfl, rfl, by exact Nat.le_of_ble_eq_true rfl, by exact Nat.le_of_ble_eq_true rfl⟩ ⟨Nat.zero_le _, Nat.zero_le _⟩, fun _ h => absurd h List.not_mem_nil⟩⟩)
set_option maxRecDepth 20000 in
theorem cw_X8_54 : mv_Cw RX8 54 yX2_isSeated cX2_isSeated 2 (some .boolean) (some 2) 2 := mv_cw_of (a := 802) (b := 130) (c := 666) (d := 667) (mv_T 668 rfl rfl) (by decide +kernel)
set_option maxRecDepth 20000 in
theorem cw_X8_68 : mv_Cw RX8 68 yX5_value cX5_value 4 (some .int) (some 5) 3 := mv_cw_of (a := 803) (b := 131) (c := 762) (d := 763) (mv_T 764 rfl rfl) (by decide +kernel)
def ic_X8_reckonCosts : List (Nat × Instr × Nat) := [(0, .aload_n 0, 1), (1, .getfield 17, 3), (4, .iconst 4, 1), (5, .aload_n 0, 1), (6, .getfield 34, 3), (9, .getfield 46, 3), (12, .iastore, 1), (13, .iconst 0, 1), (14, .istore_n 1, 1), (15, .iload_n 1, 1), (16, .aload_n 0, 1), (17, .getfield 34, 3), (20, .getfield 51, 3), (23, .if_icmp .ge 127, 3), (26, .aload_n 0, 1), (27, .getfield 34, 3), (30, .iload_n 1, 1), (31, .invokevirtual 54, 3), (34, .ifCond .eq 110, 3), (37, .aload_n 0, 1), (38, .getfield 34, 3), (41, .getfield 58, 3), (44, .iconst 4, 1), (45, .aaload, 1), (46, .iload_n 1, 1), (47, .iaload, 1), (48, .ifCond .ne 6, 3), (51, .goto 93, 3), (54, .iconst 0, 1), (55, .istore_n 2, 1), (56, .iload_n 2, 1), (57, .iconst 3, 1), (58, .if_icmp .gt 26, 3), (61, .aload_n 0, 1), (62, .getfield 17, 3), (65, .iload_n 2, 1), (66, .aload_n 0, 1), (67, .getfield 34, 3), (70, .getfield 58, 3), (73, .iload_n 2, 1), (74, .aaload, 1), (75, .iload_n 1, 1), (76, .iaload, 1), (77, .iastore, 1), (78, .iinc 2 1, 3), (81, .goto (-25), 3), (84, .iconst 1, 1), (85, .istore_n 2, 1), (86, .iload_n 2, 1), (87, .aload_n 0, 1), (88, .getfield 34, 3), (91, .getfield 61, 3), (94, .if_icmp .ge 50, 3), (97, .aload_n 0, 1), (98, .getfield 17, 3), (101, .bipush 11, 2), (103, .iload_n 2, 1), (104, .iastore, 1), (105, .aload_n 0, 1), (106, .getfield 22, 3), (109, .iload_n 1, 1), (110, .aaload, 1), (111, .iload_n 2, 1), (112, .aload_n 0, 1), (113, .getfield 34, 3), (116, .getfield 64, 3), (119, .aload_n 0, 1), (120, .getfield 17, 3), (123, .iload_n 2, 1), (124, .invokevirtual 68, 3), (127, .iconst 0, 1), (128, .invokestatic 72, 3), (131, .sipush 999, 3), (134, .invokestatic 78, 3), (137, .iastore, 1), (138, .iinc 2 1, 3), (141, .goto (-55), 3), (144, .iinc 1 1, 3), (147, .goto (-132), 3), (150, .return_, 1)]
noncomputable def mm_X8_reckonCosts : mv_M := (ic_X8_reckonCosts, fl_X8, [], [], [(54, 2, some 2, false, ff_X2_isSeated), (68, 3, some 5, false, ff_X5_value), (72, 2, none, false, mv_max), (78, 2, none, false, mv_min)], [(15, [true, true, false]), (56, [true, true, true]), (86, [true, true, true])], none)
noncomputable def ff_X8_reckonCosts : mv_F := mv_fn mv_rc mm_X8_reckonCosts mv_sh 400 3
theorem dk_X8_reckonCosts : mv_dk cX8_reckonCosts ic_X8_reckonCosts = true := by decide +kernel
set_option maxRecDepth 20000 in
theorem cc_X8_reckonCosts {ad : Nat → Nat → Value} {cA : Nat → ClassId} {D : va_G} {tys : List (ClassId × FieldType)} {A : Nat → Prop} (l : Launch) (hF : mv_Fix mv_sh mv_ids mv_ros ad cA tys A mv_rc) : mv_Met l yX8_reckonCosts cX8_reckonCosts 3 none mv_Ts (mv_rm 4) 1 true mv_sh mv_ids mv_ros ad cA mv_cl D tys A mv_rc mv_cr (mv_EX ad A) ff_X8_reckonCosts := mv_met_of (by decide +kernel) (by decide) hF mv_stok (mv_rzV (by decide +kernel)) mv_clok (mv_dk_ok dk_X8_reckonCosts) (mv_fk_ok fk_X8) (fun p e s m args below meth c Q hBg hX hR => ⟨fun _ h => absurd h List.not_mem_nil, fun _ h => absurd h List.not_mem_nil⟩) (fun p e s m args below meth c Q hBg hX hR hK => List.forall_mem_cons.mpr ⟨mv_cal_of (cc_X2_isSeated l hF) hBg hX hR hK mv_EX_ok hF mv_good mv_stok cw_X8_54.1 cw_X8_54.2.1 cw_X8_54.2.2 ⟨rfl, rfl, by exact Nat.le_of_ble_eq_true rfl, by exact Nat.le_of_ble_eq_true rfl⟩ ⟨Nat.zero_le _, Nat.zero_le _⟩, List.forall_mem_cons.mpr ⟨mv_cal_of (cc_X5_value l hF) hBg hX hR hK mv_EX_ok hF mv_good mv_stok cw_X8_68.1 cw_X8_68.2.1 cw_X8_68.2.2 ⟨rfl, rfl, by exact Nat.le_of_ble_eq_true rfl, by exact Nat.le_of_ble_eq_true rfl⟩ ⟨Nat.zero_le _, Nat.zero_le _⟩, List.forall_mem_cons.mpr ⟨mv_cal_max hBg ⟨mv_T 804 rfl rfl, mv_T 235 rfl rfl, mv_T 133 rfl rfl, mv_T 236 rfl rfl⟩ ⟨by decide, by decide⟩ ⟨Nat.zero_le _, Nat.zero_le _⟩, List.forall_mem_cons.mpr ⟨mv_cal_min hBg ⟨mv_T 805 rfl rfl, mv_T 238 rfl rfl, mv_T 133 rfl rfl, mv_T 239 rfl rfl⟩ ⟨by decide, by decide⟩ ⟨Nat.zero_le _, Nat.zero_le _⟩, fun _ h => absurd h List.not_mem_nil⟩⟩⟩⟩)
end
section
def ic_X2_apart : List (Nat × Instr × Nat) := [(0, .aload_n 0, 1), (1, .iload_n 1, 1), (2, .invokevirtual 103, 3), (5, .ifCond .eq 11, 3), (8, .aload_n 0, 1), (9, .iload_n 2, 1), (10, .invokevirtual 103, 3), (13, .ifCond .ne 5, 3), (16, .iconst 0, 1), (17, .ireturn, 1), (18, .aload_n 0, 1), (19, .getfield 26, 3), (22, .iconst 3, 1), (23, .aaload, 1), (24, .iload_n 1, 1), (25, .iaload, 1), (26, .istore_n 3, 1), (27, .iload_n 3, 1), (28, .ifCond .le 17, 3), (31, .iload_n 3, 1), (32, .aload_n 0, 1), (33, .getfield 26, 3), (36, .iconst 3, 1), (37, .aaload, 1), (38, .iload_n 2, 1), (39, .iaload, 1), (40, .if_icmp .ne 5, 3), (43, .iconst 0, 1), (44, .ireturn, 1), (45, .aload_n 0, 1), (46, .getfield 26, 3), (49, .iconst 1, 1), (50, .aaload, 1), (51, .iload_n 1, 1), (52, .iaload, 1), (53, .aload_n 0, 1), (54, .getfield 26, 3), (57, .iconst 1, 1), (58, .aaload, 1), (59, .iload_n 2, 1), (60, .iaload, 1), (61, .invokestatic 56, 3), (64, .ireturn, 1)]
noncomputable def mm_X2_apart : mv_M := (ic_X2_apart, fl_X2, [], [], [(103, 2, some 2, false, ff_X2_isPerson), (56, 2, none, false, mv_max)], [], none)
noncomputable def ff_X2_apart : mv_F := mv_fn mv_rc mm_X2_apart mv_sh 400 4
theorem dk_X2_apart : mv_dk cX2_apart ic_X2_apart = true := by decide +kernel
set_option maxRecDepth 20000 in
theorem cc_X2_apart {ad : Nat → Nat → Value} {cA : Nat → ClassId} {D : va_G} {tys : List (ClassId × FieldType)} {A : Nat → Prop} (l : Launch) (hF : mv_Fix mv_sh mv_ids mv_ros ad cA tys A mv_rc) : mv_Met l yX2_apart cX2_apart 4 (some .int) mv_Ts (mv_rm 2) 3 false mv_sh mv_ids mv_ros ad cA mv_cl D tys A mv_rc mv_cr (mv_EX ad A) ff_X2_apart := mv_met_of (by decide +kernel) (by decide) hF mv_stok (mv_rzI (by decide +kernel)) mv_clok (mv_dk_ok dk_X2_apart) (mv_fk_ok fk_X2) (fun p e s m args below meth c Q hBg hX hR => ⟨fun _ h => absurd h List.not_mem_nil, fun _ h => absurd h List.not_mem_nil⟩) (fun p e s m args below meth c Q hBg hX hR hK => List.forall_mem_cons.mpr ⟨mv_cal_of (cc_X2_isPerson l hF) hBg hX hR hK mv_EX_ok hF mv_good mv_stok cw_X2_103.1 cw_X2_103.2.1 cw_X2_103.2.2 ⟨rfl, rfl, by exact Nat.le_of_ble_eq_true rfl, by exact Nat.le_of_ble_eq_true rfl⟩ ⟨Nat.zero_le _, Nat.zero_le _⟩, List.forall_mem_cons.mpr ⟨mv_cal_max hBg ⟨mv_T 234 rfl rfl, mv_T 235 rfl rfl, mv_T 133 rfl rfl, mv_T 236 rfl rfl⟩ ⟨by decide, by decide⟩ ⟨Nat.zero_le _, Nat.zero_le _⟩, fun _ h => absurd h List.not_mem_nil⟩⟩)
set_option maxRecDepth 20000 in
theorem cw_X8_109 : mv_Cw RX8 109 yX2_takes cX2_takes 2 (some .int) (some 2) 2 := mv_cw_of (a := 820) (b := 130) (c := 705) (d := 706) (mv_T 707 rfl rfl) (by decide +kernel)
set_option maxRecDepth 20000 in
theorem cw_X8_113 : mv_Cw RX8 113 yX2_apart cX2_apart 4 (some .int) (some 2) 3 := mv_cw_of (a := 821) (b := 130) (c := 822) (d := 823) (mv_T 824 rfl rfl) (by decide +kernel)
def ic_X8_takesWithKeep : List (Nat × Instr × Nat) := [(0, .aload_n 0, 1), (1, .getfield 34, 3), (4, .aload_n 0, 1), (5, .getfield 31, 3), (8, .iload_n 1, 1), (9, .iaload, 1), (10, .invokevirtual 109, 3), (13, .istore_n 3, 1), (14, .iload_n 1, 1), (15, .iconst 1, 1), (16, .iadd, 1), (17, .iload_n 2, 1), (18, .if_icmp .ge 29, 3), (21, .iload_n 3, 1), (22, .aload_n 0, 1), (23, .getfield 34, 3), (26, .aload_n 0, 1), (27, .getfield 31, 3), (30, .iload_n 1, 1), (31, .iaload, 1), (32, .aload_n 0, 1), (33, .getfield 31, 3), (36, .iload_n 1, 1), (37, .iconst 1, 1), (38, .iadd, 1), (39, .iaload, 1), (40, .invokevirtual 113, 3), (43, .iadd, 1), (44, .goto 4, 3), (47, .iload_n 3, 1), (48, .ireturn, 1)]
noncomputable def mm_X8_takesWithKeep : mv_M := (ic_X8_takesWithKeep, fl_X8, [], [], [(109, 2, some 2, false, ff_X2_takes), (113, 3, some 2, false, ff_X2_apart)], [], none)
noncomputable def ff_X8_takesWithKeep : mv_F := mv_fn mv_rc mm_X8_takesWithKeep mv_sh 400 4
theorem dk_X8_takesWithKeep : mv_dk cX8_takesWithKeep ic_X8_takesWithKeep = true := by decide +kernel
set_option maxRecDepth 20000 in
theorem cc_X8_takesWithKeep {ad : Nat → Nat → Value} {cA : Nat → ClassId} {D : va_G} {tys : List (ClassId × FieldType)} {A : Nat → Prop} (l : Launch) (hF : mv_Fix mv_sh mv_ids mv_ros ad cA tys A mv_rc) : mv_Met l yX8_takesWithKeep cX8_takesWithKeep 4 (some .int) mv_Ts (mv_rm 3) 3 false mv_sh mv_ids mv_ros ad cA mv_cl D tys A mv_rc mv_cr (mv_EX ad A) ff_X8_takesWithKeep := mv_met_of (by decide +kernel) (by decide) hF mv_stok (mv_rzI (by decide +kernel)) mv_clok (mv_dk_ok dk_X8_takesWithKeep) (mv_fk_ok fk_X8) (fun p e s m args below meth c Q hBg hX hR => ⟨fun _ h => absurd h List.not_mem_nil, fun _ h => absurd h List.not_mem_nil⟩) (fun p e s m args below meth c Q hBg hX hR hK => List.forall_mem_cons.mpr ⟨mv_cal_of (cc_X2_takes l hF) hBg hX hR hK mv_EX_ok hF mv_good mv_stok cw_X8_109.1 cw_X8_109.2.1 cw_X8_109.2.2 ⟨rfl, rfl, by exact Nat.le_of_ble_eq_true rfl, by exact Nat.le_of_ble_eq_true rfl⟩ ⟨Nat.zero_le _, Nat.zero_le _⟩, List.forall_mem_cons.mpr ⟨mv_cal_of (cc_X2_apart l hF) hBg hX hR hK mv_EX_ok hF mv_good mv_stok cw_X8_113.1 cw_X8_113.2.1 cw_X8_113.2.2 ⟨rfl, rfl, by exact Nat.le_of_ble_eq_true rfl, by exact Nat.le_of_ble_eq_true rfl⟩ ⟨Nat.zero_le _, Nat.zero_le _⟩, fun _ h => absurd h List.not_mem_nil⟩⟩)
set_option maxRecDepth 20000 in
theorem cw_X2_107 : mv_Cw RX2 107 yX2_isClear cX2_isClear 3 (some .boolean) (some 2) 3 := mv_cw_of (a := 833) (b := 130) (c := 739) (d := 740) (mv_T 741 rfl rfl) (by decide +kernel)
def ic_X2_fits : List (Nat × Instr × Nat) := [(0, .aload_n 0, 1), (1, .iload_n 1, 1), (2, .invokevirtual 103, 3), (5, .ifCond .eq 49, 3), (8, .aload_n 0, 1), (9, .iload_n 2, 1), (10, .aload_n 0, 1), (11, .getfield 26, 3), (14, .iconst 0, 1), (15, .aaload, 1), (16, .iload_n 1, 1), (17, .iaload, 1), (18, .invokevirtual 107, 3), (21, .ifCond .eq 33, 3), (24, .iload_n 2, 1), (25, .aload_n 0, 1), (26, .getfield 26, 3), (29, .iconst 0, 1), (30, .aaload, 1), (31, .iload_n 1, 1), (32, .iaload, 1), (33, .iadd, 1), (34, .aload_n 0, 1), (35, .getfield 26, 3), (38, .iconst 2, 1), (39, .aaload, 1), (40, .iload_n 1, 1), (41, .iaload, 1), (42, .iadd, 1), (43, .aload_n 0, 1), (44, .getfield 65, 3), (47, .if_icmp .gt 7, 3), (50, .iconst 1, 1), (51, .goto 4, 3), (54, .iconst 0, 1), (55, .ireturn, 1)]
noncomputable def mm_X2_fits : mv_M := (ic_X2_fits, fl_X2, [], [], [(103, 2, some 2, false, ff_X2_isPerson), (107, 3, some 2, false, ff_X2_isClear)], [], (some (0, 1)))
noncomputable def ff_X2_fits : mv_F := mv_fn mv_rc mm_X2_fits mv_sh 400 3
theorem dk_X2_fits : mv_dk cX2_fits ic_X2_fits = true := by decide +kernel
set_option maxRecDepth 20000 in
theorem cc_X2_fits {ad : Nat → Nat → Value} {cA : Nat → ClassId} {D : va_G} {tys : List (ClassId × FieldType)} {A : Nat → Prop} (l : Launch) (hF : mv_Fix mv_sh mv_ids mv_ros ad cA tys A mv_rc) : mv_Met l yX2_fits cX2_fits 3 (some .boolean) mv_Ts (mv_rm 2) 3 false mv_sh mv_ids mv_ros ad cA mv_cl D tys A mv_rc mv_cr (mv_EX ad A) ff_X2_fits := mv_met_of (by decide +kernel) (by decide) hF mv_stok (mv_rzZ (by decide +kernel) rfl) mv_clok (mv_dk_ok dk_X2_fits) (mv_fk_ok fk_X2) (fun p e s m args below meth c Q hBg hX hR => ⟨fun _ h => absurd h List.not_mem_nil, fun _ h => absurd h List.not_mem_nil⟩) (fun p e s m args below meth c Q hBg hX hR hK => List.forall_mem_cons.mpr ⟨mv_cal_of (cc_X2_isPerson l hF) hBg hX hR hK mv_EX_ok hF mv_good mv_stok cw_X2_103.1 cw_X2_103.2.1 cw_X2_103.2.2 ⟨rfl, rfl, by exact Nat.le_of_ble_eq_true rfl, by exact Nat.le_of_ble_eq_true rfl⟩ ⟨Nat.zero_le _, Nat.zero_le _⟩, List.forall_mem_cons.mpr ⟨mv_cal_of (cc_X2_isClear l hF) hBg hX hR hK mv_EX_ok hF mv_good mv_stok cw_X2_107.1 cw_X2_107.2.1 cw_X2_107.2.2 ⟨rfl, rfl, by exact Nat.le_of_ble_eq_true rfl, by exact Nat.le_of_ble_eq_true rfl⟩ ⟨Nat.zero_le _, Nat.zero_le _⟩, fun _ h => absurd h List.not_mem_nil⟩⟩)
set_option maxRecDepth 20000 in
theorem cw_X8_116 : mv_Cw RX8 116 yX2_fits cX2_fits 3 (some .boolean) (some 2) 3 := mv_cw_of (a := 829) (b := 130) (c := 830) (d := 831) (mv_T 832 rfl rfl) (by decide +kernel)
def ic_X8_weightOf : List (Nat × Instr × Nat) := [(0, .aload_n 0, 1), (1, .getfield 34, 3), (4, .iload_n 1, 1), (5, .iload_n 3, 1), (6, .invokevirtual 116, 3), (9, .ifCond .ne 6, 3), (12, .ldc 87, 2), (14, .ireturn, 1), (15, .iload_n 3, 1), (16, .aload_n 0, 1), (17, .getfield 34, 3), (20, .getfield 120, 3), (23, .iload_n 1, 1), (24, .iaload, 1), (25, .isub, 1), (26, .invokestatic 123, 3), (29, .istore 4, 2), (31, .iload_n 1, 1), (32, .iload_n 2, 1), (33, .if_icmp .eq 8, 3), (36, .iload 4, 2), (38, .ifCond .ne 5, 3), (41, .iconst 0, 1), (42, .ireturn, 1), (43, .aload_n 0, 1), (44, .getfield 34, 3), (47, .getfield 58, 3), (50, .iconst 4, 1), (51, .aaload, 1), (52, .iload_n 1, 1), (53, .iaload, 1), (54, .ifCond .eq 10, 3), (57, .iload 4, 2), (59, .bipush 60, 2), (61, .if_icmp .lt 8, 3), (64, .ldc 87, 2), (66, .goto 17, 3), (69, .aload_n 0, 1), (70, .getfield 22, 3), (73, .iload_n 1, 1), (74, .aaload, 1), (75, .iload 4, 2), (77, .iaload, 1), (78, .bipush 16, 2), (80, .imul, 1), (81, .iconst 1, 1), (82, .iadd, 1), (83, .ireturn, 1)]
noncomputable def mm_X8_weightOf : mv_M := (ic_X8_weightOf, fl_X8, [(87, .inl 1000000)], [], [(116, 3, some 2, false, ff_X2_fits), (123, 1, none, false, mv_abs)], [], none)
noncomputable def ff_X8_weightOf : mv_F := mv_fn mv_rc mm_X8_weightOf mv_sh 400 5
theorem dk_X8_weightOf : mv_dk cX8_weightOf ic_X8_weightOf = true := by decide +kernel
set_option maxRecDepth 20000 in
theorem cc_X8_weightOf {ad : Nat → Nat → Value} {cA : Nat → ClassId} {D : va_G} {tys : List (ClassId × FieldType)} {A : Nat → Prop} (l : Launch) (hF : mv_Fix mv_sh mv_ids mv_ros ad cA tys A mv_rc) : mv_Met l yX8_weightOf cX8_weightOf 5 (some .int) mv_Ts (mv_rm 3) 4 false mv_sh mv_ids mv_ros ad cA mv_cl D tys A mv_rc mv_cr (mv_EX ad A) ff_X8_weightOf := mv_met_of (by decide +kernel) (by decide) hF mv_stok (mv_rzI (by decide +kernel)) mv_clok (mv_dk_ok dk_X8_weightOf) (mv_fk_ok fk_X8) (fun p e s m args below meth c Q hBg hX hR => ⟨List.forall_mem_cons.mpr ⟨mv_cs_i hBg (mv_T 811 rfl rfl) (by decide), fun _ h => absurd h List.not_mem_nil⟩, fun _ h => absurd h List.not_mem_nil⟩) (fun p e s m args below meth c Q hBg hX hR hK => List.forall_mem_cons.mpr ⟨mv_cal_of (cc_X2_fits l hF) hBg hX hR hK mv_EX_ok hF mv_good mv_stok cw_X8_116.1 cw_X8_116.2.1 cw_X8_116.2.2 ⟨rfl, rfl, by exact Nat.le_of_ble_eq_true rfl, by exact Nat.le_of_ble_eq_true rfl⟩ ⟨Nat.zero_le _, Nat.zero_le _⟩, List.forall_mem_cons.mpr ⟨mv_cal_abs hBg ⟨mv_T 834 rfl rfl, mv_T 835 rfl rfl, mv_T 133 rfl rfl, mv_T 836 rfl rfl⟩ ⟨by decide, by decide⟩ ⟨Nat.zero_le _, Nat.zero_le _⟩, fun _ h => absurd h List.not_mem_nil⟩⟩)
set_option maxRecDepth 20000 in
theorem cw_X8_102 : mv_Cw RX8 102 yX8_takesWithKeep cX8_takesWithKeep 4 (some .int) (some 8) 3 := mv_cw_of (a := 816) (b := 139) (c := 818) (d := 10) (mv_T 819 rfl rfl) (by decide +kernel)
set_option maxRecDepth 20000 in
theorem cw_X8_105 : mv_Cw RX8 105 yX8_weightOf cX8_weightOf 5 (some .int) (some 8) 4 := mv_cw_of (a := 825) (b := 139) (c := 827) (d := 11) (mv_T 828 rfl rfl) (by decide +kernel)
def ic_X8_weigh : List (Nat × Instr × Nat) := [(0, .aload_n 0, 1), (1, .getfield 34, 3), (4, .getfield 61, 3), (7, .istore_n 3, 1), (8, .iload_n 2, 1), (9, .iconst 1, 1), (10, .isub, 1), (11, .istore 4, 2), (13, .iload 4, 2), (15, .ifCond .lt 142, 3), (18, .aload_n 0, 1), (19, .iload 4, 2), (21, .iload_n 2, 1), (22, .invokevirtual 102, 3), (25, .istore 5, 2), (27, .aload_n 0, 1), (28, .getfield 28, 3), (31, .iload 4, 2), (33, .aaload, 1), (34, .iload_n 3, 1), (35, .ldc 87, 2), (37, .iastore, 1), (38, .iload_n 3, 1), (39, .iconst 1, 1), (40, .isub, 1), (41, .istore 6, 2), (43, .iload 6, 2), (45, .ifCond .lt 106, 3), (48, .aload_n 0, 1), (49, .aload_n 0, 1), (50, .getfield 31, 3), (53, .iload 4, 2), (55, .iaload, 1), (56, .iload_n 1, 1), (57, .iload 6, 2), (59, .invokevirtual 105, 3), (62, .istore 7, 2), (64, .iload 4, 2), (66, .iconst 1, 1), (67, .iadd, 1), (68, .iload_n 2, 1), (69, .if_icmp .ge 37, 3), (72, .iload 7, 2), (74, .iload 6, 2), (76, .iload 5, 2), (78, .iadd, 1), (79, .iload_n 3, 1), (80, .if_icmp .le 8, 3), (83, .ldc 87, 2), (85, .goto 18, 3), (88, .aload_n 0, 1), (89, .getfield 28, 3), (92, .iload 4, 2), (94, .iconst 1, 1), (95, .iadd, 1), (96, .aaload, 1), (97, .iload 6, 2), (99, .iload 5, 2), (101, .iadd, 1), (102, .iaload, 1), (103, .iadd, 1), (104, .istore 7, 2), (106, .aload_n 0, 1), (107, .getfield 25, 3), (110, .iload 4, 2), (112, .aaload, 1), (113, .iload 6, 2), (115, .iload 7, 2), (117, .iastore, 1), (118, .aload_n 0, 1), (119, .getfield 28, 3), (122, .iload 4, 2), (124, .aaload, 1), (125, .iload 6, 2), (127, .iload 7, 2), (129, .aload_n 0, 1), (130, .getfield 28, 3), (133, .iload 4, 2), (135, .aaload, 1), (136, .iload 6, 2), (138, .iconst 1, 1), (139, .iadd, 1), (140, .iaload, 1), (141, .invokestatic 78, 3), (144, .iastore, 1), (145, .iinc 6 (-1), 3), (148, .goto (-105), 3), (151, .iinc 4 (-1), 3), (154, .goto (-141), 3), (157, .return_, 1)]
noncomputable def mm_X8_weigh : mv_M := (ic_X8_weigh, fl_X8, [(87, .inl 1000000)], [], [(102, 3, some 8, false, ff_X8_takesWithKeep), (105, 4, some 8, false, ff_X8_weightOf), (78, 2, none, false, mv_min)], [(13, [true, true, true, true, true, false, false, false]), (43, [true, true, true, true, true, true, true, false])], none)
noncomputable def ff_X8_weigh : mv_F := mv_fn mv_rc mm_X8_weigh mv_sh 400 8
theorem dk_X8_weigh : mv_dk cX8_weigh ic_X8_weigh = true := by decide +kernel
set_option maxRecDepth 20000 in
theorem cc_X8_weigh {ad : Nat → Nat → Value} {cA : Nat → ClassId} {D : va_G} {tys : List (ClassId × FieldType)} {A : Nat → Prop} (l : Launch) (hF : mv_Fix mv_sh mv_ids mv_ros ad cA tys A mv_rc) : mv_Met l yX8_weigh cX8_weigh 8 none mv_Ts (mv_rm 4) 3 true mv_sh mv_ids mv_ros ad cA mv_cl D tys A mv_rc mv_cr (mv_EX ad A) ff_X8_weigh := mv_met_of (by decide +kernel) (by decide) hF mv_stok (mv_rzV (by decide +kernel)) mv_clok (mv_dk_ok dk_X8_weigh) (mv_fk_ok fk_X8) (fun p e s m args below meth c Q hBg hX hR => ⟨List.forall_mem_cons.mpr ⟨mv_cs_i hBg (mv_T 811 rfl rfl) (by decide), fun _ h => absurd h List.not_mem_nil⟩, fun _ h => absurd h List.not_mem_nil⟩) (fun p e s m args below meth c Q hBg hX hR hK => List.forall_mem_cons.mpr ⟨mv_cal_of (cc_X8_takesWithKeep l hF) hBg hX hR hK mv_EX_ok hF mv_good mv_stok cw_X8_102.1 cw_X8_102.2.1 cw_X8_102.2.2 ⟨rfl, rfl, by exact Nat.le_of_ble_eq_true rfl, by exact Nat.le_of_ble_eq_true rfl⟩ ⟨Nat.zero_le _, Nat.zero_le _⟩, List.forall_mem_cons.mpr ⟨mv_cal_of (cc_X8_weightOf l hF) hBg hX hR hK mv_EX_ok hF mv_good mv_stok cw_X8_105.1 cw_X8_105.2.1 cw_X8_105.2.2 ⟨rfl, rfl, by exact Nat.le_of_ble_eq_true rfl, by exact Nat.le_of_ble_eq_true rfl⟩ ⟨Nat.zero_le _, Nat.zero_le _⟩, List.forall_mem_cons.mpr ⟨mv_cal_min hBg ⟨mv_T 805 rfl rfl, mv_T 238 rfl rfl, mv_T 133 rfl rfl, mv_T 239 rfl rfl⟩ ⟨by decide, by decide⟩ ⟨Nat.zero_le _, Nat.zero_le _⟩, fun _ h => absurd h List.not_mem_nil⟩⟩⟩)
def ic_X8_settle : List (Nat × Instr × Nat) := [(0, .iconst 0, 1), (1, .istore_n 2, 1), (2, .iconst 0, 1), (3, .istore_n 3, 1), (4, .iload_n 3, 1), (5, .iload_n 1, 1), (6, .if_icmp .ge 83, 3), (9, .iload_n 2, 1), (10, .istore 4, 2), (12, .iload 4, 2), (14, .aload_n 0, 1), (15, .getfield 34, 3), (18, .getfield 61, 3), (21, .if_icmp .ge 29, 3), (24, .aload_n 0, 1), (25, .getfield 25, 3), (28, .iload_n 3, 1), (29, .aaload, 1), (30, .iload 4, 2), (32, .iaload, 1), (33, .aload_n 0, 1), (34, .getfield 28, 3), (37, .iload_n 3, 1), (38, .aaload, 1), (39, .iload_n 2, 1), (40, .iaload, 1), (41, .if_icmp .eq 9, 3), (44, .iinc 4 1, 3), (47, .goto (-35), 3), (50, .aload_n 0, 1), (51, .getfield 9, 3), (54, .aload_n 0, 1), (55, .getfield 31, 3), (58, .iload_n 3, 1), (59, .iaload, 1), (60, .iload 4, 2), (62, .iastore, 1), (63, .iload 4, 2), (65, .aload_n 0, 1), (66, .iload_n 3, 1), (67, .iload_n 1, 1), (68, .invokevirtual 102, 3), (71, .iadd, 1), (72, .aload_n 0, 1), (73, .getfield 34, 3), (76, .getfield 61, 3), (79, .invokestatic 78, 3), (82, .istore_n 2, 1), (83, .iinc 3 1, 3), (86, .goto (-82), 3), (89, .return_, 1)]
noncomputable def mm_X8_settle : mv_M := (ic_X8_settle, fl_X8, [], [], [(102, 3, some 8, false, ff_X8_takesWithKeep), (78, 2, none, false, mv_min)], [(4, [true, true, true, true, false]), (12, [true, true, true, true, true])], none)
noncomputable def ff_X8_settle : mv_F := mv_fn mv_rc mm_X8_settle mv_sh 400 5
theorem dk_X8_settle : mv_dk cX8_settle ic_X8_settle = true := by decide +kernel
set_option maxRecDepth 20000 in
theorem cc_X8_settle {ad : Nat → Nat → Value} {cA : Nat → ClassId} {D : va_G} {tys : List (ClassId × FieldType)} {A : Nat → Prop} (l : Launch) (hF : mv_Fix mv_sh mv_ids mv_ros ad cA tys A mv_rc) : mv_Met l yX8_settle cX8_settle 5 none mv_Ts (mv_rm 4) 2 true mv_sh mv_ids mv_ros ad cA mv_cl D tys A mv_rc mv_cr (mv_EX ad A) ff_X8_settle := mv_met_of (by decide +kernel) (by decide) hF mv_stok (mv_rzV (by decide +kernel)) mv_clok (mv_dk_ok dk_X8_settle) (mv_fk_ok fk_X8) (fun p e s m args below meth c Q hBg hX hR => ⟨fun _ h => absurd h List.not_mem_nil, fun _ h => absurd h List.not_mem_nil⟩) (fun p e s m args below meth c Q hBg hX hR hK => List.forall_mem_cons.mpr ⟨mv_cal_of (cc_X8_takesWithKeep l hF) hBg hX hR hK mv_EX_ok hF mv_good mv_stok cw_X8_102.1 cw_X8_102.2.1 cw_X8_102.2.2 ⟨rfl, rfl, by exact Nat.le_of_ble_eq_true rfl, by exact Nat.le_of_ble_eq_true rfl⟩ ⟨Nat.zero_le _, Nat.zero_le _⟩, List.forall_mem_cons.mpr ⟨mv_cal_min hBg ⟨mv_T 805 rfl rfl, mv_T 238 rfl rfl, mv_T 133 rfl rfl, mv_T 239 rfl rfl⟩ ⟨by decide, by decide⟩ ⟨Nat.zero_le _, Nat.zero_le _⟩, fun _ h => absurd h List.not_mem_nil⟩⟩)
set_option maxRecDepth 20000 in
theorem cw_X8_81 : mv_Cw RX8 81 yX9_gather cX9_gather 5 none (some 9) 3 := mv_cw_of (a := 810) (b := 137) (c := 696) (d := 697) (mv_T 698 rfl rfl) (by decide +kernel)
set_option maxRecDepth 20000 in
theorem cw_X8_94 : mv_Cw RX8 94 yX8_weigh cX8_weigh 8 none (some 8) 3 := mv_cw_of (a := 812) (b := 139) (c := 814) (d := 9) (mv_T 815 rfl rfl) (by decide +kernel)
set_option maxRecDepth 20000 in
theorem cw_X8_98 : mv_Cw RX8 98 yX8_settle cX8_settle 5 none (some 8) 2 := mv_cw_of (a := 837) (b := 139) (c := 839) (d := 12) (mv_T 840 rfl rfl) (by decide +kernel)
def ic_X8_find : List (Nat × Instr × Nat) := [(0, .aload_n 0, 1), (1, .getfield 38, 3), (4, .aload_n 0, 1), (5, .getfield 34, 3), (8, .iload_n 2, 1), (9, .invokevirtual 81, 3), (12, .aload_n 0, 1), (13, .ldc 87, 2), (15, .putfield 42, 3), (18, .iconst 0, 1), (19, .istore_n 3, 1), (20, .iload_n 3, 1), (21, .aload_n 0, 1), (22, .getfield 38, 3), (25, .getfield 88, 3), (28, .if_icmp .gt 136, 3), (31, .aload_n 0, 1), (32, .getfield 38, 3), (35, .getfield 88, 3), (38, .bipush 10, 2), (40, .if_icmp .ge 124, 3), (43, .iconst 0, 1), (44, .istore 4, 2), (46, .iload 4, 2), (48, .aload_n 0, 1), (49, .getfield 38, 3), (52, .getfield 88, 3), (55, .if_icmp .gt 49, 3), (58, .aload_n 0, 1), (59, .getfield 31, 3), (62, .iload 4, 2), (64, .iload 4, 2), (66, .iload_n 3, 1), (67, .if_icmp .ne 7, 3), (70, .iload_n 1, 1), (71, .goto 26, 3), (74, .aload_n 0, 1), (75, .getfield 38, 3), (78, .getfield 91, 3), (81, .iload 4, 2), (83, .iload_n 3, 1), (84, .if_icmp .ge 8, 3), (87, .iload 4, 2), (89, .goto 7, 3), (92, .iload 4, 2), (94, .iconst 1, 1), (95, .isub, 1), (96, .iaload, 1), (97, .iastore, 1), (98, .iinc 4 1, 3), (101, .goto (-55), 3), (104, .aload_n 0, 1), (105, .iload_n 1, 1), (106, .aload_n 0, 1), (107, .getfield 38, 3), (110, .getfield 88, 3), (113, .iconst 1, 1), (114, .iadd, 1), (115, .invokevirtual 94, 3), (118, .aload_n 0, 1), (119, .getfield 28, 3), (122, .iconst 0, 1), (123, .aaload, 1), (124, .iconst 0, 1), (125, .iaload, 1), (126, .aload_n 0, 1), (127, .getfield 42, 3), (130, .if_icmp .ge 28, 3), (133, .aload_n 0, 1), (134, .aload_n 0, 1), (135, .getfield 28, 3), (138, .iconst 0, 1), (139, .aaload, 1), (140, .iconst 0, 1), (141, .iaload, 1), (142, .putfield 42, 3), (145, .aload_n 0, 1), (146, .aload_n 0, 1), (147, .getfield 38, 3), (150, .getfield 88, 3), (153, .iconst 1, 1), (154, .iadd, 1), (155, .invokevirtual 98, 3), (158, .iinc 3 1, 3), (161, .goto (-141), 3), (164, .aload_n 0, 1), (165, .getfield 42, 3), (168, .ldc 87, 2), (170, .if_icmp .ge 7, 3), (173, .iconst 1, 1), (174, .goto 4, 3), (177, .iconst 0, 1), (178, .ireturn, 1)]
noncomputable def mm_X8_find : mv_M := (ic_X8_find, fl_X8, [(87, .inl 1000000)], [], [(81, 3, some 9, true, ff_X9_gather), (94, 3, some 8, true, ff_X8_weigh), (98, 2, some 8, true, ff_X8_settle)], [(20, [true, true, false, true, false]), (46, [true, true, false, true, true])], (some (0, 1)))
noncomputable def ff_X8_find : mv_F := mv_fn mv_rc mm_X8_find mv_sh 400 5
theorem dk_X8_find : mv_dk cX8_find ic_X8_find = true := by decide +kernel
set_option maxRecDepth 20000 in
theorem cc_X8_find {ad : Nat → Nat → Value} {cA : Nat → ClassId} {D : va_G} {tys : List (ClassId × FieldType)} {A : Nat → Prop} (l : Launch) (hF : mv_Fix mv_sh mv_ids mv_ros ad cA tys A mv_rc) : mv_Met l yX8_find cX8_find 5 (some .boolean) mv_Ts (mv_rm 5) 3 false mv_sh mv_ids mv_ros ad cA mv_cl D tys A mv_rc mv_cr (mv_EX ad A) ff_X8_find := mv_met_of (by decide +kernel) (by decide) hF mv_stok (mv_rzZ (by decide +kernel) rfl) mv_clok (mv_dk_ok dk_X8_find) (mv_fk_ok fk_X8) (fun p e s m args below meth c Q hBg hX hR => ⟨List.forall_mem_cons.mpr ⟨mv_cs_i hBg (mv_T 811 rfl rfl) (by decide), fun _ h => absurd h List.not_mem_nil⟩, fun _ h => absurd h List.not_mem_nil⟩) (fun p e s m args below meth c Q hBg hX hR hK => List.forall_mem_cons.mpr ⟨mv_cal_of (cc_X9_gather l hF) hBg hX hR hK mv_EX_ok hF mv_good mv_stok cw_X8_81.1 cw_X8_81.2.1 cw_X8_81.2.2 ⟨rfl, rfl, by exact Nat.le_of_ble_eq_true rfl, by exact Nat.le_of_ble_eq_true rfl⟩ ⟨Nat.zero_le _, Nat.zero_le _⟩, List.forall_mem_cons.mpr ⟨mv_cal_of (cc_X8_weigh l hF) hBg hX hR hK mv_EX_ok hF mv_good mv_stok cw_X8_94.1 cw_X8_94.2.1 cw_X8_94.2.2 ⟨rfl, rfl, by exact Nat.le_of_ble_eq_true rfl, by exact Nat.le_of_ble_eq_true rfl⟩ ⟨Nat.zero_le _, Nat.zero_le _⟩, List.forall_mem_cons.mpr ⟨mv_cal_of (cc_X8_settle l hF) hBg hX hR hK mv_EX_ok hF mv_good mv_stok cw_X8_98.1 cw_X8_98.2.1 cw_X8_98.2.2 ⟨rfl, rfl, by exact Nat.le_of_ble_eq_true rfl, by exact Nat.le_of_ble_eq_true rfl⟩ ⟨Nat.zero_le _, Nat.zero_le _⟩, fun _ h => absurd h List.not_mem_nil⟩⟩⟩)
set_option maxRecDepth 20000 in
theorem cw_X0_66 : mv_Cw RX0 66 yX8_reckonCosts cX8_reckonCosts 3 none (some 8) 1 := mv_cw_of (a := 798) (b := 139) (c := 799) (d := 800) (mv_T 801 rfl rfl) (by decide +kernel)
set_option maxRecDepth 20000 in
theorem cw_X0_71 : mv_Cw RX0 71 yX8_find cX8_find 5 (some .boolean) (some 8) 3 := mv_cw_of (a := 806) (b := 139) (c := 807) (d := 808) (mv_T 809 rfl rfl) (by decide +kernel)
def ic_X0_begs : List (Nat × Instr × Nat) := [(0, .aload_n 0, 1), (1, .getfield 15, 3), (4, .iload_n 1, 1), (5, .invokevirtual 31, 3), (8, .ifCond .ne 5, 3), (11, .iconst (-1), 1), (12, .ireturn, 1), (13, .aload_n 0, 1), (14, .getfield 27, 3), (17, .invokevirtual 66, 3), (20, .aload_n 0, 1), (21, .getfield 27, 3), (24, .iload_n 1, 1), (25, .sipush 1023, 3), (28, .invokevirtual 71, 3), (31, .ifCond .ne 19, 3), (34, .aload_n 0, 1), (35, .getfield 15, 3), (38, .iload_n 1, 1), (39, .iconst 4, 1), (40, .iconst (-1), 1), (41, .invokevirtual 56, 3), (44, .aload_n 0, 1), (45, .invokevirtual 60, 3), (48, .iconst (-1), 1), (49, .ireturn, 1), (50, .iconst 0, 1), (51, .istore_n 2, 1), (52, .iload_n 2, 1), (53, .aload_n 0, 1), (54, .getfield 15, 3), (57, .getfield 75, 3), (60, .if_icmp .ge 43, 3), (63, .iload_n 2, 1), (64, .iload_n 1, 1), (65, .if_icmp .eq 14, 3), (68, .aload_n 0, 1), (69, .getfield 15, 3), (72, .iload_n 2, 1), (73, .invokevirtual 63, 3), (76, .ifCond .eq 21, 3), (79, .aload_n 0, 1), (80, .getfield 15, 3), (83, .getfield 52, 3), (86, .iload_n 2, 1), (87, .aload_n 0, 1), (88, .getfield 27, 3), (91, .getfield 78, 3), (94, .iload_n 2, 1), (95, .iaload, 1), (96, .iastore, 1), (97, .iinc 2 1, 3), (100, .goto (-48), 3), (103, .aload_n 0, 1), (104, .getfield 15, 3), (107, .iload_n 1, 1), (108, .iconst 3, 1), (109, .aload_n 0, 1), (110, .getfield 15, 3), (113, .getfield 52, 3), (116, .iload_n 1, 1), (117, .iaload, 1), (118, .invokevirtual 56, 3), (121, .aload_n 0, 1), (122, .getfield 15, 3), (125, .getfield 52, 3), (128, .iload_n 1, 1), (129, .iaload, 1), (130, .ireturn, 1)]
noncomputable def mm_X0_begs : mv_M := (ic_X0_begs, fl_X0, [], [], [(31, 2, some 2, false, ff_X2_isAside), (66, 1, some 8, true, ff_X8_reckonCosts), (71, 3, some 8, false, ff_X8_find), (56, 4, some 2, true, ff_X2_write), (60, 1, some 0, true, ff_X0_countStanding), (63, 2, some 2, false, ff_X2_isSeated)], [(52, [true, true, true])], none)
noncomputable def ff_X0_begs : mv_F := mv_fn mv_rc mm_X0_begs mv_sh 400 3
theorem dk_X0_begs : mv_dk cX0_begs ic_X0_begs = true := by decide +kernel
set_option maxRecDepth 20000 in
theorem cc_X0_begs {ad : Nat → Nat → Value} {cA : Nat → ClassId} {D : va_G} {tys : List (ClassId × FieldType)} {A : Nat → Prop} (l : Launch) (hF : mv_Fix mv_sh mv_ids mv_ros ad cA tys A mv_rc) : mv_Met l yX0_begs cX0_begs 3 (some .int) mv_Ts (mv_rm 6) 2 false mv_sh mv_ids mv_ros ad cA mv_cl D tys A mv_rc mv_cr (mv_EX ad A) ff_X0_begs := mv_met_of (by decide +kernel) (by decide) hF mv_stok (mv_rzI (by decide +kernel)) mv_clok (mv_dk_ok dk_X0_begs) (mv_fk_ok fk_X0) (fun p e s m args below meth c Q hBg hX hR => ⟨fun _ h => absurd h List.not_mem_nil, fun _ h => absurd h List.not_mem_nil⟩) (fun p e s m args below meth c Q hBg hX hR hK => List.forall_mem_cons.mpr ⟨mv_cal_of (cc_X2_isAside l hF) hBg hX hR hK mv_EX_ok hF mv_good mv_stok cw_X0_31.1 cw_X0_31.2.1 cw_X0_31.2.2 ⟨rfl, rfl, by exact Nat.le_of_ble_eq_true rfl, by exact Nat.le_of_ble_eq_true rfl⟩ ⟨Nat.zero_le _, Nat.zero_le _⟩, List.forall_mem_cons.mpr ⟨mv_cal_of (cc_X8_reckonCosts l hF) hBg hX hR hK mv_EX_ok hF mv_good mv_stok cw_X0_66.1 cw_X0_66.2.1 cw_X0_66.2.2 ⟨rfl, rfl, by exact Nat.le_of_ble_eq_true rfl, by exact Nat.le_of_ble_eq_true rfl⟩ ⟨Nat.zero_le _, Nat.zero_le _⟩, List.forall_mem_cons.mpr ⟨mv_cal_of (cc_X8_find l hF) hBg hX hR hK mv_EX_ok hF mv_good mv_stok cw_X0_71.1 cw_X0_71.2.1 cw_X0_71.2.2 ⟨rfl, rfl, by exact Nat.le_of_ble_eq_true rfl, by exact Nat.le_of_ble_eq_true rfl⟩ ⟨Nat.zero_le _, Nat.zero_le _⟩, List.forall_mem_cons.mpr ⟨mv_cal_of (cc_X2_write l hF) hBg hX hR hK mv_EX_ok hF mv_good mv_stok cw_X0_56.1 cw_X0_56.2.1 cw_X0_56.2.2 ⟨rfl, rfl, by exact Nat.le_of_ble_eq_true rfl, by exact Nat.le_of_ble_eq_true rfl⟩ ⟨Nat.zero_le _, Nat.zero_le _⟩, List.forall_mem_cons.mpr ⟨mv_cal_of (cc_X0_countStanding l hF) hBg hX hR hK mv_EX_ok hF mv_good mv_stok cw_X0_60.1 cw_X0_60.2.1 cw_X0_60.2.2 ⟨rfl, rfl, by exact Nat.le_of_ble_eq_true rfl, by exact Nat.le_of_ble_eq_true rfl⟩ ⟨Nat.zero_le _, Nat.zero_le _⟩, List.forall_mem_cons.mpr ⟨mv_cal_of (cc_X2_isSeated l hF) hBg hX hR hK mv_EX_ok hF mv_good mv_stok cw_X0_63.1 cw_X0_63.2.1 cw_X0_63.2.2 ⟨rfl, rfl, by exact Nat.le_of_ble_eq_true rfl, by exact Nat.le_of_ble_eq_true rfl⟩ ⟨Nat.zero_le _, Nat.zero_le _⟩, fun _ h => absurd h List.not_mem_nil⟩⟩⟩⟩⟩⟩)
set_option maxRecDepth 20000 in
theorem cw_X0_104 : mv_Cw RX0 104 yX0_comes cX0_comes 3 (some .int) (some 0) 2 := mv_cw_of (a := 1064) (b := 142) (c := 691) (d := 692) (mv_T 693 rfl rfl) (by decide +kernel)
set_option maxRecDepth 20000 in
theorem cw_X0_108 : mv_Cw RX0 108 yX0_goes cX0_goes 2 none (some 0) 2 := mv_cw_of (a := 1065) (b := 142) (c := 786) (d := 787) (mv_T 788 rfl rfl) (by decide +kernel)
set_option maxRecDepth 20000 in
theorem cw_X0_112 : mv_Cw RX0 112 yX0_begs cX0_begs 3 (some .int) (some 0) 2 := mv_cw_of (a := 1066) (b := 142) (c := 795) (d := 796) (mv_T 797 rfl rfl) (by decide +kernel)
def ic_X0_passHour : List (Nat × Instr × Nat) := [(0, .iconst 0, 1), (1, .istore_n 1, 1), (2, .aload_n 0, 1), (3, .getfield 15, 3), (6, .getfield 87, 3), (9, .astore_n 2, 1), (10, .iconst 0, 1), (11, .istore_n 3, 1), (12, .iload_n 3, 1), (13, .aload_n 2, 1), (14, .getfield 91, 3), (17, .if_icmp .ge 143, 3), (20, .iload_n 3, 1), (21, .bipush 24, 2), (23, .if_icmp .ge 137, 3), (26, .aload_n 2, 1), (27, .getfield 96, 3), (30, .iload_n 3, 1), (31, .iaload, 1), (32, .istore 4, 2), (34, .aload_n 2, 1), (35, .getfield 99, 3), (38, .iload_n 3, 1), (39, .iaload, 1), (40, .iconst 1, 1), (41, .if_icmp .ne 15, 3), (44, .aload_n 0, 1), (45, .getfield 15, 3), (48, .iload 4, 2), (50, .invokevirtual 63, 3), (53, .goto 12, 3), (56, .aload_n 0, 1), (57, .getfield 15, 3), (60, .iload 4, 2), (62, .invokevirtual 31, 3), (65, .istore 5, 2), (67, .aload_n 2, 1), (68, .getfield 102, 3), (71, .iload_n 3, 1), (72, .iaload, 1), (73, .aload_n 0, 1), (74, .getfield 15, 3), (77, .getfield 84, 3), (80, .if_icmp .ne 74, 3), (83, .iload 5, 2), (85, .ifCond .ne 6, 3), (88, .goto 66, 3), (91, .iinc 1 1, 3), (94, .aload_n 2, 1), (95, .getfield 99, 3), (98, .iload_n 3, 1), (99, .iaload, 1), (100, .lookupswitch 47 #[(0, 28), (1, 38)], 28), (128, .aload_n 0, 1), (129, .iload 4, 2), (131, .invokevirtual 104, 3), (134, .pop, 1), (135, .goto 19, 3), (138, .aload_n 0, 1), (139, .iload 4, 2), (141, .invokevirtual 108, 3), (144, .goto 10, 3), (147, .aload_n 0, 1), (148, .iload 4, 2), (150, .invokevirtual 112, 3), (153, .pop, 1), (154, .iinc 3 1, 3), (157, .goto (-145), 3), (160, .aload_n 0, 1), (161, .getfield 15, 3), (164, .aload_n 0, 1), (165, .getfield 15, 3), (168, .getfield 84, 3), (171, .invokevirtual 115, 3), (174, .aload_n 0, 1), (175, .getfield 15, 3), (178, .dup, 1), (179, .getfield 84, 3), (182, .iconst 1, 1), (183, .iadd, 1), (184, .putfield 84, 3), (187, .iload_n 1, 1), (188, .ireturn, 1)]
noncomputable def mm_X0_passHour : mv_M := (ic_X0_passHour, fl_X0, [], [], [(63, 2, some 2, false, ff_X2_isSeated), (31, 2, some 2, false, ff_X2_isAside), (104, 2, some 0, false, ff_X0_comes), (108, 2, some 0, true, ff_X0_goes), (112, 2, some 0, false, ff_X0_begs), (115, 2, some 2, true, ff_X2_warmSeats)], [(12, [true, true, true, true, false, false])], none)
noncomputable def ff_X0_passHour : mv_F := mv_fn mv_rc mm_X0_passHour mv_sh 400 6
theorem dk_X0_passHour : mv_dk cX0_passHour ic_X0_passHour = true := by decide +kernel
set_option maxRecDepth 20000 in
theorem cc_X0_passHour {ad : Nat → Nat → Value} {cA : Nat → ClassId} {D : va_G} {tys : List (ClassId × FieldType)} {A : Nat → Prop} (l : Launch) (hF : mv_Fix mv_sh mv_ids mv_ros ad cA tys A mv_rc) : mv_Met l yX0_passHour cX0_passHour 6 (some .int) mv_Ts (mv_rm 7) 1 false mv_sh mv_ids mv_ros ad cA mv_cl D tys A mv_rc mv_cr (mv_EX ad A) ff_X0_passHour := mv_met_of (by decide +kernel) (by decide) hF mv_stok (mv_rzI (by decide +kernel)) mv_clok (mv_dk_ok dk_X0_passHour) (mv_fk_ok fk_X0) (fun p e s m args below meth c Q hBg hX hR => ⟨fun _ h => absurd h List.not_mem_nil, fun _ h => absurd h List.not_mem_nil⟩) (fun p e s m args below meth c Q hBg hX hR hK => List.forall_mem_cons.mpr ⟨mv_cal_of (cc_X2_isSeated l hF) hBg hX hR hK mv_EX_ok hF mv_good mv_stok cw_X0_63.1 cw_X0_63.2.1 cw_X0_63.2.2 ⟨rfl, rfl, by exact Nat.le_of_ble_eq_true rfl, by exact Nat.le_of_ble_eq_true rfl⟩ ⟨Nat.zero_le _, Nat.zero_le _⟩, List.forall_mem_cons.mpr ⟨mv_cal_of (cc_X2_isAside l hF) hBg hX hR hK mv_EX_ok hF mv_good mv_stok cw_X0_31.1 cw_X0_31.2.1 cw_X0_31.2.2 ⟨rfl, rfl, by exact Nat.le_of_ble_eq_true rfl, by exact Nat.le_of_ble_eq_true rfl⟩ ⟨Nat.zero_le _, Nat.zero_le _⟩, List.forall_mem_cons.mpr ⟨mv_cal_of (cc_X0_comes l hF) hBg hX hR hK mv_EX_ok hF mv_good mv_stok cw_X0_104.1 cw_X0_104.2.1 cw_X0_104.2.2 ⟨rfl, rfl, by exact Nat.le_of_ble_eq_true rfl, by exact Nat.le_of_ble_eq_true rfl⟩ ⟨Nat.zero_le _, Nat.zero_le _⟩, List.forall_mem_cons.mpr ⟨mv_cal_of (cc_X0_goes l hF) hBg hX hR hK mv_EX_ok hF mv_good mv_stok cw_X0_108.1 cw_X0_108.2.1 cw_X0_108.2.2 ⟨rfl, rfl, by exact Nat.le_of_ble_eq_true rfl, by exact Nat.le_of_ble_eq_true rfl⟩ ⟨Nat.zero_le _, Nat.zero_le _⟩, List.forall_mem_cons.mpr ⟨mv_cal_of (cc_X0_begs l hF) hBg hX hR hK mv_EX_ok hF mv_good mv_stok cw_X0_112.1 cw_X0_112.2.1 cw_X0_112.2.2 ⟨rfl, rfl, by exact Nat.le_of_ble_eq_true rfl, by exact Nat.le_of_ble_eq_true rfl⟩ ⟨Nat.zero_le _, Nat.zero_le _⟩, List.forall_mem_cons.mpr ⟨mv_cal_of (cc_X2_warmSeats l hF) hBg hX hR hK mv_EX_ok hF mv_good mv_stok cw_X0_115.1 cw_X0_115.2.1 cw_X0_115.2.2 ⟨rfl, rfl, by exact Nat.le_of_ble_eq_true rfl, by exact Nat.le_of_ble_eq_true rfl⟩ ⟨Nat.zero_le _, Nat.zero_le _⟩, fun _ h => absurd h List.not_mem_nil⟩⟩⟩⟩⟩⟩)
def ic_X6_endThought : List (Nat × Instr × Nat) := [(0, .aload_n 0, 1), (1, .aload_n 1, 1), (2, .bipush 6, 2), (4, .invokevirtual 43, 3), (7, .return_, 1)]
noncomputable def mm_X6_endThought : mv_M := (ic_X6_endThought, fl_X6, [], [], [(43, 3, some 6, true, ff_X6_load)], [], none)
noncomputable def ff_X6_endThought : mv_F := mv_fn mv_rc mm_X6_endThought mv_sh 400 2
theorem dk_X6_endThought : mv_dk cX6_endThought ic_X6_endThought = true := by decide +kernel
set_option maxRecDepth 20000 in
theorem cc_X6_endThought {ad : Nat → Nat → Value} {cA : Nat → ClassId} {D : va_G} {tys : List (ClassId × FieldType)} {A : Nat → Prop} (l : Launch) (hF : mv_Fix mv_sh mv_ids mv_ros ad cA tys A mv_rc) : mv_Met l yX6_endThought cX6_endThought 2 none mv_Ts (mv_rm 2) 2 true mv_sh mv_ids mv_ros ad cA mv_cl D tys A mv_rc mv_cr (mv_EX ad A) ff_X6_endThought := mv_met_of (by decide +kernel) (by decide) hF mv_stok (mv_rzV (by decide +kernel)) mv_clok (mv_dk_ok dk_X6_endThought) (mv_fk_ok fk_X6) (fun p e s m args below meth c Q hBg hX hR => ⟨fun _ h => absurd h List.not_mem_nil, fun _ h => absurd h List.not_mem_nil⟩) (fun p e s m args below meth c Q hBg hX hR hK => List.forall_mem_cons.mpr ⟨mv_cal_of (cc_X6_load l hF) hBg hX hR hK mv_EX_ok hF mv_good mv_stok cw_X6_43.1 cw_X6_43.2.1 cw_X6_43.2.2 ⟨rfl, rfl, by exact Nat.le_of_ble_eq_true rfl, by exact Nat.le_of_ble_eq_true rfl⟩ ⟨Nat.zero_le _, Nat.zero_le _⟩, fun _ h => absurd h List.not_mem_nil⟩)
set_option maxRecDepth 20000 in
theorem cw_X11_268 : mv_Cw RX11 268 yX6_keepThought cX6_keepThought 2 none (some 6) 2 := mv_cw_of (a := 1242) (b := 135) (c := 1243) (d := 1244) (mv_T 1245 rfl rfl) (by decide +kernel)
set_option maxRecDepth 20000 in
theorem cw_X11_271 : mv_Cw RX11 271 yX0_countNone cX0_countNone 1 none (some 0) 1 := mv_cw_of (a := 1246) (b := 142) (c := 1247) (d := 1248) (mv_T 1249 rfl rfl) (by decide +kernel)
set_option maxRecDepth 20000 in
theorem cw_X11_274 : mv_Cw RX11 274 yX3_nextHour cX3_nextHour 4 (some .int) (some 3) 2 := mv_cw_of (a := 1250) (b := 132) (c := 1251) (d := 1252) (mv_T 1253 rfl rfl) (by decide +kernel)
set_option maxRecDepth 20000 in
theorem cw_X11_277 : mv_Cw RX11 277 yX0_skipTo cX0_skipTo 2 none (some 0) 2 := mv_cw_of (a := 1254) (b := 142) (c := 1255) (d := 1256) (mv_T 1257 rfl rfl) (by decide +kernel)
set_option maxRecDepth 20000 in
theorem cw_X11_186 : mv_Cw RX11 186 yX0_passHour cX0_passHour 6 (some .int) (some 0) 1 := mv_cw_of (a := 1060) (b := 142) (c := 1061) (d := 1062) (mv_T 1063 rfl rfl) (by decide +kernel)
set_option maxRecDepth 20000 in
theorem cw_X11_280 : mv_Cw RX11 280 yX6_endThought cX6_endThought 2 none (some 6) 2 := mv_cw_of (a := 1258) (b := 135) (c := 1259) (d := 1260) (mv_T 1261 rfl rfl) (by decide +kernel)
def ic_X11_stands : List (Nat × Instr × Nat) := [(0, .iload_n 1, 1), (1, .ifCond .lt 8, 3), (4, .iload_n 1, 1), (5, .iconst 1, 1), (6, .if_icmp .le 5, 3), (9, .iconst (-1), 1), (10, .ireturn, 1), (11, .aload_n 0, 1), (12, .getfield 22, 3), (15, .aload_n 0, 1), (16, .getfield 12, 3), (19, .invokevirtual 268, 3), (22, .aload_n 0, 1), (23, .getfield 77, 3), (26, .invokevirtual 271, 3), (29, .aload_n 0, 1), (30, .getfield 12, 3), (33, .getfield 147, 3), (36, .aload_n 0, 1), (37, .getfield 12, 3), (40, .getfield 183, 3), (43, .invokevirtual 274, 3), (46, .istore_n 2, 1), (47, .iconst 0, 1), (48, .istore_n 3, 1), (49, .iload_n 3, 1), (50, .bipush 24, 2), (52, .if_icmp .ge 50, 3), (55, .iload_n 2, 1), (56, .sipush 1000, 3), (59, .if_icmp .ge 43, 3), (62, .aload_n 0, 1), (63, .getfield 77, 3), (66, .iload_n 2, 1), (67, .invokevirtual 277, 3), (70, .aload_n 0, 1), (71, .getfield 77, 3), (74, .invokevirtual 186, 3), (77, .pop, 1), (78, .aload_n 0, 1), (79, .getfield 12, 3), (82, .getfield 147, 3), (85, .aload_n 0, 1), (86, .getfield 12, 3), (89, .getfield 183, 3), (92, .invokevirtual 274, 3), (95, .istore_n 2, 1), (96, .iinc 3 1, 3), (99, .goto (-50), 3), (102, .aload_n 0, 1), (103, .getfield 22, 3), (106, .aload_n 0, 1), (107, .getfield 12, 3), (110, .invokevirtual 280, 3), (113, .iload_n 1, 1), (114, .ifCond .ne 13, 3), (117, .aload_n 0, 1), (118, .getfield 77, 3), (121, .getfield 283, 3), (124, .goto 10, 3), (127, .aload_n 0, 1), (128, .getfield 77, 3), (131, .getfield 286, 3), (134, .ireturn, 1)]
noncomputable def mm_X11_stands : mv_M := (ic_X11_stands, fl_X11, [], [], [(268, 2, some 6, true, ff_X6_keepThought), (271, 1, some 0, true, ff_X0_countNone), (274, 2, some 3, false, ff_X3_nextHour), (277, 2, some 0, true, ff_X0_skipTo), (186, 1, some 0, false, ff_X0_passHour), (280, 2, some 6, true, ff_X6_endThought)], [(49, [true, true, true, true])], none)
noncomputable def ff_X11_stands : mv_F := mv_fn mv_rc mm_X11_stands mv_sh 400 4
theorem dk_X11_stands : mv_dk cX11_stands ic_X11_stands = true := by decide +kernel
set_option maxRecDepth 20000 in
theorem cc_X11_stands {ad : Nat → Nat → Value} {cA : Nat → ClassId} {D : va_G} {tys : List (ClassId × FieldType)} {A : Nat → Prop} (l : Launch) (hF : mv_Fix mv_sh mv_ids mv_ros ad cA tys A mv_rc) : mv_Met l yX11_stands cX11_stands 4 (some .int) mv_Ts (mv_rm 8) 2 false mv_sh mv_ids mv_ros ad cA mv_cl D tys A mv_rc mv_cr (mv_EX ad A) ff_X11_stands := mv_met_of (by decide +kernel) (by decide) hF mv_stok (mv_rzI (by decide +kernel)) mv_clok (mv_dk_ok dk_X11_stands) (mv_fk_ok fk_X11) (fun p e s m args below meth c Q hBg hX hR => ⟨fun _ h => absurd h List.not_mem_nil, fun _ h => absurd h List.not_mem_nil⟩) (fun p e s m args below meth c Q hBg hX hR hK => List.forall_mem_cons.mpr ⟨mv_cal_of (cc_X6_keepThought l hF) hBg hX hR hK mv_EX_ok hF mv_good mv_stok cw_X11_268.1 cw_X11_268.2.1 cw_X11_268.2.2 ⟨rfl, rfl, by exact Nat.le_of_ble_eq_true rfl, by exact Nat.le_of_ble_eq_true rfl⟩ ⟨Nat.zero_le _, Nat.zero_le _⟩, List.forall_mem_cons.mpr ⟨mv_cal_of (cc_X0_countNone l hF) hBg hX hR hK mv_EX_ok hF mv_good mv_stok cw_X11_271.1 cw_X11_271.2.1 cw_X11_271.2.2 ⟨rfl, rfl, by exact Nat.le_of_ble_eq_true rfl, by exact Nat.le_of_ble_eq_true rfl⟩ ⟨Nat.zero_le _, Nat.zero_le _⟩, List.forall_mem_cons.mpr ⟨mv_cal_of (cc_X3_nextHour l hF) hBg hX hR hK mv_EX_ok hF mv_good mv_stok cw_X11_274.1 cw_X11_274.2.1 cw_X11_274.2.2 ⟨rfl, rfl, by exact Nat.le_of_ble_eq_true rfl, by exact Nat.le_of_ble_eq_true rfl⟩ ⟨Nat.zero_le _, Nat.zero_le _⟩, List.forall_mem_cons.mpr ⟨mv_cal_of (cc_X0_skipTo l hF) hBg hX hR hK mv_EX_ok hF mv_good mv_stok cw_X11_277.1 cw_X11_277.2.1 cw_X11_277.2.2 ⟨rfl, rfl, by exact Nat.le_of_ble_eq_true rfl, by exact Nat.le_of_ble_eq_true rfl⟩ ⟨Nat.zero_le _, Nat.zero_le _⟩, List.forall_mem_cons.mpr ⟨mv_cal_of (cc_X0_passHour l hF) hBg hX hR hK mv_EX_ok hF mv_good mv_stok cw_X11_186.1 cw_X11_186.2.1 cw_X11_186.2.2 ⟨rfl, rfl, by exact Nat.le_of_ble_eq_true rfl, by exact Nat.le_of_ble_eq_true rfl⟩ ⟨Nat.zero_le _, Nat.zero_le _⟩, List.forall_mem_cons.mpr ⟨mv_cal_of (cc_X6_endThought l hF) hBg hX hR hK mv_EX_ok hF mv_good mv_stok cw_X11_280.1 cw_X11_280.2.1 cw_X11_280.2.2 ⟨rfl, rfl, by exact Nat.le_of_ble_eq_true rfl, by exact Nat.le_of_ble_eq_true rfl⟩ ⟨Nat.zero_le _, Nat.zero_le _⟩, fun _ h => absurd h List.not_mem_nil⟩⟩⟩⟩⟩⟩)
def ic_X12_areAlike : List (Nat × Instr × Nat) := [(0, .aload_n 0, 1), (1, .iload_n 1, 1), (2, .iconst 1, 1), (3, .bipush 20, 2), (5, .invokevirtual 142, 3), (8, .ifCond .eq 18, 3), (11, .aload_n 0, 1), (12, .iload_n 2, 1), (13, .iconst 0, 1), (14, .bipush 15, 2), (16, .invokevirtual 142, 3), (19, .ifCond .eq 7, 3), (22, .iconst 1, 1), (23, .goto 4, 3), (26, .iconst 0, 1), (27, .ireturn, 1)]
noncomputable def mm_X12_areAlike : mv_M := (ic_X12_areAlike, fl_X12, [], [], [(142, 4, some 12, false, ff_X12_isIn)], [], (some (0, 1)))
noncomputable def ff_X12_areAlike : mv_F := mv_fn mv_rc mm_X12_areAlike mv_sh 400 3
theorem dk_X12_areAlike : mv_dk cX12_areAlike ic_X12_areAlike = true := by decide +kernel
set_option maxRecDepth 20000 in
theorem cc_X12_areAlike {ad : Nat → Nat → Value} {cA : Nat → ClassId} {D : va_G} {tys : List (ClassId × FieldType)} {A : Nat → Prop} (l : Launch) (hF : mv_Fix mv_sh mv_ids mv_ros ad cA tys A mv_rc) : mv_Met l yX12_areAlike cX12_areAlike 3 (some .boolean) mv_Ts (mv_rm 2) 3 false mv_sh mv_ids mv_ros ad cA mv_cl D tys A mv_rc mv_cr (mv_EX ad A) ff_X12_areAlike := mv_met_of (by decide +kernel) (by decide) hF mv_stok (mv_rzZ (by decide +kernel) rfl) mv_clok (mv_dk_ok dk_X12_areAlike) (mv_fk_ok fk_X12) (fun p e s m args below meth c Q hBg hX hR => ⟨fun _ h => absurd h List.not_mem_nil, fun _ h => absurd h List.not_mem_nil⟩) (fun p e s m args below meth c Q hBg hX hR hK => List.forall_mem_cons.mpr ⟨mv_cal_of (cc_X12_isIn l hF) hBg hX hR hK mv_EX_ok hF mv_good mv_stok cw_X12_142.1 cw_X12_142.2.1 cw_X12_142.2.2 ⟨rfl, rfl, by exact Nat.le_of_ble_eq_true rfl, by exact Nat.le_of_ble_eq_true rfl⟩ ⟨Nat.zero_le _, Nat.zero_le _⟩, fun _ h => absurd h List.not_mem_nil⟩)
def ic_X12_stretch : List (Nat × Instr × Nat) := [(0, .iload_n 1, 1), (1, .iload_n 2, 1), (2, .if_icmp .gt 15, 3), (5, .iload_n 1, 1), (6, .aload_n 0, 1), (7, .invokevirtual 149, 3), (10, .if_icmp .gt 7, 3), (13, .iload_n 2, 1), (14, .ifCond .ge 7, 3), (17, .iconst (-1), 1), (18, .goto 9, 3), (21, .bipush 62, 2), (23, .iload_n 1, 1), (24, .imul, 1), (25, .iload_n 2, 1), (26, .iadd, 1), (27, .ireturn, 1)]
noncomputable def mm_X12_stretch : mv_M := (ic_X12_stretch, fl_X12, [], [], [(149, 1, some 12, false, ff_X12_length)], [], none)
noncomputable def ff_X12_stretch : mv_F := mv_fn mv_rc mm_X12_stretch mv_sh 400 3
theorem dk_X12_stretch : mv_dk cX12_stretch ic_X12_stretch = true := by decide +kernel
set_option maxRecDepth 20000 in
theorem cc_X12_stretch {ad : Nat → Nat → Value} {cA : Nat → ClassId} {D : va_G} {tys : List (ClassId × FieldType)} {A : Nat → Prop} (l : Launch) (hF : mv_Fix mv_sh mv_ids mv_ros ad cA tys A mv_rc) : mv_Met l yX12_stretch cX12_stretch 3 (some .int) mv_Ts (mv_rm 2) 3 false mv_sh mv_ids mv_ros ad cA mv_cl D tys A mv_rc mv_cr (mv_EX ad A) ff_X12_stretch := mv_met_of (by decide +kernel) (by decide) hF mv_stok (mv_rzI (by decide +kernel)) mv_clok (mv_dk_ok dk_X12_stretch) (mv_fk_ok fk_X12) (fun p e s m args below meth c Q hBg hX hR => ⟨fun _ h => absurd h List.not_mem_nil, fun _ h => absurd h List.not_mem_nil⟩) (fun p e s m args below meth c Q hBg hX hR hK => List.forall_mem_cons.mpr ⟨mv_cal_of (cc_X12_length l hF) hBg hX hR hK mv_EX_ok hF mv_good mv_stok cw_X12_149.1 cw_X12_149.2.1 cw_X12_149.2.2 ⟨rfl, rfl, by exact Nat.le_of_ble_eq_true rfl, by exact Nat.le_of_ble_eq_true rfl⟩ ⟨Nat.zero_le _, Nat.zero_le _⟩, fun _ h => absurd h List.not_mem_nil⟩)
set_option maxRecDepth 20000 in
theorem cw_X12_437 : mv_Cw RX12 437 yX12_stretch cX12_stretch 3 (some .int) (some 12) 3 := mv_cw_of (a := 1921) (b := 143) (c := 1923) (d := 112) (mv_T 1924 rfl rfl) (by decide +kernel)
def ic_X12_ofStretch : List (Nat × Instr × Nat) := [(0, .aload_n 0, 1), (1, .iload_n 2, 1), (2, .iload_n 3, 1), (3, .invokevirtual 437, 3), (6, .istore 4, 2), (8, .iload 4, 2), (10, .iconst (-1), 1), (11, .if_icmp .ne 7, 3), (14, .iconst 0, 1), (15, .goto 7, 3), (18, .aload_n 1, 1), (19, .iload 4, 2), (21, .iaload, 1), (22, .ireturn, 1)]
noncomputable def mm_X12_ofStretch : mv_M := (ic_X12_ofStretch, fl_X12, [], [], [(437, 3, some 12, false, ff_X12_stretch)], [], none)
noncomputable def ff_X12_ofStretch : mv_F := mv_fn mv_rc mm_X12_ofStretch mv_sh 400 5
theorem dk_X12_ofStretch : mv_dk cX12_ofStretch ic_X12_ofStretch = true := by decide +kernel
set_option maxRecDepth 20000 in
theorem cc_X12_ofStretch {ad : Nat → Nat → Value} {cA : Nat → ClassId} {D : va_G} {tys : List (ClassId × FieldType)} {A : Nat → Prop} (l : Launch) (hF : mv_Fix mv_sh mv_ids mv_ros ad cA tys A mv_rc) : mv_Met l yX12_ofStretch cX12_ofStretch 5 (some .int) mv_Ts (mv_rm 3) 4 false mv_sh mv_ids mv_ros ad cA mv_cl D tys A mv_rc mv_cr (mv_EX ad A) ff_X12_ofStretch := mv_met_of (by decide +kernel) (by decide) hF mv_stok (mv_rzI (by decide +kernel)) mv_clok (mv_dk_ok dk_X12_ofStretch) (mv_fk_ok fk_X12) (fun p e s m args below meth c Q hBg hX hR => ⟨fun _ h => absurd h List.not_mem_nil, fun _ h => absurd h List.not_mem_nil⟩) (fun p e s m args below meth c Q hBg hX hR hK => List.forall_mem_cons.mpr ⟨mv_cal_of (cc_X12_stretch l hF) hBg hX hR hK mv_EX_ok hF mv_good mv_stok cw_X12_437.1 cw_X12_437.2.1 cw_X12_437.2.2 ⟨rfl, rfl, by exact Nat.le_of_ble_eq_true rfl, by exact Nat.le_of_ble_eq_true rfl⟩ ⟨Nat.zero_le _, Nat.zero_le _⟩, fun _ h => absurd h List.not_mem_nil⟩)
set_option maxRecDepth 20000 in
theorem cw_X12_440 : mv_Cw RX12 440 yX12_ofStretch cX12_ofStretch 5 (some .int) (some 12) 4 := mv_cw_of (a := 1917) (b := 143) (c := 1919) (d := 111) (mv_T 1920 rfl rfl) (by decide +kernel)
def ic_X12_findsStretch : List (Nat × Instr × Nat) := [(0, .bipush 62, 2), (2, .iload_n 3, 1), (3, .imul, 1), (4, .iload 4, 2), (6, .iadd, 1), (7, .istore 5, 2), (9, .aload_n 0, 1), (10, .getfield 108, 3), (13, .iload 5, 2), (15, .iconst 0, 1), (16, .iastore, 1), (17, .aload_n 0, 1), (18, .getfield 111, 3), (21, .iload 5, 2), (23, .iconst 0, 1), (24, .iastore, 1), (25, .aload_n 0, 1), (26, .getfield 114, 3), (29, .iload 5, 2), (31, .iconst 0, 1), (32, .iastore, 1), (33, .iconst 0, 1), (34, .istore 6, 2), (36, .iconst 0, 1), (37, .istore 7, 2), (39, .iload_n 3, 1), (40, .istore 8, 2), (42, .iload 8, 2), (44, .iload_n 1, 1), (45, .iadd, 1), (46, .iload 4, 2), (48, .if_icmp .gt 191, 3), (51, .aload_n 0, 1), (52, .iload 8, 2), (54, .iload_n 1, 1), (55, .invokevirtual 314, 3), (58, .ifCond .eq 6, 3), (61, .goto 172, 3), (64, .iconst 1, 1), (65, .aload_n 0, 1), (66, .aload_n 0, 1), (67, .getfield 108, 3), (70, .iload_n 3, 1), (71, .iload 8, 2), (73, .iload_n 2, 1), (74, .isub, 1), (75, .invokevirtual 440, 3), (78, .iadd, 1), (79, .aload_n 0, 1), (80, .aload_n 0, 1), (81, .getfield 108, 3), (84, .iload 8, 2), (86, .iload_n 1, 1), (87, .iadd, 1), (88, .iload_n 2, 1), (89, .iadd, 1), (90, .iload 4, 2), (92, .invokevirtual 440, 3), (95, .iadd, 1), (96, .istore 9, 2), (98, .iconst 1, 1), (99, .aload_n 0, 1), (100, .aload_n 0, 1), (101, .getfield 111, 3), (104, .iload_n 3, 1), (105, .iload 8, 2), (107, .iload_n 2, 1), (108, .isub, 1), (109, .invokevirtual 440, 3), (112, .iadd, 1), (113, .aload_n 0, 1), (114, .aload_n 0, 1), (115, .getfield 111, 3), (118, .iload 8, 2), (120, .iload_n 1, 1), (121, .iadd, 1), (122, .iload_n 2, 1), (123, .iadd, 1), (124, .iload 4, 2), (126, .invokevirtual 440, 3), (129, .iadd, 1), (130, .istore 10, 2), (132, .aload_n 0, 1), (133, .getfield 108, 3), (136, .iload 5, 2), (138, .iload 6, 2), (140, .ifCond .eq 15, 3), (143, .iload 9, 2), (145, .aload_n 0, 1), (146, .getfield 108, 3), (149, .iload 5, 2), (151, .iaload, 1), (152, .if_icmp .ge 8, 3), (155, .iload 9, 2), (157, .goto 10, 3), (160, .aload_n 0, 1), (161, .getfield 108, 3), (164, .iload 5, 2), (166, .iaload, 1), (167, .iastore, 1), (168, .aload_n 0, 1), (169, .getfield 111, 3), (172, .iload 5, 2), (174, .aload_n 0, 1), (175, .aload_n 0, 1), (176, .getfield 111, 3), (179, .iload 5, 2), (181, .iaload, 1), (182, .iload 10, 2), (184, .invokevirtual 311, 3), (187, .iastore, 1), (188, .iload 7, 2), (190, .sipush 1000, 3), (193, .iadd, 1), (194, .aload_n 0, 1), (195, .aload_n 0, 1), (196, .getfield 114, 3), (199, .iload_n 3, 1), (200, .iload 8, 2), (202, .iload_n 2, 1), (203, .isub, 1), (204, .invokevirtual 440, 3), (207, .iadd, 1), (208, .aload_n 0, 1), (209, .aload_n 0, 1), (210, .getfield 114, 3), (213, .iload 8, 2), (215, .iload_n 1, 1), (216, .iadd, 1), (217, .iload_n 2, 1), (218, .iadd, 1), (219, .iload 4, 2), (221, .invokevirtual 440, 3), (224, .iadd, 1), (225, .istore 7, 2), (227, .iload 6, 2), (229, .iconst 1, 1), (230, .iadd, 1), (231, .istore 6, 2), (233, .iinc 8 1, 3), (236, .goto (-194), 3), (239, .iload 6, 2), (241, .ifCond .le 15, 3), (244, .aload_n 0, 1), (245, .getfield 114, 3), (248, .iload 5, 2), (250, .iload 7, 2), (252, .iload 6, 2), (254, .idiv, 1), (255, .iastore, 1), (256, .return_, 1)]
noncomputable def mm_X12_findsStretch : mv_M := (ic_X12_findsStretch, fl_X12, [], [], [(314, 3, some 12, false, ff_X12_isOverRest), (440, 4, some 12, false, ff_X12_ofStretch), (311, 3, some 12, false, ff_X12_greater)], [(42, [true, true, true, true, true, true, true, true, true, false, false])], none)
noncomputable def ff_X12_findsStretch : mv_F := mv_fn mv_rc mm_X12_findsStretch mv_sh 400 11
theorem dk_X12_findsStretch : mv_dk cX12_findsStretch ic_X12_findsStretch = true := by decide +kernel
set_option maxRecDepth 20000 in
theorem cc_X12_findsStretch {ad : Nat → Nat → Value} {cA : Nat → ClassId} {D : va_G} {tys : List (ClassId × FieldType)} {A : Nat → Prop} (l : Launch) (hF : mv_Fix mv_sh mv_ids mv_ros ad cA tys A mv_rc) : mv_Met l yX12_findsStretch cX12_findsStretch 11 none mv_Ts (mv_rm 4) 5 true mv_sh mv_ids mv_ros ad cA mv_cl D tys A mv_rc mv_cr (mv_EX ad A) ff_X12_findsStretch := mv_met_of (by decide +kernel) (by decide) hF mv_stok (mv_rzV (by decide +kernel)) mv_clok (mv_dk_ok dk_X12_findsStretch) (mv_fk_ok fk_X12) (fun p e s m args below meth c Q hBg hX hR => ⟨fun _ h => absurd h List.not_mem_nil, fun _ h => absurd h List.not_mem_nil⟩) (fun p e s m args below meth c Q hBg hX hR hK => List.forall_mem_cons.mpr ⟨mv_cal_of (cc_X12_isOverRest l hF) hBg hX hR hK mv_EX_ok hF mv_good mv_stok cw_X12_314.1 cw_X12_314.2.1 cw_X12_314.2.2 ⟨rfl, rfl, by exact Nat.le_of_ble_eq_true rfl, by exact Nat.le_of_ble_eq_true rfl⟩ ⟨Nat.zero_le _, Nat.zero_le _⟩, List.forall_mem_cons.mpr ⟨mv_cal_of (cc_X12_ofStretch l hF) hBg hX hR hK mv_EX_ok hF mv_good mv_stok cw_X12_440.1 cw_X12_440.2.1 cw_X12_440.2.2 ⟨rfl, rfl, by exact Nat.le_of_ble_eq_true rfl, by exact Nat.le_of_ble_eq_true rfl⟩ ⟨Nat.zero_le _, Nat.zero_le _⟩, List.forall_mem_cons.mpr ⟨mv_cal_of (cc_X12_greater l hF) hBg hX hR hK mv_EX_ok hF mv_good mv_stok cw_X12_311.1 cw_X12_311.2.1 cw_X12_311.2.2 ⟨rfl, rfl, by exact Nat.le_of_ble_eq_true rfl, by exact Nat.le_of_ble_eq_true rfl⟩ ⟨Nat.zero_le _, Nat.zero_le _⟩, fun _ h => absurd h List.not_mem_nil⟩⟩⟩)
set_option maxRecDepth 20000 in
theorem cw_X12_444 : mv_Cw RX12 444 yX12_findsStretch cX12_findsStretch 11 none (some 12) 5 := mv_cw_of (a := 1913) (b := 143) (c := 1915) (d := 110) (mv_T 1916 rfl rfl) (by decide +kernel)
def ic_X12_findsStretches : List (Nat × Instr × Nat) := [(0, .iconst 0, 1), (1, .istore_n 3, 1), (2, .iload_n 3, 1), (3, .aload_n 0, 1), (4, .invokevirtual 149, 3), (7, .if_icmp .gt 41, 3), (10, .iconst 0, 1), (11, .istore 4, 2), (13, .iload 4, 2), (15, .iload_n 3, 1), (16, .iadd, 1), (17, .aload_n 0, 1), (18, .invokevirtual 149, 3), (21, .if_icmp .gt 21, 3), (24, .aload_n 0, 1), (25, .iload_n 1, 1), (26, .iload_n 2, 1), (27, .iload 4, 2), (29, .iload 4, 2), (31, .iload_n 3, 1), (32, .iadd, 1), (33, .invokevirtual 444, 3), (36, .iinc 4 1, 3), (39, .goto (-26), 3), (42, .iinc 3 1, 3), (45, .goto (-43), 3), (48, .return_, 1)]
noncomputable def mm_X12_findsStretches : mv_M := (ic_X12_findsStretches, fl_X12, [], [], [(149, 1, some 12, false, ff_X12_length), (444, 5, some 12, true, ff_X12_findsStretch)], [(2, [true, true, true, true, false]), (13, [true, true, true, true, true])], none)
noncomputable def ff_X12_findsStretches : mv_F := mv_fn mv_rc mm_X12_findsStretches mv_sh 400 5
theorem dk_X12_findsStretches : mv_dk cX12_findsStretches ic_X12_findsStretches = true := by decide +kernel
set_option maxRecDepth 20000 in
theorem cc_X12_findsStretches {ad : Nat → Nat → Value} {cA : Nat → ClassId} {D : va_G} {tys : List (ClassId × FieldType)} {A : Nat → Prop} (l : Launch) (hF : mv_Fix mv_sh mv_ids mv_ros ad cA tys A mv_rc) : mv_Met l yX12_findsStretches cX12_findsStretches 5 none mv_Ts (mv_rm 5) 3 true mv_sh mv_ids mv_ros ad cA mv_cl D tys A mv_rc mv_cr (mv_EX ad A) ff_X12_findsStretches := mv_met_of (by decide +kernel) (by decide) hF mv_stok (mv_rzV (by decide +kernel)) mv_clok (mv_dk_ok dk_X12_findsStretches) (mv_fk_ok fk_X12) (fun p e s m args below meth c Q hBg hX hR => ⟨fun _ h => absurd h List.not_mem_nil, fun _ h => absurd h List.not_mem_nil⟩) (fun p e s m args below meth c Q hBg hX hR hK => List.forall_mem_cons.mpr ⟨mv_cal_of (cc_X12_length l hF) hBg hX hR hK mv_EX_ok hF mv_good mv_stok cw_X12_149.1 cw_X12_149.2.1 cw_X12_149.2.2 ⟨rfl, rfl, by exact Nat.le_of_ble_eq_true rfl, by exact Nat.le_of_ble_eq_true rfl⟩ ⟨Nat.zero_le _, Nat.zero_le _⟩, List.forall_mem_cons.mpr ⟨mv_cal_of (cc_X12_findsStretch l hF) hBg hX hR hK mv_EX_ok hF mv_good mv_stok cw_X12_444.1 cw_X12_444.2.1 cw_X12_444.2.2 ⟨rfl, rfl, by exact Nat.le_of_ble_eq_true rfl, by exact Nat.le_of_ble_eq_true rfl⟩ ⟨Nat.zero_le _, Nat.zero_le _⟩, fun _ h => absurd h List.not_mem_nil⟩⟩)
def ic_X12_fills : List (Nat × Instr × Nat) := [(0, .aload_n 0, 1), (1, .iconst 0, 1), (2, .putfield 448, 3), (5, .aload_n 0, 1), (6, .iconst 0, 1), (7, .putfield 451, 3), (10, .aload_n 0, 1), (11, .iconst 0, 1), (12, .putfield 454, 3), (15, .iconst 0, 1), (16, .istore_n 2, 1), (17, .iload_n 2, 1), (18, .aload_n 0, 1), (19, .getfield 289, 3), (22, .if_icmp .gt 135, 3), (25, .iload_n 2, 1), (26, .ifCond .ne 7, 3), (29, .iconst 0, 1), (30, .goto 25, 3), (33, .aload_n 0, 1), (34, .getfield 84, 3), (37, .iload_n 2, 1), (38, .iconst 1, 1), (39, .isub, 1), (40, .iaload, 1), (41, .aload_n 0, 1), (42, .iload_n 1, 1), (43, .aload_n 0, 1), (44, .getfield 87, 3), (47, .iload_n 2, 1), (48, .iconst 1, 1), (49, .isub, 1), (50, .iaload, 1), (51, .invokevirtual 311, 3), (54, .iadd, 1), (55, .istore_n 3, 1), (56, .iload_n 2, 1), (57, .aload_n 0, 1), (58, .getfield 289, 3), (61, .if_icmp .ne 10, 3), (64, .aload_n 0, 1), (65, .invokevirtual 149, 3), (68, .goto 21, 3), (71, .aload_n 0, 1), (72, .getfield 81, 3), (75, .iload_n 2, 1), (76, .iaload, 1), (77, .aload_n 0, 1), (78, .iload_n 1, 1), (79, .aload_n 0, 1), (80, .getfield 87, 3), (83, .iload_n 2, 1), (84, .iaload, 1), (85, .invokevirtual 311, 3), (88, .isub, 1), (89, .istore 4, 2), (91, .aload_n 0, 1), (92, .aload_n 0, 1), (93, .getfield 448, 3), (96, .aload_n 0, 1), (97, .aload_n 0, 1), (98, .getfield 108, 3), (101, .iload_n 3, 1), (102, .iload 4, 2), (104, .invokevirtual 440, 3), (107, .iadd, 1), (108, .putfield 448, 3), (111, .aload_n 0, 1), (112, .aload_n 0, 1), (113, .getfield 451, 3), (116, .aload_n 0, 1), (117, .aload_n 0, 1), (118, .getfield 111, 3), (121, .iload_n 3, 1), (122, .iload 4, 2), (124, .invokevirtual 440, 3), (127, .iadd, 1), (128, .putfield 451, 3), (131, .aload_n 0, 1), (132, .aload_n 0, 1), (133, .getfield 454, 3), (136, .aload_n 0, 1), (137, .aload_n 0, 1), (138, .getfield 114, 3), (141, .iload_n 3, 1), (142, .iload 4, 2), (144, .invokevirtual 440, 3), (147, .iadd, 1), (148, .putfield 454, 3), (151, .iinc 2 1, 3), (154, .goto (-137), 3), (157, .return_, 1)]
noncomputable def mm_X12_fills : mv_M := (ic_X12_fills, fl_X12, [], [], [(311, 3, some 12, false, ff_X12_greater), (149, 1, some 12, false, ff_X12_length), (440, 4, some 12, false, ff_X12_ofStretch)], [(17, [true, true, true, false, false])], none)
noncomputable def ff_X12_fills : mv_F := mv_fn mv_rc mm_X12_fills mv_sh 400 5
theorem dk_X12_fills : mv_dk cX12_fills ic_X12_fills = true := by decide +kernel
set_option maxRecDepth 20000 in
theorem cc_X12_fills {ad : Nat → Nat → Value} {cA : Nat → ClassId} {D : va_G} {tys : List (ClassId × FieldType)} {A : Nat → Prop} (l : Launch) (hF : mv_Fix mv_sh mv_ids mv_ros ad cA tys A mv_rc) : mv_Met l yX12_fills cX12_fills 5 none mv_Ts (mv_rm 4) 2 true mv_sh mv_ids mv_ros ad cA mv_cl D tys A mv_rc mv_cr (mv_EX ad A) ff_X12_fills := mv_met_of (by decide +kernel) (by decide) hF mv_stok (mv_rzV (by decide +kernel)) mv_clok (mv_dk_ok dk_X12_fills) (mv_fk_ok fk_X12) (fun p e s m args below meth c Q hBg hX hR => ⟨fun _ h => absurd h List.not_mem_nil, fun _ h => absurd h List.not_mem_nil⟩) (fun p e s m args below meth c Q hBg hX hR hK => List.forall_mem_cons.mpr ⟨mv_cal_of (cc_X12_greater l hF) hBg hX hR hK mv_EX_ok hF mv_good mv_stok cw_X12_311.1 cw_X12_311.2.1 cw_X12_311.2.2 ⟨rfl, rfl, by exact Nat.le_of_ble_eq_true rfl, by exact Nat.le_of_ble_eq_true rfl⟩ ⟨Nat.zero_le _, Nat.zero_le _⟩, List.forall_mem_cons.mpr ⟨mv_cal_of (cc_X12_length l hF) hBg hX hR hK mv_EX_ok hF mv_good mv_stok cw_X12_149.1 cw_X12_149.2.1 cw_X12_149.2.2 ⟨rfl, rfl, by exact Nat.le_of_ble_eq_true rfl, by exact Nat.le_of_ble_eq_true rfl⟩ ⟨Nat.zero_le _, Nat.zero_le _⟩, List.forall_mem_cons.mpr ⟨mv_cal_of (cc_X12_ofStretch l hF) hBg hX hR hK mv_EX_ok hF mv_good mv_stok cw_X12_440.1 cw_X12_440.2.1 cw_X12_440.2.2 ⟨rfl, rfl, by exact Nat.le_of_ble_eq_true rfl, by exact Nat.le_of_ble_eq_true rfl⟩ ⟨Nat.zero_le _, Nat.zero_le _⟩, fun _ h => absurd h List.not_mem_nil⟩⟩⟩)
set_option maxRecDepth 20000 in
theorem cw_X12_457 : mv_Cw RX12 457 yX12_areAlike cX12_areAlike 3 (some .boolean) (some 12) 3 := mv_cw_of (a := 1901) (b := 143) (c := 1903) (d := 107) (mv_T 1904 rfl rfl) (by decide +kernel)
set_option maxRecDepth 20000 in
theorem cw_X12_463 : mv_Cw RX12 463 yX12_findsStretches cX12_findsStretches 5 none (some 12) 3 := mv_cw_of (a := 1909) (b := 143) (c := 1911) (d := 109) (mv_T 1912 rfl rfl) (by decide +kernel)
set_option maxRecDepth 20000 in
theorem cw_X12_466 : mv_Cw RX12 466 yX12_fills cX12_fills 5 none (some 12) 2 := mv_cw_of (a := 1925) (b := 143) (c := 1927) (d := 113) (mv_T 1928 rfl rfl) (by decide +kernel)
def ic_X12_gives : List (Nat × Instr × Nat) := [(0, .aload_n 0, 1), (1, .iconst 0, 1), (2, .putfield 126, 3), (5, .aload_n 0, 1), (6, .iload_n 1, 1), (7, .iload_n 2, 1), (8, .invokevirtual 457, 3), (11, .ifCond .ne 5, 3), (14, .iconst (-1), 1), (15, .ireturn, 1), (16, .aload_n 0, 1), (17, .iload_n 1, 1), (18, .iload_n 2, 1), (19, .invokevirtual 463, 3), (22, .iconst (-1), 1), (23, .istore_n 3, 1), (24, .iconst (-1), 1), (25, .istore 4, 2), (27, .iconst 0, 1), (28, .istore 5, 2), (30, .iload 5, 2), (32, .aload_n 0, 1), (33, .getfield 139, 3), (36, .if_icmp .ge 69, 3), (39, .aload_n 0, 1), (40, .iload 5, 2), (42, .invokevirtual 153, 3), (45, .ifCond .ne 6, 3), (48, .goto 51, 3), (51, .aload_n 0, 1), (52, .aload_n 0, 1), (53, .invokevirtual 344, 3), (56, .iconst 1, 1), (57, .iload 5, 2), (59, .ishl, 1), (60, .iconst (-1), 1), (61, .ixor, 1), (62, .iand, 1), (63, .invokevirtual 347, 3), (66, .aload_n 0, 1), (67, .iload_n 2, 1), (68, .invokevirtual 466, 3), (71, .aload_n 0, 1), (72, .getfield 451, 3), (75, .iload 4, 2), (77, .if_icmp .le 8, 3), (80, .iload 5, 2), (82, .goto 4, 3), (85, .iload_n 3, 1), (86, .istore_n 3, 1), (87, .aload_n 0, 1), (88, .aload_n 0, 1), (89, .getfield 451, 3), (92, .iload 4, 2), (94, .invokevirtual 311, 3), (97, .istore 4, 2), (99, .iinc 5 1, 3), (102, .goto (-72), 3), (105, .iload_n 3, 1), (106, .ireturn, 1)]
noncomputable def mm_X12_gives : mv_M := (ic_X12_gives, fl_X12, [], [], [(457, 3, some 12, false, ff_X12_areAlike), (463, 3, some 12, true, ff_X12_findsStretches), (153, 2, some 12, false, ff_X12_sits), (344, 1, some 12, false, ff_X12_everyone), (347, 2, some 12, true, ff_X12_lists), (466, 2, some 12, true, ff_X12_fills), (311, 3, some 12, false, ff_X12_greater)], [(30, [true, false, true, true, true, true])], none)
noncomputable def ff_X12_gives : mv_F := mv_fn mv_rc mm_X12_gives mv_sh 400 6
theorem dk_X12_gives : mv_dk cX12_gives ic_X12_gives = true := by decide +kernel
set_option maxRecDepth 20000 in
theorem cc_X12_gives {ad : Nat → Nat → Value} {cA : Nat → ClassId} {D : va_G} {tys : List (ClassId × FieldType)} {A : Nat → Prop} (l : Launch) (hF : mv_Fix mv_sh mv_ids mv_ros ad cA tys A mv_rc) : mv_Met l yX12_gives cX12_gives 6 (some .int) mv_Ts (mv_rm 6) 3 false mv_sh mv_ids mv_ros ad cA mv_cl D tys A mv_rc mv_cr (mv_EX ad A) ff_X12_gives := mv_met_of (by decide +kernel) (by decide) hF mv_stok (mv_rzI (by decide +kernel)) mv_clok (mv_dk_ok dk_X12_gives) (mv_fk_ok fk_X12) (fun p e s m args below meth c Q hBg hX hR => ⟨fun _ h => absurd h List.not_mem_nil, fun _ h => absurd h List.not_mem_nil⟩) (fun p e s m args below meth c Q hBg hX hR hK => List.forall_mem_cons.mpr ⟨mv_cal_of (cc_X12_areAlike l hF) hBg hX hR hK mv_EX_ok hF mv_good mv_stok cw_X12_457.1 cw_X12_457.2.1 cw_X12_457.2.2 ⟨rfl, rfl, by exact Nat.le_of_ble_eq_true rfl, by exact Nat.le_of_ble_eq_true rfl⟩ ⟨Nat.zero_le _, Nat.zero_le _⟩, List.forall_mem_cons.mpr ⟨mv_cal_of (cc_X12_findsStretches l hF) hBg hX hR hK mv_EX_ok hF mv_good mv_stok cw_X12_463.1 cw_X12_463.2.1 cw_X12_463.2.2 ⟨rfl, rfl, by exact Nat.le_of_ble_eq_true rfl, by exact Nat.le_of_ble_eq_true rfl⟩ ⟨Nat.zero_le _, Nat.zero_le _⟩, List.forall_mem_cons.mpr ⟨mv_cal_of (cc_X12_sits l hF) hBg hX hR hK mv_EX_ok hF mv_good mv_stok cw_X12_153.1 cw_X12_153.2.1 cw_X12_153.2.2 ⟨rfl, rfl, by exact Nat.le_of_ble_eq_true rfl, by exact Nat.le_of_ble_eq_true rfl⟩ ⟨Nat.zero_le _, Nat.zero_le _⟩, List.forall_mem_cons.mpr ⟨mv_cal_of (cc_X12_everyone l hF) hBg hX hR hK mv_EX_ok hF mv_good mv_stok cw_X12_344.1 cw_X12_344.2.1 cw_X12_344.2.2 ⟨rfl, rfl, by exact Nat.le_of_ble_eq_true rfl, by exact Nat.le_of_ble_eq_true rfl⟩ ⟨Nat.zero_le _, Nat.zero_le _⟩, List.forall_mem_cons.mpr ⟨mv_cal_of (cc_X12_lists l hF) hBg hX hR hK mv_EX_ok hF mv_good mv_stok cw_X12_347.1 cw_X12_347.2.1 cw_X12_347.2.2 ⟨rfl, rfl, by exact Nat.le_of_ble_eq_true rfl, by exact Nat.le_of_ble_eq_true rfl⟩ ⟨Nat.zero_le _, Nat.zero_le _⟩, List.forall_mem_cons.mpr ⟨mv_cal_of (cc_X12_fills l hF) hBg hX hR hK mv_EX_ok hF mv_good mv_stok cw_X12_466.1 cw_X12_466.2.1 cw_X12_466.2.2 ⟨rfl, rfl, by exact Nat.le_of_ble_eq_true rfl, by exact Nat.le_of_ble_eq_true rfl⟩ ⟨Nat.zero_le _, Nat.zero_le _⟩, List.forall_mem_cons.mpr ⟨mv_cal_of (cc_X12_greater l hF) hBg hX hR hK mv_EX_ok hF mv_good mv_stok cw_X12_311.1 cw_X12_311.2.1 cw_X12_311.2.2 ⟨rfl, rfl, by exact Nat.le_of_ble_eq_true rfl, by exact Nat.le_of_ble_eq_true rfl⟩ ⟨Nat.zero_le _, Nat.zero_le _⟩, fun _ h => absurd h List.not_mem_nil⟩⟩⟩⟩⟩⟩⟩)
end
section
def ic_X11_allowed : List (Nat × Instr × Nat) := [(0, .iload_n 0, 1), (1, .ifCond .lt 33, 3), (4, .iload_n 0, 1), (5, .getstatic 314, 3), (8, .arraylength, 1), (9, .if_icmp .ge 25, 3), (12, .iload_n 1, 1), (13, .getstatic 317, 3), (16, .iload_n 0, 1), (17, .iaload, 1), (18, .if_icmp .lt 16, 3), (21, .iload_n 1, 1), (22, .getstatic 314, 3), (25, .iload_n 0, 1), (26, .iaload, 1), (27, .if_icmp .gt 7, 3), (30, .iconst 1, 1), (31, .goto 4, 3), (34, .iconst 0, 1), (35, .ireturn, 1)]
noncomputable def mm_X11_allowed : mv_M := (ic_X11_allowed, fl_X11, [], [(314, .inr (1001, 0)), (317, .inr (1000, 0))], [], [], (some (0, 1)))
noncomputable def ff_X11_allowed : mv_F := mv_fn mv_rc mm_X11_allowed mv_sh 400 2
theorem dk_X11_allowed : mv_dk cX11_allowed ic_X11_allowed = true := by decide +kernel
set_option maxRecDepth 20000 in
theorem cc_X11_allowed {ad : Nat → Nat → Value} {cA : Nat → ClassId} {D : va_G} {tys : List (ClassId × FieldType)} {A : Nat → Prop} (l : Launch) (hF : mv_Fix mv_sh mv_ids mv_ros ad cA tys A mv_rc) : mv_Met l yX11_allowed cX11_allowed 2 (some .boolean) mv_Ts (mv_rm 1) 2 false mv_sh mv_ids mv_ros ad cA mv_cl D tys A mv_rc mv_cr (mv_EX ad A) ff_X11_allowed := mv_met_of (by decide +kernel) (by decide) hF mv_stok (mv_rzZ (by decide +kernel) rfl) mv_clok (mv_dk_ok dk_X11_allowed) (mv_fk_ok fk_X11) (fun p e s m args below meth c Q hBg hX hR => ⟨fun _ h => absurd h List.not_mem_nil, List.forall_mem_cons.mpr ⟨mv_st_z hBg (Or.inl (by decide +kernel)) (mv_T 654 rfl rfl) hX.1, List.forall_mem_cons.mpr ⟨mv_st_z hBg (Or.inl (by decide +kernel)) (mv_T 655 rfl rfl) hX.2.1, fun _ h => absurd h List.not_mem_nil⟩⟩⟩) (fun p e s m args below meth c Q hBg hX hR hK => fun _ h => absurd h List.not_mem_nil)
def ic_X4_ofAlike : List (Nat × Instr × Nat) := [(0, .aload_n 0, 1), (1, .iload_n 1, 1), (2, .iconst 1, 1), (3, .invokestatic 38, 3), (6, .putfield 26, 3), (9, .aload_n 0, 1), (10, .iload_n 2, 1), (11, .iconst 0, 1), (12, .invokestatic 38, 3), (15, .putfield 44, 3), (18, .return_, 1)]
noncomputable def mm_X4_ofAlike : mv_M := (ic_X4_ofAlike, fl_X4, [], [], [(38, 2, none, false, mv_max)], [], none)
noncomputable def ff_X4_ofAlike : mv_F := mv_fn mv_rc mm_X4_ofAlike mv_sh 400 3
theorem dk_X4_ofAlike : mv_dk cX4_ofAlike ic_X4_ofAlike = true := by decide +kernel
set_option maxRecDepth 20000 in
theorem cc_X4_ofAlike {ad : Nat → Nat → Value} {cA : Nat → ClassId} {D : va_G} {tys : List (ClassId × FieldType)} {A : Nat → Prop} (l : Launch) (hF : mv_Fix mv_sh mv_ids mv_ros ad cA tys A mv_rc) : mv_Met l yX4_ofAlike cX4_ofAlike 3 none mv_Ts (mv_rm 1) 3 true mv_sh mv_ids mv_ros ad cA mv_cl D tys A mv_rc mv_cr (mv_EX ad A) ff_X4_ofAlike := mv_met_of (by decide +kernel) (by decide) hF mv_stok (mv_rzV (by decide +kernel)) mv_clok (mv_dk_ok dk_X4_ofAlike) (mv_fk_ok fk_X4) (fun p e s m args below meth c Q hBg hX hR => ⟨fun _ h => absurd h List.not_mem_nil, fun _ h => absurd h List.not_mem_nil⟩) (fun p e s m args below meth c Q hBg hX hR hK => List.forall_mem_cons.mpr ⟨mv_cal_max hBg ⟨mv_T 1151 rfl rfl, mv_T 235 rfl rfl, mv_T 133 rfl rfl, mv_T 236 rfl rfl⟩ ⟨by decide, by decide⟩ ⟨Nat.zero_le _, Nat.zero_le _⟩, fun _ h => absurd h List.not_mem_nil⟩)
def ic_X4_isClear : List (Nat × Instr × Nat) := [(0, .iload_n 2, 1), (1, .ifCond .lt 25, 3), (4, .iload_n 2, 1), (5, .aload_n 1, 1), (6, .arraylength, 1), (7, .if_icmp .ge 19, 3), (10, .iload_n 2, 1), (11, .aload_n 0, 1), (12, .getfield 26, 3), (15, .iadd, 1), (16, .aload_n 1, 1), (17, .iload_n 2, 1), (18, .iaload, 1), (19, .if_icmp .gt 7, 3), (22, .iconst 1, 1), (23, .goto 4, 3), (26, .iconst 0, 1), (27, .ireturn, 1)]
noncomputable def mm_X4_isClear : mv_M := (ic_X4_isClear, fl_X4, [], [], [], [], (some (0, 1)))
noncomputable def ff_X4_isClear : mv_F := mv_fn mv_rc mm_X4_isClear mv_sh 400 3
theorem dk_X4_isClear : mv_dk cX4_isClear ic_X4_isClear = true := by decide +kernel
set_option maxRecDepth 20000 in
theorem cc_X4_isClear {ad : Nat → Nat → Value} {cA : Nat → ClassId} {D : va_G} {tys : List (ClassId × FieldType)} {A : Nat → Prop} (l : Launch) (hF : mv_Fix mv_sh mv_ids mv_ros ad cA tys A mv_rc) : mv_Met l yX4_isClear cX4_isClear 3 (some .boolean) mv_Ts (mv_rm 1) 3 false mv_sh mv_ids mv_ros ad cA mv_cl D tys A mv_rc mv_cr (mv_EX ad A) ff_X4_isClear := mv_met_of (by decide +kernel) (by decide) hF mv_stok (mv_rzZ (by decide +kernel) rfl) mv_clok (mv_dk_ok dk_X4_isClear) (mv_fk_ok fk_X4) (fun p e s m args below meth c Q hBg hX hR => ⟨fun _ h => absurd h List.not_mem_nil, fun _ h => absurd h List.not_mem_nil⟩) (fun p e s m args below meth c Q hBg hX hR hK => fun _ h => absurd h List.not_mem_nil)
set_option maxRecDepth 20000 in
theorem cw_X4_87 : mv_Cw RX4 87 yX4_isClear cX4_isClear 3 (some .boolean) (some 4) 3 := mv_cw_of (a := 1160) (b := 140) (c := 1162) (d := 29) (mv_T 1163 rfl rfl) (by decide +kernel)
def ic_X4_fewest : List (Nat × Instr × Nat) := [(0, .iconst (-1), 1), (1, .istore 4, 2), (3, .iload_n 3, 1), (4, .istore 5, 2), (6, .iload 5, 2), (8, .iload_n 2, 1), (9, .if_icmp .lt 160, 3), (12, .iload 5, 2), (14, .aload_n 0, 1), (15, .getfield 26, 3), (18, .iadd, 1), (19, .iload_n 3, 1), (20, .if_icmp .gt 17, 3), (23, .aload_n 0, 1), (24, .aload_n 1, 1), (25, .iload 5, 2), (27, .invokevirtual 87, 3), (30, .ifCond .eq 7, 3), (33, .iload 5, 2), (35, .istore 4, 2), (37, .iload 4, 2), (39, .iconst (-1), 1), (40, .if_icmp .ne 7, 3), (43, .iconst 0, 1), (44, .goto 5, 3), (47, .bipush 60, 2), (49, .istore 6, 2), (51, .iload 4, 2), (53, .iconst (-1), 1), (54, .if_icmp .ne 8, 3), (57, .bipush (-2), 2), (59, .goto 26, 3), (62, .iload 4, 2), (64, .aload_n 0, 1), (65, .getfield 26, 3), (68, .iadd, 1), (69, .aload_n 0, 1), (70, .getfield 44, 3), (73, .iadd, 1), (74, .iconst 1, 1), (75, .isub, 1), (76, .iload_n 3, 1), (77, .aload_n 0, 1), (78, .getfield 26, 3), (81, .isub, 1), (82, .invokestatic 91, 3), (85, .istore 7, 2), (87, .iload 4, 2), (89, .istore 8, 2), (91, .iload 8, 2), (93, .iload 7, 2), (95, .if_icmp .gt 59, 3), (98, .aload_n 0, 1), (99, .aload_n 1, 1), (100, .iload 8, 2), (102, .invokevirtual 87, 3), (105, .ifCond .eq 43, 3), (108, .iload 8, 2), (110, .aload_n 0, 1), (111, .getfield 26, 3), (114, .iadd, 1), (115, .aload_n 0, 1), (116, .getfield 44, 3), (119, .iadd, 1), (120, .istore 9, 2), (122, .iload 6, 2), (124, .iload 9, 2), (126, .iload_n 3, 1), (127, .if_icmp .le 7, 3), (130, .iconst 1, 1), (131, .goto 12, 3), (134, .iconst 1, 1), (135, .aload_n 0, 1), (136, .getfield 15, 3), (139, .iload 9, 2), (141, .iaload, 1), (142, .iadd, 1), (143, .invokestatic 91, 3), (146, .istore 6, 2), (148, .iinc 8 1, 3), (151, .goto (-60), 3), (154, .aload_n 0, 1), (155, .getfield 15, 3), (158, .iload 5, 2), (160, .iload 6, 2), (162, .iastore, 1), (163, .iinc 5 (-1), 3), (166, .goto (-160), 3), (169, .aload_n 0, 1), (170, .getfield 15, 3), (173, .iload_n 2, 1), (174, .iaload, 1), (175, .ireturn, 1)]
noncomputable def mm_X4_fewest : mv_M := (ic_X4_fewest, fl_X4, [], [], [(87, 3, some 4, false, ff_X4_isClear), (91, 2, none, false, mv_min)], [(6, [true, true, true, true, true, true, false, false, false, false]), (91, [true, true, true, true, true, true, true, true, true, false])], none)
noncomputable def ff_X4_fewest : mv_F := mv_fn mv_rc mm_X4_fewest mv_sh 400 10
theorem dk_X4_fewest : mv_dk cX4_fewest ic_X4_fewest = true := by decide +kernel
set_option maxRecDepth 20000 in
theorem cc_X4_fewest {ad : Nat → Nat → Value} {cA : Nat → ClassId} {D : va_G} {tys : List (ClassId × FieldType)} {A : Nat → Prop} (l : Launch) (hF : mv_Fix mv_sh mv_ids mv_ros ad cA tys A mv_rc) : mv_Met l yX4_fewest cX4_fewest 10 (some .int) mv_Ts (mv_rm 2) 4 false mv_sh mv_ids mv_ros ad cA mv_cl D tys A mv_rc mv_cr (mv_EX ad A) ff_X4_fewest := mv_met_of (by decide +kernel) (by decide) hF mv_stok (mv_rzI (by decide +kernel)) mv_clok (mv_dk_ok dk_X4_fewest) (mv_fk_ok fk_X4) (fun p e s m args below meth c Q hBg hX hR => ⟨fun _ h => absurd h List.not_mem_nil, fun _ h => absurd h List.not_mem_nil⟩) (fun p e s m args below meth c Q hBg hX hR hK => List.forall_mem_cons.mpr ⟨mv_cal_of (cc_X4_isClear l hF) hBg hX hR hK mv_EX_ok hF mv_good mv_stok cw_X4_87.1 cw_X4_87.2.1 cw_X4_87.2.2 ⟨rfl, rfl, by exact Nat.le_of_ble_eq_true rfl, by exact Nat.le_of_ble_eq_true rfl⟩ ⟨Nat.zero_le _, Nat.zero_le _⟩, List.forall_mem_cons.mpr ⟨mv_cal_min hBg ⟨mv_T 1164 rfl rfl, mv_T 238 rfl rfl, mv_T 133 rfl rfl, mv_T 239 rfl rfl⟩ ⟨by decide, by decide⟩ ⟨Nat.zero_le _, Nat.zero_le _⟩, fun _ h => absurd h List.not_mem_nil⟩⟩)
def ic_X4_most : List (Nat × Instr × Nat) := [(0, .iconst 0, 1), (1, .istore_n 3, 1), (2, .iload_n 1, 1), (3, .istore 4, 2), (5, .iload_n 1, 1), (6, .istore 5, 2), (8, .iload 5, 2), (10, .aload_n 0, 1), (11, .getfield 26, 3), (14, .iadd, 1), (15, .iload_n 2, 1), (16, .if_icmp .gt 49, 3), (19, .iload 5, 2), (21, .iload 4, 2), (23, .if_icmp .lt 36, 3), (26, .aload_n 0, 1), (27, .aload_n 0, 1), (28, .getfield 30, 3), (31, .getfield 65, 3), (34, .iload 5, 2), (36, .invokevirtual 87, 3), (39, .ifCond .eq 20, 3), (42, .iinc 3 1, 3), (45, .iload 5, 2), (47, .aload_n 0, 1), (48, .getfield 26, 3), (51, .iadd, 1), (52, .aload_n 0, 1), (53, .getfield 44, 3), (56, .iadd, 1), (57, .istore 4, 2), (59, .iinc 5 1, 3), (62, .goto (-54), 3), (65, .iload_n 3, 1), (66, .ireturn, 1)]
noncomputable def mm_X4_most : mv_M := (ic_X4_most, fl_X4, [], [], [(87, 3, some 4, false, ff_X4_isClear)], [(8, [true, false, true, true, true, true])], none)
noncomputable def ff_X4_most : mv_F := mv_fn mv_rc mm_X4_most mv_sh 400 6
theorem dk_X4_most : mv_dk cX4_most ic_X4_most = true := by decide +kernel
set_option maxRecDepth 20000 in
theorem cc_X4_most {ad : Nat → Nat → Value} {cA : Nat → ClassId} {D : va_G} {tys : List (ClassId × FieldType)} {A : Nat → Prop} (l : Launch) (hF : mv_Fix mv_sh mv_ids mv_ros ad cA tys A mv_rc) : mv_Met l yX4_most cX4_most 6 (some .int) mv_Ts (mv_rm 2) 3 false mv_sh mv_ids mv_ros ad cA mv_cl D tys A mv_rc mv_cr (mv_EX ad A) ff_X4_most := mv_met_of (by decide +kernel) (by decide) hF mv_stok (mv_rzI (by decide +kernel)) mv_clok (mv_dk_ok dk_X4_most) (mv_fk_ok fk_X4) (fun p e s m args below meth c Q hBg hX hR => ⟨fun _ h => absurd h List.not_mem_nil, fun _ h => absurd h List.not_mem_nil⟩) (fun p e s m args below meth c Q hBg hX hR hK => List.forall_mem_cons.mpr ⟨mv_cal_of (cc_X4_isClear l hF) hBg hX hR hK mv_EX_ok hF mv_good mv_stok cw_X4_87.1 cw_X4_87.2.1 cw_X4_87.2.2 ⟨rfl, rfl, by exact Nat.le_of_ble_eq_true rfl, by exact Nat.le_of_ble_eq_true rfl⟩ ⟨Nat.zero_le _, Nat.zero_le _⟩, fun _ h => absurd h List.not_mem_nil⟩)
def ic_J7_fill_53178 : List (Nat × Instr × Nat) := [(0, .iconst 0, 1), (1, .istore_n 2, 1), (2, .aload_n 0, 1), (3, .arraylength, 1), (4, .istore_n 3, 1), (5, .iload_n 2, 1), (6, .iload_n 3, 1), (7, .if_icmp .ge 13, 3), (10, .aload_n 0, 1), (11, .iload_n 2, 1), (12, .iload_n 1, 1), (13, .iastore, 1), (14, .iinc 2 1, 3), (17, .goto (-12), 3), (20, .return_, 1)]
noncomputable def mm_J7_fill_53178 : mv_M := (ic_J7_fill_53178, [], [], [], [], [(5, [true, true, true, true])], none)
noncomputable def ff_J7_fill_53178 : mv_F := mv_fn mv_rc mm_J7_fill_53178 mv_sh 400 4
theorem dk_J7_fill_53178 : mv_dk cJ7_fill_53178 ic_J7_fill_53178 = true := by decide +kernel
set_option maxRecDepth 20000 in
theorem cc_J7_fill_53178 {ad : Nat → Nat → Value} {cA : Nat → ClassId} {D : va_G} {tys : List (ClassId × FieldType)} {A : Nat → Prop} (l : Launch) (hF : mv_Fix mv_sh mv_ids mv_ros ad cA tys A mv_rc) : mv_Met l yJ7_fill_53178 cJ7_fill_53178 4 none mv_Ts (mv_rm 1) 2 true mv_sh mv_ids mv_ros ad cA mv_cl D tys A mv_rc mv_cr (mv_EX ad A) ff_J7_fill_53178 := mv_met_of (by decide +kernel) (by decide) hF mv_stok (mv_rzV (by decide +kernel)) mv_clok (mv_dk_ok dk_J7_fill_53178) (fun _ h => absurd h List.not_mem_nil) (fun p e s m args below meth c Q hBg hX hR => ⟨fun _ h => absurd h List.not_mem_nil, fun _ h => absurd h List.not_mem_nil⟩) (fun p e s m args below meth c Q hBg hX hR hK => fun _ h => absurd h List.not_mem_nil)
def ic_X4_meanOf : List (Nat × Instr × Nat) := [(0, .iload_n 1, 1), (1, .ifCond .lt 14, 3), (4, .iload_n 2, 1), (5, .bipush 60, 2), (7, .if_icmp .gt 8, 3), (10, .iload_n 1, 1), (11, .iload_n 2, 1), (12, .if_icmp .lt 7, 3), (15, .iconst 0, 1), (16, .goto 11, 3), (19, .aload_n 0, 1), (20, .getfield 20, 3), (23, .iload_n 1, 1), (24, .aaload, 1), (25, .iload_n 2, 1), (26, .iaload, 1), (27, .ireturn, 1)]
noncomputable def mm_X4_meanOf : mv_M := (ic_X4_meanOf, fl_X4, [], [], [], [], none)
noncomputable def ff_X4_meanOf : mv_F := mv_fn mv_rc mm_X4_meanOf mv_sh 400 3
theorem dk_X4_meanOf : mv_dk cX4_meanOf ic_X4_meanOf = true := by decide +kernel
set_option maxRecDepth 20000 in
theorem cc_X4_meanOf {ad : Nat → Nat → Value} {cA : Nat → ClassId} {D : va_G} {tys : List (ClassId × FieldType)} {A : Nat → Prop} (l : Launch) (hF : mv_Fix mv_sh mv_ids mv_ros ad cA tys A mv_rc) : mv_Met l yX4_meanOf cX4_meanOf 3 (some .int) mv_Ts (mv_rm 1) 3 false mv_sh mv_ids mv_ros ad cA mv_cl D tys A mv_rc mv_cr (mv_EX ad A) ff_X4_meanOf := mv_met_of (by decide +kernel) (by decide) hF mv_stok (mv_rzI (by decide +kernel)) mv_clok (mv_dk_ok dk_X4_meanOf) (mv_fk_ok fk_X4) (fun p e s m args below meth c Q hBg hX hR => ⟨fun _ h => absurd h List.not_mem_nil, fun _ h => absurd h List.not_mem_nil⟩) (fun p e s m args below meth c Q hBg hX hR hK => fun _ h => absurd h List.not_mem_nil)
set_option maxRecDepth 20000 in
theorem cw_X4_78 : mv_Cw RX4 78 yJ7_fill_53178 cJ7_fill_53178 4 none (none) 2 := mv_cw_of (a := 1173) (b := 134) (c := 241) (d := 0) (mv_T 242 rfl rfl) (by decide +kernel)
set_option maxRecDepth 20000 in
theorem cw_X4_94 : mv_Cw RX4 94 yX4_meanOf cX4_meanOf 3 (some .int) (some 4) 3 := mv_cw_of (a := 1174) (b := 140) (c := 1176) (d := 32) (mv_T 1177 rfl rfl) (by decide +kernel)
def ic_X4_mean : List (Nat × Instr × Nat) := [(0, .aload_n 0, 1), (1, .getfield 23, 3), (4, .iconst 0, 1), (5, .invokestatic 78, 3), (8, .iload_n 2, 1), (9, .istore_n 3, 1), (10, .iload_n 3, 1), (11, .iload_n 1, 1), (12, .if_icmp .lt 180, 3), (15, .aload_n 0, 1), (16, .aload_n 0, 1), (17, .getfield 30, 3), (20, .getfield 65, 3), (23, .iload_n 3, 1), (24, .invokevirtual 87, 3), (27, .istore 4, 2), (29, .iconst 0, 1), (30, .istore 5, 2), (32, .iconst 0, 1), (33, .istore 6, 2), (35, .iload_n 3, 1), (36, .istore 7, 2), (38, .iload 7, 2), (40, .iload_n 2, 1), (41, .if_icmp .gt 145, 3), (44, .iload 7, 2), (46, .aload_n 0, 1), (47, .getfield 26, 3), (50, .isub, 1), (51, .istore 8, 2), (53, .iload 8, 2), (55, .iload_n 3, 1), (56, .if_icmp .lt 39, 3), (59, .aload_n 0, 1), (60, .aload_n 0, 1), (61, .getfield 30, 3), (64, .getfield 65, 3), (67, .iload 8, 2), (69, .invokevirtual 87, 3), (72, .ifCond .eq 23, 3), (75, .iinc 5 1, 3), (78, .iload 6, 2), (80, .aload_n 0, 1), (81, .iload_n 3, 1), (82, .iload 8, 2), (84, .aload_n 0, 1), (85, .getfield 44, 3), (88, .isub, 1), (89, .invokevirtual 94, 3), (92, .iadd, 1), (93, .istore 6, 2), (95, .iload 4, 2), (97, .ifCond .eq 41, 3), (100, .iload_n 3, 1), (101, .aload_n 0, 1), (102, .getfield 26, 3), (105, .iadd, 1), (106, .iload 7, 2), (108, .if_icmp .gt 30, 3), (111, .aload_n 0, 1), (112, .getfield 23, 3), (115, .iload 7, 2), (117, .dup2, 1), (118, .iaload, 1), (119, .aload_n 0, 1), (120, .iload_n 3, 1), (121, .aload_n 0, 1), (122, .getfield 26, 3), (125, .iadd, 1), (126, .aload_n 0, 1), (127, .getfield 44, 3), (130, .iadd, 1), (131, .iload 7, 2), (133, .invokevirtual 94, 3), (136, .iadd, 1), (137, .iastore, 1), (138, .sipush 1000, 3), (141, .iload 5, 2), (143, .imul, 1), (144, .iload 6, 2), (146, .iadd, 1), (147, .aload_n 0, 1), (148, .getfield 23, 3), (151, .iload 7, 2), (153, .iaload, 1), (154, .iadd, 1), (155, .istore 9, 2), (157, .aload_n 0, 1), (158, .getfield 20, 3), (161, .iload_n 3, 1), (162, .aaload, 1), (163, .iload 7, 2), (165, .iload 5, 2), (167, .ifCond .ne 7, 3), (170, .iconst 0, 1), (171, .goto 8, 3), (174, .iload 9, 2), (176, .iload 5, 2), (178, .idiv, 1), (179, .iastore, 1), (180, .iinc 7 1, 3), (183, .goto (-145), 3), (186, .iinc 3 (-1), 3), (189, .goto (-179), 3), (192, .aload_n 0, 1), (193, .getfield 20, 3), (196, .iload_n 1, 1), (197, .aaload, 1), (198, .iload_n 2, 1), (199, .iaload, 1), (200, .ireturn, 1)]
noncomputable def mm_X4_mean : mv_M := (ic_X4_mean, fl_X4, [], [], [(78, 2, none, true, ff_J7_fill_53178), (87, 3, some 4, false, ff_X4_isClear), (94, 3, some 4, false, ff_X4_meanOf)], [(10, [true, true, true, true, false, false, false, false, false, false]), (38, [true, true, true, true, true, true, true, true, false, false])], none)
noncomputable def ff_X4_mean : mv_F := mv_fn mv_rc mm_X4_mean mv_sh 400 10
theorem dk_X4_mean : mv_dk cX4_mean ic_X4_mean = true := by decide +kernel
set_option maxRecDepth 20000 in
theorem cc_X4_mean {ad : Nat → Nat → Value} {cA : Nat → ClassId} {D : va_G} {tys : List (ClassId × FieldType)} {A : Nat → Prop} (l : Launch) (hF : mv_Fix mv_sh mv_ids mv_ros ad cA tys A mv_rc) : mv_Met l yX4_mean cX4_mean 10 (some .int) mv_Ts (mv_rm 2) 3 false mv_sh mv_ids mv_ros ad cA mv_cl D tys A mv_rc mv_cr (mv_EX ad A) ff_X4_mean := mv_met_of (by decide +kernel) (by decide) hF mv_stok (mv_rzI (by decide +kernel)) mv_clok (mv_dk_ok dk_X4_mean) (mv_fk_ok fk_X4) (fun p e s m args below meth c Q hBg hX hR => ⟨fun _ h => absurd h List.not_mem_nil, fun _ h => absurd h List.not_mem_nil⟩) (fun p e s m args below meth c Q hBg hX hR hK => List.forall_mem_cons.mpr ⟨mv_cal_of (cc_J7_fill_53178 l hF) hBg hX hR hK mv_EX_ok hF mv_good mv_stok cw_X4_78.1 cw_X4_78.2.1 cw_X4_78.2.2 ⟨rfl, rfl, by exact Nat.le_of_ble_eq_true rfl, by exact Nat.le_of_ble_eq_true rfl⟩ ⟨Nat.zero_le _, Nat.zero_le _⟩, List.forall_mem_cons.mpr ⟨mv_cal_of (cc_X4_isClear l hF) hBg hX hR hK mv_EX_ok hF mv_good mv_stok cw_X4_87.1 cw_X4_87.2.1 cw_X4_87.2.2 ⟨rfl, rfl, by exact Nat.le_of_ble_eq_true rfl, by exact Nat.le_of_ble_eq_true rfl⟩ ⟨Nat.zero_le _, Nat.zero_le _⟩, List.forall_mem_cons.mpr ⟨mv_cal_of (cc_X4_meanOf l hF) hBg hX hR hK mv_EX_ok hF mv_good mv_stok cw_X4_94.1 cw_X4_94.2.1 cw_X4_94.2.2 ⟨rfl, rfl, by exact Nat.le_of_ble_eq_true rfl, by exact Nat.le_of_ble_eq_true rfl⟩ ⟨Nat.zero_le _, Nat.zero_le _⟩, fun _ h => absurd h List.not_mem_nil⟩⟩⟩)
set_option maxRecDepth 20000 in
theorem cw_X4_68 : mv_Cw RX4 68 yX4_fewest cX4_fewest 10 (some .int) (some 4) 4 := mv_cw_of (a := 1156) (b := 140) (c := 1158) (d := 28) (mv_T 1159 rfl rfl) (by decide +kernel)
set_option maxRecDepth 20000 in
theorem cw_X4_72 : mv_Cw RX4 72 yX4_most cX4_most 6 (some .int) (some 4) 3 := mv_cw_of (a := 1165) (b := 140) (c := 1167) (d := 30) (mv_T 1168 rfl rfl) (by decide +kernel)
set_option maxRecDepth 20000 in
theorem cw_X4_75 : mv_Cw RX4 75 yX4_mean cX4_mean 10 (some .int) (some 4) 3 := mv_cw_of (a := 1169) (b := 140) (c := 1171) (d := 31) (mv_T 1172 rfl rfl) (by decide +kernel)
def ic_X4_total : List (Nat × Instr × Nat) := [(0, .iconst 0, 1), (1, .istore_n 2, 1), (2, .iconst 0, 1), (3, .istore_n 3, 1), (4, .iload_n 3, 1), (5, .aload_n 0, 1), (6, .getfield 34, 3), (9, .getfield 47, 3), (12, .if_icmp .gt 165, 3), (15, .iload_n 3, 1), (16, .ifCond .ne 7, 3), (19, .iconst 0, 1), (20, .goto 33, 3), (23, .aload_n 0, 1), (24, .getfield 34, 3), (27, .getfield 52, 3), (30, .iload_n 3, 1), (31, .iconst 1, 1), (32, .isub, 1), (33, .iaload, 1), (34, .aload_n 0, 1), (35, .getfield 34, 3), (38, .getfield 55, 3), (41, .iload_n 3, 1), (42, .iconst 1, 1), (43, .isub, 1), (44, .iaload, 1), (45, .aload_n 0, 1), (46, .getfield 44, 3), (49, .invokestatic 38, 3), (52, .iadd, 1), (53, .istore 4, 2), (55, .iload_n 3, 1), (56, .aload_n 0, 1), (57, .getfield 34, 3), (60, .getfield 47, 3), (63, .if_icmp .ne 13, 3), (66, .aload_n 0, 1), (67, .getfield 30, 3), (70, .getfield 57, 3), (73, .goto 29, 3), (76, .aload_n 0, 1), (77, .getfield 34, 3), (80, .getfield 62, 3), (83, .iload_n 3, 1), (84, .iaload, 1), (85, .aload_n 0, 1), (86, .getfield 34, 3), (89, .getfield 55, 3), (92, .iload_n 3, 1), (93, .iaload, 1), (94, .aload_n 0, 1), (95, .getfield 44, 3), (98, .invokestatic 38, 3), (101, .isub, 1), (102, .istore 5, 2), (104, .iload 4, 2), (106, .aload_n 0, 1), (107, .getfield 26, 3), (110, .iadd, 1), (111, .iload 5, 2), (113, .if_icmp .le 6, 3), (116, .goto 55, 3), (119, .iload_n 1, 1), (120, .ifCond .ne 24, 3), (123, .iload_n 2, 1), (124, .aload_n 0, 1), (125, .aload_n 0, 1), (126, .getfield 30, 3), (129, .getfield 65, 3), (132, .iload 4, 2), (134, .iload 5, 2), (136, .invokevirtual 68, 3), (139, .iadd, 1), (140, .istore_n 2, 1), (141, .goto 30, 3), (144, .iload_n 2, 1), (145, .iload_n 1, 1), (146, .iconst 1, 1), (147, .if_icmp .ne 14, 3), (150, .aload_n 0, 1), (151, .iload 4, 2), (153, .iload 5, 2), (155, .invokevirtual 72, 3), (158, .goto 11, 3), (161, .aload_n 0, 1), (162, .iload 4, 2), (164, .iload 5, 2), (166, .invokevirtual 75, 3), (169, .iadd, 1), (170, .istore_n 2, 1), (171, .iinc 3 1, 3), (174, .goto (-170), 3), (177, .iload_n 2, 1), (178, .ireturn, 1)]
noncomputable def mm_X4_total : mv_M := (ic_X4_total, fl_X4, [], [], [(38, 2, none, false, mv_max), (68, 4, some 4, false, ff_X4_fewest), (72, 3, some 4, false, ff_X4_most), (75, 3, some 4, false, ff_X4_mean)], [(4, [true, true, true, true, false, false])], none)
noncomputable def ff_X4_total : mv_F := mv_fn mv_rc mm_X4_total mv_sh 400 6
theorem dk_X4_total : mv_dk cX4_total ic_X4_total = true := by decide +kernel
set_option maxRecDepth 20000 in
theorem cc_X4_total {ad : Nat → Nat → Value} {cA : Nat → ClassId} {D : va_G} {tys : List (ClassId × FieldType)} {A : Nat → Prop} (l : Launch) (hF : mv_Fix mv_sh mv_ids mv_ros ad cA tys A mv_rc) : mv_Met l yX4_total cX4_total 6 (some .int) mv_Ts (mv_rm 3) 2 false mv_sh mv_ids mv_ros ad cA mv_cl D tys A mv_rc mv_cr (mv_EX ad A) ff_X4_total := mv_met_of (by decide +kernel) (by decide) hF mv_stok (mv_rzI (by decide +kernel)) mv_clok (mv_dk_ok dk_X4_total) (mv_fk_ok fk_X4) (fun p e s m args below meth c Q hBg hX hR => ⟨fun _ h => absurd h List.not_mem_nil, fun _ h => absurd h List.not_mem_nil⟩) (fun p e s m args below meth c Q hBg hX hR hK => List.forall_mem_cons.mpr ⟨mv_cal_max hBg ⟨mv_T 1151 rfl rfl, mv_T 235 rfl rfl, mv_T 133 rfl rfl, mv_T 236 rfl rfl⟩ ⟨by decide, by decide⟩ ⟨Nat.zero_le _, Nat.zero_le _⟩, List.forall_mem_cons.mpr ⟨mv_cal_of (cc_X4_fewest l hF) hBg hX hR hK mv_EX_ok hF mv_good mv_stok cw_X4_68.1 cw_X4_68.2.1 cw_X4_68.2.2 ⟨rfl, rfl, by exact Nat.le_of_ble_eq_true rfl, by exact Nat.le_of_ble_eq_true rfl⟩ ⟨Nat.zero_le _, Nat.zero_le _⟩, List.forall_mem_cons.mpr ⟨mv_cal_of (cc_X4_most l hF) hBg hX hR hK mv_EX_ok hF mv_good mv_stok cw_X4_72.1 cw_X4_72.2.1 cw_X4_72.2.2 ⟨rfl, rfl, by exact Nat.le_of_ble_eq_true rfl, by exact Nat.le_of_ble_eq_true rfl⟩ ⟨Nat.zero_le _, Nat.zero_le _⟩, List.forall_mem_cons.mpr ⟨mv_cal_of (cc_X4_mean l hF) hBg hX hR hK mv_EX_ok hF mv_good mv_stok cw_X4_75.1 cw_X4_75.2.1 cw_X4_75.2.2 ⟨rfl, rfl, by exact Nat.le_of_ble_eq_true rfl, by exact Nat.le_of_ble_eq_true rfl⟩ ⟨Nat.zero_le _, Nat.zero_le _⟩, fun _ h => absurd h List.not_mem_nil⟩⟩⟩⟩)
set_option maxRecDepth 20000 in
theorem cw_X11_100 : mv_Cw RX11 100 yX11_allowed cX11_allowed 2 (some .boolean) (none) 2 := mv_cw_of (a := 651) (b := 129) (c := 652) (d := 0) (mv_T 653 rfl rfl) (by decide +kernel)
set_option maxRecDepth 20000 in
theorem cw_X11_239 : mv_Cw RX11 239 yX4_ofAlike cX4_ofAlike 3 none (some 4) 3 := mv_cw_of (a := 1147) (b := 140) (c := 1148) (d := 1149) (mv_T 1150 rfl rfl) (by decide +kernel)
set_option maxRecDepth 20000 in
theorem cw_X11_118 : mv_Cw RX11 118 yX2_isSeated cX2_isSeated 2 (some .boolean) (some 2) 2 := mv_cw_of (a := 665) (b := 130) (c := 666) (d := 667) (mv_T 668 rfl rfl) (by decide +kernel)
set_option maxRecDepth 20000 in
theorem cw_X11_203 : mv_Cw RX11 203 yX9_gather cX9_gather 5 none (some 9) 3 := mv_cw_of (a := 1094) (b := 137) (c := 696) (d := 697) (mv_T 698 rfl rfl) (by decide +kernel)
set_option maxRecDepth 20000 in
theorem cw_X11_243 : mv_Cw RX11 243 yX4_total cX4_total 6 (some .int) (some 4) 2 := mv_cw_of (a := 1152) (b := 140) (c := 1153) (d := 1154) (mv_T 1155 rfl rfl) (by decide +kernel)
def ic_X11_gives : List (Nat × Instr × Nat) := [(0, .iconst 0, 1), (1, .iload_n 1, 1), (2, .invokestatic 100, 3), (5, .ifCond .eq 11, 3), (8, .iconst 1, 1), (9, .iload_n 2, 1), (10, .invokestatic 100, 3), (13, .ifCond .ne 5, 3), (16, .iconst (-1), 1), (17, .ireturn, 1), (18, .aload_n 0, 1), (19, .getfield 59, 3), (22, .iload_n 1, 1), (23, .iload_n 2, 1), (24, .invokevirtual 239, 3), (27, .iconst (-1), 1), (28, .istore_n 3, 1), (29, .iconst (-1), 1), (30, .istore 4, 2), (32, .iconst 0, 1), (33, .istore 5, 2), (35, .iload 5, 2), (37, .aload_n 0, 1), (38, .getfield 12, 3), (41, .getfield 104, 3), (44, .if_icmp .ge 74, 3), (47, .aload_n 0, 1), (48, .getfield 12, 3), (51, .iload 5, 2), (53, .invokevirtual 118, 3), (56, .ifCond .ne 6, 3), (59, .goto 53, 3), (62, .aload_n 0, 1), (63, .getfield 36, 3), (66, .aload_n 0, 1), (67, .getfield 12, 3), (70, .sipush 1023, 3), (73, .iconst 1, 1), (74, .iload 5, 2), (76, .ishl, 1), (77, .iconst (-1), 1), (78, .ixor, 1), (79, .iand, 1), (80, .invokevirtual 203, 3), (83, .aload_n 0, 1), (84, .getfield 59, 3), (87, .iconst 1, 1), (88, .invokevirtual 243, 3), (91, .istore 6, 2), (93, .iload_n 3, 1), (94, .iconst (-1), 1), (95, .if_icmp .eq 10, 3), (98, .iload 6, 2), (100, .iload 4, 2), (102, .if_icmp .le 10, 3), (105, .iload 5, 2), (107, .istore_n 3, 1), (108, .iload 6, 2), (110, .istore 4, 2), (112, .iinc 5 1, 3), (115, .goto (-80), 3), (118, .iload_n 3, 1), (119, .ireturn, 1)]
noncomputable def mm_X11_gives : mv_M := (ic_X11_gives, fl_X11, [], [], [(100, 2, none, false, ff_X11_allowed), (239, 3, some 4, true, ff_X4_ofAlike), (118, 2, some 2, false, ff_X2_isSeated), (203, 3, some 9, true, ff_X9_gather), (243, 2, some 4, false, ff_X4_total)], [(35, [true, false, false, true, true, true, false])], none)
noncomputable def ff_X11_gives : mv_F := mv_fn mv_rc mm_X11_gives mv_sh 400 7
theorem dk_X11_gives : mv_dk cX11_gives ic_X11_gives = true := by decide +kernel
set_option maxRecDepth 20000 in
theorem cc_X11_gives {ad : Nat → Nat → Value} {cA : Nat → ClassId} {D : va_G} {tys : List (ClassId × FieldType)} {A : Nat → Prop} (l : Launch) (hF : mv_Fix mv_sh mv_ids mv_ros ad cA tys A mv_rc) : mv_Met l yX11_gives cX11_gives 7 (some .int) mv_Ts (mv_rm 4) 3 false mv_sh mv_ids mv_ros ad cA mv_cl D tys A mv_rc mv_cr (mv_EX ad A) ff_X11_gives := mv_met_of (by decide +kernel) (by decide) hF mv_stok (mv_rzI (by decide +kernel)) mv_clok (mv_dk_ok dk_X11_gives) (mv_fk_ok fk_X11) (fun p e s m args below meth c Q hBg hX hR => ⟨fun _ h => absurd h List.not_mem_nil, fun _ h => absurd h List.not_mem_nil⟩) (fun p e s m args below meth c Q hBg hX hR hK => List.forall_mem_cons.mpr ⟨mv_cal_of (cc_X11_allowed l hF) hBg hX hR hK mv_EX_ok hF mv_good mv_stok cw_X11_100.1 cw_X11_100.2.1 cw_X11_100.2.2 ⟨rfl, rfl, by exact Nat.le_of_ble_eq_true rfl, by exact Nat.le_of_ble_eq_true rfl⟩ ⟨Nat.zero_le _, Nat.zero_le _⟩, List.forall_mem_cons.mpr ⟨mv_cal_of (cc_X4_ofAlike l hF) hBg hX hR hK mv_EX_ok hF mv_good mv_stok cw_X11_239.1 cw_X11_239.2.1 cw_X11_239.2.2 ⟨rfl, rfl, by exact Nat.le_of_ble_eq_true rfl, by exact Nat.le_of_ble_eq_true rfl⟩ ⟨Nat.zero_le _, Nat.zero_le _⟩, List.forall_mem_cons.mpr ⟨mv_cal_of (cc_X2_isSeated l hF) hBg hX hR hK mv_EX_ok hF mv_good mv_stok cw_X11_118.1 cw_X11_118.2.1 cw_X11_118.2.2 ⟨rfl, rfl, by exact Nat.le_of_ble_eq_true rfl, by exact Nat.le_of_ble_eq_true rfl⟩ ⟨Nat.zero_le _, Nat.zero_le _⟩, List.forall_mem_cons.mpr ⟨mv_cal_of (cc_X9_gather l hF) hBg hX hR hK mv_EX_ok hF mv_good mv_stok cw_X11_203.1 cw_X11_203.2.1 cw_X11_203.2.2 ⟨rfl, rfl, by exact Nat.le_of_ble_eq_true rfl, by exact Nat.le_of_ble_eq_true rfl⟩ ⟨Nat.zero_le _, Nat.zero_le _⟩, List.forall_mem_cons.mpr ⟨mv_cal_of (cc_X4_total l hF) hBg hX hR hK mv_EX_ok hF mv_good mv_stok cw_X11_243.1 cw_X11_243.2.1 cw_X11_243.2.2 ⟨rfl, rfl, by exact Nat.le_of_ble_eq_true rfl, by exact Nat.le_of_ble_eq_true rfl⟩ ⟨Nat.zero_le _, Nat.zero_le _⟩, fun _ h => absurd h List.not_mem_nil⟩⟩⟩⟩⟩)
def ic_X12_canCome : List (Nat × Instr × Nat) := [(0, .aload_n 0, 1), (1, .iload_n 2, 1), (2, .invokevirtual 347, 3), (5, .aload_n 0, 1), (6, .iload_n 1, 1), (7, .invokevirtual 350, 3), (10, .aload_n 0, 1), (11, .invokevirtual 353, 3), (14, .aload_n 0, 1), (15, .iload_n 1, 1), (16, .invokevirtual 157, 3), (19, .if_icmp .ne 7, 3), (22, .iconst 1, 1), (23, .goto 4, 3), (26, .iconst 0, 1), (27, .ireturn, 1)]
noncomputable def mm_X12_canCome : mv_M := (ic_X12_canCome, fl_X12, [], [], [(347, 2, some 12, true, ff_X12_lists), (350, 2, some 12, true, ff_X12_asksFor), (353, 1, some 12, false, ff_X12_bestInch), (157, 2, some 12, false, ff_X12_inchOf)], [], (some (0, 1)))
noncomputable def ff_X12_canCome : mv_F := mv_fn mv_rc mm_X12_canCome mv_sh 400 3
theorem dk_X12_canCome : mv_dk cX12_canCome ic_X12_canCome = true := by decide +kernel
set_option maxRecDepth 20000 in
theorem cc_X12_canCome {ad : Nat → Nat → Value} {cA : Nat → ClassId} {D : va_G} {tys : List (ClassId × FieldType)} {A : Nat → Prop} (l : Launch) (hF : mv_Fix mv_sh mv_ids mv_ros ad cA tys A mv_rc) : mv_Met l yX12_canCome cX12_canCome 3 (some .boolean) mv_Ts (mv_rm 6) 3 false mv_sh mv_ids mv_ros ad cA mv_cl D tys A mv_rc mv_cr (mv_EX ad A) ff_X12_canCome := mv_met_of (by decide +kernel) (by decide) hF mv_stok (mv_rzZ (by decide +kernel) rfl) mv_clok (mv_dk_ok dk_X12_canCome) (mv_fk_ok fk_X12) (fun p e s m args below meth c Q hBg hX hR => ⟨fun _ h => absurd h List.not_mem_nil, fun _ h => absurd h List.not_mem_nil⟩) (fun p e s m args below meth c Q hBg hX hR hK => List.forall_mem_cons.mpr ⟨mv_cal_of (cc_X12_lists l hF) hBg hX hR hK mv_EX_ok hF mv_good mv_stok cw_X12_347.1 cw_X12_347.2.1 cw_X12_347.2.2 ⟨rfl, rfl, by exact Nat.le_of_ble_eq_true rfl, by exact Nat.le_of_ble_eq_true rfl⟩ ⟨Nat.zero_le _, Nat.zero_le _⟩, List.forall_mem_cons.mpr ⟨mv_cal_of (cc_X12_asksFor l hF) hBg hX hR hK mv_EX_ok hF mv_good mv_stok cw_X12_350.1 cw_X12_350.2.1 cw_X12_350.2.2 ⟨rfl, rfl, by exact Nat.le_of_ble_eq_true rfl, by exact Nat.le_of_ble_eq_true rfl⟩ ⟨Nat.zero_le _, Nat.zero_le _⟩, List.forall_mem_cons.mpr ⟨mv_cal_of (cc_X12_bestInch l hF) hBg hX hR hK mv_EX_ok hF mv_good mv_stok cw_X12_353.1 cw_X12_353.2.1 cw_X12_353.2.2 ⟨rfl, rfl, by exact Nat.le_of_ble_eq_true rfl, by exact Nat.le_of_ble_eq_true rfl⟩ ⟨Nat.zero_le _, Nat.zero_le _⟩, List.forall_mem_cons.mpr ⟨mv_cal_of (cc_X12_inchOf l hF) hBg hX hR hK mv_EX_ok hF mv_good mv_stok cw_X12_157.1 cw_X12_157.2.1 cw_X12_157.2.2 ⟨rfl, rfl, by exact Nat.le_of_ble_eq_true rfl, by exact Nat.le_of_ble_eq_true rfl⟩ ⟨Nat.zero_le _, Nat.zero_le _⟩, fun _ h => absurd h List.not_mem_nil⟩⟩⟩⟩)
set_option maxRecDepth 20000 in
theorem cw_X12_481 : mv_Cw RX12 481 yX12_canCome cX12_canCome 3 (some .boolean) (some 12) 3 := mv_cw_of (a := 1969) (b := 143) (c := 1971) (d := 120) (mv_T 1972 rfl rfl) (by decide +kernel)
def ic_X12_findsOrders : List (Nat × Instr × Nat) := [(0, .aload_n 0, 1), (1, .getfield 478, 3), (4, .istore_n 1, 1), (5, .iload_n 1, 1), (6, .ifCond .lt 119, 3), (9, .iload_n 1, 1), (10, .aload_n 0, 1), (11, .getfield 478, 3), (14, .iconst (-1), 1), (15, .ixor, 1), (16, .iand, 1), (17, .ifCond .eq 6, 3), (20, .goto 99, 3), (23, .aload_n 0, 1), (24, .getfield 120, 3), (27, .iload_n 1, 1), (28, .iload_n 1, 1), (29, .aload_n 0, 1), (30, .getfield 478, 3), (33, .if_icmp .ne 7, 3), (36, .iconst 1, 1), (37, .goto 4, 3), (40, .iconst 0, 1), (41, .iastore, 1), (42, .iconst 0, 1), (43, .istore_n 2, 1), (44, .iload_n 2, 1), (45, .aload_n 0, 1), (46, .getfield 139, 3), (49, .if_icmp .ge 70, 3), (52, .aload_n 0, 1), (53, .getfield 478, 3), (56, .iload_n 1, 1), (57, .iconst (-1), 1), (58, .ixor, 1), (59, .iand, 1), (60, .iload_n 2, 1), (61, .ishr, 1), (62, .iconst 1, 1), (63, .iand, 1), (64, .iconst 1, 1), (65, .if_icmp .ne 48, 3), (68, .aload_n 0, 1), (69, .getfield 120, 3), (72, .iload_n 1, 1), (73, .iconst 1, 1), (74, .iload_n 2, 1), (75, .ishl, 1), (76, .ior, 1), (77, .iaload, 1), (78, .ifCond .le 35, 3), (81, .aload_n 0, 1), (82, .iload_n 2, 1), (83, .iload_n 1, 1), (84, .invokevirtual 481, 3), (87, .ifCond .eq 26, 3), (90, .aload_n 0, 1), (91, .getfield 120, 3), (94, .iload_n 1, 1), (95, .aload_n 0, 1), (96, .getfield 120, 3), (99, .iload_n 1, 1), (100, .iaload, 1), (101, .aload_n 0, 1), (102, .getfield 120, 3), (105, .iload_n 1, 1), (106, .iconst 1, 1), (107, .iload_n 2, 1), (108, .ishl, 1), (109, .ior, 1), (110, .iaload, 1), (111, .iadd, 1), (112, .iastore, 1), (113, .iinc 2 1, 3), (116, .goto (-72), 3), (119, .iinc 1 (-1), 3), (122, .goto (-117), 3), (125, .return_, 1)]
noncomputable def mm_X12_findsOrders : mv_M := (ic_X12_findsOrders, fl_X12, [], [], [(481, 3, some 12, false, ff_X12_canCome)], [(5, [true, true, false]), (44, [true, true, true])], none)
noncomputable def ff_X12_findsOrders : mv_F := mv_fn mv_rc mm_X12_findsOrders mv_sh 400 3
theorem dk_X12_findsOrders : mv_dk cX12_findsOrders ic_X12_findsOrders = true := by decide +kernel
set_option maxRecDepth 20000 in
theorem cc_X12_findsOrders {ad : Nat → Nat → Value} {cA : Nat → ClassId} {D : va_G} {tys : List (ClassId × FieldType)} {A : Nat → Prop} (l : Launch) (hF : mv_Fix mv_sh mv_ids mv_ros ad cA tys A mv_rc) : mv_Met l yX12_findsOrders cX12_findsOrders 3 none mv_Ts (mv_rm 7) 1 true mv_sh mv_ids mv_ros ad cA mv_cl D tys A mv_rc mv_cr (mv_EX ad A) ff_X12_findsOrders := mv_met_of (by decide +kernel) (by decide) hF mv_stok (mv_rzV (by decide +kernel)) mv_clok (mv_dk_ok dk_X12_findsOrders) (mv_fk_ok fk_X12) (fun p e s m args below meth c Q hBg hX hR => ⟨fun _ h => absurd h List.not_mem_nil, fun _ h => absurd h List.not_mem_nil⟩) (fun p e s m args below meth c Q hBg hX hR hK => List.forall_mem_cons.mpr ⟨mv_cal_of (cc_X12_canCome l hF) hBg hX hR hK mv_EX_ok hF mv_good mv_stok cw_X12_481.1 cw_X12_481.2.1 cw_X12_481.2.2 ⟨rfl, rfl, by exact Nat.le_of_ble_eq_true rfl, by exact Nat.le_of_ble_eq_true rfl⟩ ⟨Nat.zero_le _, Nat.zero_le _⟩, fun _ h => absurd h List.not_mem_nil⟩)
def ic_X12_nextOf : List (Nat × Instr × Nat) := [(0, .iconst 0, 1), (1, .istore_n 2, 1), (2, .aload_n 0, 1), (3, .getfield 478, 3), (6, .iload_n 1, 1), (7, .iconst (-1), 1), (8, .ixor, 1), (9, .iand, 1), (10, .iload_n 2, 1), (11, .ishr, 1), (12, .iconst 1, 1), (13, .iand, 1), (14, .ifCond .eq 25, 3), (17, .aload_n 0, 1), (18, .getfield 120, 3), (21, .iload_n 1, 1), (22, .iconst 1, 1), (23, .iload_n 2, 1), (24, .ishl, 1), (25, .ior, 1), (26, .iaload, 1), (27, .ifCond .eq 12, 3), (30, .aload_n 0, 1), (31, .iload_n 2, 1), (32, .iload_n 1, 1), (33, .invokevirtual 481, 3), (36, .ifCond .ne 10, 3), (39, .iload_n 2, 1), (40, .iconst 1, 1), (41, .iadd, 1), (42, .istore_n 2, 1), (43, .goto (-41), 3), (46, .iload_n 2, 1), (47, .ireturn, 1)]
noncomputable def mm_X12_nextOf : mv_M := (ic_X12_nextOf, fl_X12, [], [], [(481, 3, some 12, false, ff_X12_canCome)], [(2, [true, true, true])], none)
noncomputable def ff_X12_nextOf : mv_F := mv_fn mv_rc mm_X12_nextOf mv_sh 400 3
theorem dk_X12_nextOf : mv_dk cX12_nextOf ic_X12_nextOf = true := by decide +kernel
set_option maxRecDepth 20000 in
theorem cc_X12_nextOf {ad : Nat → Nat → Value} {cA : Nat → ClassId} {D : va_G} {tys : List (ClassId × FieldType)} {A : Nat → Prop} (l : Launch) (hF : mv_Fix mv_sh mv_ids mv_ros ad cA tys A mv_rc) : mv_Met l yX12_nextOf cX12_nextOf 3 (some .int) mv_Ts (mv_rm 7) 2 false mv_sh mv_ids mv_ros ad cA mv_cl D tys A mv_rc mv_cr (mv_EX ad A) ff_X12_nextOf := mv_met_of (by decide +kernel) (by decide) hF mv_stok (mv_rzI (by decide +kernel)) mv_clok (mv_dk_ok dk_X12_nextOf) (mv_fk_ok fk_X12) (fun p e s m args below meth c Q hBg hX hR => ⟨fun _ h => absurd h List.not_mem_nil, fun _ h => absurd h List.not_mem_nil⟩) (fun p e s m args below meth c Q hBg hX hR hK => List.forall_mem_cons.mpr ⟨mv_cal_of (cc_X12_canCome l hF) hBg hX hR hK mv_EX_ok hF mv_good mv_stok cw_X12_481.1 cw_X12_481.2.1 cw_X12_481.2.2 ⟨rfl, rfl, by exact Nat.le_of_ble_eq_true rfl, by exact Nat.le_of_ble_eq_true rfl⟩ ⟨Nat.zero_le _, Nat.zero_le _⟩, fun _ h => absurd h List.not_mem_nil⟩)
set_option maxRecDepth 20000 in
theorem cw_X12_490 : mv_Cw RX12 490 yX12_findsOrders cX12_findsOrders 3 none (some 12) 1 := mv_cw_of (a := 1965) (b := 143) (c := 1967) (d := 119) (mv_T 1968 rfl rfl) (by decide +kernel)
set_option maxRecDepth 20000 in
theorem cw_X12_493 : mv_Cw RX12 493 yX12_nextOf cX12_nextOf 3 (some .int) (some 12) 2 := mv_cw_of (a := 1973) (b := 143) (c := 1975) (d := 121) (mv_T 1976 rfl rfl) (by decide +kernel)
def ic_X12_orders : List (Nat × Instr × Nat) := [(0, .aload_n 0, 1), (1, .iconst 0, 1), (2, .putfield 126, 3), (5, .aload_n 0, 1), (6, .aload_n 0, 1), (7, .invokevirtual 484, 3), (10, .putfield 478, 3), (13, .aload_n 0, 1), (14, .aload_n 0, 1), (15, .getfield 478, 3), (18, .invokevirtual 487, 3), (21, .istore_n 2, 1), (22, .iload_n 2, 1), (23, .bipush 8, 2), (25, .if_icmp .gt 21, 3), (28, .iload_n 1, 1), (29, .ifCond .eq 19, 3), (32, .aload_n 0, 1), (33, .iload_n 1, 1), (34, .bipush 10, 2), (36, .bipush 9, 2), (38, .iload_n 2, 1), (39, .iadd, 1), (40, .invokevirtual 142, 3), (43, .ifCond .ne 5, 3), (46, .iconst (-1), 1), (47, .ireturn, 1), (48, .aload_n 0, 1), (49, .invokevirtual 490, 3), (52, .iload_n 1, 1), (53, .ifCond .ne 10, 3), (56, .aload_n 0, 1), (57, .getfield 120, 3), (60, .iconst 0, 1), (61, .iaload, 1), (62, .ireturn, 1), (63, .aload_n 0, 1), (64, .getfield 120, 3), (67, .iconst 0, 1), (68, .iaload, 1), (69, .ifCond .ne 5, 3), (72, .iconst (-1), 1), (73, .ireturn, 1), (74, .iconst 0, 1), (75, .istore_n 3, 1), (76, .iconst (-1), 1), (77, .istore 4, 2), (79, .iconst 0, 1), (80, .istore 5, 2), (82, .iload 5, 2), (84, .iload_n 1, 1), (85, .bipush 10, 2), (87, .isub, 1), (88, .if_icmp .gt 23, 3), (91, .aload_n 0, 1), (92, .iload_n 3, 1), (93, .invokevirtual 493, 3), (96, .istore 4, 2), (98, .iload_n 3, 1), (99, .iconst 1, 1), (100, .iload 4, 2), (102, .ishl, 1), (103, .ior, 1), (104, .istore_n 3, 1), (105, .iinc 5 1, 3), (108, .goto (-26), 3), (111, .iload 4, 2), (113, .ireturn, 1)]
noncomputable def mm_X12_orders : mv_M := (ic_X12_orders, fl_X12, [], [], [(484, 1, some 12, false, ff_X12_sittingSet), (487, 2, some 12, false, ff_X12_onesOf), (142, 4, some 12, false, ff_X12_isIn), (490, 1, some 12, true, ff_X12_findsOrders), (493, 2, some 12, false, ff_X12_nextOf)], [(82, [true, true, false, true, true, true])], none)
noncomputable def ff_X12_orders : mv_F := mv_fn mv_rc mm_X12_orders mv_sh 400 6
theorem dk_X12_orders : mv_dk cX12_orders ic_X12_orders = true := by decide +kernel
set_option maxRecDepth 20000 in
theorem cc_X12_orders {ad : Nat → Nat → Value} {cA : Nat → ClassId} {D : va_G} {tys : List (ClassId × FieldType)} {A : Nat → Prop} (l : Launch) (hF : mv_Fix mv_sh mv_ids mv_ros ad cA tys A mv_rc) : mv_Met l yX12_orders cX12_orders 6 (some .int) mv_Ts (mv_rm 8) 2 false mv_sh mv_ids mv_ros ad cA mv_cl D tys A mv_rc mv_cr (mv_EX ad A) ff_X12_orders := mv_met_of (by decide +kernel) (by decide) hF mv_stok (mv_rzI (by decide +kernel)) mv_clok (mv_dk_ok dk_X12_orders) (mv_fk_ok fk_X12) (fun p e s m args below meth c Q hBg hX hR => ⟨fun _ h => absurd h List.not_mem_nil, fun _ h => absurd h List.not_mem_nil⟩) (fun p e s m args below meth c Q hBg hX hR hK => List.forall_mem_cons.mpr ⟨mv_cal_of (cc_X12_sittingSet l hF) hBg hX hR hK mv_EX_ok hF mv_good mv_stok cw_X12_484.1 cw_X12_484.2.1 cw_X12_484.2.2 ⟨rfl, rfl, by exact Nat.le_of_ble_eq_true rfl, by exact Nat.le_of_ble_eq_true rfl⟩ ⟨Nat.zero_le _, Nat.zero_le _⟩, List.forall_mem_cons.mpr ⟨mv_cal_of (cc_X12_onesOf l hF) hBg hX hR hK mv_EX_ok hF mv_good mv_stok cw_X12_487.1 cw_X12_487.2.1 cw_X12_487.2.2 ⟨rfl, rfl, by exact Nat.le_of_ble_eq_true rfl, by exact Nat.le_of_ble_eq_true rfl⟩ ⟨Nat.zero_le _, Nat.zero_le _⟩, List.forall_mem_cons.mpr ⟨mv_cal_of (cc_X12_isIn l hF) hBg hX hR hK mv_EX_ok hF mv_good mv_stok cw_X12_142.1 cw_X12_142.2.1 cw_X12_142.2.2 ⟨rfl, rfl, by exact Nat.le_of_ble_eq_true rfl, by exact Nat.le_of_ble_eq_true rfl⟩ ⟨Nat.zero_le _, Nat.zero_le _⟩, List.forall_mem_cons.mpr ⟨mv_cal_of (cc_X12_findsOrders l hF) hBg hX hR hK mv_EX_ok hF mv_good mv_stok cw_X12_490.1 cw_X12_490.2.1 cw_X12_490.2.2 ⟨rfl, rfl, by exact Nat.le_of_ble_eq_true rfl, by exact Nat.le_of_ble_eq_true rfl⟩ ⟨Nat.zero_le _, Nat.zero_le _⟩, List.forall_mem_cons.mpr ⟨mv_cal_of (cc_X12_nextOf l hF) hBg hX hR hK mv_EX_ok hF mv_good mv_stok cw_X12_493.1 cw_X12_493.2.1 cw_X12_493.2.2 ⟨rfl, rfl, by exact Nat.le_of_ble_eq_true rfl, by exact Nat.le_of_ble_eq_true rfl⟩ ⟨Nat.zero_le _, Nat.zero_le _⟩, fun _ h => absurd h List.not_mem_nil⟩⟩⟩⟩⟩)
set_option maxRecDepth 20000 in
theorem cw_X1_42 : mv_Cw RX1 42 yX2_isSeated cX2_isSeated 2 (some .boolean) (some 2) 2 := mv_cw_of (a := 1205) (b := 130) (c := 666) (d := 667) (mv_T 668 rfl rfl) (by decide +kernel)
def ic_X1_gatherAll : List (Nat × Instr × Nat) := [(0, .aload_n 0, 1), (1, .iconst 0, 1), (2, .putfield 33, 3), (5, .iconst 0, 1), (6, .istore_n 1, 1), (7, .iload_n 1, 1), (8, .aload_n 0, 1), (9, .getfield 21, 3), (12, .getfield 37, 3), (15, .if_icmp .ge 51, 3), (18, .aload_n 0, 1), (19, .getfield 21, 3), (22, .iload_n 1, 1), (23, .invokevirtual 42, 3), (26, .ifCond .eq 34, 3), (29, .aload_n 0, 1), (30, .getfield 33, 3), (33, .bipush 8, 2), (35, .if_icmp .lt 5, 3), (38, .iconst 0, 1), (39, .ireturn, 1), (40, .aload_n 0, 1), (41, .getfield 9, 3), (44, .aload_n 0, 1), (45, .getfield 33, 3), (48, .iload_n 1, 1), (49, .iastore, 1), (50, .aload_n 0, 1), (51, .dup, 1), (52, .getfield 33, 3), (55, .iconst 1, 1), (56, .iadd, 1), (57, .putfield 33, 3), (60, .iinc 1 1, 3), (63, .goto (-56), 3), (66, .iconst 1, 1), (67, .ireturn, 1)]
noncomputable def mm_X1_gatherAll : mv_M := (ic_X1_gatherAll, fl_X1, [], [], [(42, 2, some 2, false, ff_X2_isSeated)], [(7, [true, true])], (some (0, 1)))
noncomputable def ff_X1_gatherAll : mv_F := mv_fn mv_rc mm_X1_gatherAll mv_sh 400 2
theorem dk_X1_gatherAll : mv_dk cX1_gatherAll ic_X1_gatherAll = true := by decide +kernel
set_option maxRecDepth 20000 in
theorem cc_X1_gatherAll {ad : Nat → Nat → Value} {cA : Nat → ClassId} {D : va_G} {tys : List (ClassId × FieldType)} {A : Nat → Prop} (l : Launch) (hF : mv_Fix mv_sh mv_ids mv_ros ad cA tys A mv_rc) : mv_Met l yX1_gatherAll cX1_gatherAll 2 (some .boolean) mv_Ts (mv_rm 3) 1 false mv_sh mv_ids mv_ros ad cA mv_cl D tys A mv_rc mv_cr (mv_EX ad A) ff_X1_gatherAll := mv_met_of (by decide +kernel) (by decide) hF mv_stok (mv_rzZ (by decide +kernel) rfl) mv_clok (mv_dk_ok dk_X1_gatherAll) (mv_fk_ok fk_X1) (fun p e s m args below meth c Q hBg hX hR => ⟨fun _ h => absurd h List.not_mem_nil, fun _ h => absurd h List.not_mem_nil⟩) (fun p e s m args below meth c Q hBg hX hR hK => List.forall_mem_cons.mpr ⟨mv_cal_of (cc_X2_isSeated l hF) hBg hX hR hK mv_EX_ok hF mv_good mv_stok cw_X1_42.1 cw_X1_42.2.1 cw_X1_42.2.2 ⟨rfl, rfl, by exact Nat.le_of_ble_eq_true rfl, by exact Nat.le_of_ble_eq_true rfl⟩ ⟨Nat.zero_le _, Nat.zero_le _⟩, fun _ h => absurd h List.not_mem_nil⟩)
set_option maxRecDepth 20000 in
theorem cw_X1_56 : mv_Cw RX1 56 yX9_gather cX9_gather 5 none (some 9) 3 := mv_cw_of (a := 1215) (b := 137) (c := 696) (d := 697) (mv_T 698 rfl rfl) (by decide +kernel)
set_option maxRecDepth 20000 in
theorem cw_X1_62 : mv_Cw RX1 62 yX9_askFor cX9_askFor 3 none (some 9) 3 := mv_cw_of (a := 1216) (b := 137) (c := 709) (d := 710) (mv_T 711 rfl rfl) (by decide +kernel)
set_option maxRecDepth 20000 in
theorem cw_X1_65 : mv_Cw RX1 65 yX10_best cX10_best 7 (some .int) (some 10) 1 := mv_cw_of (a := 1217) (b := 138) (c := 714) (d := 715) (mv_T 716 rfl rfl) (by decide +kernel)
def ic_X1_sitsSo : List (Nat × Instr × Nat) := [(0, .iconst 0, 1), (1, .istore_n 3, 1), (2, .iconst 0, 1), (3, .istore 4, 2), (5, .iload 4, 2), (7, .aload_n 0, 1), (8, .getfield 33, 3), (11, .if_icmp .ge 31, 3), (14, .iload_n 2, 1), (15, .iload 4, 2), (17, .ishr, 1), (18, .iconst 1, 1), (19, .iand, 1), (20, .iconst 1, 1), (21, .if_icmp .ne 15, 3), (24, .iload_n 3, 1), (25, .iconst 1, 1), (26, .aload_n 0, 1), (27, .getfield 9, 3), (30, .iload 4, 2), (32, .iaload, 1), (33, .ishl, 1), (34, .ior, 1), (35, .istore_n 3, 1), (36, .iinc 4 1, 3), (39, .goto (-34), 3), (42, .aload_n 0, 1), (43, .getfield 25, 3), (46, .aload_n 0, 1), (47, .getfield 21, 3), (50, .iload_n 3, 1), (51, .invokevirtual 56, 3), (54, .aload_n 0, 1), (55, .getfield 25, 3), (58, .aload_n 0, 1), (59, .getfield 21, 3), (62, .aload_n 0, 1), (63, .getfield 9, 3), (66, .iload_n 1, 1), (67, .iaload, 1), (68, .invokevirtual 62, 3), (71, .aload_n 0, 1), (72, .getfield 29, 3), (75, .invokevirtual 65, 3), (78, .aload_n 0, 1), (79, .getfield 21, 3), (82, .getfield 71, 3), (85, .aload_n 0, 1), (86, .getfield 9, 3), (89, .iload_n 1, 1), (90, .iaload, 1), (91, .iaload, 1), (92, .if_icmp .ne 7, 3), (95, .iconst 1, 1), (96, .goto 4, 3), (99, .iconst 0, 1), (100, .ireturn, 1)]
noncomputable def mm_X1_sitsSo : mv_M := (ic_X1_sitsSo, fl_X1, [], [], [(56, 3, some 9, true, ff_X9_gather), (62, 3, some 9, true, ff_X9_askFor), (65, 1, some 10, false, ff_X10_best)], [(5, [true, true, true, true, true])], (some (0, 1)))
noncomputable def ff_X1_sitsSo : mv_F := mv_fn mv_rc mm_X1_sitsSo mv_sh 400 5
theorem dk_X1_sitsSo : mv_dk cX1_sitsSo ic_X1_sitsSo = true := by decide +kernel
set_option maxRecDepth 20000 in
theorem cc_X1_sitsSo {ad : Nat → Nat → Value} {cA : Nat → ClassId} {D : va_G} {tys : List (ClassId × FieldType)} {A : Nat → Prop} (l : Launch) (hF : mv_Fix mv_sh mv_ids mv_ros ad cA tys A mv_rc) : mv_Met l yX1_sitsSo cX1_sitsSo 5 (some .boolean) mv_Ts (mv_rm 6) 3 false mv_sh mv_ids mv_ros ad cA mv_cl D tys A mv_rc mv_cr (mv_EX ad A) ff_X1_sitsSo := mv_met_of (by decide +kernel) (by decide) hF mv_stok (mv_rzZ (by decide +kernel) rfl) mv_clok (mv_dk_ok dk_X1_sitsSo) (mv_fk_ok fk_X1) (fun p e s m args below meth c Q hBg hX hR => ⟨fun _ h => absurd h List.not_mem_nil, fun _ h => absurd h List.not_mem_nil⟩) (fun p e s m args below meth c Q hBg hX hR hK => List.forall_mem_cons.mpr ⟨mv_cal_of (cc_X9_gather l hF) hBg hX hR hK mv_EX_ok hF mv_good mv_stok cw_X1_56.1 cw_X1_56.2.1 cw_X1_56.2.2 ⟨rfl, rfl, by exact Nat.le_of_ble_eq_true rfl, by exact Nat.le_of_ble_eq_true rfl⟩ ⟨Nat.zero_le _, Nat.zero_le _⟩, List.forall_mem_cons.mpr ⟨mv_cal_of (cc_X9_askFor l hF) hBg hX hR hK mv_EX_ok hF mv_good mv_stok cw_X1_62.1 cw_X1_62.2.1 cw_X1_62.2.2 ⟨rfl, rfl, by exact Nat.le_of_ble_eq_true rfl, by exact Nat.le_of_ble_eq_true rfl⟩ ⟨Nat.zero_le _, Nat.zero_le _⟩, List.forall_mem_cons.mpr ⟨mv_cal_of (cc_X10_best l hF) hBg hX hR hK mv_EX_ok hF mv_good mv_stok cw_X1_65.1 cw_X1_65.2.1 cw_X1_65.2.2 ⟨rfl, rfl, by exact Nat.le_of_ble_eq_true rfl, by exact Nat.le_of_ble_eq_true rfl⟩ ⟨Nat.zero_le _, Nat.zero_le _⟩, fun _ h => absurd h List.not_mem_nil⟩⟩⟩)
set_option maxRecDepth 20000 in
theorem cw_X1_46 : mv_Cw RX1 46 yJ7_fill_53178 cJ7_fill_53178 4 none (none) 2 := mv_cw_of (a := 1210) (b := 134) (c := 241) (d := 0) (mv_T 242 rfl rfl) (by decide +kernel)
set_option maxRecDepth 20000 in
theorem cw_X1_52 : mv_Cw RX1 52 yX1_sitsSo cX1_sitsSo 5 (some .boolean) (some 1) 3 := mv_cw_of (a := 1211) (b := 141) (c := 1213) (d := 33) (mv_T 1214 rfl rfl) (by decide +kernel)
def ic_X1_findNextOnes : List (Nat × Instr × Nat) := [(0, .iconst 1, 1), (1, .aload_n 0, 1), (2, .getfield 33, 3), (5, .ishl, 1), (6, .iconst 1, 1), (7, .isub, 1), (8, .istore_n 1, 1), (9, .aload_n 0, 1), (10, .getfield 18, 3), (13, .iconst 0, 1), (14, .invokestatic 46, 3), (17, .aload_n 0, 1), (18, .getfield 15, 3), (21, .iconst 0, 1), (22, .invokestatic 46, 3), (25, .aload_n 0, 1), (26, .getfield 15, 3), (29, .iconst 0, 1), (30, .iconst 1, 1), (31, .iastore, 1), (32, .iconst 0, 1), (33, .istore_n 2, 1), (34, .iload_n 2, 1), (35, .iload_n 1, 1), (36, .if_icmp .ge 76, 3), (39, .iconst 0, 1), (40, .istore_n 3, 1), (41, .iload_n 3, 1), (42, .aload_n 0, 1), (43, .getfield 33, 3), (46, .if_icmp .ge 60, 3), (49, .aload_n 0, 1), (50, .getfield 15, 3), (53, .iload_n 2, 1), (54, .iaload, 1), (55, .ifCond .le 51, 3), (58, .iconst 1, 1), (59, .iload_n 3, 1), (60, .ishl, 1), (61, .istore 4, 2), (63, .iload_n 2, 1), (64, .iload 4, 2), (66, .iand, 1), (67, .ifCond .ne 33, 3), (70, .aload_n 0, 1), (71, .iload_n 3, 1), (72, .iload_n 2, 1), (73, .invokevirtual 52, 3), (76, .ifCond .eq 24, 3), (79, .aload_n 0, 1), (80, .getfield 18, 3), (83, .iload_n 2, 1), (84, .dup2, 1), (85, .iaload, 1), (86, .iload 4, 2), (88, .ior, 1), (89, .iastore, 1), (90, .aload_n 0, 1), (91, .getfield 15, 3), (94, .iload_n 2, 1), (95, .iload 4, 2), (97, .ior, 1), (98, .iconst 1, 1), (99, .iastore, 1), (100, .iinc 3 1, 3), (103, .goto (-62), 3), (106, .iinc 2 1, 3), (109, .goto (-75), 3), (112, .return_, 1)]
noncomputable def mm_X1_findNextOnes : mv_M := (ic_X1_findNextOnes, fl_X1, [], [], [(46, 2, none, true, ff_J7_fill_53178), (52, 3, some 1, false, ff_X1_sitsSo)], [(34, [true, true, true, false, false]), (41, [true, true, true, true, false])], none)
noncomputable def ff_X1_findNextOnes : mv_F := mv_fn mv_rc mm_X1_findNextOnes mv_sh 400 5
theorem dk_X1_findNextOnes : mv_dk cX1_findNextOnes ic_X1_findNextOnes = true := by decide +kernel
set_option maxRecDepth 20000 in
theorem cc_X1_findNextOnes {ad : Nat → Nat → Value} {cA : Nat → ClassId} {D : va_G} {tys : List (ClassId × FieldType)} {A : Nat → Prop} (l : Launch) (hF : mv_Fix mv_sh mv_ids mv_ros ad cA tys A mv_rc) : mv_Met l yX1_findNextOnes cX1_findNextOnes 5 none mv_Ts (mv_rm 7) 1 true mv_sh mv_ids mv_ros ad cA mv_cl D tys A mv_rc mv_cr (mv_EX ad A) ff_X1_findNextOnes := mv_met_of (by decide +kernel) (by decide) hF mv_stok (mv_rzV (by decide +kernel)) mv_clok (mv_dk_ok dk_X1_findNextOnes) (mv_fk_ok fk_X1) (fun p e s m args below meth c Q hBg hX hR => ⟨fun _ h => absurd h List.not_mem_nil, fun _ h => absurd h List.not_mem_nil⟩) (fun p e s m args below meth c Q hBg hX hR hK => List.forall_mem_cons.mpr ⟨mv_cal_of (cc_J7_fill_53178 l hF) hBg hX hR hK mv_EX_ok hF mv_good mv_stok cw_X1_46.1 cw_X1_46.2.1 cw_X1_46.2.2 ⟨rfl, rfl, by exact Nat.le_of_ble_eq_true rfl, by exact Nat.le_of_ble_eq_true rfl⟩ ⟨Nat.zero_le _, Nat.zero_le _⟩, List.forall_mem_cons.mpr ⟨mv_cal_of (cc_X1_sitsSo l hF) hBg hX hR hK mv_EX_ok hF mv_good mv_stok cw_X1_52.1 cw_X1_52.2.1 cw_X1_52.2.2 ⟨rfl, rfl, by exact Nat.le_of_ble_eq_true rfl, by exact Nat.le_of_ble_eq_true rfl⟩ ⟨Nat.zero_le _, Nat.zero_le _⟩, fun _ h => absurd h List.not_mem_nil⟩⟩)
def ic_X1_countWays : List (Nat × Instr × Nat) := [(0, .iconst 1, 1), (1, .aload_n 0, 1), (2, .getfield 33, 3), (5, .ishl, 1), (6, .iconst 1, 1), (7, .isub, 1), (8, .istore_n 1, 1), (9, .iload_n 1, 1), (10, .istore_n 2, 1), (11, .iload_n 2, 1), (12, .ifCond .lt 102, 3), (15, .aload_n 0, 1), (16, .getfield 15, 3), (19, .iload_n 2, 1), (20, .iload_n 2, 1), (21, .iload_n 1, 1), (22, .if_icmp .ne 7, 3), (25, .iconst 1, 1), (26, .goto 4, 3), (29, .iconst 0, 1), (30, .iastore, 1), (31, .iconst 0, 1), (32, .istore_n 3, 1), (33, .iload_n 3, 1), (34, .aload_n 0, 1), (35, .getfield 33, 3), (38, .if_icmp .ge 70, 3), (41, .iconst 1, 1), (42, .iload_n 3, 1), (43, .ishl, 1), (44, .istore 4, 2), (46, .aload_n 0, 1), (47, .getfield 18, 3), (50, .iload_n 2, 1), (51, .iaload, 1), (52, .iload 4, 2), (54, .iand, 1), (55, .ifCond .ne 6, 3), (58, .goto 44, 3), (61, .aload_n 0, 1), (62, .getfield 15, 3), (65, .iload_n 2, 1), (66, .dup2, 1), (67, .iaload, 1), (68, .aload_n 0, 1), (69, .getfield 15, 3), (72, .iload_n 2, 1), (73, .iload 4, 2), (75, .ior, 1), (76, .iaload, 1), (77, .iadd, 1), (78, .iastore, 1), (79, .aload_n 0, 1), (80, .getfield 15, 3), (83, .iload_n 2, 1), (84, .iload 4, 2), (86, .ior, 1), (87, .iaload, 1), (88, .ifCond .ne 14, 3), (91, .aload_n 0, 1), (92, .getfield 18, 3), (95, .iload_n 2, 1), (96, .dup2, 1), (97, .iaload, 1), (98, .iload 4, 2), (100, .isub, 1), (101, .iastore, 1), (102, .iinc 3 1, 3), (105, .goto (-72), 3), (108, .iinc 2 (-1), 3), (111, .goto (-100), 3), (114, .return_, 1)]
noncomputable def mm_X1_countWays : mv_M := (ic_X1_countWays, fl_X1, [], [], [], [(11, [true, true, true, false, false]), (33, [true, true, true, true, false])], none)
noncomputable def ff_X1_countWays : mv_F := mv_fn mv_rc mm_X1_countWays mv_sh 400 5
theorem dk_X1_countWays : mv_dk cX1_countWays ic_X1_countWays = true := by decide +kernel
set_option maxRecDepth 20000 in
theorem cc_X1_countWays {ad : Nat → Nat → Value} {cA : Nat → ClassId} {D : va_G} {tys : List (ClassId × FieldType)} {A : Nat → Prop} (l : Launch) (hF : mv_Fix mv_sh mv_ids mv_ros ad cA tys A mv_rc) : mv_Met l yX1_countWays cX1_countWays 5 none mv_Ts (mv_rm 1) 1 true mv_sh mv_ids mv_ros ad cA mv_cl D tys A mv_rc mv_cr (mv_EX ad A) ff_X1_countWays := mv_met_of (by decide +kernel) (by decide) hF mv_stok (mv_rzV (by decide +kernel)) mv_clok (mv_dk_ok dk_X1_countWays) (mv_fk_ok fk_X1) (fun p e s m args below meth c Q hBg hX hR => ⟨fun _ h => absurd h List.not_mem_nil, fun _ h => absurd h List.not_mem_nil⟩) (fun p e s m args below meth c Q hBg hX hR hK => fun _ h => absurd h List.not_mem_nil)
def ic_X1_howMany : List (Nat × Instr × Nat) := [(0, .aload_n 0, 1), (1, .getfield 15, 3), (4, .iconst 0, 1), (5, .iaload, 1), (6, .ireturn, 1)]
noncomputable def mm_X1_howMany : mv_M := (ic_X1_howMany, fl_X1, [], [], [], [], none)
noncomputable def ff_X1_howMany : mv_F := mv_fn mv_rc mm_X1_howMany mv_sh 400 1
theorem dk_X1_howMany : mv_dk cX1_howMany ic_X1_howMany = true := by decide +kernel
set_option maxRecDepth 20000 in
theorem cc_X1_howMany {ad : Nat → Nat → Value} {cA : Nat → ClassId} {D : va_G} {tys : List (ClassId × FieldType)} {A : Nat → Prop} (l : Launch) (hF : mv_Fix mv_sh mv_ids mv_ros ad cA tys A mv_rc) : mv_Met l yX1_howMany cX1_howMany 1 (some .int) mv_Ts (mv_rm 1) 1 false mv_sh mv_ids mv_ros ad cA mv_cl D tys A mv_rc mv_cr (mv_EX ad A) ff_X1_howMany := mv_met_of (by decide +kernel) (by decide) hF mv_stok (mv_rzI (by decide +kernel)) mv_clok (mv_dk_ok dk_X1_howMany) (mv_fk_ok fk_X1) (fun p e s m args below meth c Q hBg hX hR => ⟨fun _ h => absurd h List.not_mem_nil, fun _ h => absurd h List.not_mem_nil⟩) (fun p e s m args below meth c Q hBg hX hR hK => fun _ h => absurd h List.not_mem_nil)
def ic_J6_numberOfTrailingZeros_0f7a4 : List (Nat × Instr × Nat) := [(0, .iload_n 0, 1), (1, .iconst (-1), 1), (2, .ixor, 1), (3, .iload_n 0, 1), (4, .iconst 1, 1), (5, .isub, 1), (6, .iand, 1), (7, .istore_n 0, 1), (8, .iload_n 0, 1), (9, .ifCond .gt 8, 3), (12, .iload_n 0, 1), (13, .bipush 32, 2), (15, .iand, 1), (16, .ireturn, 1), (17, .iconst 1, 1), (18, .istore_n 1, 1), (19, .iload_n 0, 1), (20, .ldc_w 264, 3), (23, .if_icmp .le 11, 3), (26, .iinc 1 16, 3), (29, .iload_n 0, 1), (30, .bipush 16, 2), (32, .iushr, 1), (33, .istore_n 0, 1), (34, .iload_n 0, 1), (35, .sipush 256, 3), (38, .if_icmp .le 11, 3), (41, .iinc 1 8, 3), (44, .iload_n 0, 1), (45, .bipush 8, 2), (47, .iushr, 1), (48, .istore_n 0, 1), (49, .iload_n 0, 1), (50, .bipush 16, 2), (52, .if_icmp .le 10, 3), (55, .iinc 1 4, 3), (58, .iload_n 0, 1), (59, .iconst 4, 1), (60, .iushr, 1), (61, .istore_n 0, 1), (62, .iload_n 0, 1), (63, .iconst 4, 1), (64, .if_icmp .le 10, 3), (67, .iinc 1 2, 3), (70, .iload_n 0, 1), (71, .iconst 2, 1), (72, .iushr, 1), (73, .istore_n 0, 1), (74, .iload_n 1, 1), (75, .iload_n 0, 1), (76, .iconst 1, 1), (77, .iushr, 1), (78, .iadd, 1), (79, .ireturn, 1)]
noncomputable def mm_J6_numberOfTrailingZeros_0f7a4 : mv_M := (ic_J6_numberOfTrailingZeros_0f7a4, [], [(264, .inl 65536)], [], [], [], none)
noncomputable def ff_J6_numberOfTrailingZeros_0f7a4 : mv_F := mv_fn mv_rc mm_J6_numberOfTrailingZeros_0f7a4 mv_sh 400 2
theorem dk_J6_numberOfTrailingZeros_0f7a4 : mv_dk cJ6_numberOfTrailingZeros_0f7a4 ic_J6_numberOfTrailingZeros_0f7a4 = true := by decide +kernel
set_option maxRecDepth 20000 in
theorem cc_J6_numberOfTrailingZeros_0f7a4 {ad : Nat → Nat → Value} {cA : Nat → ClassId} {D : va_G} {tys : List (ClassId × FieldType)} {A : Nat → Prop} (l : Launch) (hF : mv_Fix mv_sh mv_ids mv_ros ad cA tys A mv_rc) : mv_Met l yJ6_numberOfTrailingZeros_0f7a4 cJ6_numberOfTrailingZeros_0f7a4 2 (some .int) mv_Ts (mv_rm 1) 1 false mv_sh mv_ids mv_ros ad cA mv_cl D tys A mv_rc mv_cr (mv_EX ad A) ff_J6_numberOfTrailingZeros_0f7a4 := mv_met_of (by decide +kernel) (by decide) hF mv_stok (mv_rzI (by decide +kernel)) mv_clok (mv_dk_ok dk_J6_numberOfTrailingZeros_0f7a4) (fun _ h => absurd h List.not_mem_nil) (fun p e s m args below meth c Q hBg hX hR => ⟨List.forall_mem_cons.mpr ⟨mv_cs_i hBg (mv_T 1233 rfl rfl) (by decide), fun _ h => absurd h List.not_mem_nil⟩, fun _ h => absurd h List.not_mem_nil⟩) (fun p e s m args below meth c Q hBg hX hR hK => fun _ h => absurd h List.not_mem_nil)
set_option maxRecDepth 20000 in
theorem cw_X1_74 : mv_Cw RX1 74 yJ6_numberOfTrailingZeros_0f7a4 cJ6_numberOfTrailingZeros_0f7a4 2 (some .int) (none) 1 := mv_cw_of (a := 1230) (b := 150) (c := 1231) (d := 0) (mv_T 1232 rfl rfl) (by decide +kernel)
def ic_X1_inFirst : List (Nat × Instr × Nat) := [(0, .iconst 0, 1), (1, .istore_n 2, 1), (2, .iconst 0, 1), (3, .istore_n 3, 1), (4, .iload_n 3, 1), (5, .aload_n 0, 1), (6, .getfield 33, 3), (9, .if_icmp .ge 51, 3), (12, .aload_n 0, 1), (13, .getfield 18, 3), (16, .iload_n 2, 1), (17, .iaload, 1), (18, .invokestatic 74, 3), (21, .istore 4, 2), (23, .iload 4, 2), (25, .aload_n 0, 1), (26, .getfield 33, 3), (29, .if_icmp .lt 5, 3), (32, .iconst (-1), 1), (33, .ireturn, 1), (34, .iload_n 3, 1), (35, .iload_n 1, 1), (36, .if_icmp .ne 11, 3), (39, .aload_n 0, 1), (40, .getfield 9, 3), (43, .iload 4, 2), (45, .iaload, 1), (46, .ireturn, 1), (47, .iload_n 2, 1), (48, .iconst 1, 1), (49, .iload 4, 2), (51, .ishl, 1), (52, .ior, 1), (53, .istore_n 2, 1), (54, .iinc 3 1, 3), (57, .goto (-53), 3), (60, .iconst (-1), 1), (61, .ireturn, 1)]
noncomputable def mm_X1_inFirst : mv_M := (ic_X1_inFirst, fl_X1, [], [], [(74, 1, none, false, ff_J6_numberOfTrailingZeros_0f7a4)], [(4, [true, true, true, true, false])], none)
noncomputable def ff_X1_inFirst : mv_F := mv_fn mv_rc mm_X1_inFirst mv_sh 400 5
theorem dk_X1_inFirst : mv_dk cX1_inFirst ic_X1_inFirst = true := by decide +kernel
set_option maxRecDepth 20000 in
theorem cc_X1_inFirst {ad : Nat → Nat → Value} {cA : Nat → ClassId} {D : va_G} {tys : List (ClassId × FieldType)} {A : Nat → Prop} (l : Launch) (hF : mv_Fix mv_sh mv_ids mv_ros ad cA tys A mv_rc) : mv_Met l yX1_inFirst cX1_inFirst 5 (some .int) mv_Ts (mv_rm 2) 2 false mv_sh mv_ids mv_ros ad cA mv_cl D tys A mv_rc mv_cr (mv_EX ad A) ff_X1_inFirst := mv_met_of (by decide +kernel) (by decide) hF mv_stok (mv_rzI (by decide +kernel)) mv_clok (mv_dk_ok dk_X1_inFirst) (mv_fk_ok fk_X1) (fun p e s m args below meth c Q hBg hX hR => ⟨fun _ h => absurd h List.not_mem_nil, fun _ h => absurd h List.not_mem_nil⟩) (fun p e s m args below meth c Q hBg hX hR hK => List.forall_mem_cons.mpr ⟨mv_cal_of (cc_J6_numberOfTrailingZeros_0f7a4 l hF) hBg hX hR hK mv_EX_ok hF mv_good mv_stok cw_X1_74.1 cw_X1_74.2.1 cw_X1_74.2.2 ⟨rfl, rfl, by exact Nat.le_of_ble_eq_true rfl, by exact Nat.le_of_ble_eq_true rfl⟩ ⟨Nat.zero_le _, Nat.zero_le _⟩, fun _ h => absurd h List.not_mem_nil⟩)
set_option maxRecDepth 20000 in
theorem cw_X11_252 : mv_Cw RX11 252 yX1_gatherAll cX1_gatherAll 2 (some .boolean) (some 1) 1 := mv_cw_of (a := 1201) (b := 141) (c := 1202) (d := 1203) (mv_T 1204 rfl rfl) (by decide +kernel)
set_option maxRecDepth 20000 in
theorem cw_X11_256 : mv_Cw RX11 256 yX1_findNextOnes cX1_findNextOnes 5 none (some 1) 1 := mv_cw_of (a := 1206) (b := 141) (c := 1207) (d := 1208) (mv_T 1209 rfl rfl) (by decide +kernel)
set_option maxRecDepth 20000 in
theorem cw_X11_259 : mv_Cw RX11 259 yX1_countWays cX1_countWays 5 none (some 1) 1 := mv_cw_of (a := 1218) (b := 141) (c := 1219) (d := 1220) (mv_T 1221 rfl rfl) (by decide +kernel)
set_option maxRecDepth 20000 in
theorem cw_X11_262 : mv_Cw RX11 262 yX1_howMany cX1_howMany 1 (some .int) (some 1) 1 := mv_cw_of (a := 1222) (b := 141) (c := 1223) (d := 1224) (mv_T 1225 rfl rfl) (by decide +kernel)
set_option maxRecDepth 20000 in
theorem cw_X11_265 : mv_Cw RX11 265 yX1_inFirst cX1_inFirst 5 (some .int) (some 1) 2 := mv_cw_of (a := 1226) (b := 141) (c := 1227) (d := 1228) (mv_T 1229 rfl rfl) (by decide +kernel)
def ic_X11_orders : List (Nat × Instr × Nat) := [(0, .iload_n 1, 1), (1, .ifCond .eq 9, 3), (4, .iload_n 1, 1), (5, .bipush 10, 2), (7, .if_icmp .lt 13, 3), (10, .aload_n 0, 1), (11, .getfield 68, 3), (14, .invokevirtual 252, 3), (17, .ifCond .ne 5, 3), (20, .iconst (-1), 1), (21, .ireturn, 1), (22, .aload_n 0, 1), (23, .getfield 68, 3), (26, .invokevirtual 256, 3), (29, .aload_n 0, 1), (30, .getfield 68, 3), (33, .invokevirtual 259, 3), (36, .iload_n 1, 1), (37, .ifCond .ne 13, 3), (40, .aload_n 0, 1), (41, .getfield 68, 3), (44, .invokevirtual 262, 3), (47, .goto 14, 3), (50, .aload_n 0, 1), (51, .getfield 68, 3), (54, .iload_n 1, 1), (55, .bipush 10, 2), (57, .isub, 1), (58, .invokevirtual 265, 3), (61, .ireturn, 1)]
noncomputable def mm_X11_orders : mv_M := (ic_X11_orders, fl_X11, [], [], [(252, 1, some 1, false, ff_X1_gatherAll), (256, 1, some 1, true, ff_X1_findNextOnes), (259, 1, some 1, true, ff_X1_countWays), (262, 1, some 1, false, ff_X1_howMany), (265, 2, some 1, false, ff_X1_inFirst)], [], none)
noncomputable def ff_X11_orders : mv_F := mv_fn mv_rc mm_X11_orders mv_sh 400 2
theorem dk_X11_orders : mv_dk cX11_orders ic_X11_orders = true := by decide +kernel
set_option maxRecDepth 20000 in
theorem cc_X11_orders {ad : Nat → Nat → Value} {cA : Nat → ClassId} {D : va_G} {tys : List (ClassId × FieldType)} {A : Nat → Prop} (l : Launch) (hF : mv_Fix mv_sh mv_ids mv_ros ad cA tys A mv_rc) : mv_Met l yX11_orders cX11_orders 2 (some .int) mv_Ts (mv_rm 8) 2 false mv_sh mv_ids mv_ros ad cA mv_cl D tys A mv_rc mv_cr (mv_EX ad A) ff_X11_orders := mv_met_of (by decide +kernel) (by decide) hF mv_stok (mv_rzI (by decide +kernel)) mv_clok (mv_dk_ok dk_X11_orders) (mv_fk_ok fk_X11) (fun p e s m args below meth c Q hBg hX hR => ⟨fun _ h => absurd h List.not_mem_nil, fun _ h => absurd h List.not_mem_nil⟩) (fun p e s m args below meth c Q hBg hX hR hK => List.forall_mem_cons.mpr ⟨mv_cal_of (cc_X1_gatherAll l hF) hBg hX hR hK mv_EX_ok hF mv_good mv_stok cw_X11_252.1 cw_X11_252.2.1 cw_X11_252.2.2 ⟨rfl, rfl, by exact Nat.le_of_ble_eq_true rfl, by exact Nat.le_of_ble_eq_true rfl⟩ ⟨Nat.zero_le _, Nat.zero_le _⟩, List.forall_mem_cons.mpr ⟨mv_cal_of (cc_X1_findNextOnes l hF) hBg hX hR hK mv_EX_ok hF mv_good mv_stok cw_X11_256.1 cw_X11_256.2.1 cw_X11_256.2.2 ⟨rfl, rfl, by exact Nat.le_of_ble_eq_true rfl, by exact Nat.le_of_ble_eq_true rfl⟩ ⟨Nat.zero_le _, Nat.zero_le _⟩, List.forall_mem_cons.mpr ⟨mv_cal_of (cc_X1_countWays l hF) hBg hX hR hK mv_EX_ok hF mv_good mv_stok cw_X11_259.1 cw_X11_259.2.1 cw_X11_259.2.2 ⟨rfl, rfl, by exact Nat.le_of_ble_eq_true rfl, by exact Nat.le_of_ble_eq_true rfl⟩ ⟨Nat.zero_le _, Nat.zero_le _⟩, List.forall_mem_cons.mpr ⟨mv_cal_of (cc_X1_howMany l hF) hBg hX hR hK mv_EX_ok hF mv_good mv_stok cw_X11_262.1 cw_X11_262.2.1 cw_X11_262.2.2 ⟨rfl, rfl, by exact Nat.le_of_ble_eq_true rfl, by exact Nat.le_of_ble_eq_true rfl⟩ ⟨Nat.zero_le _, Nat.zero_le _⟩, List.forall_mem_cons.mpr ⟨mv_cal_of (cc_X1_inFirst l hF) hBg hX hR hK mv_EX_ok hF mv_good mv_stok cw_X11_265.1 cw_X11_265.2.1 cw_X11_265.2.2 ⟨rfl, rfl, by exact Nat.le_of_ble_eq_true rfl, by exact Nat.le_of_ble_eq_true rfl⟩ ⟨Nat.zero_le _, Nat.zero_le _⟩, fun _ h => absurd h List.not_mem_nil⟩⟩⟩⟩⟩)
end
section
def ic_X12_isPerson : List (Nat × Instr × Nat) := [(0, .iload_n 1, 1), (1, .ifCond .lt 15, 3), (4, .iload_n 1, 1), (5, .aload_n 0, 1), (6, .getfield 139, 3), (9, .if_icmp .ge 7, 3), (12, .iconst 1, 1), (13, .goto 4, 3), (16, .iconst 0, 1), (17, .ireturn, 1)]
noncomputable def mm_X12_isPerson : mv_M := (ic_X12_isPerson, fl_X12, [], [], [], [], (some (0, 1)))
noncomputable def ff_X12_isPerson : mv_F := mv_fn mv_rc mm_X12_isPerson mv_sh 400 2
theorem dk_X12_isPerson : mv_dk cX12_isPerson ic_X12_isPerson = true := by decide +kernel
set_option maxRecDepth 20000 in
theorem cc_X12_isPerson {ad : Nat → Nat → Value} {cA : Nat → ClassId} {D : va_G} {tys : List (ClassId × FieldType)} {A : Nat → Prop} (l : Launch) (hF : mv_Fix mv_sh mv_ids mv_ros ad cA tys A mv_rc) : mv_Met l yX12_isPerson cX12_isPerson 2 (some .boolean) mv_Ts (mv_rm 1) 2 false mv_sh mv_ids mv_ros ad cA mv_cl D tys A mv_rc mv_cr (mv_EX ad A) ff_X12_isPerson := mv_met_of (by decide +kernel) (by decide) hF mv_stok (mv_rzZ (by decide +kernel) rfl) mv_clok (mv_dk_ok dk_X12_isPerson) (mv_fk_ok fk_X12) (fun p e s m args below meth c Q hBg hX hR => ⟨fun _ h => absurd h List.not_mem_nil, fun _ h => absurd h List.not_mem_nil⟩) (fun p e s m args below meth c Q hBg hX hR hK => fun _ h => absurd h List.not_mem_nil)
set_option maxRecDepth 20000 in
theorem cw_X12_161 : mv_Cw RX12 161 yX12_isPerson cX12_isPerson 2 (some .boolean) (some 12) 2 := mv_cw_of (a := 1563) (b := 143) (c := 1565) (d := 39) (mv_T 1566 rfl rfl) (by decide +kernel)
def ic_X12_isAside : List (Nat × Instr × Nat) := [(0, .aload_n 0, 1), (1, .iload_n 1, 1), (2, .invokevirtual 161, 3), (5, .ifCond .eq 15, 3), (8, .aload_n 0, 1), (9, .iload_n 1, 1), (10, .invokevirtual 153, 3), (13, .ifCond .ne 7, 3), (16, .iconst 1, 1), (17, .goto 4, 3), (20, .iconst 0, 1), (21, .ireturn, 1)]
noncomputable def mm_X12_isAside : mv_M := (ic_X12_isAside, fl_X12, [], [], [(161, 2, some 12, false, ff_X12_isPerson), (153, 2, some 12, false, ff_X12_sits)], [], (some (0, 1)))
noncomputable def ff_X12_isAside : mv_F := mv_fn mv_rc mm_X12_isAside mv_sh 400 2
theorem dk_X12_isAside : mv_dk cX12_isAside ic_X12_isAside = true := by decide +kernel
set_option maxRecDepth 20000 in
theorem cc_X12_isAside {ad : Nat → Nat → Value} {cA : Nat → ClassId} {D : va_G} {tys : List (ClassId × FieldType)} {A : Nat → Prop} (l : Launch) (hF : mv_Fix mv_sh mv_ids mv_ros ad cA tys A mv_rc) : mv_Met l yX12_isAside cX12_isAside 2 (some .boolean) mv_Ts (mv_rm 2) 2 false mv_sh mv_ids mv_ros ad cA mv_cl D tys A mv_rc mv_cr (mv_EX ad A) ff_X12_isAside := mv_met_of (by decide +kernel) (by decide) hF mv_stok (mv_rzZ (by decide +kernel) rfl) mv_clok (mv_dk_ok dk_X12_isAside) (mv_fk_ok fk_X12) (fun p e s m args below meth c Q hBg hX hR => ⟨fun _ h => absurd h List.not_mem_nil, fun _ h => absurd h List.not_mem_nil⟩) (fun p e s m args below meth c Q hBg hX hR hK => List.forall_mem_cons.mpr ⟨mv_cal_of (cc_X12_isPerson l hF) hBg hX hR hK mv_EX_ok hF mv_good mv_stok cw_X12_161.1 cw_X12_161.2.1 cw_X12_161.2.2 ⟨rfl, rfl, by exact Nat.le_of_ble_eq_true rfl, by exact Nat.le_of_ble_eq_true rfl⟩ ⟨Nat.zero_le _, Nat.zero_le _⟩, List.forall_mem_cons.mpr ⟨mv_cal_of (cc_X12_sits l hF) hBg hX hR hK mv_EX_ok hF mv_good mv_stok cw_X12_153.1 cw_X12_153.2.1 cw_X12_153.2.2 ⟨rfl, rfl, by exact Nat.le_of_ble_eq_true rfl, by exact Nat.le_of_ble_eq_true rfl⟩ ⟨Nat.zero_le _, Nat.zero_le _⟩, fun _ h => absurd h List.not_mem_nil⟩⟩)
set_option maxRecDepth 20000 in
theorem cw_X12_363 : mv_Cw RX12 363 yX12_isAside cX12_isAside 2 (some .boolean) (some 12) 2 := mv_cw_of (a := 1764) (b := 143) (c := 1766) (d := 83) (mv_T 1767 rfl rfl) (by decide +kernel)
def ic_X12_block : List (Nat × Instr × Nat) := [(0, .aload_n 0, 1), (1, .iconst 0, 1), (2, .putfield 126, 3), (5, .aload_n 0, 1), (6, .iload_n 1, 1), (7, .invokevirtual 363, 3), (10, .ifCond .eq 12, 3), (13, .aload_n 0, 1), (14, .iload_n 2, 1), (15, .iload_n 3, 1), (16, .invokevirtual 457, 3), (19, .ifCond .ne 5, 3), (22, .iconst (-1), 1), (23, .ireturn, 1), (24, .aload_n 0, 1), (25, .iload_n 2, 1), (26, .iload_n 3, 1), (27, .invokevirtual 463, 3), (30, .iconst (-1), 1), (31, .istore 4, 2), (33, .ldc_w 408, 3), (36, .istore 5, 2), (38, .iconst 0, 1), (39, .istore 6, 2), (41, .iload 6, 2), (43, .aload_n 0, 1), (44, .invokevirtual 149, 3), (47, .if_icmp .ge 104, 3), (50, .aload_n 0, 1), (51, .aload_n 0, 1), (52, .invokevirtual 344, 3), (55, .invokevirtual 347, 3), (58, .aload_n 0, 1), (59, .iload_n 1, 1), (60, .invokevirtual 350, 3), (63, .aload_n 0, 1), (64, .iload 6, 2), (66, .invokevirtual 337, 3), (69, .ifCond .ne 6, 3), (72, .goto 73, 3), (75, .aload_n 0, 1), (76, .iload_n 1, 1), (77, .iload 6, 2), (79, .iload 6, 2), (81, .aload_n 0, 1), (82, .iload_n 1, 1), (83, .invokevirtual 292, 3), (86, .iadd, 1), (87, .aload_n 0, 1), (88, .getfield 26, 3), (91, .iload_n 1, 1), (92, .iaload, 1), (93, .aload_n 0, 1), (94, .getfield 32, 3), (97, .iload_n 1, 1), (98, .iaload, 1), (99, .invokevirtual 295, 3), (102, .aload_n 0, 1), (103, .iload_n 3, 1), (104, .invokevirtual 466, 3), (107, .aload_n 0, 1), (108, .getfield 451, 3), (111, .iload 5, 2), (113, .if_icmp .ge 8, 3), (116, .iload 6, 2), (118, .goto 5, 3), (121, .iload 4, 2), (123, .istore 4, 2), (125, .aload_n 0, 1), (126, .getfield 451, 3), (129, .iload 5, 2), (131, .if_icmp .ge 10, 3), (134, .aload_n 0, 1), (135, .getfield 451, 3), (138, .goto 5, 3), (141, .iload 5, 2), (143, .istore 5, 2), (145, .iinc 6 1, 3), (148, .goto (-107), 3), (151, .iload 4, 2), (153, .ireturn, 1)]
noncomputable def mm_X12_block : mv_M := (ic_X12_block, fl_X12, [(408, .inl 1000000)], [], [(363, 2, some 12, false, ff_X12_isAside), (457, 3, some 12, false, ff_X12_areAlike), (463, 3, some 12, true, ff_X12_findsStretches), (149, 1, some 12, false, ff_X12_length), (344, 1, some 12, false, ff_X12_everyone), (347, 2, some 12, true, ff_X12_lists), (350, 2, some 12, true, ff_X12_asksFor), (337, 2, some 12, false, ff_X12_canSit), (292, 2, some 12, false, ff_X12_takesOf), (295, 6, some 12, true, ff_X12_seats), (466, 2, some 12, true, ff_X12_fills)], [(41, [true, true, false, true, true, true, true])], none)
noncomputable def ff_X12_block : mv_F := mv_fn mv_rc mm_X12_block mv_sh 400 7
theorem dk_X12_block : mv_dk cX12_block ic_X12_block = true := by decide +kernel
set_option maxRecDepth 20000 in
theorem cc_X12_block {ad : Nat → Nat → Value} {cA : Nat → ClassId} {D : va_G} {tys : List (ClassId × FieldType)} {A : Nat → Prop} (l : Launch) (hF : mv_Fix mv_sh mv_ids mv_ros ad cA tys A mv_rc) : mv_Met l yX12_block cX12_block 7 (some .int) mv_Ts (mv_rm 6) 4 false mv_sh mv_ids mv_ros ad cA mv_cl D tys A mv_rc mv_cr (mv_EX ad A) ff_X12_block := mv_met_of (by decide +kernel) (by decide) hF mv_stok (mv_rzI (by decide +kernel)) mv_clok (mv_dk_ok dk_X12_block) (mv_fk_ok fk_X12) (fun p e s m args below meth c Q hBg hX hR => ⟨List.forall_mem_cons.mpr ⟨mv_cs_i hBg (mv_T 1804 rfl rfl) (by decide), fun _ h => absurd h List.not_mem_nil⟩, fun _ h => absurd h List.not_mem_nil⟩) (fun p e s m args below meth c Q hBg hX hR hK => List.forall_mem_cons.mpr ⟨mv_cal_of (cc_X12_isAside l hF) hBg hX hR hK mv_EX_ok hF mv_good mv_stok cw_X12_363.1 cw_X12_363.2.1 cw_X12_363.2.2 ⟨rfl, rfl, by exact Nat.le_of_ble_eq_true rfl, by exact Nat.le_of_ble_eq_true rfl⟩ ⟨Nat.zero_le _, Nat.zero_le _⟩, List.forall_mem_cons.mpr ⟨mv_cal_of (cc_X12_areAlike l hF) hBg hX hR hK mv_EX_ok hF mv_good mv_stok cw_X12_457.1 cw_X12_457.2.1 cw_X12_457.2.2 ⟨rfl, rfl, by exact Nat.le_of_ble_eq_true rfl, by exact Nat.le_of_ble_eq_true rfl⟩ ⟨Nat.zero_le _, Nat.zero_le _⟩, List.forall_mem_cons.mpr ⟨mv_cal_of (cc_X12_findsStretches l hF) hBg hX hR hK mv_EX_ok hF mv_good mv_stok cw_X12_463.1 cw_X12_463.2.1 cw_X12_463.2.2 ⟨rfl, rfl, by exact Nat.le_of_ble_eq_true rfl, by exact Nat.le_of_ble_eq_true rfl⟩ ⟨Nat.zero_le _, Nat.zero_le _⟩, List.forall_mem_cons.mpr ⟨mv_cal_of (cc_X12_length l hF) hBg hX hR hK mv_EX_ok hF mv_good mv_stok cw_X12_149.1 cw_X12_149.2.1 cw_X12_149.2.2 ⟨rfl, rfl, by exact Nat.le_of_ble_eq_true rfl, by exact Nat.le_of_ble_eq_true rfl⟩ ⟨Nat.zero_le _, Nat.zero_le _⟩, List.forall_mem_cons.mpr ⟨mv_cal_of (cc_X12_everyone l hF) hBg hX hR hK mv_EX_ok hF mv_good mv_stok cw_X12_344.1 cw_X12_344.2.1 cw_X12_344.2.2 ⟨rfl, rfl, by exact Nat.le_of_ble_eq_true rfl, by exact Nat.le_of_ble_eq_true rfl⟩ ⟨Nat.zero_le _, Nat.zero_le _⟩, List.forall_mem_cons.mpr ⟨mv_cal_of (cc_X12_lists l hF) hBg hX hR hK mv_EX_ok hF mv_good mv_stok cw_X12_347.1 cw_X12_347.2.1 cw_X12_347.2.2 ⟨rfl, rfl, by exact Nat.le_of_ble_eq_true rfl, by exact Nat.le_of_ble_eq_true rfl⟩ ⟨Nat.zero_le _, Nat.zero_le _⟩, List.forall_mem_cons.mpr ⟨mv_cal_of (cc_X12_asksFor l hF) hBg hX hR hK mv_EX_ok hF mv_good mv_stok cw_X12_350.1 cw_X12_350.2.1 cw_X12_350.2.2 ⟨rfl, rfl, by exact Nat.le_of_ble_eq_true rfl, by exact Nat.le_of_ble_eq_true rfl⟩ ⟨Nat.zero_le _, Nat.zero_le _⟩, List.forall_mem_cons.mpr ⟨mv_cal_of (cc_X12_canSit l hF) hBg hX hR hK mv_EX_ok hF mv_good mv_stok cw_X12_337.1 cw_X12_337.2.1 cw_X12_337.2.2 ⟨rfl, rfl, by exact Nat.le_of_ble_eq_true rfl, by exact Nat.le_of_ble_eq_true rfl⟩ ⟨Nat.zero_le _, Nat.zero_le _⟩, List.forall_mem_cons.mpr ⟨mv_cal_of (cc_X12_takesOf l hF) hBg hX hR hK mv_EX_ok hF mv_good mv_stok cw_X12_292.1 cw_X12_292.2.1 cw_X12_292.2.2 ⟨rfl, rfl, by exact Nat.le_of_ble_eq_true rfl, by exact Nat.le_of_ble_eq_true rfl⟩ ⟨Nat.zero_le _, Nat.zero_le _⟩, List.forall_mem_cons.mpr ⟨mv_cal_of (cc_X12_seats l hF) hBg hX hR hK mv_EX_ok hF mv_good mv_stok cw_X12_295.1 cw_X12_295.2.1 cw_X12_295.2.2 ⟨rfl, rfl, by exact Nat.le_of_ble_eq_true rfl, by exact Nat.le_of_ble_eq_true rfl⟩ ⟨Nat.zero_le _, Nat.zero_le _⟩, List.forall_mem_cons.mpr ⟨mv_cal_of (cc_X12_fills l hF) hBg hX hR hK mv_EX_ok hF mv_good mv_stok cw_X12_466.1 cw_X12_466.2.1 cw_X12_466.2.2 ⟨rfl, rfl, by exact Nat.le_of_ble_eq_true rfl, by exact Nat.le_of_ble_eq_true rfl⟩ ⟨Nat.zero_le _, Nat.zero_le _⟩, fun _ h => absurd h List.not_mem_nil⟩⟩⟩⟩⟩⟩⟩⟩⟩⟩⟩)
def ic_X9_gapOf : List (Nat × Instr × Nat) := [(0, .iconst 0, 1), (1, .istore_n 2, 1), (2, .iconst 0, 1), (3, .istore_n 3, 1), (4, .iload_n 3, 1), (5, .aload_n 0, 1), (6, .getfield 27, 3), (9, .if_icmp .ge 23, 3), (12, .aload_n 0, 1), (13, .getfield 9, 3), (16, .iload_n 3, 1), (17, .iaload, 1), (18, .iload_n 1, 1), (19, .if_icmp .ge 7, 3), (22, .iload_n 3, 1), (23, .iconst 1, 1), (24, .iadd, 1), (25, .istore_n 2, 1), (26, .iinc 3 1, 3), (29, .goto (-25), 3), (32, .iload_n 2, 1), (33, .ireturn, 1)]
noncomputable def mm_X9_gapOf : mv_M := (ic_X9_gapOf, fl_X9, [], [], [], [(4, [true, true, true, true])], none)
noncomputable def ff_X9_gapOf : mv_F := mv_fn mv_rc mm_X9_gapOf mv_sh 400 4
theorem dk_X9_gapOf : mv_dk cX9_gapOf ic_X9_gapOf = true := by decide +kernel
set_option maxRecDepth 20000 in
theorem cc_X9_gapOf {ad : Nat → Nat → Value} {cA : Nat → ClassId} {D : va_G} {tys : List (ClassId × FieldType)} {A : Nat → Prop} (l : Launch) (hF : mv_Fix mv_sh mv_ids mv_ros ad cA tys A mv_rc) : mv_Met l yX9_gapOf cX9_gapOf 4 (some .int) mv_Ts (mv_rm 1) 2 false mv_sh mv_ids mv_ros ad cA mv_cl D tys A mv_rc mv_cr (mv_EX ad A) ff_X9_gapOf := mv_met_of (by decide +kernel) (by decide) hF mv_stok (mv_rzI (by decide +kernel)) mv_clok (mv_dk_ok dk_X9_gapOf) (mv_fk_ok fk_X9) (fun p e s m args below meth c Q hBg hX hR => ⟨fun _ h => absurd h List.not_mem_nil, fun _ h => absurd h List.not_mem_nil⟩) (fun p e s m args below meth c Q hBg hX hR hK => fun _ h => absurd h List.not_mem_nil)
set_option maxRecDepth 20000 in
theorem cw_X10_25 : mv_Cw RX10 25 yX9_gapOf cX9_gapOf 4 (some .int) (some 9) 2 := mv_cw_of (a := 1100) (b := 137) (c := 1101) (d := 1102) (mv_T 1103 rfl rfl) (by decide +kernel)
def ic_X10_isPlace : List (Nat × Instr × Nat) := [(0, .aload_n 0, 1), (1, .getfield 21, 3), (4, .iload_n 1, 1), (5, .invokevirtual 25, 3), (8, .istore_n 2, 1), (9, .iload_n 1, 1), (10, .aload_n 0, 1), (11, .getfield 21, 3), (14, .iload_n 2, 1), (15, .invokevirtual 31, 3), (18, .if_icmp .lt 44, 3), (21, .iload_n 1, 1), (22, .aload_n 0, 1), (23, .getfield 21, 3), (26, .iload_n 2, 1), (27, .aload_n 0, 1), (28, .getfield 17, 3), (31, .getfield 34, 3), (34, .invokevirtual 40, 3), (37, .if_icmp .gt 25, 3), (40, .aload_n 0, 1), (41, .getfield 17, 3), (44, .iload_n 1, 1), (45, .aload_n 0, 1), (46, .getfield 21, 3), (49, .getfield 44, 3), (52, .invokevirtual 47, 3), (55, .ifCond .eq 7, 3), (58, .iconst 1, 1), (59, .goto 4, 3), (62, .iconst 0, 1), (63, .ireturn, 1)]
noncomputable def mm_X10_isPlace : mv_M := (ic_X10_isPlace, fl_X10, [], [], [(25, 2, some 9, false, ff_X9_gapOf), (31, 2, some 9, false, ff_X9_lowest), (40, 3, some 9, false, ff_X9_highest), (47, 3, some 2, false, ff_X2_isClear)], [], (some (0, 1)))
noncomputable def ff_X10_isPlace : mv_F := mv_fn mv_rc mm_X10_isPlace mv_sh 400 3
theorem dk_X10_isPlace : mv_dk cX10_isPlace ic_X10_isPlace = true := by decide +kernel
set_option maxRecDepth 20000 in
theorem cc_X10_isPlace {ad : Nat → Nat → Value} {cA : Nat → ClassId} {D : va_G} {tys : List (ClassId × FieldType)} {A : Nat → Prop} (l : Launch) (hF : mv_Fix mv_sh mv_ids mv_ros ad cA tys A mv_rc) : mv_Met l yX10_isPlace cX10_isPlace 3 (some .boolean) mv_Ts (mv_rm 4) 2 false mv_sh mv_ids mv_ros ad cA mv_cl D tys A mv_rc mv_cr (mv_EX ad A) ff_X10_isPlace := mv_met_of (by decide +kernel) (by decide) hF mv_stok (mv_rzZ (by decide +kernel) rfl) mv_clok (mv_dk_ok dk_X10_isPlace) (mv_fk_ok fk_X10) (fun p e s m args below meth c Q hBg hX hR => ⟨fun _ h => absurd h List.not_mem_nil, fun _ h => absurd h List.not_mem_nil⟩) (fun p e s m args below meth c Q hBg hX hR hK => List.forall_mem_cons.mpr ⟨mv_cal_of (cc_X9_gapOf l hF) hBg hX hR hK mv_EX_ok hF mv_good mv_stok cw_X10_25.1 cw_X10_25.2.1 cw_X10_25.2.2 ⟨rfl, rfl, by exact Nat.le_of_ble_eq_true rfl, by exact Nat.le_of_ble_eq_true rfl⟩ ⟨Nat.zero_le _, Nat.zero_le _⟩, List.forall_mem_cons.mpr ⟨mv_cal_of (cc_X9_lowest l hF) hBg hX hR hK mv_EX_ok hF mv_good mv_stok cw_X10_31.1 cw_X10_31.2.1 cw_X10_31.2.2 ⟨rfl, rfl, by exact Nat.le_of_ble_eq_true rfl, by exact Nat.le_of_ble_eq_true rfl⟩ ⟨Nat.zero_le _, Nat.zero_le _⟩, List.forall_mem_cons.mpr ⟨mv_cal_of (cc_X9_highest l hF) hBg hX hR hK mv_EX_ok hF mv_good mv_stok cw_X10_40.1 cw_X10_40.2.1 cw_X10_40.2.2 ⟨rfl, rfl, by exact Nat.le_of_ble_eq_true rfl, by exact Nat.le_of_ble_eq_true rfl⟩ ⟨Nat.zero_le _, Nat.zero_le _⟩, List.forall_mem_cons.mpr ⟨mv_cal_of (cc_X2_isClear l hF) hBg hX hR hK mv_EX_ok hF mv_good mv_stok cw_X10_47.1 cw_X10_47.2.1 cw_X10_47.2.2 ⟨rfl, rfl, by exact Nat.le_of_ble_eq_true rfl, by exact Nat.le_of_ble_eq_true rfl⟩ ⟨Nat.zero_le _, Nat.zero_le _⟩, fun _ h => absurd h List.not_mem_nil⟩⟩⟩⟩)
def ic_X9_seatAsker : List (Nat × Instr × Nat) := [(0, .aload_n 0, 1), (1, .iload_n 1, 1), (2, .invokevirtual 43, 3), (5, .istore_n 2, 1), (6, .iload_n 2, 1), (7, .iconst (-1), 1), (8, .if_icmp .ne 4, 3), (11, .return_, 1), (12, .aload_n 0, 1), (13, .getfield 9, 3), (16, .iload_n 2, 1), (17, .iload_n 1, 1), (18, .iastore, 1), (19, .aload_n 0, 1), (20, .getfield 15, 3), (23, .iload_n 2, 1), (24, .iload_n 1, 1), (25, .aload_n 0, 1), (26, .getfield 57, 3), (29, .iadd, 1), (30, .aload_n 0, 1), (31, .getfield 63, 3), (34, .iadd, 1), (35, .iastore, 1), (36, .aload_n 0, 1), (37, .getfield 18, 3), (40, .iload_n 2, 1), (41, .aload_n 0, 1), (42, .getfield 60, 3), (45, .iastore, 1), (46, .aload_n 0, 1), (47, .getfield 21, 3), (50, .iload_n 2, 1), (51, .aload_n 0, 1), (52, .getfield 66, 3), (55, .iastore, 1), (56, .aload_n 0, 1), (57, .getfield 24, 3), (60, .iload_n 2, 1), (61, .iconst (-1), 1), (62, .iastore, 1), (63, .return_, 1)]
noncomputable def mm_X9_seatAsker : mv_M := (ic_X9_seatAsker, fl_X9, [], [], [(43, 2, some 9, false, ff_X9_placeFor)], [], none)
noncomputable def ff_X9_seatAsker : mv_F := mv_fn mv_rc mm_X9_seatAsker mv_sh 400 3
theorem dk_X9_seatAsker : mv_dk cX9_seatAsker ic_X9_seatAsker = true := by decide +kernel
set_option maxRecDepth 20000 in
theorem cc_X9_seatAsker {ad : Nat → Nat → Value} {cA : Nat → ClassId} {D : va_G} {tys : List (ClassId × FieldType)} {A : Nat → Prop} (l : Launch) (hF : mv_Fix mv_sh mv_ids mv_ros ad cA tys A mv_rc) : mv_Met l yX9_seatAsker cX9_seatAsker 3 none mv_Ts (mv_rm 2) 2 true mv_sh mv_ids mv_ros ad cA mv_cl D tys A mv_rc mv_cr (mv_EX ad A) ff_X9_seatAsker := mv_met_of (by decide +kernel) (by decide) hF mv_stok (mv_rzV (by decide +kernel)) mv_clok (mv_dk_ok dk_X9_seatAsker) (mv_fk_ok fk_X9) (fun p e s m args below meth c Q hBg hX hR => ⟨fun _ h => absurd h List.not_mem_nil, fun _ h => absurd h List.not_mem_nil⟩) (fun p e s m args below meth c Q hBg hX hR hK => List.forall_mem_cons.mpr ⟨mv_cal_of (cc_X9_placeFor l hF) hBg hX hR hK mv_EX_ok hF mv_good mv_stok cw_X9_43.1 cw_X9_43.2.1 cw_X9_43.2.2 ⟨rfl, rfl, by exact Nat.le_of_ble_eq_true rfl, by exact Nat.le_of_ble_eq_true rfl⟩ ⟨Nat.zero_le _, Nat.zero_le _⟩, fun _ h => absurd h List.not_mem_nil⟩)
set_option maxRecDepth 20000 in
theorem cw_X11_121 : mv_Cw RX11 121 yX2_isAside cX2_isAside 2 (some .boolean) (some 2) 2 := mv_cw_of (a := 674) (b := 130) (c := 675) (d := 676) (mv_T 677 rfl rfl) (by decide +kernel)
set_option maxRecDepth 20000 in
theorem cw_X11_207 : mv_Cw RX11 207 yX9_askFor cX9_askFor 3 none (some 9) 3 := mv_cw_of (a := 1095) (b := 137) (c := 709) (d := 710) (mv_T 711 rfl rfl) (by decide +kernel)
set_option maxRecDepth 20000 in
theorem cw_X11_210 : mv_Cw RX11 210 yX10_isPlace cX10_isPlace 3 (some .boolean) (some 10) 2 := mv_cw_of (a := 1096) (b := 138) (c := 1097) (d := 1098) (mv_T 1099 rfl rfl) (by decide +kernel)
set_option maxRecDepth 20000 in
theorem cw_X11_249 : mv_Cw RX11 249 yX9_seatAsker cX9_seatAsker 3 none (some 9) 2 := mv_cw_of (a := 1196) (b := 137) (c := 1144) (d := 1145) (mv_T 1146 rfl rfl) (by decide +kernel)
def ic_X11_block : List (Nat × Instr × Nat) := [(0, .iconst 0, 1), (1, .iload_n 2, 1), (2, .invokestatic 100, 3), (5, .ifCond .eq 22, 3), (8, .iconst 1, 1), (9, .iload_n 3, 1), (10, .invokestatic 100, 3), (13, .ifCond .eq 14, 3), (16, .aload_n 0, 1), (17, .getfield 12, 3), (20, .iload_n 1, 1), (21, .invokevirtual 121, 3), (24, .ifCond .ne 5, 3), (27, .iconst (-1), 1), (28, .ireturn, 1), (29, .aload_n 0, 1), (30, .getfield 59, 3), (33, .iload_n 2, 1), (34, .iload_n 3, 1), (35, .invokevirtual 239, 3), (38, .iconst (-1), 1), (39, .istore 4, 2), (41, .iconst (-1), 1), (42, .istore 5, 2), (44, .iconst 0, 1), (45, .istore 6, 2), (47, .iload 6, 2), (49, .aload_n 0, 1), (50, .getfield 12, 3), (53, .getfield 88, 3), (56, .if_icmp .ge 90, 3), (59, .aload_n 0, 1), (60, .getfield 36, 3), (63, .aload_n 0, 1), (64, .getfield 12, 3), (67, .sipush 1023, 3), (70, .invokevirtual 203, 3), (73, .aload_n 0, 1), (74, .getfield 36, 3), (77, .aload_n 0, 1), (78, .getfield 12, 3), (81, .iload_n 1, 1), (82, .invokevirtual 207, 3), (85, .aload_n 0, 1), (86, .getfield 45, 3), (89, .iload 6, 2), (91, .invokevirtual 210, 3), (94, .ifCond .ne 6, 3), (97, .goto 43, 3), (100, .aload_n 0, 1), (101, .getfield 36, 3), (104, .iload 6, 2), (106, .invokevirtual 249, 3), (109, .aload_n 0, 1), (110, .getfield 59, 3), (113, .iconst 1, 1), (114, .invokevirtual 243, 3), (117, .istore 7, 2), (119, .iload 4, 2), (121, .iconst (-1), 1), (122, .if_icmp .eq 10, 3), (125, .iload 7, 2), (127, .iload 5, 2), (129, .if_icmp .ge 11, 3), (132, .iload 6, 2), (134, .istore 4, 2), (136, .iload 7, 2), (138, .istore 5, 2), (140, .iinc 6 1, 3), (143, .goto (-96), 3), (146, .iload 4, 2), (148, .ireturn, 1)]
noncomputable def mm_X11_block : mv_M := (ic_X11_block, fl_X11, [], [], [(100, 2, none, false, ff_X11_allowed), (121, 2, some 2, false, ff_X2_isAside), (239, 3, some 4, true, ff_X4_ofAlike), (203, 3, some 9, true, ff_X9_gather), (207, 3, some 9, true, ff_X9_askFor), (210, 2, some 10, false, ff_X10_isPlace), (249, 2, some 9, true, ff_X9_seatAsker), (243, 2, some 4, false, ff_X4_total)], [(47, [true, true, false, false, true, true, true, false])], none)
noncomputable def ff_X11_block : mv_F := mv_fn mv_rc mm_X11_block mv_sh 400 8
theorem dk_X11_block : mv_dk cX11_block ic_X11_block = true := by decide +kernel
set_option maxRecDepth 20000 in
theorem cc_X11_block {ad : Nat → Nat → Value} {cA : Nat → ClassId} {D : va_G} {tys : List (ClassId × FieldType)} {A : Nat → Prop} (l : Launch) (hF : mv_Fix mv_sh mv_ids mv_ros ad cA tys A mv_rc) : mv_Met l yX11_block cX11_block 8 (some .int) mv_Ts (mv_rm 5) 4 false mv_sh mv_ids mv_ros ad cA mv_cl D tys A mv_rc mv_cr (mv_EX ad A) ff_X11_block := mv_met_of (by decide +kernel) (by decide) hF mv_stok (mv_rzI (by decide +kernel)) mv_clok (mv_dk_ok dk_X11_block) (mv_fk_ok fk_X11) (fun p e s m args below meth c Q hBg hX hR => ⟨fun _ h => absurd h List.not_mem_nil, fun _ h => absurd h List.not_mem_nil⟩) (fun p e s m args below meth c Q hBg hX hR hK => List.forall_mem_cons.mpr ⟨mv_cal_of (cc_X11_allowed l hF) hBg hX hR hK mv_EX_ok hF mv_good mv_stok cw_X11_100.1 cw_X11_100.2.1 cw_X11_100.2.2 ⟨rfl, rfl, by exact Nat.le_of_ble_eq_true rfl, by exact Nat.le_of_ble_eq_true rfl⟩ ⟨Nat.zero_le _, Nat.zero_le _⟩, List.forall_mem_cons.mpr ⟨mv_cal_of (cc_X2_isAside l hF) hBg hX hR hK mv_EX_ok hF mv_good mv_stok cw_X11_121.1 cw_X11_121.2.1 cw_X11_121.2.2 ⟨rfl, rfl, by exact Nat.le_of_ble_eq_true rfl, by exact Nat.le_of_ble_eq_true rfl⟩ ⟨Nat.zero_le _, Nat.zero_le _⟩, List.forall_mem_cons.mpr ⟨mv_cal_of (cc_X4_ofAlike l hF) hBg hX hR hK mv_EX_ok hF mv_good mv_stok cw_X11_239.1 cw_X11_239.2.1 cw_X11_239.2.2 ⟨rfl, rfl, by exact Nat.le_of_ble_eq_true rfl, by exact Nat.le_of_ble_eq_true rfl⟩ ⟨Nat.zero_le _, Nat.zero_le _⟩, List.forall_mem_cons.mpr ⟨mv_cal_of (cc_X9_gather l hF) hBg hX hR hK mv_EX_ok hF mv_good mv_stok cw_X11_203.1 cw_X11_203.2.1 cw_X11_203.2.2 ⟨rfl, rfl, by exact Nat.le_of_ble_eq_true rfl, by exact Nat.le_of_ble_eq_true rfl⟩ ⟨Nat.zero_le _, Nat.zero_le _⟩, List.forall_mem_cons.mpr ⟨mv_cal_of (cc_X9_askFor l hF) hBg hX hR hK mv_EX_ok hF mv_good mv_stok cw_X11_207.1 cw_X11_207.2.1 cw_X11_207.2.2 ⟨rfl, rfl, by exact Nat.le_of_ble_eq_true rfl, by exact Nat.le_of_ble_eq_true rfl⟩ ⟨Nat.zero_le _, Nat.zero_le _⟩, List.forall_mem_cons.mpr ⟨mv_cal_of (cc_X10_isPlace l hF) hBg hX hR hK mv_EX_ok hF mv_good mv_stok cw_X11_210.1 cw_X11_210.2.1 cw_X11_210.2.2 ⟨rfl, rfl, by exact Nat.le_of_ble_eq_true rfl, by exact Nat.le_of_ble_eq_true rfl⟩ ⟨Nat.zero_le _, Nat.zero_le _⟩, List.forall_mem_cons.mpr ⟨mv_cal_of (cc_X9_seatAsker l hF) hBg hX hR hK mv_EX_ok hF mv_good mv_stok cw_X11_249.1 cw_X11_249.2.1 cw_X11_249.2.2 ⟨rfl, rfl, by exact Nat.le_of_ble_eq_true rfl, by exact Nat.le_of_ble_eq_true rfl⟩ ⟨Nat.zero_le _, Nat.zero_le _⟩, List.forall_mem_cons.mpr ⟨mv_cal_of (cc_X4_total l hF) hBg hX hR hK mv_EX_ok hF mv_good mv_stok cw_X11_243.1 cw_X11_243.2.1 cw_X11_243.2.2 ⟨rfl, rfl, by exact Nat.le_of_ble_eq_true rfl, by exact Nat.le_of_ble_eq_true rfl⟩ ⟨Nat.zero_le _, Nat.zero_le _⟩, fun _ h => absurd h List.not_mem_nil⟩⟩⟩⟩⟩⟩⟩⟩)
def ic_X12_findsBare : List (Nat × Instr × Nat) := [(0, .iconst 0, 1), (1, .istore_n 3, 1), (2, .iload_n 3, 1), (3, .aload_n 0, 1), (4, .invokevirtual 149, 3), (7, .if_icmp .gt 119, 3), (10, .aload_n 0, 1), (11, .getfield 117, 3), (14, .iload_n 3, 1), (15, .iconst 0, 1), (16, .iastore, 1), (17, .iconst 0, 1), (18, .istore 4, 2), (20, .iload 4, 2), (22, .iload_n 1, 1), (23, .iadd, 1), (24, .iload_n 3, 1), (25, .if_icmp .gt 95, 3), (28, .iconst 1, 1), (29, .iload 4, 2), (31, .iload_n 2, 1), (32, .isub, 1), (33, .ifCond .ge 7, 3), (36, .iconst 0, 1), (37, .goto 12, 3), (40, .aload_n 0, 1), (41, .getfield 117, 3), (44, .iload 4, 2), (46, .iload_n 2, 1), (47, .isub, 1), (48, .iaload, 1), (49, .iadd, 1), (50, .iload_n 3, 1), (51, .iload 4, 2), (53, .isub, 1), (54, .iload_n 1, 1), (55, .isub, 1), (56, .iload_n 2, 1), (57, .isub, 1), (58, .ifCond .ge 7, 3), (61, .iconst 0, 1), (62, .goto 16, 3), (65, .aload_n 0, 1), (66, .getfield 117, 3), (69, .iload_n 3, 1), (70, .iload 4, 2), (72, .isub, 1), (73, .iload_n 1, 1), (74, .isub, 1), (75, .iload_n 2, 1), (76, .isub, 1), (77, .iaload, 1), (78, .iadd, 1), (79, .istore 5, 2), (81, .aload_n 0, 1), (82, .getfield 117, 3), (85, .iload_n 3, 1), (86, .iload 4, 2), (88, .ifCond .eq 14, 3), (91, .iload 5, 2), (93, .aload_n 0, 1), (94, .getfield 117, 3), (97, .iload_n 3, 1), (98, .iaload, 1), (99, .if_icmp .ge 8, 3), (102, .iload 5, 2), (104, .goto 9, 3), (107, .aload_n 0, 1), (108, .getfield 117, 3), (111, .iload_n 3, 1), (112, .iaload, 1), (113, .iastore, 1), (114, .iinc 4 1, 3), (117, .goto (-97), 3), (120, .iinc 3 1, 3), (123, .goto (-121), 3), (126, .return_, 1)]
noncomputable def mm_X12_findsBare : mv_M := (ic_X12_findsBare, fl_X12, [], [], [(149, 1, some 12, false, ff_X12_length)], [(2, [true, true, true, true, false, false]), (20, [true, true, true, true, true, false])], none)
noncomputable def ff_X12_findsBare : mv_F := mv_fn mv_rc mm_X12_findsBare mv_sh 400 6
theorem dk_X12_findsBare : mv_dk cX12_findsBare ic_X12_findsBare = true := by decide +kernel
set_option maxRecDepth 20000 in
theorem cc_X12_findsBare {ad : Nat → Nat → Value} {cA : Nat → ClassId} {D : va_G} {tys : List (ClassId × FieldType)} {A : Nat → Prop} (l : Launch) (hF : mv_Fix mv_sh mv_ids mv_ros ad cA tys A mv_rc) : mv_Met l yX12_findsBare cX12_findsBare 6 none mv_Ts (mv_rm 2) 3 true mv_sh mv_ids mv_ros ad cA mv_cl D tys A mv_rc mv_cr (mv_EX ad A) ff_X12_findsBare := mv_met_of (by decide +kernel) (by decide) hF mv_stok (mv_rzV (by decide +kernel)) mv_clok (mv_dk_ok dk_X12_findsBare) (mv_fk_ok fk_X12) (fun p e s m args below meth c Q hBg hX hR => ⟨fun _ h => absurd h List.not_mem_nil, fun _ h => absurd h List.not_mem_nil⟩) (fun p e s m args below meth c Q hBg hX hR hK => List.forall_mem_cons.mpr ⟨mv_cal_of (cc_X12_length l hF) hBg hX hR hK mv_EX_ok hF mv_good mv_stok cw_X12_149.1 cw_X12_149.2.1 cw_X12_149.2.2 ⟨rfl, rfl, by exact Nat.le_of_ble_eq_true rfl, by exact Nat.le_of_ble_eq_true rfl⟩ ⟨Nat.zero_le _, Nat.zero_le _⟩, fun _ h => absurd h List.not_mem_nil⟩)
def ic_X12_fewestBy : List (Nat × Instr × Nat) := [(0, .iload_n 2, 1), (1, .iload_n 3, 1), (2, .if_icmp .le 5, 3), (5, .iconst 0, 1), (6, .ireturn, 1), (7, .iload_n 2, 1), (8, .iload_n 1, 1), (9, .if_icmp .ge 22, 3), (12, .iload_n 1, 1), (13, .iload_n 3, 1), (14, .if_icmp .ge 17, 3), (17, .aload_n 0, 1), (18, .getfield 108, 3), (21, .bipush 62, 2), (23, .iload_n 2, 1), (24, .imul, 1), (25, .iload_n 3, 1), (26, .iadd, 1), (27, .iaload, 1), (28, .goto 11, 3), (31, .aload_n 0, 1), (32, .getfield 117, 3), (35, .iload_n 3, 1), (36, .iload_n 2, 1), (37, .isub, 1), (38, .iaload, 1), (39, .ireturn, 1)]
noncomputable def mm_X12_fewestBy : mv_M := (ic_X12_fewestBy, fl_X12, [], [], [], [], none)
noncomputable def ff_X12_fewestBy : mv_F := mv_fn mv_rc mm_X12_fewestBy mv_sh 400 4
theorem dk_X12_fewestBy : mv_dk cX12_fewestBy ic_X12_fewestBy = true := by decide +kernel
set_option maxRecDepth 20000 in
theorem cc_X12_fewestBy {ad : Nat → Nat → Value} {cA : Nat → ClassId} {D : va_G} {tys : List (ClassId × FieldType)} {A : Nat → Prop} (l : Launch) (hF : mv_Fix mv_sh mv_ids mv_ros ad cA tys A mv_rc) : mv_Met l yX12_fewestBy cX12_fewestBy 4 (some .int) mv_Ts (mv_rm 1) 4 false mv_sh mv_ids mv_ros ad cA mv_cl D tys A mv_rc mv_cr (mv_EX ad A) ff_X12_fewestBy := mv_met_of (by decide +kernel) (by decide) hF mv_stok (mv_rzI (by decide +kernel)) mv_clok (mv_dk_ok dk_X12_fewestBy) (mv_fk_ok fk_X12) (fun p e s m args below meth c Q hBg hX hR => ⟨fun _ h => absurd h List.not_mem_nil, fun _ h => absurd h List.not_mem_nil⟩) (fun p e s m args below meth c Q hBg hX hR hK => fun _ h => absurd h List.not_mem_nil)
set_option maxRecDepth 20000 in
theorem cw_X12_469 : mv_Cw RX12 469 yX12_fewestBy cX12_fewestBy 4 (some .int) (some 12) 4 := mv_cw_of (a := 1941) (b := 143) (c := 1943) (d := 116) (mv_T 1944 rfl rfl) (by decide +kernel)
def ic_X12_findsAround : List (Nat × Instr × Nat) := [(0, .iconst 2, 1), (1, .istore 4, 2), (3, .iload 4, 2), (5, .aload_n 0, 1), (6, .invokevirtual 149, 3), (9, .if_icmp .gt 168, 3), (12, .aload_n 0, 1), (13, .iconst 0, 1), (14, .iload_n 3, 1), (15, .iload 4, 2), (17, .isub, 1), (18, .iconst 1, 1), (19, .iadd, 1), (20, .invokevirtual 311, 3), (23, .istore 5, 2), (25, .iload 5, 2), (27, .iload_n 3, 1), (28, .if_icmp .ge 143, 3), (31, .iload 5, 2), (33, .iload 4, 2), (35, .iadd, 1), (36, .aload_n 0, 1), (37, .invokevirtual 149, 3), (40, .if_icmp .gt 131, 3), (43, .iload 5, 2), (45, .iload 4, 2), (47, .iadd, 1), (48, .istore 6, 2), (50, .iconst (-1), 1), (51, .istore 7, 2), (53, .iload 5, 2), (55, .istore 8, 2), (57, .iload 8, 2), (59, .iload_n 1, 1), (60, .iadd, 1), (61, .iload 6, 2), (63, .if_icmp .gt 77, 3), (66, .iload 8, 2), (68, .iload_n 3, 1), (69, .if_icmp .ge 14, 3), (72, .iload_n 3, 1), (73, .iload 8, 2), (75, .iload_n 1, 1), (76, .iadd, 1), (77, .if_icmp .ge 6, 3), (80, .goto 54, 3), (83, .iconst 1, 1), (84, .aload_n 0, 1), (85, .iload_n 3, 1), (86, .iload 5, 2), (88, .iload 8, 2), (90, .iload_n 2, 1), (91, .isub, 1), (92, .invokevirtual 469, 3), (95, .iadd, 1), (96, .aload_n 0, 1), (97, .iload_n 3, 1), (98, .iload 8, 2), (100, .iload_n 1, 1), (101, .iadd, 1), (102, .iload_n 2, 1), (103, .iadd, 1), (104, .iload 6, 2), (106, .invokevirtual 469, 3), (109, .iadd, 1), (110, .istore 9, 2), (112, .iload 7, 2), (114, .iconst (-1), 1), (115, .if_icmp .eq 10, 3), (118, .iload 9, 2), (120, .iload 7, 2), (122, .if_icmp .ge 8, 3), (125, .iload 9, 2), (127, .goto 5, 3), (130, .iload 7, 2), (132, .istore 7, 2), (134, .iinc 8 1, 3), (137, .goto (-80), 3), (140, .aload_n 0, 1), (141, .getfield 108, 3), (144, .bipush 62, 2), (146, .iload 5, 2), (148, .imul, 1), (149, .iload 6, 2), (151, .iadd, 1), (152, .iload 7, 2), (154, .iconst (-1), 1), (155, .if_icmp .ne 7, 3), (158, .iconst 0, 1), (159, .goto 5, 3), (162, .iload 7, 2), (164, .iastore, 1), (165, .iinc 5 1, 3), (168, .goto (-143), 3), (171, .iinc 4 1, 3), (174, .goto (-171), 3), (177, .return_, 1)]
noncomputable def mm_X12_findsAround : mv_M := (ic_X12_findsAround, fl_X12, [], [], [(149, 1, some 12, false, ff_X12_length), (311, 3, some 12, false, ff_X12_greater), (469, 4, some 12, false, ff_X12_fewestBy)], [(3, [true, true, true, true, true, false, false, false, false, false]), (25, [true, true, true, true, true, true, false, false, false, false]), (57, [true, true, true, true, true, true, true, true, true, false])], none)
noncomputable def ff_X12_findsAround : mv_F := mv_fn mv_rc mm_X12_findsAround mv_sh 400 10
theorem dk_X12_findsAround : mv_dk cX12_findsAround ic_X12_findsAround = true := by decide +kernel
set_option maxRecDepth 20000 in
theorem cc_X12_findsAround {ad : Nat → Nat → Value} {cA : Nat → ClassId} {D : va_G} {tys : List (ClassId × FieldType)} {A : Nat → Prop} (l : Launch) (hF : mv_Fix mv_sh mv_ids mv_ros ad cA tys A mv_rc) : mv_Met l yX12_findsAround cX12_findsAround 10 none mv_Ts (mv_rm 2) 4 true mv_sh mv_ids mv_ros ad cA mv_cl D tys A mv_rc mv_cr (mv_EX ad A) ff_X12_findsAround := mv_met_of (by decide +kernel) (by decide) hF mv_stok (mv_rzV (by decide +kernel)) mv_clok (mv_dk_ok dk_X12_findsAround) (mv_fk_ok fk_X12) (fun p e s m args below meth c Q hBg hX hR => ⟨fun _ h => absurd h List.not_mem_nil, fun _ h => absurd h List.not_mem_nil⟩) (fun p e s m args below meth c Q hBg hX hR hK => List.forall_mem_cons.mpr ⟨mv_cal_of (cc_X12_length l hF) hBg hX hR hK mv_EX_ok hF mv_good mv_stok cw_X12_149.1 cw_X12_149.2.1 cw_X12_149.2.2 ⟨rfl, rfl, by exact Nat.le_of_ble_eq_true rfl, by exact Nat.le_of_ble_eq_true rfl⟩ ⟨Nat.zero_le _, Nat.zero_le _⟩, List.forall_mem_cons.mpr ⟨mv_cal_of (cc_X12_greater l hF) hBg hX hR hK mv_EX_ok hF mv_good mv_stok cw_X12_311.1 cw_X12_311.2.1 cw_X12_311.2.2 ⟨rfl, rfl, by exact Nat.le_of_ble_eq_true rfl, by exact Nat.le_of_ble_eq_true rfl⟩ ⟨Nat.zero_le _, Nat.zero_le _⟩, List.forall_mem_cons.mpr ⟨mv_cal_of (cc_X12_fewestBy l hF) hBg hX hR hK mv_EX_ok hF mv_good mv_stok cw_X12_469.1 cw_X12_469.2.1 cw_X12_469.2.2 ⟨rfl, rfl, by exact Nat.le_of_ble_eq_true rfl, by exact Nat.le_of_ble_eq_true rfl⟩ ⟨Nat.zero_le _, Nat.zero_le _⟩, fun _ h => absurd h List.not_mem_nil⟩⟩⟩)
set_option maxRecDepth 20000 in
theorem cw_X12_472 : mv_Cw RX12 472 yX12_findsBare cX12_findsBare 6 none (some 12) 3 := mv_cw_of (a := 1933) (b := 143) (c := 1935) (d := 114) (mv_T 1936 rfl rfl) (by decide +kernel)
set_option maxRecDepth 20000 in
theorem cw_X12_475 : mv_Cw RX12 475 yX12_findsAround cX12_findsAround 10 none (some 12) 4 := mv_cw_of (a := 1937) (b := 143) (c := 1939) (d := 115) (mv_T 1940 rfl rfl) (by decide +kernel)
def ic_X12_bestRest : List (Nat × Instr × Nat) := [(0, .aload_n 0, 1), (1, .iconst 0, 1), (2, .putfield 126, 3), (5, .aload_n 0, 1), (6, .iload_n 1, 1), (7, .iload_n 2, 1), (8, .invokevirtual 457, 3), (11, .ifCond .ne 5, 3), (14, .iconst (-1), 1), (15, .ireturn, 1), (16, .aload_n 0, 1), (17, .iload_n 1, 1), (18, .iload_n 2, 1), (19, .invokevirtual 472, 3), (22, .iconst 0, 1), (23, .istore_n 3, 1), (24, .aload_n 0, 1), (25, .getfield 117, 3), (28, .aload_n 0, 1), (29, .invokevirtual 149, 3), (32, .iaload, 1), (33, .istore 4, 2), (35, .iconst 1, 1), (36, .istore 5, 2), (38, .iload 5, 2), (40, .aload_n 0, 1), (41, .invokevirtual 149, 3), (44, .if_icmp .ge 54, 3), (47, .aload_n 0, 1), (48, .iload_n 1, 1), (49, .iload_n 2, 1), (50, .iload 5, 2), (52, .invokevirtual 475, 3), (55, .aload_n 0, 1), (56, .iload 5, 2), (58, .iconst 0, 1), (59, .aload_n 0, 1), (60, .invokevirtual 149, 3), (63, .invokevirtual 469, 3), (66, .istore 6, 2), (68, .iload 6, 2), (70, .iload 4, 2), (72, .if_icmp .le 8, 3), (75, .iload 5, 2), (77, .goto 4, 3), (80, .iload_n 3, 1), (81, .istore_n 3, 1), (82, .aload_n 0, 1), (83, .iload 6, 2), (85, .iload 4, 2), (87, .invokevirtual 311, 3), (90, .istore 4, 2), (92, .iinc 5 1, 3), (95, .goto (-57), 3), (98, .iload_n 3, 1), (99, .ireturn, 1)]
noncomputable def mm_X12_bestRest : mv_M := (ic_X12_bestRest, fl_X12, [], [], [(457, 3, some 12, false, ff_X12_areAlike), (472, 3, some 12, true, ff_X12_findsBare), (149, 1, some 12, false, ff_X12_length), (475, 4, some 12, true, ff_X12_findsAround), (469, 4, some 12, false, ff_X12_fewestBy), (311, 3, some 12, false, ff_X12_greater)], [(38, [true, true, true, true, true, true, false])], none)
noncomputable def ff_X12_bestRest : mv_F := mv_fn mv_rc mm_X12_bestRest mv_sh 400 7
theorem dk_X12_bestRest : mv_dk cX12_bestRest ic_X12_bestRest = true := by decide +kernel
set_option maxRecDepth 20000 in
theorem cc_X12_bestRest {ad : Nat → Nat → Value} {cA : Nat → ClassId} {D : va_G} {tys : List (ClassId × FieldType)} {A : Nat → Prop} (l : Launch) (hF : mv_Fix mv_sh mv_ids mv_ros ad cA tys A mv_rc) : mv_Met l yX12_bestRest cX12_bestRest 7 (some .int) mv_Ts (mv_rm 3) 3 false mv_sh mv_ids mv_ros ad cA mv_cl D tys A mv_rc mv_cr (mv_EX ad A) ff_X12_bestRest := mv_met_of (by decide +kernel) (by decide) hF mv_stok (mv_rzI (by decide +kernel)) mv_clok (mv_dk_ok dk_X12_bestRest) (mv_fk_ok fk_X12) (fun p e s m args below meth c Q hBg hX hR => ⟨fun _ h => absurd h List.not_mem_nil, fun _ h => absurd h List.not_mem_nil⟩) (fun p e s m args below meth c Q hBg hX hR hK => List.forall_mem_cons.mpr ⟨mv_cal_of (cc_X12_areAlike l hF) hBg hX hR hK mv_EX_ok hF mv_good mv_stok cw_X12_457.1 cw_X12_457.2.1 cw_X12_457.2.2 ⟨rfl, rfl, by exact Nat.le_of_ble_eq_true rfl, by exact Nat.le_of_ble_eq_true rfl⟩ ⟨Nat.zero_le _, Nat.zero_le _⟩, List.forall_mem_cons.mpr ⟨mv_cal_of (cc_X12_findsBare l hF) hBg hX hR hK mv_EX_ok hF mv_good mv_stok cw_X12_472.1 cw_X12_472.2.1 cw_X12_472.2.2 ⟨rfl, rfl, by exact Nat.le_of_ble_eq_true rfl, by exact Nat.le_of_ble_eq_true rfl⟩ ⟨Nat.zero_le _, Nat.zero_le _⟩, List.forall_mem_cons.mpr ⟨mv_cal_of (cc_X12_length l hF) hBg hX hR hK mv_EX_ok hF mv_good mv_stok cw_X12_149.1 cw_X12_149.2.1 cw_X12_149.2.2 ⟨rfl, rfl, by exact Nat.le_of_ble_eq_true rfl, by exact Nat.le_of_ble_eq_true rfl⟩ ⟨Nat.zero_le _, Nat.zero_le _⟩, List.forall_mem_cons.mpr ⟨mv_cal_of (cc_X12_findsAround l hF) hBg hX hR hK mv_EX_ok hF mv_good mv_stok cw_X12_475.1 cw_X12_475.2.1 cw_X12_475.2.2 ⟨rfl, rfl, by exact Nat.le_of_ble_eq_true rfl, by exact Nat.le_of_ble_eq_true rfl⟩ ⟨Nat.zero_le _, Nat.zero_le _⟩, List.forall_mem_cons.mpr ⟨mv_cal_of (cc_X12_fewestBy l hF) hBg hX hR hK mv_EX_ok hF mv_good mv_stok cw_X12_469.1 cw_X12_469.2.1 cw_X12_469.2.2 ⟨rfl, rfl, by exact Nat.le_of_ble_eq_true rfl, by exact Nat.le_of_ble_eq_true rfl⟩ ⟨Nat.zero_le _, Nat.zero_le _⟩, List.forall_mem_cons.mpr ⟨mv_cal_of (cc_X12_greater l hF) hBg hX hR hK mv_EX_ok hF mv_good mv_stok cw_X12_311.1 cw_X12_311.2.1 cw_X12_311.2.2 ⟨rfl, rfl, by exact Nat.le_of_ble_eq_true rfl, by exact Nat.le_of_ble_eq_true rfl⟩ ⟨Nat.zero_le _, Nat.zero_le _⟩, fun _ h => absurd h List.not_mem_nil⟩⟩⟩⟩⟩⟩)
def ic_J7_rangeCheck_23922 : List (Nat × Instr × Nat) := [(0, .iload_n 1, 1), (1, .iload_n 2, 1), (2, .if_icmp .le 44, 3), (8, .dup, 1), (12, .dup, 1), (16, .ldc 48, 2), (18, .invokevirtual 50, 3), (21, .iload_n 1, 1), (22, .invokevirtual 54, 3), (25, .ldc 57, 2), (27, .invokevirtual 50, 3), (30, .iload_n 2, 1), (31, .invokevirtual 54, 3), (34, .ldc 59, 2), (36, .invokevirtual 50, 3), (39, .invokevirtual 61, 3), (46, .iload_n 1, 1), (47, .ifCond .ge 12, 3), (53, .dup, 1), (54, .iload_n 1, 1), (59, .iload_n 2, 1), (60, .iload_n 0, 1), (61, .if_icmp .le 12, 3), (67, .dup, 1), (68, .iload_n 2, 1), (73, .return_, 1)]
noncomputable def mm_J7_rangeCheck_23922 : mv_M := (ic_J7_rangeCheck_23922, [], [], [], [], [], none)
noncomputable def ff_J7_rangeCheck_23922 : mv_F := mv_fn mv_rc mm_J7_rangeCheck_23922 mv_sh 400 3
theorem dk_J7_rangeCheck_23922 : mv_dk cJ7_rangeCheck_23922 ic_J7_rangeCheck_23922 = true := by decide +kernel
set_option maxRecDepth 20000 in
theorem cc_J7_rangeCheck_23922 {ad : Nat → Nat → Value} {cA : Nat → ClassId} {D : va_G} {tys : List (ClassId × FieldType)} {A : Nat → Prop} (l : Launch) (hF : mv_Fix mv_sh mv_ids mv_ros ad cA tys A mv_rc) : mv_Met l yJ7_rangeCheck_23922 cJ7_rangeCheck_23922 3 none mv_Ts (mv_rm 1) 3 true mv_sh mv_ids mv_ros ad cA mv_cl D tys A mv_rc mv_cr (mv_EX ad A) ff_J7_rangeCheck_23922 := mv_met_of (by decide +kernel) (by decide) hF mv_stok (mv_rzV (by decide +kernel)) mv_clok (mv_dk_ok dk_J7_rangeCheck_23922) (fun _ h => absurd h List.not_mem_nil) (fun p e s m args below meth c Q hBg hX hR => ⟨fun _ h => absurd h List.not_mem_nil, fun _ h => absurd h List.not_mem_nil⟩) (fun p e s m args below meth c Q hBg hX hR hK => fun _ h => absurd h List.not_mem_nil)
set_option maxRecDepth 20000 in
theorem cw_J7_13 : mv_Cw RJ7 13 yJ7_rangeCheck_23922 cJ7_rangeCheck_23922 3 none (none) 3 := mv_cw_of (a := 1189) (b := 134) (c := 1190) (d := 0) (mv_T 1191 rfl rfl) (by decide +kernel)
def ic_J7_fill_fda19 : List (Nat × Instr × Nat) := [(0, .aload_n 0, 1), (1, .arraylength, 1), (2, .iload_n 1, 1), (3, .iload_n 2, 1), (4, .invokestatic 13, 3), (7, .iload_n 1, 1), (8, .istore 4, 2), (10, .iload 4, 2), (12, .iload_n 2, 1), (13, .if_icmp .ge 14, 3), (16, .aload_n 0, 1), (17, .iload 4, 2), (19, .iload_n 3, 1), (20, .iastore, 1), (21, .iinc 4 1, 3), (24, .goto (-14), 3), (27, .return_, 1)]
noncomputable def mm_J7_fill_fda19 : mv_M := (ic_J7_fill_fda19, [], [], [], [(13, 3, none, true, ff_J7_rangeCheck_23922)], [(10, [true, false, true, true, true])], none)
noncomputable def ff_J7_fill_fda19 : mv_F := mv_fn mv_rc mm_J7_fill_fda19 mv_sh 400 5
theorem dk_J7_fill_fda19 : mv_dk cJ7_fill_fda19 ic_J7_fill_fda19 = true := by decide +kernel
set_option maxRecDepth 20000 in
theorem cc_J7_fill_fda19 {ad : Nat → Nat → Value} {cA : Nat → ClassId} {D : va_G} {tys : List (ClassId × FieldType)} {A : Nat → Prop} (l : Launch) (hF : mv_Fix mv_sh mv_ids mv_ros ad cA tys A mv_rc) : mv_Met l yJ7_fill_fda19 cJ7_fill_fda19 5 none mv_Ts (mv_rm 2) 4 true mv_sh mv_ids mv_ros ad cA mv_cl D tys A mv_rc mv_cr (mv_EX ad A) ff_J7_fill_fda19 := mv_met_of (by decide +kernel) (by decide) hF mv_stok (mv_rzV (by decide +kernel)) mv_clok (mv_dk_ok dk_J7_fill_fda19) (fun _ h => absurd h List.not_mem_nil) (fun p e s m args below meth c Q hBg hX hR => ⟨fun _ h => absurd h List.not_mem_nil, fun _ h => absurd h List.not_mem_nil⟩) (fun p e s m args below meth c Q hBg hX hR hK => List.forall_mem_cons.mpr ⟨mv_cal_of (cc_J7_rangeCheck_23922 l hF) hBg hX hR hK mv_EX_ok hF mv_good mv_stok cw_J7_13.1 cw_J7_13.2.1 cw_J7_13.2.2 ⟨rfl, rfl, by exact Nat.le_of_ble_eq_true rfl, by exact Nat.le_of_ble_eq_true rfl⟩ ⟨Nat.zero_le _, Nat.zero_le _⟩, fun _ h => absurd h List.not_mem_nil⟩)
set_option maxRecDepth 20000 in
theorem cw_X4_84 : mv_Cw RX4 84 yJ7_fill_fda19 cJ7_fill_fda19 5 none (none) 4 := mv_cw_of (a := 1186) (b := 134) (c := 1187) (d := 0) (mv_T 1188 rfl rfl) (by decide +kernel)
def ic_X4_bestInchForRest : List (Nat × Instr × Nat) := [(0, .aload_n 0, 1), (1, .getfield 30, 3), (4, .getfield 57, 3), (7, .istore_n 1, 1), (8, .iconst 0, 1), (9, .istore_n 2, 1), (10, .aload_n 0, 1), (11, .getfield 9, 3), (14, .iload_n 1, 1), (15, .invokestatic 78, 3), (18, .aload_n 0, 1), (19, .aload_n 0, 1), (20, .getfield 9, 3), (23, .iconst 0, 1), (24, .iload_n 1, 1), (25, .invokevirtual 68, 3), (28, .istore_n 3, 1), (29, .iconst 1, 1), (30, .istore 4, 2), (32, .iload 4, 2), (34, .iload_n 1, 1), (35, .if_icmp .ge 56, 3), (38, .aload_n 0, 1), (39, .getfield 9, 3), (42, .iconst 0, 1), (43, .iload 4, 2), (45, .iload 4, 2), (47, .invokestatic 84, 3), (50, .aload_n 0, 1), (51, .getfield 9, 3), (54, .iload 4, 2), (56, .iload_n 1, 1), (57, .iload_n 1, 1), (58, .invokestatic 84, 3), (61, .aload_n 0, 1), (62, .aload_n 0, 1), (63, .getfield 9, 3), (66, .iconst 0, 1), (67, .iload_n 1, 1), (68, .invokevirtual 68, 3), (71, .istore 5, 2), (73, .iload 5, 2), (75, .iload_n 3, 1), (76, .if_icmp .le 9, 3), (79, .iload 5, 2), (81, .istore_n 3, 1), (82, .iload 4, 2), (84, .istore_n 2, 1), (85, .iinc 4 1, 3), (88, .goto (-56), 3), (91, .iload_n 2, 1), (92, .ireturn, 1)]
noncomputable def mm_X4_bestInchForRest : mv_M := (ic_X4_bestInchForRest, fl_X4, [], [], [(78, 2, none, true, ff_J7_fill_53178), (68, 4, some 4, false, ff_X4_fewest), (84, 4, none, true, ff_J7_fill_fda19)], [(32, [true, true, true, true, true, false])], none)
noncomputable def ff_X4_bestInchForRest : mv_F := mv_fn mv_rc mm_X4_bestInchForRest mv_sh 400 6
theorem dk_X4_bestInchForRest : mv_dk cX4_bestInchForRest ic_X4_bestInchForRest = true := by decide +kernel
set_option maxRecDepth 20000 in
theorem cc_X4_bestInchForRest {ad : Nat → Nat → Value} {cA : Nat → ClassId} {D : va_G} {tys : List (ClassId × FieldType)} {A : Nat → Prop} (l : Launch) (hF : mv_Fix mv_sh mv_ids mv_ros ad cA tys A mv_rc) : mv_Met l yX4_bestInchForRest cX4_bestInchForRest 6 (some .int) mv_Ts (mv_rm 3) 1 false mv_sh mv_ids mv_ros ad cA mv_cl D tys A mv_rc mv_cr (mv_EX ad A) ff_X4_bestInchForRest := mv_met_of (by decide +kernel) (by decide) hF mv_stok (mv_rzI (by decide +kernel)) mv_clok (mv_dk_ok dk_X4_bestInchForRest) (mv_fk_ok fk_X4) (fun p e s m args below meth c Q hBg hX hR => ⟨fun _ h => absurd h List.not_mem_nil, fun _ h => absurd h List.not_mem_nil⟩) (fun p e s m args below meth c Q hBg hX hR hK => List.forall_mem_cons.mpr ⟨mv_cal_of (cc_J7_fill_53178 l hF) hBg hX hR hK mv_EX_ok hF mv_good mv_stok cw_X4_78.1 cw_X4_78.2.1 cw_X4_78.2.2 ⟨rfl, rfl, by exact Nat.le_of_ble_eq_true rfl, by exact Nat.le_of_ble_eq_true rfl⟩ ⟨Nat.zero_le _, Nat.zero_le _⟩, List.forall_mem_cons.mpr ⟨mv_cal_of (cc_X4_fewest l hF) hBg hX hR hK mv_EX_ok hF mv_good mv_stok cw_X4_68.1 cw_X4_68.2.1 cw_X4_68.2.2 ⟨rfl, rfl, by exact Nat.le_of_ble_eq_true rfl, by exact Nat.le_of_ble_eq_true rfl⟩ ⟨Nat.zero_le _, Nat.zero_le _⟩, List.forall_mem_cons.mpr ⟨mv_cal_of (cc_J7_fill_fda19 l hF) hBg hX hR hK mv_EX_ok hF mv_good mv_stok cw_X4_84.1 cw_X4_84.2.1 cw_X4_84.2.2 ⟨rfl, rfl, by exact Nat.le_of_ble_eq_true rfl, by exact Nat.le_of_ble_eq_true rfl⟩ ⟨Nat.zero_le _, Nat.zero_le _⟩, fun _ h => absurd h List.not_mem_nil⟩⟩⟩)
set_option maxRecDepth 20000 in
theorem cw_X11_246 : mv_Cw RX11 246 yX4_bestInchForRest cX4_bestInchForRest 6 (some .int) (some 4) 1 := mv_cw_of (a := 1182) (b := 140) (c := 1183) (d := 1184) (mv_T 1185 rfl rfl) (by decide +kernel)
def ic_X11_bestRest : List (Nat × Instr × Nat) := [(0, .iconst 0, 1), (1, .iload_n 1, 1), (2, .invokestatic 100, 3), (5, .ifCond .eq 11, 3), (8, .iconst 1, 1), (9, .iload_n 2, 1), (10, .invokestatic 100, 3), (13, .ifCond .ne 5, 3), (16, .iconst (-1), 1), (17, .ireturn, 1), (18, .aload_n 0, 1), (19, .getfield 59, 3), (22, .iload_n 1, 1), (23, .iload_n 2, 1), (24, .invokevirtual 239, 3), (27, .aload_n 0, 1), (28, .getfield 59, 3), (31, .invokevirtual 246, 3), (34, .ireturn, 1)]
noncomputable def mm_X11_bestRest : mv_M := (ic_X11_bestRest, fl_X11, [], [], [(100, 2, none, false, ff_X11_allowed), (239, 3, some 4, true, ff_X4_ofAlike), (246, 1, some 4, false, ff_X4_bestInchForRest)], [], none)
noncomputable def ff_X11_bestRest : mv_F := mv_fn mv_rc mm_X11_bestRest mv_sh 400 3
theorem dk_X11_bestRest : mv_dk cX11_bestRest ic_X11_bestRest = true := by decide +kernel
set_option maxRecDepth 20000 in
theorem cc_X11_bestRest {ad : Nat → Nat → Value} {cA : Nat → ClassId} {D : va_G} {tys : List (ClassId × FieldType)} {A : Nat → Prop} (l : Launch) (hF : mv_Fix mv_sh mv_ids mv_ros ad cA tys A mv_rc) : mv_Met l yX11_bestRest cX11_bestRest 3 (some .int) mv_Ts (mv_rm 4) 3 false mv_sh mv_ids mv_ros ad cA mv_cl D tys A mv_rc mv_cr (mv_EX ad A) ff_X11_bestRest := mv_met_of (by decide +kernel) (by decide) hF mv_stok (mv_rzI (by decide +kernel)) mv_clok (mv_dk_ok dk_X11_bestRest) (mv_fk_ok fk_X11) (fun p e s m args below meth c Q hBg hX hR => ⟨fun _ h => absurd h List.not_mem_nil, fun _ h => absurd h List.not_mem_nil⟩) (fun p e s m args below meth c Q hBg hX hR hK => List.forall_mem_cons.mpr ⟨mv_cal_of (cc_X11_allowed l hF) hBg hX hR hK mv_EX_ok hF mv_good mv_stok cw_X11_100.1 cw_X11_100.2.1 cw_X11_100.2.2 ⟨rfl, rfl, by exact Nat.le_of_ble_eq_true rfl, by exact Nat.le_of_ble_eq_true rfl⟩ ⟨Nat.zero_le _, Nat.zero_le _⟩, List.forall_mem_cons.mpr ⟨mv_cal_of (cc_X4_ofAlike l hF) hBg hX hR hK mv_EX_ok hF mv_good mv_stok cw_X11_239.1 cw_X11_239.2.1 cw_X11_239.2.2 ⟨rfl, rfl, by exact Nat.le_of_ble_eq_true rfl, by exact Nat.le_of_ble_eq_true rfl⟩ ⟨Nat.zero_le _, Nat.zero_le _⟩, List.forall_mem_cons.mpr ⟨mv_cal_of (cc_X4_bestInchForRest l hF) hBg hX hR hK mv_EX_ok hF mv_good mv_stok cw_X11_246.1 cw_X11_246.2.1 cw_X11_246.2.2 ⟨rfl, rfl, by exact Nat.le_of_ble_eq_true rfl, by exact Nat.le_of_ble_eq_true rfl⟩ ⟨Nat.zero_le _, Nat.zero_le _⟩, fun _ h => absurd h List.not_mem_nil⟩⟩⟩)
def ic_X12_fillByLaw : List (Nat × Instr × Nat) := [(0, .aload_n 0, 1), (1, .iload_n 1, 1), (2, .putfield 299, 3), (5, .aload_n 0, 1), (6, .iload_n 2, 1), (7, .putfield 302, 3), (10, .aload_n 0, 1), (11, .iconst 0, 1), (12, .putfield 305, 3), (15, .aload_n 0, 1), (16, .iconst 0, 1), (17, .putfield 308, 3), (20, .iconst 0, 1), (21, .istore_n 3, 1), (22, .aload_n 0, 1), (23, .invokevirtual 353, 3), (26, .istore 4, 2), (28, .iload 4, 2), (30, .iconst (-1), 1), (31, .if_icmp .eq 29, 3), (34, .aload_n 0, 1), (35, .iconst (-1), 1), (36, .iload 4, 2), (38, .iload 4, 2), (40, .iload_n 1, 1), (41, .iadd, 1), (42, .iload_n 2, 1), (43, .iconst 0, 1), (44, .invokevirtual 295, 3), (47, .iload_n 3, 1), (48, .iconst 1, 1), (49, .iadd, 1), (50, .istore_n 3, 1), (51, .aload_n 0, 1), (52, .invokevirtual 353, 3), (55, .istore 4, 2), (57, .goto (-29), 3), (60, .iload_n 3, 1), (61, .ireturn, 1)]
noncomputable def mm_X12_fillByLaw : mv_M := (ic_X12_fillByLaw, fl_X12, [], [], [(353, 1, some 12, false, ff_X12_bestInch), (295, 6, some 12, true, ff_X12_seats)], [(28, [true, true, true, true, true])], none)
noncomputable def ff_X12_fillByLaw : mv_F := mv_fn mv_rc mm_X12_fillByLaw mv_sh 400 5
theorem dk_X12_fillByLaw : mv_dk cX12_fillByLaw ic_X12_fillByLaw = true := by decide +kernel
set_option maxRecDepth 20000 in
theorem cc_X12_fillByLaw {ad : Nat → Nat → Value} {cA : Nat → ClassId} {D : va_G} {tys : List (ClassId × FieldType)} {A : Nat → Prop} (l : Launch) (hF : mv_Fix mv_sh mv_ids mv_ros ad cA tys A mv_rc) : mv_Met l yX12_fillByLaw cX12_fillByLaw 5 (some .int) mv_Ts (mv_rm 6) 3 false mv_sh mv_ids mv_ros ad cA mv_cl D tys A mv_rc mv_cr (mv_EX ad A) ff_X12_fillByLaw := mv_met_of (by decide +kernel) (by decide) hF mv_stok (mv_rzI (by decide +kernel)) mv_clok (mv_dk_ok dk_X12_fillByLaw) (mv_fk_ok fk_X12) (fun p e s m args below meth c Q hBg hX hR => ⟨fun _ h => absurd h List.not_mem_nil, fun _ h => absurd h List.not_mem_nil⟩) (fun p e s m args below meth c Q hBg hX hR hK => List.forall_mem_cons.mpr ⟨mv_cal_of (cc_X12_bestInch l hF) hBg hX hR hK mv_EX_ok hF mv_good mv_stok cw_X12_353.1 cw_X12_353.2.1 cw_X12_353.2.2 ⟨rfl, rfl, by exact Nat.le_of_ble_eq_true rfl, by exact Nat.le_of_ble_eq_true rfl⟩ ⟨Nat.zero_le _, Nat.zero_le _⟩, List.forall_mem_cons.mpr ⟨mv_cal_of (cc_X12_seats l hF) hBg hX hR hK mv_EX_ok hF mv_good mv_stok cw_X12_295.1 cw_X12_295.2.1 cw_X12_295.2.2 ⟨rfl, rfl, by exact Nat.le_of_ble_eq_true rfl, by exact Nat.le_of_ble_eq_true rfl⟩ ⟨Nat.zero_le _, Nat.zero_le _⟩, fun _ h => absurd h List.not_mem_nil⟩⟩)
set_option maxRecDepth 20000 in
theorem cw_X12_460 : mv_Cw RX12 460 yX12_fillByLaw cX12_fillByLaw 5 (some .int) (some 12) 3 := mv_cw_of (a := 1905) (b := 143) (c := 1907) (d := 108) (mv_T 1908 rfl rfl) (by decide +kernel)
def ic_X12_fill : List (Nat × Instr × Nat) := [(0, .aload_n 0, 1), (1, .iconst 0, 1), (2, .putfield 126, 3), (5, .aload_n 0, 1), (6, .iload_n 1, 1), (7, .iload_n 2, 1), (8, .invokevirtual 457, 3), (11, .ifCond .eq 13, 3), (14, .aload_n 0, 1), (15, .iload_n 3, 1), (16, .iconst 0, 1), (17, .iconst 3, 1), (18, .invokevirtual 142, 3), (21, .ifCond .ne 5, 3), (24, .iconst (-1), 1), (25, .ireturn, 1), (26, .aload_n 0, 1), (27, .aload_n 0, 1), (28, .invokevirtual 344, 3), (31, .invokevirtual 347, 3), (34, .iload_n 3, 1), (35, .iconst 3, 1), (36, .if_icmp .ne 10, 3), (39, .aload_n 0, 1), (40, .iload_n 1, 1), (41, .iload_n 2, 1), (42, .invokevirtual 460, 3), (45, .ireturn, 1), (46, .aload_n 0, 1), (47, .iload_n 1, 1), (48, .iload_n 2, 1), (49, .invokevirtual 463, 3), (52, .aload_n 0, 1), (53, .iload_n 2, 1), (54, .invokevirtual 466, 3), (57, .iload_n 3, 1), (58, .ifCond .ne 10, 3), (61, .aload_n 0, 1), (62, .getfield 448, 3), (65, .goto 19, 3), (68, .iload_n 3, 1), (69, .iconst 1, 1), (70, .if_icmp .ne 10, 3), (73, .aload_n 0, 1), (74, .getfield 451, 3), (77, .goto 7, 3), (80, .aload_n 0, 1), (81, .getfield 454, 3), (84, .ireturn, 1)]
noncomputable def mm_X12_fill : mv_M := (ic_X12_fill, fl_X12, [], [], [(457, 3, some 12, false, ff_X12_areAlike), (142, 4, some 12, false, ff_X12_isIn), (344, 1, some 12, false, ff_X12_everyone), (347, 2, some 12, true, ff_X12_lists), (460, 3, some 12, false, ff_X12_fillByLaw), (463, 3, some 12, true, ff_X12_findsStretches), (466, 2, some 12, true, ff_X12_fills)], [], none)
noncomputable def ff_X12_fill : mv_F := mv_fn mv_rc mm_X12_fill mv_sh 400 4
theorem dk_X12_fill : mv_dk cX12_fill ic_X12_fill = true := by decide +kernel
set_option maxRecDepth 20000 in
theorem cc_X12_fill {ad : Nat → Nat → Value} {cA : Nat → ClassId} {D : va_G} {tys : List (ClassId × FieldType)} {A : Nat → Prop} (l : Launch) (hF : mv_Fix mv_sh mv_ids mv_ros ad cA tys A mv_rc) : mv_Met l yX12_fill cX12_fill 4 (some .int) mv_Ts (mv_rm 7) 4 false mv_sh mv_ids mv_ros ad cA mv_cl D tys A mv_rc mv_cr (mv_EX ad A) ff_X12_fill := mv_met_of (by decide +kernel) (by decide) hF mv_stok (mv_rzI (by decide +kernel)) mv_clok (mv_dk_ok dk_X12_fill) (mv_fk_ok fk_X12) (fun p e s m args below meth c Q hBg hX hR => ⟨fun _ h => absurd h List.not_mem_nil, fun _ h => absurd h List.not_mem_nil⟩) (fun p e s m args below meth c Q hBg hX hR hK => List.forall_mem_cons.mpr ⟨mv_cal_of (cc_X12_areAlike l hF) hBg hX hR hK mv_EX_ok hF mv_good mv_stok cw_X12_457.1 cw_X12_457.2.1 cw_X12_457.2.2 ⟨rfl, rfl, by exact Nat.le_of_ble_eq_true rfl, by exact Nat.le_of_ble_eq_true rfl⟩ ⟨Nat.zero_le _, Nat.zero_le _⟩, List.forall_mem_cons.mpr ⟨mv_cal_of (cc_X12_isIn l hF) hBg hX hR hK mv_EX_ok hF mv_good mv_stok cw_X12_142.1 cw_X12_142.2.1 cw_X12_142.2.2 ⟨rfl, rfl, by exact Nat.le_of_ble_eq_true rfl, by exact Nat.le_of_ble_eq_true rfl⟩ ⟨Nat.zero_le _, Nat.zero_le _⟩, List.forall_mem_cons.mpr ⟨mv_cal_of (cc_X12_everyone l hF) hBg hX hR hK mv_EX_ok hF mv_good mv_stok cw_X12_344.1 cw_X12_344.2.1 cw_X12_344.2.2 ⟨rfl, rfl, by exact Nat.le_of_ble_eq_true rfl, by exact Nat.le_of_ble_eq_true rfl⟩ ⟨Nat.zero_le _, Nat.zero_le _⟩, List.forall_mem_cons.mpr ⟨mv_cal_of (cc_X12_lists l hF) hBg hX hR hK mv_EX_ok hF mv_good mv_stok cw_X12_347.1 cw_X12_347.2.1 cw_X12_347.2.2 ⟨rfl, rfl, by exact Nat.le_of_ble_eq_true rfl, by exact Nat.le_of_ble_eq_true rfl⟩ ⟨Nat.zero_le _, Nat.zero_le _⟩, List.forall_mem_cons.mpr ⟨mv_cal_of (cc_X12_fillByLaw l hF) hBg hX hR hK mv_EX_ok hF mv_good mv_stok cw_X12_460.1 cw_X12_460.2.1 cw_X12_460.2.2 ⟨rfl, rfl, by exact Nat.le_of_ble_eq_true rfl, by exact Nat.le_of_ble_eq_true rfl⟩ ⟨Nat.zero_le _, Nat.zero_le _⟩, List.forall_mem_cons.mpr ⟨mv_cal_of (cc_X12_findsStretches l hF) hBg hX hR hK mv_EX_ok hF mv_good mv_stok cw_X12_463.1 cw_X12_463.2.1 cw_X12_463.2.2 ⟨rfl, rfl, by exact Nat.le_of_ble_eq_true rfl, by exact Nat.le_of_ble_eq_true rfl⟩ ⟨Nat.zero_le _, Nat.zero_le _⟩, List.forall_mem_cons.mpr ⟨mv_cal_of (cc_X12_fills l hF) hBg hX hR hK mv_EX_ok hF mv_good mv_stok cw_X12_466.1 cw_X12_466.2.1 cw_X12_466.2.2 ⟨rfl, rfl, by exact Nat.le_of_ble_eq_true rfl, by exact Nat.le_of_ble_eq_true rfl⟩ ⟨Nat.zero_le _, Nat.zero_le _⟩, fun _ h => absurd h List.not_mem_nil⟩⟩⟩⟩⟩⟩⟩)
def ic_X9_askForAlike : List (Nat × Instr × Nat) := [(0, .aload_n 0, 1), (1, .iload_n 1, 1), (2, .putfield 57, 3), (5, .aload_n 0, 1), (6, .iload_n 2, 1), (7, .putfield 60, 3), (10, .aload_n 0, 1), (11, .iconst 0, 1), (12, .putfield 63, 3), (15, .aload_n 0, 1), (16, .iconst 0, 1), (17, .putfield 66, 3), (20, .return_, 1)]
noncomputable def mm_X9_askForAlike : mv_M := (ic_X9_askForAlike, fl_X9, [], [], [], [], none)
noncomputable def ff_X9_askForAlike : mv_F := mv_fn mv_rc mm_X9_askForAlike mv_sh 400 3
theorem dk_X9_askForAlike : mv_dk cX9_askForAlike ic_X9_askForAlike = true := by decide +kernel
set_option maxRecDepth 20000 in
theorem cc_X9_askForAlike {ad : Nat → Nat → Value} {cA : Nat → ClassId} {D : va_G} {tys : List (ClassId × FieldType)} {A : Nat → Prop} (l : Launch) (hF : mv_Fix mv_sh mv_ids mv_ros ad cA tys A mv_rc) : mv_Met l yX9_askForAlike cX9_askForAlike 3 none mv_Ts (mv_rm 1) 3 true mv_sh mv_ids mv_ros ad cA mv_cl D tys A mv_rc mv_cr (mv_EX ad A) ff_X9_askForAlike := mv_met_of (by decide +kernel) (by decide) hF mv_stok (mv_rzV (by decide +kernel)) mv_clok (mv_dk_ok dk_X9_askForAlike) (mv_fk_ok fk_X9) (fun p e s m args below meth c Q hBg hX hR => ⟨fun _ h => absurd h List.not_mem_nil, fun _ h => absurd h List.not_mem_nil⟩) (fun p e s m args below meth c Q hBg hX hR hK => fun _ h => absurd h List.not_mem_nil)
set_option maxRecDepth 20000 in
theorem cw_X10_60 : mv_Cw RX10 60 yX9_askForAlike cX9_askForAlike 3 none (some 9) 3 := mv_cw_of (a := 1138) (b := 137) (c := 1139) (d := 1140) (mv_T 1141 rfl rfl) (by decide +kernel)
set_option maxRecDepth 20000 in
theorem cw_X10_64 : mv_Cw RX10 64 yX10_best cX10_best 7 (some .int) (some 10) 1 := mv_cw_of (a := 1142) (b := 138) (c := 714) (d := 715) (mv_T 716 rfl rfl) (by decide +kernel)
set_option maxRecDepth 20000 in
theorem cw_X10_68 : mv_Cw RX10 68 yX9_seatAsker cX9_seatAsker 3 none (some 9) 2 := mv_cw_of (a := 1143) (b := 137) (c := 1144) (d := 1145) (mv_T 1146 rfl rfl) (by decide +kernel)
def ic_X10_fillByLaw : List (Nat × Instr × Nat) := [(0, .aload_n 0, 1), (1, .getfield 21, 3), (4, .iload_n 1, 1), (5, .iload_n 2, 1), (6, .invokevirtual 60, 3), (9, .iconst 0, 1), (10, .istore_n 3, 1), (11, .iconst 0, 1), (12, .istore 4, 2), (14, .iload 4, 2), (16, .bipush 60, 2), (18, .if_icmp .ge 35, 3), (21, .aload_n 0, 1), (22, .invokevirtual 64, 3), (25, .istore 5, 2), (27, .iload 5, 2), (29, .iconst (-1), 1), (30, .if_icmp .ne 5, 3), (33, .iload_n 3, 1), (34, .ireturn, 1), (35, .aload_n 0, 1), (36, .getfield 21, 3), (39, .iload 5, 2), (41, .invokevirtual 68, 3), (44, .iinc 3 1, 3), (47, .iinc 4 1, 3), (50, .goto (-36), 3), (53, .iload_n 3, 1), (54, .ireturn, 1)]
noncomputable def mm_X10_fillByLaw : mv_M := (ic_X10_fillByLaw, fl_X10, [], [], [(60, 3, some 9, true, ff_X9_askForAlike), (64, 1, some 10, false, ff_X10_best), (68, 2, some 9, true, ff_X9_seatAsker)], [(14, [true, false, false, true, true, false])], none)
noncomputable def ff_X10_fillByLaw : mv_F := mv_fn mv_rc mm_X10_fillByLaw mv_sh 400 6
theorem dk_X10_fillByLaw : mv_dk cX10_fillByLaw ic_X10_fillByLaw = true := by decide +kernel
set_option maxRecDepth 20000 in
theorem cc_X10_fillByLaw {ad : Nat → Nat → Value} {cA : Nat → ClassId} {D : va_G} {tys : List (ClassId × FieldType)} {A : Nat → Prop} (l : Launch) (hF : mv_Fix mv_sh mv_ids mv_ros ad cA tys A mv_rc) : mv_Met l yX10_fillByLaw cX10_fillByLaw 6 (some .int) mv_Ts (mv_rm 6) 3 false mv_sh mv_ids mv_ros ad cA mv_cl D tys A mv_rc mv_cr (mv_EX ad A) ff_X10_fillByLaw := mv_met_of (by decide +kernel) (by decide) hF mv_stok (mv_rzI (by decide +kernel)) mv_clok (mv_dk_ok dk_X10_fillByLaw) (mv_fk_ok fk_X10) (fun p e s m args below meth c Q hBg hX hR => ⟨fun _ h => absurd h List.not_mem_nil, fun _ h => absurd h List.not_mem_nil⟩) (fun p e s m args below meth c Q hBg hX hR hK => List.forall_mem_cons.mpr ⟨mv_cal_of (cc_X9_askForAlike l hF) hBg hX hR hK mv_EX_ok hF mv_good mv_stok cw_X10_60.1 cw_X10_60.2.1 cw_X10_60.2.2 ⟨rfl, rfl, by exact Nat.le_of_ble_eq_true rfl, by exact Nat.le_of_ble_eq_true rfl⟩ ⟨Nat.zero_le _, Nat.zero_le _⟩, List.forall_mem_cons.mpr ⟨mv_cal_of (cc_X10_best l hF) hBg hX hR hK mv_EX_ok hF mv_good mv_stok cw_X10_64.1 cw_X10_64.2.1 cw_X10_64.2.2 ⟨rfl, rfl, by exact Nat.le_of_ble_eq_true rfl, by exact Nat.le_of_ble_eq_true rfl⟩ ⟨Nat.zero_le _, Nat.zero_le _⟩, List.forall_mem_cons.mpr ⟨mv_cal_of (cc_X9_seatAsker l hF) hBg hX hR hK mv_EX_ok hF mv_good mv_stok cw_X10_68.1 cw_X10_68.2.1 cw_X10_68.2.2 ⟨rfl, rfl, by exact Nat.le_of_ble_eq_true rfl, by exact Nat.le_of_ble_eq_true rfl⟩ ⟨Nat.zero_le _, Nat.zero_le _⟩, fun _ h => absurd h List.not_mem_nil⟩⟩⟩)
set_option maxRecDepth 20000 in
theorem cw_X11_235 : mv_Cw RX11 235 yX10_fillByLaw cX10_fillByLaw 6 (some .int) (some 10) 3 := mv_cw_of (a := 1134) (b := 138) (c := 1135) (d := 1136) (mv_T 1137 rfl rfl) (by decide +kernel)
def ic_X11_fill : List (Nat × Instr × Nat) := [(0, .iconst 0, 1), (1, .iload_n 1, 1), (2, .invokestatic 100, 3), (5, .ifCond .eq 20, 3), (8, .iconst 1, 1), (9, .iload_n 2, 1), (10, .invokestatic 100, 3), (13, .ifCond .eq 12, 3), (16, .iload_n 3, 1), (17, .ifCond .lt 8, 3), (20, .iload_n 3, 1), (21, .iconst 3, 1), (22, .if_icmp .le 5, 3), (25, .iconst (-1), 1), (26, .ireturn, 1), (27, .aload_n 0, 1), (28, .getfield 36, 3), (31, .aload_n 0, 1), (32, .getfield 12, 3), (35, .sipush 1023, 3), (38, .invokevirtual 203, 3), (41, .iload_n 3, 1), (42, .iconst 3, 1), (43, .if_icmp .ne 13, 3), (46, .aload_n 0, 1), (47, .getfield 45, 3), (50, .iload_n 1, 1), (51, .iload_n 2, 1), (52, .invokevirtual 235, 3), (55, .ireturn, 1), (56, .aload_n 0, 1), (57, .getfield 59, 3), (60, .iload_n 1, 1), (61, .iload_n 2, 1), (62, .invokevirtual 239, 3), (65, .aload_n 0, 1), (66, .getfield 59, 3), (69, .iload_n 3, 1), (70, .invokevirtual 243, 3), (73, .ireturn, 1)]
noncomputable def mm_X11_fill : mv_M := (ic_X11_fill, fl_X11, [], [], [(100, 2, none, false, ff_X11_allowed), (203, 3, some 9, true, ff_X9_gather), (235, 3, some 10, false, ff_X10_fillByLaw), (239, 3, some 4, true, ff_X4_ofAlike), (243, 2, some 4, false, ff_X4_total)], [], none)
noncomputable def ff_X11_fill : mv_F := mv_fn mv_rc mm_X11_fill mv_sh 400 4
theorem dk_X11_fill : mv_dk cX11_fill ic_X11_fill = true := by decide +kernel
set_option maxRecDepth 20000 in
theorem cc_X11_fill {ad : Nat → Nat → Value} {cA : Nat → ClassId} {D : va_G} {tys : List (ClassId × FieldType)} {A : Nat → Prop} (l : Launch) (hF : mv_Fix mv_sh mv_ids mv_ros ad cA tys A mv_rc) : mv_Met l yX11_fill cX11_fill 4 (some .int) mv_Ts (mv_rm 7) 4 false mv_sh mv_ids mv_ros ad cA mv_cl D tys A mv_rc mv_cr (mv_EX ad A) ff_X11_fill := mv_met_of (by decide +kernel) (by decide) hF mv_stok (mv_rzI (by decide +kernel)) mv_clok (mv_dk_ok dk_X11_fill) (mv_fk_ok fk_X11) (fun p e s m args below meth c Q hBg hX hR => ⟨fun _ h => absurd h List.not_mem_nil, fun _ h => absurd h List.not_mem_nil⟩) (fun p e s m args below meth c Q hBg hX hR hK => List.forall_mem_cons.mpr ⟨mv_cal_of (cc_X11_allowed l hF) hBg hX hR hK mv_EX_ok hF mv_good mv_stok cw_X11_100.1 cw_X11_100.2.1 cw_X11_100.2.2 ⟨rfl, rfl, by exact Nat.le_of_ble_eq_true rfl, by exact Nat.le_of_ble_eq_true rfl⟩ ⟨Nat.zero_le _, Nat.zero_le _⟩, List.forall_mem_cons.mpr ⟨mv_cal_of (cc_X9_gather l hF) hBg hX hR hK mv_EX_ok hF mv_good mv_stok cw_X11_203.1 cw_X11_203.2.1 cw_X11_203.2.2 ⟨rfl, rfl, by exact Nat.le_of_ble_eq_true rfl, by exact Nat.le_of_ble_eq_true rfl⟩ ⟨Nat.zero_le _, Nat.zero_le _⟩, List.forall_mem_cons.mpr ⟨mv_cal_of (cc_X10_fillByLaw l hF) hBg hX hR hK mv_EX_ok hF mv_good mv_stok cw_X11_235.1 cw_X11_235.2.1 cw_X11_235.2.2 ⟨rfl, rfl, by exact Nat.le_of_ble_eq_true rfl, by exact Nat.le_of_ble_eq_true rfl⟩ ⟨Nat.zero_le _, Nat.zero_le _⟩, List.forall_mem_cons.mpr ⟨mv_cal_of (cc_X4_ofAlike l hF) hBg hX hR hK mv_EX_ok hF mv_good mv_stok cw_X11_239.1 cw_X11_239.2.1 cw_X11_239.2.2 ⟨rfl, rfl, by exact Nat.le_of_ble_eq_true rfl, by exact Nat.le_of_ble_eq_true rfl⟩ ⟨Nat.zero_le _, Nat.zero_le _⟩, List.forall_mem_cons.mpr ⟨mv_cal_of (cc_X4_total l hF) hBg hX hR hK mv_EX_ok hF mv_good mv_stok cw_X11_243.1 cw_X11_243.2.1 cw_X11_243.2.2 ⟨rfl, rfl, by exact Nat.le_of_ble_eq_true rfl, by exact Nat.le_of_ble_eq_true rfl⟩ ⟨Nat.zero_le _, Nat.zero_le _⟩, fun _ h => absurd h List.not_mem_nil⟩⟩⟩⟩⟩)
end
section
def ic_X12_rise : List (Nat × Instr × Nat) := [(0, .aload_n 0, 1), (1, .iconst 0, 1), (2, .putfield 126, 3), (5, .aload_n 0, 1), (6, .iload_n 1, 1), (7, .invokevirtual 363, 3), (10, .ifCond .eq 13, 3), (13, .aload_n 0, 1), (14, .iload_n 2, 1), (15, .iconst 0, 1), (16, .iconst 1, 1), (17, .invokevirtual 142, 3), (20, .ifCond .ne 5, 3), (23, .iconst (-1), 1), (24, .ireturn, 1), (25, .iconst (-1), 1), (26, .istore_n 3, 1), (27, .ldc_w 408, 3), (30, .istore 4, 2), (32, .iconst 0, 1), (33, .istore 5, 2), (35, .iload 5, 2), (37, .aload_n 0, 1), (38, .getfield 139, 3), (41, .if_icmp .ge 64, 3), (44, .aload_n 0, 1), (45, .iload 5, 2), (47, .invokevirtual 153, 3), (50, .ifCond .eq 49, 3), (53, .aload_n 0, 1), (54, .iload_n 1, 1), (55, .aload_n 0, 1), (56, .invokevirtual 344, 3), (59, .iconst 1, 1), (60, .iload 5, 2), (62, .ishl, 1), (63, .iconst (-1), 1), (64, .ixor, 1), (65, .iand, 1), (66, .invokevirtual 360, 3), (69, .ifCond .eq 30, 3), (72, .aload_n 0, 1), (73, .getfield 431, 3), (76, .bipush 100, 2), (78, .idiv, 1), (79, .iload 4, 2), (81, .if_icmp .lt 6, 3), (84, .goto 15, 3), (87, .iload 5, 2), (89, .istore_n 3, 1), (90, .aload_n 0, 1), (91, .getfield 431, 3), (94, .bipush 100, 2), (96, .idiv, 1), (97, .istore 4, 2), (99, .iinc 5 1, 3), (102, .goto (-67), 3), (105, .iload_n 3, 1), (106, .iconst (-1), 1), (107, .if_icmp .eq 7, 3), (110, .iload_n 2, 1), (111, .ifCond .ne 7, 3), (114, .iload_n 3, 1), (115, .goto 5, 3), (118, .iload 4, 2), (120, .ireturn, 1)]
noncomputable def mm_X12_rise : mv_M := (ic_X12_rise, fl_X12, [(408, .inl 1000000)], [], [(363, 2, some 12, false, ff_X12_isAside), (142, 4, some 12, false, ff_X12_isIn), (153, 2, some 12, false, ff_X12_sits), (344, 1, some 12, false, ff_X12_everyone), (360, 3, some 12, false, ff_X12_findsRoom)], [(35, [true, true, true, true, true, true])], none)
noncomputable def ff_X12_rise : mv_F := mv_fn mv_rc mm_X12_rise mv_sh 400 6
theorem dk_X12_rise : mv_dk cX12_rise ic_X12_rise = true := by decide +kernel
set_option maxRecDepth 20000 in
theorem cc_X12_rise {ad : Nat → Nat → Value} {cA : Nat → ClassId} {D : va_G} {tys : List (ClassId × FieldType)} {A : Nat → Prop} (l : Launch) (hF : mv_Fix mv_sh mv_ids mv_ros ad cA tys A mv_rc) : mv_Met l yX12_rise cX12_rise 6 (some .int) mv_Ts (mv_rm 8) 3 false mv_sh mv_ids mv_ros ad cA mv_cl D tys A mv_rc mv_cr (mv_EX ad A) ff_X12_rise := mv_met_of (by decide +kernel) (by decide) hF mv_stok (mv_rzI (by decide +kernel)) mv_clok (mv_dk_ok dk_X12_rise) (mv_fk_ok fk_X12) (fun p e s m args below meth c Q hBg hX hR => ⟨List.forall_mem_cons.mpr ⟨mv_cs_i hBg (mv_T 1804 rfl rfl) (by decide), fun _ h => absurd h List.not_mem_nil⟩, fun _ h => absurd h List.not_mem_nil⟩) (fun p e s m args below meth c Q hBg hX hR hK => List.forall_mem_cons.mpr ⟨mv_cal_of (cc_X12_isAside l hF) hBg hX hR hK mv_EX_ok hF mv_good mv_stok cw_X12_363.1 cw_X12_363.2.1 cw_X12_363.2.2 ⟨rfl, rfl, by exact Nat.le_of_ble_eq_true rfl, by exact Nat.le_of_ble_eq_true rfl⟩ ⟨Nat.zero_le _, Nat.zero_le _⟩, List.forall_mem_cons.mpr ⟨mv_cal_of (cc_X12_isIn l hF) hBg hX hR hK mv_EX_ok hF mv_good mv_stok cw_X12_142.1 cw_X12_142.2.1 cw_X12_142.2.2 ⟨rfl, rfl, by exact Nat.le_of_ble_eq_true rfl, by exact Nat.le_of_ble_eq_true rfl⟩ ⟨Nat.zero_le _, Nat.zero_le _⟩, List.forall_mem_cons.mpr ⟨mv_cal_of (cc_X12_sits l hF) hBg hX hR hK mv_EX_ok hF mv_good mv_stok cw_X12_153.1 cw_X12_153.2.1 cw_X12_153.2.2 ⟨rfl, rfl, by exact Nat.le_of_ble_eq_true rfl, by exact Nat.le_of_ble_eq_true rfl⟩ ⟨Nat.zero_le _, Nat.zero_le _⟩, List.forall_mem_cons.mpr ⟨mv_cal_of (cc_X12_everyone l hF) hBg hX hR hK mv_EX_ok hF mv_good mv_stok cw_X12_344.1 cw_X12_344.2.1 cw_X12_344.2.2 ⟨rfl, rfl, by exact Nat.le_of_ble_eq_true rfl, by exact Nat.le_of_ble_eq_true rfl⟩ ⟨Nat.zero_le _, Nat.zero_le _⟩, List.forall_mem_cons.mpr ⟨mv_cal_of (cc_X12_findsRoom l hF) hBg hX hR hK mv_EX_ok hF mv_good mv_stok cw_X12_360.1 cw_X12_360.2.1 cw_X12_360.2.2 ⟨rfl, rfl, by exact Nat.le_of_ble_eq_true rfl, by exact Nat.le_of_ble_eq_true rfl⟩ ⟨Nat.zero_le _, Nat.zero_le _⟩, fun _ h => absurd h List.not_mem_nil⟩⟩⟩⟩⟩)
def ic_X8_cost : List (Nat × Instr × Nat) := [(0, .aload_n 0, 1), (1, .getfield 42, 3), (4, .bipush 16, 2), (6, .idiv, 1), (7, .ireturn, 1)]
noncomputable def mm_X8_cost : mv_M := (ic_X8_cost, fl_X8, [], [], [], [], none)
noncomputable def ff_X8_cost : mv_F := mv_fn mv_rc mm_X8_cost mv_sh 400 1
theorem dk_X8_cost : mv_dk cX8_cost ic_X8_cost = true := by decide +kernel
set_option maxRecDepth 20000 in
theorem cc_X8_cost {ad : Nat → Nat → Value} {cA : Nat → ClassId} {D : va_G} {tys : List (ClassId × FieldType)} {A : Nat → Prop} (l : Launch) (hF : mv_Fix mv_sh mv_ids mv_ros ad cA tys A mv_rc) : mv_Met l yX8_cost cX8_cost 1 (some .int) mv_Ts (mv_rm 1) 1 false mv_sh mv_ids mv_ros ad cA mv_cl D tys A mv_rc mv_cr (mv_EX ad A) ff_X8_cost := mv_met_of (by decide +kernel) (by decide) hF mv_stok (mv_rzI (by decide +kernel)) mv_clok (mv_dk_ok dk_X8_cost) (mv_fk_ok fk_X8) (fun p e s m args below meth c Q hBg hX hR => ⟨fun _ h => absurd h List.not_mem_nil, fun _ h => absurd h List.not_mem_nil⟩) (fun p e s m args below meth c Q hBg hX hR hK => fun _ h => absurd h List.not_mem_nil)
set_option maxRecDepth 20000 in
theorem cw_X11_220 : mv_Cw RX11 220 yX8_reckonCosts cX8_reckonCosts 3 none (some 8) 1 := mv_cw_of (a := 1116) (b := 139) (c := 799) (d := 800) (mv_T 801 rfl rfl) (by decide +kernel)
set_option maxRecDepth 20000 in
theorem cw_X11_223 : mv_Cw RX11 223 yX8_find cX8_find 5 (some .boolean) (some 8) 3 := mv_cw_of (a := 1117) (b := 139) (c := 807) (d := 808) (mv_T 809 rfl rfl) (by decide +kernel)
set_option maxRecDepth 20000 in
theorem cw_X11_226 : mv_Cw RX11 226 yX8_cost cX8_cost 1 (some .int) (some 8) 1 := mv_cw_of (a := 1118) (b := 139) (c := 1119) (d := 1120) (mv_T 1121 rfl rfl) (by decide +kernel)
def ic_X11_rise : List (Nat × Instr × Nat) := [(0, .iload_n 2, 1), (1, .ifCond .lt 19, 3), (4, .iload_n 2, 1), (5, .iconst 1, 1), (6, .if_icmp .gt 14, 3), (9, .aload_n 0, 1), (10, .getfield 12, 3), (13, .iload_n 1, 1), (14, .invokevirtual 121, 3), (17, .ifCond .ne 5, 3), (20, .iconst (-1), 1), (21, .ireturn, 1), (22, .aload_n 0, 1), (23, .getfield 52, 3), (26, .invokevirtual 220, 3), (29, .iconst (-1), 1), (30, .istore_n 3, 1), (31, .iconst (-1), 1), (32, .istore 4, 2), (34, .iconst 0, 1), (35, .istore 5, 2), (37, .iload 5, 2), (39, .aload_n 0, 1), (40, .getfield 12, 3), (43, .getfield 104, 3), (46, .if_icmp .ge 71, 3), (49, .aload_n 0, 1), (50, .getfield 12, 3), (53, .iload 5, 2), (55, .invokevirtual 118, 3), (58, .ifCond .eq 53, 3), (61, .aload_n 0, 1), (62, .getfield 52, 3), (65, .iload_n 1, 1), (66, .sipush 1023, 3), (69, .iconst 1, 1), (70, .iload 5, 2), (72, .ishl, 1), (73, .iconst (-1), 1), (74, .ixor, 1), (75, .iand, 1), (76, .invokevirtual 223, 3), (79, .ifCond .eq 32, 3), (82, .iload_n 3, 1), (83, .iconst (-1), 1), (84, .if_icmp .eq 15, 3), (87, .aload_n 0, 1), (88, .getfield 52, 3), (91, .invokevirtual 226, 3), (94, .iload 4, 2), (96, .if_icmp .ge 15, 3), (99, .iload 5, 2), (101, .istore_n 3, 1), (102, .aload_n 0, 1), (103, .getfield 52, 3), (106, .invokevirtual 226, 3), (109, .istore 4, 2), (111, .iinc 5 1, 3), (114, .goto (-77), 3), (117, .iload_n 2, 1), (118, .ifCond .ne 7, 3), (121, .iload_n 3, 1), (122, .goto 5, 3), (125, .iload 4, 2), (127, .ireturn, 1)]
noncomputable def mm_X11_rise : mv_M := (ic_X11_rise, fl_X11, [], [], [(121, 2, some 2, false, ff_X2_isAside), (220, 1, some 8, true, ff_X8_reckonCosts), (118, 2, some 2, false, ff_X2_isSeated), (223, 3, some 8, false, ff_X8_find), (226, 1, some 8, false, ff_X8_cost)], [(37, [true, true, true, true, true, true])], none)
noncomputable def ff_X11_rise : mv_F := mv_fn mv_rc mm_X11_rise mv_sh 400 6
theorem dk_X11_rise : mv_dk cX11_rise ic_X11_rise = true := by decide +kernel
set_option maxRecDepth 20000 in
theorem cc_X11_rise {ad : Nat → Nat → Value} {cA : Nat → ClassId} {D : va_G} {tys : List (ClassId × FieldType)} {A : Nat → Prop} (l : Launch) (hF : mv_Fix mv_sh mv_ids mv_ros ad cA tys A mv_rc) : mv_Met l yX11_rise cX11_rise 6 (some .int) mv_Ts (mv_rm 6) 3 false mv_sh mv_ids mv_ros ad cA mv_cl D tys A mv_rc mv_cr (mv_EX ad A) ff_X11_rise := mv_met_of (by decide +kernel) (by decide) hF mv_stok (mv_rzI (by decide +kernel)) mv_clok (mv_dk_ok dk_X11_rise) (mv_fk_ok fk_X11) (fun p e s m args below meth c Q hBg hX hR => ⟨fun _ h => absurd h List.not_mem_nil, fun _ h => absurd h List.not_mem_nil⟩) (fun p e s m args below meth c Q hBg hX hR hK => List.forall_mem_cons.mpr ⟨mv_cal_of (cc_X2_isAside l hF) hBg hX hR hK mv_EX_ok hF mv_good mv_stok cw_X11_121.1 cw_X11_121.2.1 cw_X11_121.2.2 ⟨rfl, rfl, by exact Nat.le_of_ble_eq_true rfl, by exact Nat.le_of_ble_eq_true rfl⟩ ⟨Nat.zero_le _, Nat.zero_le _⟩, List.forall_mem_cons.mpr ⟨mv_cal_of (cc_X8_reckonCosts l hF) hBg hX hR hK mv_EX_ok hF mv_good mv_stok cw_X11_220.1 cw_X11_220.2.1 cw_X11_220.2.2 ⟨rfl, rfl, by exact Nat.le_of_ble_eq_true rfl, by exact Nat.le_of_ble_eq_true rfl⟩ ⟨Nat.zero_le _, Nat.zero_le _⟩, List.forall_mem_cons.mpr ⟨mv_cal_of (cc_X2_isSeated l hF) hBg hX hR hK mv_EX_ok hF mv_good mv_stok cw_X11_118.1 cw_X11_118.2.1 cw_X11_118.2.2 ⟨rfl, rfl, by exact Nat.le_of_ble_eq_true rfl, by exact Nat.le_of_ble_eq_true rfl⟩ ⟨Nat.zero_le _, Nat.zero_le _⟩, List.forall_mem_cons.mpr ⟨mv_cal_of (cc_X8_find l hF) hBg hX hR hK mv_EX_ok hF mv_good mv_stok cw_X11_223.1 cw_X11_223.2.1 cw_X11_223.2.2 ⟨rfl, rfl, by exact Nat.le_of_ble_eq_true rfl, by exact Nat.le_of_ble_eq_true rfl⟩ ⟨Nat.zero_le _, Nat.zero_le _⟩, List.forall_mem_cons.mpr ⟨mv_cal_of (cc_X8_cost l hF) hBg hX hR hK mv_EX_ok hF mv_good mv_stok cw_X11_226.1 cw_X11_226.2.1 cw_X11_226.2.2 ⟨rfl, rfl, by exact Nat.le_of_ble_eq_true rfl, by exact Nat.le_of_ble_eq_true rfl⟩ ⟨Nat.zero_le _, Nat.zero_le _⟩, fun _ h => absurd h List.not_mem_nil⟩⟩⟩⟩⟩)
def ic_X12_roomFor : List (Nat × Instr × Nat) := [(0, .iconst 0, 1), (1, .istore_n 2, 1), (2, .iload_n 2, 1), (3, .aload_n 0, 1), (4, .getfield 289, 3), (7, .if_icmp .gt 26, 3), (10, .aload_n 0, 1), (11, .getfield 96, 3), (14, .iload_n 2, 1), (15, .iaload, 1), (16, .iload_n 1, 1), (17, .if_icmp .ne 10, 3), (20, .aload_n 0, 1), (21, .getfield 105, 3), (24, .iload_n 2, 1), (25, .iaload, 1), (26, .ireturn, 1), (27, .iinc 2 1, 3), (30, .goto (-28), 3), (33, .iconst (-1), 1), (34, .ireturn, 1)]
noncomputable def mm_X12_roomFor : mv_M := (ic_X12_roomFor, fl_X12, [], [], [], [(2, [true, true, true])], none)
noncomputable def ff_X12_roomFor : mv_F := mv_fn mv_rc mm_X12_roomFor mv_sh 400 3
theorem dk_X12_roomFor : mv_dk cX12_roomFor ic_X12_roomFor = true := by decide +kernel
set_option maxRecDepth 20000 in
theorem cc_X12_roomFor {ad : Nat → Nat → Value} {cA : Nat → ClassId} {D : va_G} {tys : List (ClassId × FieldType)} {A : Nat → Prop} (l : Launch) (hF : mv_Fix mv_sh mv_ids mv_ros ad cA tys A mv_rc) : mv_Met l yX12_roomFor cX12_roomFor 3 (some .int) mv_Ts (mv_rm 1) 2 false mv_sh mv_ids mv_ros ad cA mv_cl D tys A mv_rc mv_cr (mv_EX ad A) ff_X12_roomFor := mv_met_of (by decide +kernel) (by decide) hF mv_stok (mv_rzI (by decide +kernel)) mv_clok (mv_dk_ok dk_X12_roomFor) (mv_fk_ok fk_X12) (fun p e s m args below meth c Q hBg hX hR => ⟨fun _ h => absurd h List.not_mem_nil, fun _ h => absurd h List.not_mem_nil⟩) (fun p e s m args below meth c Q hBg hX hR hK => fun _ h => absurd h List.not_mem_nil)
set_option maxRecDepth 20000 in
theorem cw_X12_434 : mv_Cw RX12 434 yX12_roomFor cX12_roomFor 3 (some .int) (some 12) 2 := mv_cw_of (a := 1889) (b := 143) (c := 1891) (d := 106) (mv_T 1892 rfl rfl) (by decide +kernel)
def ic_X12_room : List (Nat × Instr × Nat) := [(0, .aload_n 0, 1), (1, .iconst 0, 1), (2, .putfield 126, 3), (5, .aload_n 0, 1), (6, .iload_n 1, 1), (7, .invokevirtual 363, 3), (10, .ifCond .eq 30, 3), (13, .aload_n 0, 1), (14, .iload_n 2, 1), (15, .iconst 0, 1), (16, .iconst 2, 1), (17, .invokevirtual 142, 3), (20, .ifCond .ne 22, 3), (23, .aload_n 0, 1), (24, .iload_n 2, 1), (25, .bipush 10, 2), (27, .bipush 9, 2), (29, .aload_n 0, 1), (30, .getfield 139, 3), (33, .iadd, 1), (34, .invokevirtual 142, 3), (37, .ifCond .ne 5, 3), (40, .iconst (-1), 1), (41, .ireturn, 1), (42, .iload_n 2, 1), (43, .bipush 10, 2), (45, .if_icmp .lt 14, 3), (48, .aload_n 0, 1), (49, .iload_n 2, 1), (50, .bipush 10, 2), (52, .isub, 1), (53, .invokevirtual 153, 3), (56, .ifCond .eq 15, 3), (59, .aload_n 0, 1), (60, .iload_n 1, 1), (61, .aload_n 0, 1), (62, .invokevirtual 344, 3), (65, .invokevirtual 360, 3), (68, .ifCond .ne 5, 3), (71, .iconst (-1), 1), (72, .ireturn, 1), (73, .iload_n 2, 1), (74, .ifCond .ne 11, 3), (77, .aload_n 0, 1), (78, .getfield 431, 3), (81, .bipush 100, 2), (83, .idiv, 1), (84, .ireturn, 1), (85, .iload_n 2, 1), (86, .iconst 1, 1), (87, .if_icmp .ne 13, 3), (90, .aload_n 0, 1), (91, .getfield 431, 3), (94, .bipush 100, 2), (96, .irem, 1), (97, .goto 20, 3), (100, .aload_n 0, 1), (101, .iload_n 2, 1), (102, .iconst 2, 1), (103, .if_icmp .ne 7, 3), (106, .iload_n 1, 1), (107, .goto 7, 3), (110, .iload_n 2, 1), (111, .bipush 10, 2), (113, .isub, 1), (114, .invokevirtual 434, 3), (117, .ireturn, 1)]
noncomputable def mm_X12_room : mv_M := (ic_X12_room, fl_X12, [], [], [(363, 2, some 12, false, ff_X12_isAside), (142, 4, some 12, false, ff_X12_isIn), (153, 2, some 12, false, ff_X12_sits), (344, 1, some 12, false, ff_X12_everyone), (360, 3, some 12, false, ff_X12_findsRoom), (434, 2, some 12, false, ff_X12_roomFor)], [], none)
noncomputable def ff_X12_room : mv_F := mv_fn mv_rc mm_X12_room mv_sh 400 3
theorem dk_X12_room : mv_dk cX12_room ic_X12_room = true := by decide +kernel
set_option maxRecDepth 20000 in
theorem cc_X12_room {ad : Nat → Nat → Value} {cA : Nat → ClassId} {D : va_G} {tys : List (ClassId × FieldType)} {A : Nat → Prop} (l : Launch) (hF : mv_Fix mv_sh mv_ids mv_ros ad cA tys A mv_rc) : mv_Met l yX12_room cX12_room 3 (some .int) mv_Ts (mv_rm 8) 3 false mv_sh mv_ids mv_ros ad cA mv_cl D tys A mv_rc mv_cr (mv_EX ad A) ff_X12_room := mv_met_of (by decide +kernel) (by decide) hF mv_stok (mv_rzI (by decide +kernel)) mv_clok (mv_dk_ok dk_X12_room) (mv_fk_ok fk_X12) (fun p e s m args below meth c Q hBg hX hR => ⟨fun _ h => absurd h List.not_mem_nil, fun _ h => absurd h List.not_mem_nil⟩) (fun p e s m args below meth c Q hBg hX hR hK => List.forall_mem_cons.mpr ⟨mv_cal_of (cc_X12_isAside l hF) hBg hX hR hK mv_EX_ok hF mv_good mv_stok cw_X12_363.1 cw_X12_363.2.1 cw_X12_363.2.2 ⟨rfl, rfl, by exact Nat.le_of_ble_eq_true rfl, by exact Nat.le_of_ble_eq_true rfl⟩ ⟨Nat.zero_le _, Nat.zero_le _⟩, List.forall_mem_cons.mpr ⟨mv_cal_of (cc_X12_isIn l hF) hBg hX hR hK mv_EX_ok hF mv_good mv_stok cw_X12_142.1 cw_X12_142.2.1 cw_X12_142.2.2 ⟨rfl, rfl, by exact Nat.le_of_ble_eq_true rfl, by exact Nat.le_of_ble_eq_true rfl⟩ ⟨Nat.zero_le _, Nat.zero_le _⟩, List.forall_mem_cons.mpr ⟨mv_cal_of (cc_X12_sits l hF) hBg hX hR hK mv_EX_ok hF mv_good mv_stok cw_X12_153.1 cw_X12_153.2.1 cw_X12_153.2.2 ⟨rfl, rfl, by exact Nat.le_of_ble_eq_true rfl, by exact Nat.le_of_ble_eq_true rfl⟩ ⟨Nat.zero_le _, Nat.zero_le _⟩, List.forall_mem_cons.mpr ⟨mv_cal_of (cc_X12_everyone l hF) hBg hX hR hK mv_EX_ok hF mv_good mv_stok cw_X12_344.1 cw_X12_344.2.1 cw_X12_344.2.2 ⟨rfl, rfl, by exact Nat.le_of_ble_eq_true rfl, by exact Nat.le_of_ble_eq_true rfl⟩ ⟨Nat.zero_le _, Nat.zero_le _⟩, List.forall_mem_cons.mpr ⟨mv_cal_of (cc_X12_findsRoom l hF) hBg hX hR hK mv_EX_ok hF mv_good mv_stok cw_X12_360.1 cw_X12_360.2.1 cw_X12_360.2.2 ⟨rfl, rfl, by exact Nat.le_of_ble_eq_true rfl, by exact Nat.le_of_ble_eq_true rfl⟩ ⟨Nat.zero_le _, Nat.zero_le _⟩, List.forall_mem_cons.mpr ⟨mv_cal_of (cc_X12_roomFor l hF) hBg hX hR hK mv_EX_ok hF mv_good mv_stok cw_X12_434.1 cw_X12_434.2.1 cw_X12_434.2.2 ⟨rfl, rfl, by exact Nat.le_of_ble_eq_true rfl, by exact Nat.le_of_ble_eq_true rfl⟩ ⟨Nat.zero_le _, Nat.zero_le _⟩, fun _ h => absurd h List.not_mem_nil⟩⟩⟩⟩⟩⟩)
def ic_X8_moved : List (Nat × Instr × Nat) := [(0, .aload_n 0, 1), (1, .getfield 42, 3), (4, .bipush 16, 2), (6, .irem, 1), (7, .ireturn, 1)]
noncomputable def mm_X8_moved : mv_M := (ic_X8_moved, fl_X8, [], [], [], [], none)
noncomputable def ff_X8_moved : mv_F := mv_fn mv_rc mm_X8_moved mv_sh 400 1
theorem dk_X8_moved : mv_dk cX8_moved ic_X8_moved = true := by decide +kernel
set_option maxRecDepth 20000 in
theorem cc_X8_moved {ad : Nat → Nat → Value} {cA : Nat → ClassId} {D : va_G} {tys : List (ClassId × FieldType)} {A : Nat → Prop} (l : Launch) (hF : mv_Fix mv_sh mv_ids mv_ros ad cA tys A mv_rc) : mv_Met l yX8_moved cX8_moved 1 (some .int) mv_Ts (mv_rm 1) 1 false mv_sh mv_ids mv_ros ad cA mv_cl D tys A mv_rc mv_cr (mv_EX ad A) ff_X8_moved := mv_met_of (by decide +kernel) (by decide) hF mv_stok (mv_rzI (by decide +kernel)) mv_clok (mv_dk_ok dk_X8_moved) (mv_fk_ok fk_X8) (fun p e s m args below meth c Q hBg hX hR => ⟨fun _ h => absurd h List.not_mem_nil, fun _ h => absurd h List.not_mem_nil⟩) (fun p e s m args below meth c Q hBg hX hR hK => fun _ h => absurd h List.not_mem_nil)
set_option maxRecDepth 20000 in
theorem cw_X11_229 : mv_Cw RX11 229 yX8_moved cX8_moved 1 (some .int) (some 8) 1 := mv_cw_of (a := 1122) (b := 139) (c := 1123) (d := 1124) (mv_T 1125 rfl rfl) (by decide +kernel)
def ic_X11_room : List (Nat × Instr × Nat) := [(0, .iload_n 2, 1), (1, .ifCond .lt 8, 3), (4, .iload_n 2, 1), (5, .iconst 2, 1), (6, .if_icmp .le 23, 3), (9, .iload_n 2, 1), (10, .bipush 10, 2), (12, .if_icmp .lt 21, 3), (15, .aload_n 0, 1), (16, .getfield 12, 3), (19, .iload_n 2, 1), (20, .bipush 10, 2), (22, .isub, 1), (23, .invokevirtual 118, 3), (26, .ifCond .eq 7, 3), (29, .iconst 1, 1), (30, .goto 4, 3), (33, .iconst 0, 1), (34, .istore_n 3, 1), (35, .iload_n 3, 1), (36, .ifCond .eq 14, 3), (39, .aload_n 0, 1), (40, .getfield 12, 3), (43, .iload_n 1, 1), (44, .invokevirtual 121, 3), (47, .ifCond .ne 5, 3), (50, .iconst (-1), 1), (51, .ireturn, 1), (52, .aload_n 0, 1), (53, .getfield 52, 3), (56, .invokevirtual 220, 3), (59, .aload_n 0, 1), (60, .getfield 52, 3), (63, .iload_n 1, 1), (64, .sipush 1023, 3), (67, .invokevirtual 223, 3), (70, .ifCond .ne 5, 3), (73, .iconst (-1), 1), (74, .ireturn, 1), (75, .iload_n 2, 1), (76, .ifCond .ne 11, 3), (79, .aload_n 0, 1), (80, .getfield 52, 3), (83, .invokevirtual 226, 3), (86, .ireturn, 1), (87, .iload_n 2, 1), (88, .iconst 1, 1), (89, .if_icmp .ne 11, 3), (92, .aload_n 0, 1), (93, .getfield 52, 3), (96, .invokevirtual 229, 3), (99, .ireturn, 1), (100, .iload_n 2, 1), (101, .iconst 2, 1), (102, .if_icmp .ne 15, 3), (105, .aload_n 0, 1), (106, .getfield 52, 3), (109, .getfield 232, 3), (112, .iload_n 1, 1), (113, .iaload, 1), (114, .goto 15, 3), (117, .aload_n 0, 1), (118, .getfield 52, 3), (121, .getfield 232, 3), (124, .iload_n 2, 1), (125, .bipush 10, 2), (127, .isub, 1), (128, .iaload, 1), (129, .ireturn, 1)]
noncomputable def mm_X11_room : mv_M := (ic_X11_room, fl_X11, [], [], [(118, 2, some 2, false, ff_X2_isSeated), (121, 2, some 2, false, ff_X2_isAside), (220, 1, some 8, true, ff_X8_reckonCosts), (223, 3, some 8, false, ff_X8_find), (226, 1, some 8, false, ff_X8_cost), (229, 1, some 8, false, ff_X8_moved)], [], none)
noncomputable def ff_X11_room : mv_F := mv_fn mv_rc mm_X11_room mv_sh 400 4
theorem dk_X11_room : mv_dk cX11_room ic_X11_room = true := by decide +kernel
set_option maxRecDepth 20000 in
theorem cc_X11_room {ad : Nat → Nat → Value} {cA : Nat → ClassId} {D : va_G} {tys : List (ClassId × FieldType)} {A : Nat → Prop} (l : Launch) (hF : mv_Fix mv_sh mv_ids mv_ros ad cA tys A mv_rc) : mv_Met l yX11_room cX11_room 4 (some .int) mv_Ts (mv_rm 6) 3 false mv_sh mv_ids mv_ros ad cA mv_cl D tys A mv_rc mv_cr (mv_EX ad A) ff_X11_room := mv_met_of (by decide +kernel) (by decide) hF mv_stok (mv_rzI (by decide +kernel)) mv_clok (mv_dk_ok dk_X11_room) (mv_fk_ok fk_X11) (fun p e s m args below meth c Q hBg hX hR => ⟨fun _ h => absurd h List.not_mem_nil, fun _ h => absurd h List.not_mem_nil⟩) (fun p e s m args below meth c Q hBg hX hR hK => List.forall_mem_cons.mpr ⟨mv_cal_of (cc_X2_isSeated l hF) hBg hX hR hK mv_EX_ok hF mv_good mv_stok cw_X11_118.1 cw_X11_118.2.1 cw_X11_118.2.2 ⟨rfl, rfl, by exact Nat.le_of_ble_eq_true rfl, by exact Nat.le_of_ble_eq_true rfl⟩ ⟨Nat.zero_le _, Nat.zero_le _⟩, List.forall_mem_cons.mpr ⟨mv_cal_of (cc_X2_isAside l hF) hBg hX hR hK mv_EX_ok hF mv_good mv_stok cw_X11_121.1 cw_X11_121.2.1 cw_X11_121.2.2 ⟨rfl, rfl, by exact Nat.le_of_ble_eq_true rfl, by exact Nat.le_of_ble_eq_true rfl⟩ ⟨Nat.zero_le _, Nat.zero_le _⟩, List.forall_mem_cons.mpr ⟨mv_cal_of (cc_X8_reckonCosts l hF) hBg hX hR hK mv_EX_ok hF mv_good mv_stok cw_X11_220.1 cw_X11_220.2.1 cw_X11_220.2.2 ⟨rfl, rfl, by exact Nat.le_of_ble_eq_true rfl, by exact Nat.le_of_ble_eq_true rfl⟩ ⟨Nat.zero_le _, Nat.zero_le _⟩, List.forall_mem_cons.mpr ⟨mv_cal_of (cc_X8_find l hF) hBg hX hR hK mv_EX_ok hF mv_good mv_stok cw_X11_223.1 cw_X11_223.2.1 cw_X11_223.2.2 ⟨rfl, rfl, by exact Nat.le_of_ble_eq_true rfl, by exact Nat.le_of_ble_eq_true rfl⟩ ⟨Nat.zero_le _, Nat.zero_le _⟩, List.forall_mem_cons.mpr ⟨mv_cal_of (cc_X8_cost l hF) hBg hX hR hK mv_EX_ok hF mv_good mv_stok cw_X11_226.1 cw_X11_226.2.1 cw_X11_226.2.2 ⟨rfl, rfl, by exact Nat.le_of_ble_eq_true rfl, by exact Nat.le_of_ble_eq_true rfl⟩ ⟨Nat.zero_le _, Nat.zero_le _⟩, List.forall_mem_cons.mpr ⟨mv_cal_of (cc_X8_moved l hF) hBg hX hR hK mv_EX_ok hF mv_good mv_stok cw_X11_229.1 cw_X11_229.2.1 cw_X11_229.2.2 ⟨rfl, rfl, by exact Nat.le_of_ble_eq_true rfl, by exact Nat.le_of_ble_eq_true rfl⟩ ⟨Nat.zero_le _, Nat.zero_le _⟩, fun _ h => absurd h List.not_mem_nil⟩⟩⟩⟩⟩⟩)
def ic_X12_book : List (Nat × Instr × Nat) := [(0, .aload_n 0, 1), (1, .iconst 0, 1), (2, .putfield 126, 3), (5, .aload_n 0, 1), (6, .iload_n 1, 1), (7, .iconst 0, 1), (8, .aload_n 0, 1), (9, .getfield 7, 3), (12, .iconst 1, 1), (13, .iaload, 1), (14, .iconst 1, 1), (15, .isub, 1), (16, .invokevirtual 142, 3), (19, .ifCond .eq 26, 3), (22, .aload_n 0, 1), (23, .iload_n 2, 1), (24, .iconst 0, 1), (25, .iconst 3, 1), (26, .invokevirtual 142, 3), (29, .ifCond .eq 16, 3), (32, .aload_n 0, 1), (33, .getfield 38, 3), (36, .iconst 4, 1), (37, .iload_n 1, 1), (38, .imul, 1), (39, .iload_n 2, 1), (40, .iadd, 1), (41, .iaload, 1), (42, .goto 5, 3), (45, .bipush (-2), 2), (47, .ireturn, 1)]
noncomputable def mm_X12_book : mv_M := (ic_X12_book, fl_X12, [], [], [(142, 4, some 12, false, ff_X12_isIn)], [], none)
noncomputable def ff_X12_book : mv_F := mv_fn mv_rc mm_X12_book mv_sh 400 3
theorem dk_X12_book : mv_dk cX12_book ic_X12_book = true := by decide +kernel
set_option maxRecDepth 20000 in
theorem cc_X12_book {ad : Nat → Nat → Value} {cA : Nat → ClassId} {D : va_G} {tys : List (ClassId × FieldType)} {A : Nat → Prop} (l : Launch) (hF : mv_Fix mv_sh mv_ids mv_ros ad cA tys A mv_rc) : mv_Met l yX12_book cX12_book 3 (some .int) mv_Ts (mv_rm 2) 3 false mv_sh mv_ids mv_ros ad cA mv_cl D tys A mv_rc mv_cr (mv_EX ad A) ff_X12_book := mv_met_of (by decide +kernel) (by decide) hF mv_stok (mv_rzI (by decide +kernel)) mv_clok (mv_dk_ok dk_X12_book) (mv_fk_ok fk_X12) (fun p e s m args below meth c Q hBg hX hR => ⟨fun _ h => absurd h List.not_mem_nil, fun _ h => absurd h List.not_mem_nil⟩) (fun p e s m args below meth c Q hBg hX hR hK => List.forall_mem_cons.mpr ⟨mv_cal_of (cc_X12_isIn l hF) hBg hX hR hK mv_EX_ok hF mv_good mv_stok cw_X12_142.1 cw_X12_142.2.1 cw_X12_142.2.2 ⟨rfl, rfl, by exact Nat.le_of_ble_eq_true rfl, by exact Nat.le_of_ble_eq_true rfl⟩ ⟨Nat.zero_le _, Nat.zero_le _⟩, fun _ h => absurd h List.not_mem_nil⟩)
def ic_X11_book : List (Nat × Instr × Nat) := [(0, .iload_n 1, 1), (1, .ifCond .lt 23, 3), (4, .iload_n 1, 1), (5, .aload_n 0, 1), (6, .getfield 12, 3), (9, .getfield 216, 3), (12, .if_icmp .ge 12, 3), (15, .iload_n 2, 1), (16, .ifCond .lt 8, 3), (19, .iload_n 2, 1), (20, .iconst 3, 1), (21, .if_icmp .le 6, 3), (24, .bipush (-2), 2), (26, .ireturn, 1), (27, .aload_n 0, 1), (28, .getfield 12, 3), (31, .getfield 217, 3), (34, .iload_n 2, 1), (35, .aaload, 1), (36, .iload_n 1, 1), (37, .iaload, 1), (38, .ireturn, 1)]
noncomputable def mm_X11_book : mv_M := (ic_X11_book, fl_X11, [], [], [], [], none)
noncomputable def ff_X11_book : mv_F := mv_fn mv_rc mm_X11_book mv_sh 400 3
theorem dk_X11_book : mv_dk cX11_book ic_X11_book = true := by decide +kernel
set_option maxRecDepth 20000 in
theorem cc_X11_book {ad : Nat → Nat → Value} {cA : Nat → ClassId} {D : va_G} {tys : List (ClassId × FieldType)} {A : Nat → Prop} (l : Launch) (hF : mv_Fix mv_sh mv_ids mv_ros ad cA tys A mv_rc) : mv_Met l yX11_book cX11_book 3 (some .int) mv_Ts (mv_rm 1) 3 false mv_sh mv_ids mv_ros ad cA mv_cl D tys A mv_rc mv_cr (mv_EX ad A) ff_X11_book := mv_met_of (by decide +kernel) (by decide) hF mv_stok (mv_rzI (by decide +kernel)) mv_clok (mv_dk_ok dk_X11_book) (mv_fk_ok fk_X11) (fun p e s m args below meth c Q hBg hX hR => ⟨fun _ h => absurd h List.not_mem_nil, fun _ h => absurd h List.not_mem_nil⟩) (fun p e s m args below meth c Q hBg hX hR hK => fun _ h => absurd h List.not_mem_nil)
def ic_X12_tells : List (Nat × Instr × Nat) := [(0, .aload_n 0, 1), (1, .iconst 0, 1), (2, .putfield 126, 3), (5, .aload_n 0, 1), (6, .iload_n 1, 1), (7, .invokevirtual 161, 3), (10, .ifCond .eq 11, 3), (13, .aload_n 0, 1), (14, .iload_n 1, 1), (15, .invokevirtual 153, 3), (18, .ifCond .eq 7, 3), (21, .ldc_w 343, 3), (24, .ireturn, 1), (25, .aload_n 0, 1), (26, .aload_n 0, 1), (27, .invokevirtual 344, 3), (30, .invokevirtual 347, 3), (33, .aload_n 0, 1), (34, .iload_n 1, 1), (35, .invokevirtual 350, 3), (38, .aload_n 0, 1), (39, .iload_n 2, 1), (40, .invokevirtual 337, 3), (43, .ifCond .eq 11, 3), (46, .aload_n 0, 1), (47, .iload_n 2, 1), (48, .invokevirtual 340, 3), (51, .goto 6, 3), (54, .ldc_w 343, 3), (57, .ireturn, 1)]
noncomputable def mm_X12_tells : mv_M := (ic_X12_tells, fl_X12, [(343, .inl (-1000000))], [], [(161, 2, some 12, false, ff_X12_isPerson), (153, 2, some 12, false, ff_X12_sits), (344, 1, some 12, false, ff_X12_everyone), (347, 2, some 12, true, ff_X12_lists), (350, 2, some 12, true, ff_X12_asksFor), (337, 2, some 12, false, ff_X12_canSit), (340, 2, some 12, false, ff_X12_tellsOf)], [], none)
noncomputable def ff_X12_tells : mv_F := mv_fn mv_rc mm_X12_tells mv_sh 400 3
theorem dk_X12_tells : mv_dk cX12_tells ic_X12_tells = true := by decide +kernel
set_option maxRecDepth 20000 in
theorem cc_X12_tells {ad : Nat → Nat → Value} {cA : Nat → ClassId} {D : va_G} {tys : List (ClassId × FieldType)} {A : Nat → Prop} (l : Launch) (hF : mv_Fix mv_sh mv_ids mv_ros ad cA tys A mv_rc) : mv_Met l yX12_tells cX12_tells 3 (some .int) mv_Ts (mv_rm 5) 3 false mv_sh mv_ids mv_ros ad cA mv_cl D tys A mv_rc mv_cr (mv_EX ad A) ff_X12_tells := mv_met_of (by decide +kernel) (by decide) hF mv_stok (mv_rzI (by decide +kernel)) mv_clok (mv_dk_ok dk_X12_tells) (mv_fk_ok fk_X12) (fun p e s m args below meth c Q hBg hX hR => ⟨List.forall_mem_cons.mpr ⟨mv_cs_i hBg (mv_T 1691 rfl rfl) (by decide), fun _ h => absurd h List.not_mem_nil⟩, fun _ h => absurd h List.not_mem_nil⟩) (fun p e s m args below meth c Q hBg hX hR hK => List.forall_mem_cons.mpr ⟨mv_cal_of (cc_X12_isPerson l hF) hBg hX hR hK mv_EX_ok hF mv_good mv_stok cw_X12_161.1 cw_X12_161.2.1 cw_X12_161.2.2 ⟨rfl, rfl, by exact Nat.le_of_ble_eq_true rfl, by exact Nat.le_of_ble_eq_true rfl⟩ ⟨Nat.zero_le _, Nat.zero_le _⟩, List.forall_mem_cons.mpr ⟨mv_cal_of (cc_X12_sits l hF) hBg hX hR hK mv_EX_ok hF mv_good mv_stok cw_X12_153.1 cw_X12_153.2.1 cw_X12_153.2.2 ⟨rfl, rfl, by exact Nat.le_of_ble_eq_true rfl, by exact Nat.le_of_ble_eq_true rfl⟩ ⟨Nat.zero_le _, Nat.zero_le _⟩, List.forall_mem_cons.mpr ⟨mv_cal_of (cc_X12_everyone l hF) hBg hX hR hK mv_EX_ok hF mv_good mv_stok cw_X12_344.1 cw_X12_344.2.1 cw_X12_344.2.2 ⟨rfl, rfl, by exact Nat.le_of_ble_eq_true rfl, by exact Nat.le_of_ble_eq_true rfl⟩ ⟨Nat.zero_le _, Nat.zero_le _⟩, List.forall_mem_cons.mpr ⟨mv_cal_of (cc_X12_lists l hF) hBg hX hR hK mv_EX_ok hF mv_good mv_stok cw_X12_347.1 cw_X12_347.2.1 cw_X12_347.2.2 ⟨rfl, rfl, by exact Nat.le_of_ble_eq_true rfl, by exact Nat.le_of_ble_eq_true rfl⟩ ⟨Nat.zero_le _, Nat.zero_le _⟩, List.forall_mem_cons.mpr ⟨mv_cal_of (cc_X12_asksFor l hF) hBg hX hR hK mv_EX_ok hF mv_good mv_stok cw_X12_350.1 cw_X12_350.2.1 cw_X12_350.2.2 ⟨rfl, rfl, by exact Nat.le_of_ble_eq_true rfl, by exact Nat.le_of_ble_eq_true rfl⟩ ⟨Nat.zero_le _, Nat.zero_le _⟩, List.forall_mem_cons.mpr ⟨mv_cal_of (cc_X12_canSit l hF) hBg hX hR hK mv_EX_ok hF mv_good mv_stok cw_X12_337.1 cw_X12_337.2.1 cw_X12_337.2.2 ⟨rfl, rfl, by exact Nat.le_of_ble_eq_true rfl, by exact Nat.le_of_ble_eq_true rfl⟩ ⟨Nat.zero_le _, Nat.zero_le _⟩, List.forall_mem_cons.mpr ⟨mv_cal_of (cc_X12_tellsOf l hF) hBg hX hR hK mv_EX_ok hF mv_good mv_stok cw_X12_340.1 cw_X12_340.2.1 cw_X12_340.2.2 ⟨rfl, rfl, by exact Nat.le_of_ble_eq_true rfl, by exact Nat.le_of_ble_eq_true rfl⟩ ⟨Nat.zero_le _, Nat.zero_le _⟩, fun _ h => absurd h List.not_mem_nil⟩⟩⟩⟩⟩⟩⟩)
def ic_X10_valueAt : List (Nat × Instr × Nat) := [(0, .aload_n 0, 1), (1, .invokevirtual 51, 3), (4, .aload_n 0, 1), (5, .aload_n 0, 1), (6, .getfield 21, 3), (9, .iload_n 1, 1), (10, .invokevirtual 25, 3), (13, .iload_n 1, 1), (14, .invokevirtual 54, 3), (17, .ireturn, 1)]
noncomputable def mm_X10_valueAt : mv_M := (ic_X10_valueAt, fl_X10, [], [], [(51, 1, some 10, true, ff_X10_tellAsker), (25, 2, some 9, false, ff_X9_gapOf), (54, 3, some 10, false, ff_X10_value)], [], none)
noncomputable def ff_X10_valueAt : mv_F := mv_fn mv_rc mm_X10_valueAt mv_sh 400 2
theorem dk_X10_valueAt : mv_dk cX10_valueAt ic_X10_valueAt = true := by decide +kernel
set_option maxRecDepth 20000 in
theorem cc_X10_valueAt {ad : Nat → Nat → Value} {cA : Nat → ClassId} {D : va_G} {tys : List (ClassId × FieldType)} {A : Nat → Prop} (l : Launch) (hF : mv_Fix mv_sh mv_ids mv_ros ad cA tys A mv_rc) : mv_Met l yX10_valueAt cX10_valueAt 2 (some .int) mv_Ts (mv_rm 5) 2 false mv_sh mv_ids mv_ros ad cA mv_cl D tys A mv_rc mv_cr (mv_EX ad A) ff_X10_valueAt := mv_met_of (by decide +kernel) (by decide) hF mv_stok (mv_rzI (by decide +kernel)) mv_clok (mv_dk_ok dk_X10_valueAt) (mv_fk_ok fk_X10) (fun p e s m args below meth c Q hBg hX hR => ⟨fun _ h => absurd h List.not_mem_nil, fun _ h => absurd h List.not_mem_nil⟩) (fun p e s m args below meth c Q hBg hX hR hK => List.forall_mem_cons.mpr ⟨mv_cal_of (cc_X10_tellAsker l hF) hBg hX hR hK mv_EX_ok hF mv_good mv_stok cw_X10_51.1 cw_X10_51.2.1 cw_X10_51.2.2 ⟨rfl, rfl, by exact Nat.le_of_ble_eq_true rfl, by exact Nat.le_of_ble_eq_true rfl⟩ ⟨Nat.zero_le _, Nat.zero_le _⟩, List.forall_mem_cons.mpr ⟨mv_cal_of (cc_X9_gapOf l hF) hBg hX hR hK mv_EX_ok hF mv_good mv_stok cw_X10_25.1 cw_X10_25.2.1 cw_X10_25.2.2 ⟨rfl, rfl, by exact Nat.le_of_ble_eq_true rfl, by exact Nat.le_of_ble_eq_true rfl⟩ ⟨Nat.zero_le _, Nat.zero_le _⟩, List.forall_mem_cons.mpr ⟨mv_cal_of (cc_X10_value l hF) hBg hX hR hK mv_EX_ok hF mv_good mv_stok cw_X10_54.1 cw_X10_54.2.1 cw_X10_54.2.2 ⟨rfl, rfl, by exact Nat.le_of_ble_eq_true rfl, by exact Nat.le_of_ble_eq_true rfl⟩ ⟨Nat.zero_le _, Nat.zero_le _⟩, fun _ h => absurd h List.not_mem_nil⟩⟩⟩)
set_option maxRecDepth 20000 in
theorem cw_X11_213 : mv_Cw RX11 213 yX10_valueAt cX10_valueAt 2 (some .int) (some 10) 2 := mv_cw_of (a := 1104) (b := 138) (c := 1105) (d := 1106) (mv_T 1107 rfl rfl) (by decide +kernel)
def ic_X11_tells : List (Nat × Instr × Nat) := [(0, .aload_n 0, 1), (1, .getfield 12, 3), (4, .iload_n 1, 1), (5, .invokevirtual 121, 3), (8, .ifCond .eq 18, 3), (11, .iload_n 2, 1), (12, .ifCond .lt 14, 3), (15, .iload_n 2, 1), (16, .aload_n 0, 1), (17, .getfield 12, 3), (20, .getfield 88, 3), (23, .if_icmp .lt 6, 3), (26, .ldc 202, 2), (28, .ireturn, 1), (29, .aload_n 0, 1), (30, .getfield 36, 3), (33, .aload_n 0, 1), (34, .getfield 12, 3), (37, .sipush 1023, 3), (40, .invokevirtual 203, 3), (43, .aload_n 0, 1), (44, .getfield 36, 3), (47, .aload_n 0, 1), (48, .getfield 12, 3), (51, .iload_n 1, 1), (52, .invokevirtual 207, 3), (55, .aload_n 0, 1), (56, .getfield 45, 3), (59, .iload_n 2, 1), (60, .invokevirtual 210, 3), (63, .ifCond .eq 14, 3), (66, .aload_n 0, 1), (67, .getfield 45, 3), (70, .iload_n 2, 1), (71, .invokevirtual 213, 3), (74, .goto 5, 3), (77, .ldc 202, 2), (79, .ireturn, 1)]
noncomputable def mm_X11_tells : mv_M := (ic_X11_tells, fl_X11, [(202, .inl (-1000000))], [], [(121, 2, some 2, false, ff_X2_isAside), (203, 3, some 9, true, ff_X9_gather), (207, 3, some 9, true, ff_X9_askFor), (210, 2, some 10, false, ff_X10_isPlace), (213, 2, some 10, false, ff_X10_valueAt)], [], none)
noncomputable def ff_X11_tells : mv_F := mv_fn mv_rc mm_X11_tells mv_sh 400 3
theorem dk_X11_tells : mv_dk cX11_tells ic_X11_tells = true := by decide +kernel
set_option maxRecDepth 20000 in
theorem cc_X11_tells {ad : Nat → Nat → Value} {cA : Nat → ClassId} {D : va_G} {tys : List (ClassId × FieldType)} {A : Nat → Prop} (l : Launch) (hF : mv_Fix mv_sh mv_ids mv_ros ad cA tys A mv_rc) : mv_Met l yX11_tells cX11_tells 3 (some .int) mv_Ts (mv_rm 6) 3 false mv_sh mv_ids mv_ros ad cA mv_cl D tys A mv_rc mv_cr (mv_EX ad A) ff_X11_tells := mv_met_of (by decide +kernel) (by decide) hF mv_stok (mv_rzI (by decide +kernel)) mv_clok (mv_dk_ok dk_X11_tells) (mv_fk_ok fk_X11) (fun p e s m args below meth c Q hBg hX hR => ⟨List.forall_mem_cons.mpr ⟨mv_cs_i hBg (mv_T 1093 rfl rfl) (by decide), fun _ h => absurd h List.not_mem_nil⟩, fun _ h => absurd h List.not_mem_nil⟩) (fun p e s m args below meth c Q hBg hX hR hK => List.forall_mem_cons.mpr ⟨mv_cal_of (cc_X2_isAside l hF) hBg hX hR hK mv_EX_ok hF mv_good mv_stok cw_X11_121.1 cw_X11_121.2.1 cw_X11_121.2.2 ⟨rfl, rfl, by exact Nat.le_of_ble_eq_true rfl, by exact Nat.le_of_ble_eq_true rfl⟩ ⟨Nat.zero_le _, Nat.zero_le _⟩, List.forall_mem_cons.mpr ⟨mv_cal_of (cc_X9_gather l hF) hBg hX hR hK mv_EX_ok hF mv_good mv_stok cw_X11_203.1 cw_X11_203.2.1 cw_X11_203.2.2 ⟨rfl, rfl, by exact Nat.le_of_ble_eq_true rfl, by exact Nat.le_of_ble_eq_true rfl⟩ ⟨Nat.zero_le _, Nat.zero_le _⟩, List.forall_mem_cons.mpr ⟨mv_cal_of (cc_X9_askFor l hF) hBg hX hR hK mv_EX_ok hF mv_good mv_stok cw_X11_207.1 cw_X11_207.2.1 cw_X11_207.2.2 ⟨rfl, rfl, by exact Nat.le_of_ble_eq_true rfl, by exact Nat.le_of_ble_eq_true rfl⟩ ⟨Nat.zero_le _, Nat.zero_le _⟩, List.forall_mem_cons.mpr ⟨mv_cal_of (cc_X10_isPlace l hF) hBg hX hR hK mv_EX_ok hF mv_good mv_stok cw_X11_210.1 cw_X11_210.2.1 cw_X11_210.2.2 ⟨rfl, rfl, by exact Nat.le_of_ble_eq_true rfl, by exact Nat.le_of_ble_eq_true rfl⟩ ⟨Nat.zero_le _, Nat.zero_le _⟩, List.forall_mem_cons.mpr ⟨mv_cal_of (cc_X10_valueAt l hF) hBg hX hR hK mv_EX_ok hF mv_good mv_stok cw_X11_213.1 cw_X11_213.2.1 cw_X11_213.2.2 ⟨rfl, rfl, by exact Nat.le_of_ble_eq_true rfl, by exact Nat.le_of_ble_eq_true rfl⟩ ⟨Nat.zero_le _, Nat.zero_le _⟩, fun _ h => absurd h List.not_mem_nil⟩⟩⟩⟩⟩)
def ic_X12_at : List (Nat × Instr × Nat) := [(0, .aload_n 0, 1), (1, .iconst 0, 1), (2, .putfield 126, 3), (5, .aload_n 0, 1), (6, .iload_n 1, 1), (7, .iconst 0, 1), (8, .aload_n 0, 1), (9, .invokevirtual 149, 3), (12, .iconst 1, 1), (13, .isub, 1), (14, .invokevirtual 142, 3), (17, .ifCond .eq 13, 3), (20, .aload_n 0, 1), (21, .iload_n 2, 1), (22, .iconst 0, 1), (23, .iconst 2, 1), (24, .invokevirtual 142, 3), (27, .ifCond .ne 6, 3), (30, .bipush (-2), 2), (32, .ireturn, 1), (33, .iload_n 2, 1), (34, .ifCond .ne 11, 3), (37, .aload_n 0, 1), (38, .iload_n 1, 1), (39, .invokevirtual 402, 3), (42, .goto 36, 3), (45, .iload_n 2, 1), (46, .iconst 1, 1), (47, .if_icmp .ne 17, 3), (50, .aload_n 0, 1), (51, .getfield 7, 3), (54, .bipush 12, 2), (56, .iload_n 1, 1), (57, .iadd, 1), (58, .iaload, 1), (59, .iconst 1, 1), (60, .isub, 1), (61, .goto 17, 3), (64, .aload_n 0, 1), (65, .getfield 19, 3), (68, .iload_n 1, 1), (69, .baload, 1), (70, .ifCond .eq 7, 3), (73, .iconst 1, 1), (74, .goto 4, 3), (77, .iconst 0, 1), (78, .ireturn, 1)]
noncomputable def mm_X12_at : mv_M := (ic_X12_at, fl_X12, [], [], [(149, 1, some 12, false, ff_X12_length), (142, 4, some 12, false, ff_X12_isIn), (402, 2, some 12, false, ff_X12_whoAt)], [], none)
noncomputable def ff_X12_at : mv_F := mv_fn mv_rc mm_X12_at mv_sh 400 3
theorem dk_X12_at : mv_dk cX12_at ic_X12_at = true := by decide +kernel
set_option maxRecDepth 20000 in
theorem cc_X12_at {ad : Nat → Nat → Value} {cA : Nat → ClassId} {D : va_G} {tys : List (ClassId × FieldType)} {A : Nat → Prop} (l : Launch) (hF : mv_Fix mv_sh mv_ids mv_ros ad cA tys A mv_rc) : mv_Met l yX12_at cX12_at 3 (some .int) mv_Ts (mv_rm 3) 3 false mv_sh mv_ids mv_ros ad cA mv_cl D tys A mv_rc mv_cr (mv_EX ad A) ff_X12_at := mv_met_of (by decide +kernel) (by decide) hF mv_stok (mv_rzI (by decide +kernel)) mv_clok (mv_dk_ok dk_X12_at) (mv_fk_ok fk_X12) (fun p e s m args below meth c Q hBg hX hR => ⟨fun _ h => absurd h List.not_mem_nil, fun _ h => absurd h List.not_mem_nil⟩) (fun p e s m args below meth c Q hBg hX hR hK => List.forall_mem_cons.mpr ⟨mv_cal_of (cc_X12_length l hF) hBg hX hR hK mv_EX_ok hF mv_good mv_stok cw_X12_149.1 cw_X12_149.2.1 cw_X12_149.2.2 ⟨rfl, rfl, by exact Nat.le_of_ble_eq_true rfl, by exact Nat.le_of_ble_eq_true rfl⟩ ⟨Nat.zero_le _, Nat.zero_le _⟩, List.forall_mem_cons.mpr ⟨mv_cal_of (cc_X12_isIn l hF) hBg hX hR hK mv_EX_ok hF mv_good mv_stok cw_X12_142.1 cw_X12_142.2.1 cw_X12_142.2.2 ⟨rfl, rfl, by exact Nat.le_of_ble_eq_true rfl, by exact Nat.le_of_ble_eq_true rfl⟩ ⟨Nat.zero_le _, Nat.zero_le _⟩, List.forall_mem_cons.mpr ⟨mv_cal_of (cc_X12_whoAt l hF) hBg hX hR hK mv_EX_ok hF mv_good mv_stok cw_X12_402.1 cw_X12_402.2.1 cw_X12_402.2.2 ⟨rfl, rfl, by exact Nat.le_of_ble_eq_true rfl, by exact Nat.le_of_ble_eq_true rfl⟩ ⟨Nat.zero_le _, Nat.zero_le _⟩, fun _ h => absurd h List.not_mem_nil⟩⟩⟩)
def ic_X2_whoIsAt : List (Nat × Instr × Nat) := [(0, .iconst 0, 1), (1, .istore_n 2, 1), (2, .iload_n 2, 1), (3, .aload_n 0, 1), (4, .getfield 69, 3), (7, .if_icmp .ge 47, 3), (10, .aload_n 0, 1), (11, .getfield 29, 3), (14, .iload_n 2, 1), (15, .iaload, 1), (16, .iconst (-1), 1), (17, .if_icmp .eq 31, 3), (20, .aload_n 0, 1), (21, .getfield 29, 3), (24, .iload_n 2, 1), (25, .iaload, 1), (26, .iload_n 1, 1), (27, .if_icmp .gt 21, 3), (30, .iload_n 1, 1), (31, .aload_n 0, 1), (32, .getfield 29, 3), (35, .iload_n 2, 1), (36, .iaload, 1), (37, .aload_n 0, 1), (38, .iload_n 2, 1), (39, .invokevirtual 111, 3), (42, .iadd, 1), (43, .if_icmp .ge 5, 3), (46, .iload_n 2, 1), (47, .ireturn, 1), (48, .iinc 2 1, 3), (51, .goto (-49), 3), (54, .iconst (-1), 1), (55, .ireturn, 1)]
noncomputable def mm_X2_whoIsAt : mv_M := (ic_X2_whoIsAt, fl_X2, [], [], [(111, 2, some 2, false, ff_X2_takes)], [(2, [true, true, true])], none)
noncomputable def ff_X2_whoIsAt : mv_F := mv_fn mv_rc mm_X2_whoIsAt mv_sh 400 3
theorem dk_X2_whoIsAt : mv_dk cX2_whoIsAt ic_X2_whoIsAt = true := by decide +kernel
set_option maxRecDepth 20000 in
theorem cc_X2_whoIsAt {ad : Nat → Nat → Value} {cA : Nat → ClassId} {D : va_G} {tys : List (ClassId × FieldType)} {A : Nat → Prop} (l : Launch) (hF : mv_Fix mv_sh mv_ids mv_ros ad cA tys A mv_rc) : mv_Met l yX2_whoIsAt cX2_whoIsAt 3 (some .int) mv_Ts (mv_rm 3) 2 false mv_sh mv_ids mv_ros ad cA mv_cl D tys A mv_rc mv_cr (mv_EX ad A) ff_X2_whoIsAt := mv_met_of (by decide +kernel) (by decide) hF mv_stok (mv_rzI (by decide +kernel)) mv_clok (mv_dk_ok dk_X2_whoIsAt) (mv_fk_ok fk_X2) (fun p e s m args below meth c Q hBg hX hR => ⟨fun _ h => absurd h List.not_mem_nil, fun _ h => absurd h List.not_mem_nil⟩) (fun p e s m args below meth c Q hBg hX hR hK => List.forall_mem_cons.mpr ⟨mv_cal_of (cc_X2_takes l hF) hBg hX hR hK mv_EX_ok hF mv_good mv_stok cw_X2_111.1 cw_X2_111.2.1 cw_X2_111.2.2 ⟨rfl, rfl, by exact Nat.le_of_ble_eq_true rfl, by exact Nat.le_of_ble_eq_true rfl⟩ ⟨Nat.zero_le _, Nat.zero_le _⟩, fun _ h => absurd h List.not_mem_nil⟩)
set_option maxRecDepth 20000 in
theorem cw_X11_193 : mv_Cw RX11 193 yX2_whoIsAt cX2_whoIsAt 3 (some .int) (some 2) 2 := mv_cw_of (a := 1084) (b := 130) (c := 1085) (d := 1086) (mv_T 1087 rfl rfl) (by decide +kernel)
def ic_X11_at : List (Nat × Instr × Nat) := [(0, .iload_n 1, 1), (1, .ifCond .lt 23, 3), (4, .iload_n 1, 1), (5, .aload_n 0, 1), (6, .getfield 12, 3), (9, .getfield 88, 3), (12, .if_icmp .ge 12, 3), (15, .iload_n 2, 1), (16, .ifCond .lt 8, 3), (19, .iload_n 2, 1), (20, .iconst 2, 1), (21, .if_icmp .le 6, 3), (24, .bipush (-2), 2), (26, .ireturn, 1), (27, .iload_n 2, 1), (28, .ifCond .ne 12, 3), (31, .aload_n 0, 1), (32, .getfield 12, 3), (35, .iload_n 1, 1), (36, .invokevirtual 193, 3), (39, .ireturn, 1), (40, .iload_n 2, 1), (41, .iconst 1, 1), (42, .if_icmp .ne 15, 3), (45, .aload_n 0, 1), (46, .getfield 12, 3), (49, .getfield 196, 3), (52, .iload_n 1, 1), (53, .iaload, 1), (54, .goto 12, 3), (57, .aload_n 0, 1), (58, .getfield 12, 3), (61, .getfield 199, 3), (64, .iload_n 1, 1), (65, .iaload, 1), (66, .ireturn, 1)]
noncomputable def mm_X11_at : mv_M := (ic_X11_at, fl_X11, [], [], [(193, 2, some 2, false, ff_X2_whoIsAt)], [], none)
noncomputable def ff_X11_at : mv_F := mv_fn mv_rc mm_X11_at mv_sh 400 3
theorem dk_X11_at : mv_dk cX11_at ic_X11_at = true := by decide +kernel
set_option maxRecDepth 20000 in
theorem cc_X11_at {ad : Nat → Nat → Value} {cA : Nat → ClassId} {D : va_G} {tys : List (ClassId × FieldType)} {A : Nat → Prop} (l : Launch) (hF : mv_Fix mv_sh mv_ids mv_ros ad cA tys A mv_rc) : mv_Met l yX11_at cX11_at 3 (some .int) mv_Ts (mv_rm 4) 3 false mv_sh mv_ids mv_ros ad cA mv_cl D tys A mv_rc mv_cr (mv_EX ad A) ff_X11_at := mv_met_of (by decide +kernel) (by decide) hF mv_stok (mv_rzI (by decide +kernel)) mv_clok (mv_dk_ok dk_X11_at) (mv_fk_ok fk_X11) (fun p e s m args below meth c Q hBg hX hR => ⟨fun _ h => absurd h List.not_mem_nil, fun _ h => absurd h List.not_mem_nil⟩) (fun p e s m args below meth c Q hBg hX hR hK => List.forall_mem_cons.mpr ⟨mv_cal_of (cc_X2_whoIsAt l hF) hBg hX hR hK mv_EX_ok hF mv_good mv_stok cw_X11_193.1 cw_X11_193.2.1 cw_X11_193.2.2 ⟨rfl, rfl, by exact Nat.le_of_ble_eq_true rfl, by exact Nat.le_of_ble_eq_true rfl⟩ ⟨Nat.zero_le _, Nat.zero_le _⟩, fun _ h => absurd h List.not_mem_nil⟩)
def ic_X12_of : List (Nat × Instr × Nat) := [(0, .aload_n 0, 1), (1, .iconst 0, 1), (2, .putfield 126, 3), (5, .aload_n 0, 1), (6, .iload_n 1, 1), (7, .invokevirtual 161, 3), (10, .ifCond .ne 6, 3), (13, .bipush (-2), 2), (15, .ireturn, 1), (16, .iload_n 2, 1), (17, .ifCond .ne 10, 3), (20, .aload_n 0, 1), (21, .getfield 23, 3), (24, .iload_n 1, 1), (25, .iaload, 1), (26, .ireturn, 1), (27, .iload_n 2, 1), (28, .iconst 1, 1), (29, .if_icmp .ne 10, 3), (32, .aload_n 0, 1), (33, .getfield 26, 3), (36, .iload_n 1, 1), (37, .iaload, 1), (38, .ireturn, 1), (39, .iload_n 2, 1), (40, .iconst 2, 1), (41, .if_icmp .ne 10, 3), (44, .aload_n 0, 1), (45, .getfield 29, 3), (48, .iload_n 1, 1), (49, .iaload, 1), (50, .ireturn, 1), (51, .iload_n 2, 1), (52, .iconst 3, 1), (53, .if_icmp .ne 10, 3), (56, .aload_n 0, 1), (57, .getfield 32, 3), (60, .iload_n 1, 1), (61, .iaload, 1), (62, .ireturn, 1), (63, .iload_n 2, 1), (64, .iconst 4, 1), (65, .if_icmp .ne 10, 3), (68, .aload_n 0, 1), (69, .getfield 35, 3), (72, .iload_n 1, 1), (73, .iaload, 1), (74, .ireturn, 1), (75, .iload_n 2, 1), (76, .iconst 5, 1), (77, .if_icmp .ne 11, 3), (80, .aload_n 0, 1), (81, .iload_n 1, 1), (82, .invokevirtual 157, 3), (85, .goto 19, 3), (88, .iload_n 2, 1), (89, .bipush 6, 2), (91, .if_icmp .ne 11, 3), (94, .aload_n 0, 1), (95, .iload_n 1, 1), (96, .invokevirtual 399, 3), (99, .goto 5, 3), (102, .bipush (-2), 2), (104, .ireturn, 1)]
noncomputable def mm_X12_of : mv_M := (ic_X12_of, fl_X12, [], [], [(161, 2, some 12, false, ff_X12_isPerson), (157, 2, some 12, false, ff_X12_inchOf), (399, 2, some 12, false, ff_X12_placeOf)], [], none)
noncomputable def ff_X12_of : mv_F := mv_fn mv_rc mm_X12_of mv_sh 400 3
theorem dk_X12_of : mv_dk cX12_of ic_X12_of = true := by decide +kernel
set_option maxRecDepth 20000 in
theorem cc_X12_of {ad : Nat → Nat → Value} {cA : Nat → ClassId} {D : va_G} {tys : List (ClassId × FieldType)} {A : Nat → Prop} (l : Launch) (hF : mv_Fix mv_sh mv_ids mv_ros ad cA tys A mv_rc) : mv_Met l yX12_of cX12_of 3 (some .int) mv_Ts (mv_rm 3) 3 false mv_sh mv_ids mv_ros ad cA mv_cl D tys A mv_rc mv_cr (mv_EX ad A) ff_X12_of := mv_met_of (by decide +kernel) (by decide) hF mv_stok (mv_rzI (by decide +kernel)) mv_clok (mv_dk_ok dk_X12_of) (mv_fk_ok fk_X12) (fun p e s m args below meth c Q hBg hX hR => ⟨fun _ h => absurd h List.not_mem_nil, fun _ h => absurd h List.not_mem_nil⟩) (fun p e s m args below meth c Q hBg hX hR hK => List.forall_mem_cons.mpr ⟨mv_cal_of (cc_X12_isPerson l hF) hBg hX hR hK mv_EX_ok hF mv_good mv_stok cw_X12_161.1 cw_X12_161.2.1 cw_X12_161.2.2 ⟨rfl, rfl, by exact Nat.le_of_ble_eq_true rfl, by exact Nat.le_of_ble_eq_true rfl⟩ ⟨Nat.zero_le _, Nat.zero_le _⟩, List.forall_mem_cons.mpr ⟨mv_cal_of (cc_X12_inchOf l hF) hBg hX hR hK mv_EX_ok hF mv_good mv_stok cw_X12_157.1 cw_X12_157.2.1 cw_X12_157.2.2 ⟨rfl, rfl, by exact Nat.le_of_ble_eq_true rfl, by exact Nat.le_of_ble_eq_true rfl⟩ ⟨Nat.zero_le _, Nat.zero_le _⟩, List.forall_mem_cons.mpr ⟨mv_cal_of (cc_X12_placeOf l hF) hBg hX hR hK mv_EX_ok hF mv_good mv_stok cw_X12_399.1 cw_X12_399.2.1 cw_X12_399.2.2 ⟨rfl, rfl, by exact Nat.le_of_ble_eq_true rfl, by exact Nat.le_of_ble_eq_true rfl⟩ ⟨Nat.zero_le _, Nat.zero_le _⟩, fun _ h => absurd h List.not_mem_nil⟩⟩⟩)
set_option maxRecDepth 20000 in
theorem cw_X11_115 : mv_Cw RX11 115 yX2_isPerson cX2_isPerson 2 (some .boolean) (some 2) 2 := mv_cw_of (a := 661) (b := 130) (c := 662) (d := 663) (mv_T 664 rfl rfl) (by decide +kernel)
set_option maxRecDepth 20000 in
theorem cw_X11_190 : mv_Cw RX11 190 yX2_rank cX2_rank 4 (some .int) (some 2) 2 := mv_cw_of (a := 1075) (b := 130) (c := 1076) (d := 1077) (mv_T 1078 rfl rfl) (by decide +kernel)
def ic_X11_of : List (Nat × Instr × Nat) := [(0, .aload_n 0, 1), (1, .getfield 12, 3), (4, .iload_n 1, 1), (5, .invokevirtual 115, 3), (8, .ifCond .eq 13, 3), (11, .iload_n 2, 1), (12, .ifCond .lt 9, 3), (15, .iload_n 2, 1), (16, .bipush 6, 2), (18, .if_icmp .le 6, 3), (21, .bipush (-2), 2), (23, .ireturn, 1), (24, .iload_n 2, 1), (25, .iconst 4, 1), (26, .if_icmp .gt 15, 3), (29, .aload_n 0, 1), (30, .getfield 12, 3), (33, .getfield 107, 3), (36, .iload_n 2, 1), (37, .aaload, 1), (38, .iload_n 1, 1), (39, .iaload, 1), (40, .ireturn, 1), (41, .iload_n 2, 1), (42, .iconst 5, 1), (43, .if_icmp .ne 15, 3), (46, .aload_n 0, 1), (47, .getfield 12, 3), (50, .getfield 111, 3), (53, .iload_n 1, 1), (54, .iaload, 1), (55, .goto 11, 3), (58, .aload_n 0, 1), (59, .getfield 12, 3), (62, .iload_n 1, 1), (63, .invokevirtual 190, 3), (66, .ireturn, 1)]
noncomputable def mm_X11_of : mv_M := (ic_X11_of, fl_X11, [], [], [(115, 2, some 2, false, ff_X2_isPerson), (190, 2, some 2, false, ff_X2_rank)], [], none)
noncomputable def ff_X11_of : mv_F := mv_fn mv_rc mm_X11_of mv_sh 400 3
theorem dk_X11_of : mv_dk cX11_of ic_X11_of = true := by decide +kernel
set_option maxRecDepth 20000 in
theorem cc_X11_of {ad : Nat → Nat → Value} {cA : Nat → ClassId} {D : va_G} {tys : List (ClassId × FieldType)} {A : Nat → Prop} (l : Launch) (hF : mv_Fix mv_sh mv_ids mv_ros ad cA tys A mv_rc) : mv_Met l yX11_of cX11_of 3 (some .int) mv_Ts (mv_rm 4) 3 false mv_sh mv_ids mv_ros ad cA mv_cl D tys A mv_rc mv_cr (mv_EX ad A) ff_X11_of := mv_met_of (by decide +kernel) (by decide) hF mv_stok (mv_rzI (by decide +kernel)) mv_clok (mv_dk_ok dk_X11_of) (mv_fk_ok fk_X11) (fun p e s m args below meth c Q hBg hX hR => ⟨fun _ h => absurd h List.not_mem_nil, fun _ h => absurd h List.not_mem_nil⟩) (fun p e s m args below meth c Q hBg hX hR hK => List.forall_mem_cons.mpr ⟨mv_cal_of (cc_X2_isPerson l hF) hBg hX hR hK mv_EX_ok hF mv_good mv_stok cw_X11_115.1 cw_X11_115.2.1 cw_X11_115.2.2 ⟨rfl, rfl, by exact Nat.le_of_ble_eq_true rfl, by exact Nat.le_of_ble_eq_true rfl⟩ ⟨Nat.zero_le _, Nat.zero_le _⟩, List.forall_mem_cons.mpr ⟨mv_cal_of (cc_X2_rank l hF) hBg hX hR hK mv_EX_ok hF mv_good mv_stok cw_X11_190.1 cw_X11_190.2.1 cw_X11_190.2.2 ⟨rfl, rfl, by exact Nat.le_of_ble_eq_true rfl, by exact Nat.le_of_ble_eq_true rfl⟩ ⟨Nat.zero_le _, Nat.zero_le _⟩, fun _ h => absurd h List.not_mem_nil⟩⟩)
def ic_X12_keepsAhead : List (Nat × Instr × Nat) := [(0, .aload_n 0, 1), (1, .getfield 129, 3), (4, .bipush 6, 2), (6, .if_icmp .ne 47, 3), (9, .aload_n 0, 1), (10, .aload_n 0, 1), (11, .getfield 129, 3), (14, .iconst 1, 1), (15, .isub, 1), (16, .putfield 129, 3), (19, .iconst 0, 1), (20, .istore_n 1, 1), (21, .iload_n 1, 1), (22, .bipush 72, 2), (24, .aload_n 0, 1), (25, .getfield 129, 3), (28, .imul, 1), (29, .if_icmp .ge 24, 3), (32, .aload_n 0, 1), (33, .getfield 13, 3), (36, .iload_n 1, 1), (37, .aload_n 0, 1), (38, .getfield 13, 3), (41, .iload_n 1, 1), (42, .bipush 72, 2), (44, .iadd, 1), (45, .iaload, 1), (46, .iastore, 1), (47, .iinc 1 1, 3), (50, .goto (-29), 3), (53, .iconst 0, 1), (54, .istore_n 1, 1), (55, .iload_n 1, 1), (56, .bipush 72, 2), (58, .if_icmp .ge 29, 3), (61, .aload_n 0, 1), (62, .getfield 13, 3), (65, .bipush 72, 2), (67, .aload_n 0, 1), (68, .getfield 129, 3), (71, .imul, 1), (72, .iload_n 1, 1), (73, .iadd, 1), (74, .aload_n 0, 1), (75, .getfield 7, 3), (78, .iload_n 1, 1), (79, .iaload, 1), (80, .iastore, 1), (81, .iinc 1 1, 3), (84, .goto (-29), 3), (87, .aload_n 0, 1), (88, .aload_n 0, 1), (89, .getfield 129, 3), (92, .iconst 1, 1), (93, .iadd, 1), (94, .putfield 129, 3), (97, .return_, 1)]
noncomputable def mm_X12_keepsAhead : mv_M := (ic_X12_keepsAhead, fl_X12, [], [], [], [(21, [true, true]), (55, [true, true])], none)
noncomputable def ff_X12_keepsAhead : mv_F := mv_fn mv_rc mm_X12_keepsAhead mv_sh 400 2
theorem dk_X12_keepsAhead : mv_dk cX12_keepsAhead ic_X12_keepsAhead = true := by decide +kernel
set_option maxRecDepth 20000 in
theorem cc_X12_keepsAhead {ad : Nat → Nat → Value} {cA : Nat → ClassId} {D : va_G} {tys : List (ClassId × FieldType)} {A : Nat → Prop} (l : Launch) (hF : mv_Fix mv_sh mv_ids mv_ros ad cA tys A mv_rc) : mv_Met l yX12_keepsAhead cX12_keepsAhead 2 none mv_Ts (mv_rm 1) 1 true mv_sh mv_ids mv_ros ad cA mv_cl D tys A mv_rc mv_cr (mv_EX ad A) ff_X12_keepsAhead := mv_met_of (by decide +kernel) (by decide) hF mv_stok (mv_rzV (by decide +kernel)) mv_clok (mv_dk_ok dk_X12_keepsAhead) (mv_fk_ok fk_X12) (fun p e s m args below meth c Q hBg hX hR => ⟨fun _ h => absurd h List.not_mem_nil, fun _ h => absurd h List.not_mem_nil⟩) (fun p e s m args below meth c Q hBg hX hR hK => fun _ h => absurd h List.not_mem_nil)
set_option maxRecDepth 20000 in
theorem cw_X12_366 : mv_Cw RX12 366 yX12_keepsAhead cX12_keepsAhead 2 none (some 12) 1 := mv_cw_of (a := 1768) (b := 143) (c := 1770) (d := 84) (mv_T 1771 rfl rfl) (by decide +kernel)
def ic_X12_hours : List (Nat × Instr × Nat) := [(0, .aload_n 0, 1), (1, .iconst 0, 1), (2, .putfield 126, 3), (5, .aload_n 0, 1), (6, .iload_n 1, 1), (7, .iconst 1, 1), (8, .bipush 60, 2), (10, .invokevirtual 142, 3), (13, .ifCond .eq 17, 3), (16, .aload_n 0, 1), (17, .getfield 7, 3), (20, .iconst 0, 1), (21, .iaload, 1), (22, .iload_n 1, 1), (23, .iadd, 1), (24, .sipush 999, 3), (27, .if_icmp .le 5, 3), (30, .iconst (-1), 1), (31, .ireturn, 1), (32, .iconst 0, 1), (33, .istore_n 2, 1), (34, .iconst 0, 1), (35, .istore_n 3, 1), (36, .iload_n 3, 1), (37, .iload_n 1, 1), (38, .if_icmp .ge 20, 3), (41, .aload_n 0, 1), (42, .invokevirtual 366, 3), (45, .iload_n 2, 1), (46, .aload_n 0, 1), (47, .invokevirtual 390, 3), (50, .iadd, 1), (51, .istore_n 2, 1), (52, .iinc 3 1, 3), (55, .goto (-19), 3), (58, .iload_n 2, 1), (59, .ireturn, 1)]
noncomputable def mm_X12_hours : mv_M := (ic_X12_hours, fl_X12, [], [], [(142, 4, some 12, false, ff_X12_isIn), (366, 1, some 12, true, ff_X12_keepsAhead), (390, 1, some 12, false, ff_X12_goesBy)], [(36, [true, true, true, true])], none)
noncomputable def ff_X12_hours : mv_F := mv_fn mv_rc mm_X12_hours mv_sh 400 4
theorem dk_X12_hours : mv_dk cX12_hours ic_X12_hours = true := by decide +kernel
set_option maxRecDepth 20000 in
theorem cc_X12_hours {ad : Nat → Nat → Value} {cA : Nat → ClassId} {D : va_G} {tys : List (ClassId × FieldType)} {A : Nat → Prop} (l : Launch) (hF : mv_Fix mv_sh mv_ids mv_ros ad cA tys A mv_rc) : mv_Met l yX12_hours cX12_hours 4 (some .int) mv_Ts (mv_rm 11) 2 false mv_sh mv_ids mv_ros ad cA mv_cl D tys A mv_rc mv_cr (mv_EX ad A) ff_X12_hours := mv_met_of (by decide +kernel) (by decide) hF mv_stok (mv_rzI (by decide +kernel)) mv_clok (mv_dk_ok dk_X12_hours) (mv_fk_ok fk_X12) (fun p e s m args below meth c Q hBg hX hR => ⟨fun _ h => absurd h List.not_mem_nil, fun _ h => absurd h List.not_mem_nil⟩) (fun p e s m args below meth c Q hBg hX hR hK => List.forall_mem_cons.mpr ⟨mv_cal_of (cc_X12_isIn l hF) hBg hX hR hK mv_EX_ok hF mv_good mv_stok cw_X12_142.1 cw_X12_142.2.1 cw_X12_142.2.2 ⟨rfl, rfl, by exact Nat.le_of_ble_eq_true rfl, by exact Nat.le_of_ble_eq_true rfl⟩ ⟨Nat.zero_le _, Nat.zero_le _⟩, List.forall_mem_cons.mpr ⟨mv_cal_of (cc_X12_keepsAhead l hF) hBg hX hR hK mv_EX_ok hF mv_good mv_stok cw_X12_366.1 cw_X12_366.2.1 cw_X12_366.2.2 ⟨rfl, rfl, by exact Nat.le_of_ble_eq_true rfl, by exact Nat.le_of_ble_eq_true rfl⟩ ⟨Nat.zero_le _, Nat.zero_le _⟩, List.forall_mem_cons.mpr ⟨mv_cal_of (cc_X12_goesBy l hF) hBg hX hR hK mv_EX_ok hF mv_good mv_stok cw_X12_390.1 cw_X12_390.2.1 cw_X12_390.2.2 ⟨rfl, rfl, by exact Nat.le_of_ble_eq_true rfl, by exact Nat.le_of_ble_eq_true rfl⟩ ⟨Nat.zero_le _, Nat.zero_le _⟩, fun _ h => absurd h List.not_mem_nil⟩⟩⟩)
def ic_X6_keepNow : List (Nat × Instr × Nat) := [(0, .aload_n 0, 1), (1, .aload_n 1, 1), (2, .aload_n 0, 1), (3, .getfield 30, 3), (6, .invokevirtual 33, 3), (9, .aload_n 0, 1), (10, .aload_n 0, 1), (11, .getfield 30, 3), (14, .iconst 1, 1), (15, .iadd, 1), (16, .bipush 6, 2), (18, .irem, 1), (19, .putfield 30, 3), (22, .aload_n 0, 1), (23, .aload_n 0, 1), (24, .getfield 26, 3), (27, .iconst 1, 1), (28, .iadd, 1), (29, .bipush 6, 2), (31, .invokestatic 37, 3), (34, .putfield 26, 3), (37, .return_, 1)]
noncomputable def mm_X6_keepNow : mv_M := (ic_X6_keepNow, fl_X6, [], [], [(33, 3, some 6, true, ff_X6_save), (37, 2, none, false, mv_min)], [], none)
noncomputable def ff_X6_keepNow : mv_F := mv_fn mv_rc mm_X6_keepNow mv_sh 400 2
theorem dk_X6_keepNow : mv_dk cX6_keepNow ic_X6_keepNow = true := by decide +kernel
set_option maxRecDepth 20000 in
theorem cc_X6_keepNow {ad : Nat → Nat → Value} {cA : Nat → ClassId} {D : va_G} {tys : List (ClassId × FieldType)} {A : Nat → Prop} (l : Launch) (hF : mv_Fix mv_sh mv_ids mv_ros ad cA tys A mv_rc) : mv_Met l yX6_keepNow cX6_keepNow 2 none mv_Ts (mv_rm 2) 2 true mv_sh mv_ids mv_ros ad cA mv_cl D tys A mv_rc mv_cr (mv_EX ad A) ff_X6_keepNow := mv_met_of (by decide +kernel) (by decide) hF mv_stok (mv_rzV (by decide +kernel)) mv_clok (mv_dk_ok dk_X6_keepNow) (mv_fk_ok fk_X6) (fun p e s m args below meth c Q hBg hX hR => ⟨fun _ h => absurd h List.not_mem_nil, fun _ h => absurd h List.not_mem_nil⟩) (fun p e s m args below meth c Q hBg hX hR hK => List.forall_mem_cons.mpr ⟨mv_cal_of (cc_X6_save l hF) hBg hX hR hK mv_EX_ok hF mv_good mv_stok cw_X6_33.1 cw_X6_33.2.1 cw_X6_33.2.2 ⟨rfl, rfl, by exact Nat.le_of_ble_eq_true rfl, by exact Nat.le_of_ble_eq_true rfl⟩ ⟨Nat.zero_le _, Nat.zero_le _⟩, List.forall_mem_cons.mpr ⟨mv_cal_min hBg ⟨mv_T 689 rfl rfl, mv_T 238 rfl rfl, mv_T 133 rfl rfl, mv_T 239 rfl rfl⟩ ⟨by decide, by decide⟩ ⟨Nat.zero_le _, Nat.zero_le _⟩, fun _ h => absurd h List.not_mem_nil⟩⟩)
set_option maxRecDepth 20000 in
theorem cw_X11_124 : mv_Cw RX11 124 yX6_keepNow cX6_keepNow 2 none (some 6) 2 := mv_cw_of (a := 678) (b := 135) (c := 679) (d := 680) (mv_T 681 rfl rfl) (by decide +kernel)
def ic_X11_hours : List (Nat × Instr × Nat) := [(0, .iload_n 1, 1), (1, .iconst 1, 1), (2, .if_icmp .lt 24, 3), (5, .iload_n 1, 1), (6, .bipush 60, 2), (8, .if_icmp .gt 18, 3), (11, .aload_n 0, 1), (12, .getfield 12, 3), (15, .getfield 183, 3), (18, .iload_n 1, 1), (19, .iadd, 1), (20, .sipush 1000, 3), (23, .if_icmp .lt 5, 3), (26, .iconst (-1), 1), (27, .ireturn, 1), (28, .iconst 0, 1), (29, .istore_n 2, 1), (30, .iconst 0, 1), (31, .istore_n 3, 1), (32, .iload_n 3, 1), (33, .iload_n 1, 1), (34, .if_icmp .ge 30, 3), (37, .aload_n 0, 1), (38, .getfield 22, 3), (41, .aload_n 0, 1), (42, .getfield 12, 3), (45, .invokevirtual 124, 3), (48, .iload_n 2, 1), (49, .aload_n 0, 1), (50, .getfield 77, 3), (53, .invokevirtual 186, 3), (56, .iadd, 1), (57, .istore_n 2, 1), (58, .iinc 3 1, 3), (61, .goto (-29), 3), (64, .iload_n 2, 1), (65, .ireturn, 1)]
noncomputable def mm_X11_hours : mv_M := (ic_X11_hours, fl_X11, [], [], [(124, 2, some 6, true, ff_X6_keepNow), (186, 1, some 0, false, ff_X0_passHour)], [(32, [true, true, true, true])], none)
noncomputable def ff_X11_hours : mv_F := mv_fn mv_rc mm_X11_hours mv_sh 400 4
theorem dk_X11_hours : mv_dk cX11_hours ic_X11_hours = true := by decide +kernel
set_option maxRecDepth 20000 in
theorem cc_X11_hours {ad : Nat → Nat → Value} {cA : Nat → ClassId} {D : va_G} {tys : List (ClassId × FieldType)} {A : Nat → Prop} (l : Launch) (hF : mv_Fix mv_sh mv_ids mv_ros ad cA tys A mv_rc) : mv_Met l yX11_hours cX11_hours 4 (some .int) mv_Ts (mv_rm 8) 2 false mv_sh mv_ids mv_ros ad cA mv_cl D tys A mv_rc mv_cr (mv_EX ad A) ff_X11_hours := mv_met_of (by decide +kernel) (by decide) hF mv_stok (mv_rzI (by decide +kernel)) mv_clok (mv_dk_ok dk_X11_hours) (mv_fk_ok fk_X11) (fun p e s m args below meth c Q hBg hX hR => ⟨fun _ h => absurd h List.not_mem_nil, fun _ h => absurd h List.not_mem_nil⟩) (fun p e s m args below meth c Q hBg hX hR hK => List.forall_mem_cons.mpr ⟨mv_cal_of (cc_X6_keepNow l hF) hBg hX hR hK mv_EX_ok hF mv_good mv_stok cw_X11_124.1 cw_X11_124.2.1 cw_X11_124.2.2 ⟨rfl, rfl, by exact Nat.le_of_ble_eq_true rfl, by exact Nat.le_of_ble_eq_true rfl⟩ ⟨Nat.zero_le _, Nat.zero_le _⟩, List.forall_mem_cons.mpr ⟨mv_cal_of (cc_X0_passHour l hF) hBg hX hR hK mv_EX_ok hF mv_good mv_stok cw_X11_186.1 cw_X11_186.2.1 cw_X11_186.2.2 ⟨rfl, rfl, by exact Nat.le_of_ble_eq_true rfl, by exact Nat.le_of_ble_eq_true rfl⟩ ⟨Nat.zero_le _, Nat.zero_le _⟩, fun _ h => absurd h List.not_mem_nil⟩⟩)
def ic_X12_fault : List (Nat × Instr × Nat) := [(0, .aload_n 0, 1), (1, .iconst 0, 1), (2, .putfield 126, 3), (5, .iload_n 1, 1), (6, .ifCond .ne 10, 3), (9, .aload_n 0, 1), (10, .getfield 267, 3), (13, .goto 16, 3), (16, .iload_n 1, 1), (17, .iconst 1, 1), (18, .if_icmp .ne 10, 3), (21, .aload_n 0, 1), (22, .getfield 68, 3), (25, .goto 4, 3), (28, .iconst (-1), 1), (29, .ireturn, 1)]
noncomputable def mm_X12_fault : mv_M := (ic_X12_fault, fl_X12, [], [], [], [], none)
noncomputable def ff_X12_fault : mv_F := mv_fn mv_rc mm_X12_fault mv_sh 400 2
theorem dk_X12_fault : mv_dk cX12_fault ic_X12_fault = true := by decide +kernel
set_option maxRecDepth 20000 in
theorem cc_X12_fault {ad : Nat → Nat → Value} {cA : Nat → ClassId} {D : va_G} {tys : List (ClassId × FieldType)} {A : Nat → Prop} (l : Launch) (hF : mv_Fix mv_sh mv_ids mv_ros ad cA tys A mv_rc) : mv_Met l yX12_fault cX12_fault 2 (some .int) mv_Ts (mv_rm 1) 2 false mv_sh mv_ids mv_ros ad cA mv_cl D tys A mv_rc mv_cr (mv_EX ad A) ff_X12_fault := mv_met_of (by decide +kernel) (by decide) hF mv_stok (mv_rzI (by decide +kernel)) mv_clok (mv_dk_ok dk_X12_fault) (mv_fk_ok fk_X12) (fun p e s m args below meth c Q hBg hX hR => ⟨fun _ h => absurd h List.not_mem_nil, fun _ h => absurd h List.not_mem_nil⟩) (fun p e s m args below meth c Q hBg hX hR hK => fun _ h => absurd h List.not_mem_nil)
def ic_X11_fault : List (Nat × Instr × Nat) := [(0, .iload_n 1, 1), (1, .ifCond .ne 11, 3), (4, .aload_n 0, 1), (5, .getfield 29, 3), (8, .getfield 177, 3), (11, .ireturn, 1), (12, .iload_n 1, 1), (13, .iconst 1, 1), (14, .if_icmp .ne 13, 3), (17, .aload_n 0, 1), (18, .getfield 29, 3), (21, .getfield 180, 3), (24, .goto 4, 3), (27, .iconst (-1), 1), (28, .ireturn, 1)]
noncomputable def mm_X11_fault : mv_M := (ic_X11_fault, fl_X11, [], [], [], [], none)
noncomputable def ff_X11_fault : mv_F := mv_fn mv_rc mm_X11_fault mv_sh 400 2
theorem dk_X11_fault : mv_dk cX11_fault ic_X11_fault = true := by decide +kernel
set_option maxRecDepth 20000 in
theorem cc_X11_fault {ad : Nat → Nat → Value} {cA : Nat → ClassId} {D : va_G} {tys : List (ClassId × FieldType)} {A : Nat → Prop} (l : Launch) (hF : mv_Fix mv_sh mv_ids mv_ros ad cA tys A mv_rc) : mv_Met l yX11_fault cX11_fault 2 (some .int) mv_Ts (mv_rm 1) 2 false mv_sh mv_ids mv_ros ad cA mv_cl D tys A mv_rc mv_cr (mv_EX ad A) ff_X11_fault := mv_met_of (by decide +kernel) (by decide) hF mv_stok (mv_rzI (by decide +kernel)) mv_clok (mv_dk_ok dk_X11_fault) (mv_fk_ok fk_X11) (fun p e s m args below meth c Q hBg hX hR => ⟨fun _ h => absurd h List.not_mem_nil, fun _ h => absurd h List.not_mem_nil⟩) (fun p e s m args below meth c Q hBg hX hR hK => fun _ h => absurd h List.not_mem_nil)
end
section
def ic_X12_raw : List (Nat × Instr × Nat) := [(0, .iload_n 1, 1), (1, .aload_n 0, 1), (2, .getfield 164, 3), (5, .if_icmp .ge 12, 3), (8, .aload_n 0, 1), (9, .getfield 41, 3), (12, .iload_n 1, 1), (13, .iaload, 1), (14, .goto 4, 3), (17, .iconst (-1), 1), (18, .ireturn, 1)]
noncomputable def mm_X12_raw : mv_M := (ic_X12_raw, fl_X12, [], [], [], [], none)
noncomputable def ff_X12_raw : mv_F := mv_fn mv_rc mm_X12_raw mv_sh 400 2
theorem dk_X12_raw : mv_dk cX12_raw ic_X12_raw = true := by decide +kernel
set_option maxRecDepth 20000 in
theorem cc_X12_raw {ad : Nat → Nat → Value} {cA : Nat → ClassId} {D : va_G} {tys : List (ClassId × FieldType)} {A : Nat → Prop} (l : Launch) (hF : mv_Fix mv_sh mv_ids mv_ros ad cA tys A mv_rc) : mv_Met l yX12_raw cX12_raw 2 (some .int) mv_Ts (mv_rm 1) 2 false mv_sh mv_ids mv_ros ad cA mv_cl D tys A mv_rc mv_cr (mv_EX ad A) ff_X12_raw := mv_met_of (by decide +kernel) (by decide) hF mv_stok (mv_rzI (by decide +kernel)) mv_clok (mv_dk_ok dk_X12_raw) (mv_fk_ok fk_X12) (fun p e s m args below meth c Q hBg hX hR => ⟨fun _ h => absurd h List.not_mem_nil, fun _ h => absurd h List.not_mem_nil⟩) (fun p e s m args below meth c Q hBg hX hR hK => fun _ h => absurd h List.not_mem_nil)
def ic_X12_isLetter : List (Nat × Instr × Nat) := [(0, .aload_n 0, 1), (1, .iload_n 1, 1), (2, .bipush 97, 2), (4, .bipush 122, 2), (6, .invokevirtual 142, 3), (9, .ifCond .ne 15, 3), (12, .aload_n 0, 1), (13, .iload_n 1, 1), (14, .bipush 65, 2), (16, .bipush 90, 2), (18, .invokevirtual 142, 3), (21, .ifCond .eq 7, 3), (24, .iconst 1, 1), (25, .goto 4, 3), (28, .iconst 0, 1), (29, .ireturn, 1)]
noncomputable def mm_X12_isLetter : mv_M := (ic_X12_isLetter, fl_X12, [], [], [(142, 4, some 12, false, ff_X12_isIn)], [], (some (0, 1)))
noncomputable def ff_X12_isLetter : mv_F := mv_fn mv_rc mm_X12_isLetter mv_sh 400 2
theorem dk_X12_isLetter : mv_dk cX12_isLetter ic_X12_isLetter = true := by decide +kernel
set_option maxRecDepth 20000 in
theorem cc_X12_isLetter {ad : Nat → Nat → Value} {cA : Nat → ClassId} {D : va_G} {tys : List (ClassId × FieldType)} {A : Nat → Prop} (l : Launch) (hF : mv_Fix mv_sh mv_ids mv_ros ad cA tys A mv_rc) : mv_Met l yX12_isLetter cX12_isLetter 2 (some .boolean) mv_Ts (mv_rm 2) 2 false mv_sh mv_ids mv_ros ad cA mv_cl D tys A mv_rc mv_cr (mv_EX ad A) ff_X12_isLetter := mv_met_of (by decide +kernel) (by decide) hF mv_stok (mv_rzZ (by decide +kernel) rfl) mv_clok (mv_dk_ok dk_X12_isLetter) (mv_fk_ok fk_X12) (fun p e s m args below meth c Q hBg hX hR => ⟨fun _ h => absurd h List.not_mem_nil, fun _ h => absurd h List.not_mem_nil⟩) (fun p e s m args below meth c Q hBg hX hR hK => List.forall_mem_cons.mpr ⟨mv_cal_of (cc_X12_isIn l hF) hBg hX hR hK mv_EX_ok hF mv_good mv_stok cw_X12_142.1 cw_X12_142.2.1 cw_X12_142.2.2 ⟨rfl, rfl, by exact Nat.le_of_ble_eq_true rfl, by exact Nat.le_of_ble_eq_true rfl⟩ ⟨Nat.zero_le _, Nat.zero_le _⟩, fun _ h => absurd h List.not_mem_nil⟩)
def ic_X12_wordAt : List (Nat × Instr × Nat) := [(0, .iconst (-1), 1), (1, .istore_n 3, 1), (2, .iconst 0, 1), (3, .istore 4, 2), (5, .iload 4, 2), (7, .bipush 103, 2), (9, .if_icmp .ge 108, 3), (12, .iconst 0, 1), (13, .istore 5, 2), (15, .iload_n 3, 1), (16, .iconst 1, 1), (17, .iadd, 1), (18, .istore_n 3, 1), (19, .iload_n 1, 1), (20, .iload 5, 2), (22, .iadd, 1), (23, .iload_n 2, 1), (24, .if_icmp .ge 36, 3), (27, .aload_n 0, 1), (28, .getfield 44, 3), (31, .iload 4, 2), (33, .iconst 1, 1), (34, .iadd, 1), (35, .iload 5, 2), (37, .iadd, 1), (38, .iaload, 1), (39, .aload_n 0, 1), (40, .getfield 41, 3), (43, .iload_n 1, 1), (44, .iload 5, 2), (46, .iadd, 1), (47, .iaload, 1), (48, .if_icmp .ne 12, 3), (51, .iload 5, 2), (53, .iconst 1, 1), (54, .iadd, 1), (55, .istore 5, 2), (57, .goto (-38), 3), (60, .iload_n 1, 1), (61, .iload 5, 2), (63, .iadd, 1), (64, .iload_n 2, 1), (65, .if_icmp .ne 22, 3), (68, .aload_n 0, 1), (69, .getfield 44, 3), (72, .iload 4, 2), (74, .iconst 1, 1), (75, .iadd, 1), (76, .iload 5, 2), (78, .iadd, 1), (79, .iaload, 1), (80, .bipush 32, 2), (82, .if_icmp .ne 5, 3), (85, .iload_n 3, 1), (86, .ireturn, 1), (87, .iload 4, 2), (89, .iconst 1, 1), (90, .iadd, 1), (91, .istore 4, 2), (93, .aload_n 0, 1), (94, .getfield 44, 3), (97, .iload 4, 2), (99, .iaload, 1), (100, .bipush 32, 2), (102, .if_icmp .eq 12, 3), (105, .iload 4, 2), (107, .iconst 1, 1), (108, .iadd, 1), (109, .istore 4, 2), (111, .goto (-18), 3), (114, .goto (-109), 3), (117, .iconst (-1), 1), (118, .ireturn, 1)]
noncomputable def mm_X12_wordAt : mv_M := (ic_X12_wordAt, fl_X12, [], [], [], [(5, [true, true, true, true, true, false]), (19, [true, true, true, true, true, true]), (93, [true, true, true, true, true, false])], none)
noncomputable def ff_X12_wordAt : mv_F := mv_fn mv_rc mm_X12_wordAt mv_sh 400 6
theorem dk_X12_wordAt : mv_dk cX12_wordAt ic_X12_wordAt = true := by decide +kernel
set_option maxRecDepth 20000 in
theorem cc_X12_wordAt {ad : Nat → Nat → Value} {cA : Nat → ClassId} {D : va_G} {tys : List (ClassId × FieldType)} {A : Nat → Prop} (l : Launch) (hF : mv_Fix mv_sh mv_ids mv_ros ad cA tys A mv_rc) : mv_Met l yX12_wordAt cX12_wordAt 6 (some .int) mv_Ts (mv_rm 1) 3 false mv_sh mv_ids mv_ros ad cA mv_cl D tys A mv_rc mv_cr (mv_EX ad A) ff_X12_wordAt := mv_met_of (by decide +kernel) (by decide) hF mv_stok (mv_rzI (by decide +kernel)) mv_clok (mv_dk_ok dk_X12_wordAt) (mv_fk_ok fk_X12) (fun p e s m args below meth c Q hBg hX hR => ⟨fun _ h => absurd h List.not_mem_nil, fun _ h => absurd h List.not_mem_nil⟩) (fun p e s m args below meth c Q hBg hX hR hK => fun _ h => absurd h List.not_mem_nil)
def ic_X12_isDigit : List (Nat × Instr × Nat) := [(0, .aload_n 0, 1), (1, .iload_n 1, 1), (2, .bipush 48, 2), (4, .bipush 57, 2), (6, .invokevirtual 142, 3), (9, .ireturn, 1)]
noncomputable def mm_X12_isDigit : mv_M := (ic_X12_isDigit, fl_X12, [], [], [(142, 4, some 12, false, ff_X12_isIn)], [], (some (0, 1)))
noncomputable def ff_X12_isDigit : mv_F := mv_fn mv_rc mm_X12_isDigit mv_sh 400 2
theorem dk_X12_isDigit : mv_dk cX12_isDigit ic_X12_isDigit = true := by decide +kernel
set_option maxRecDepth 20000 in
theorem cc_X12_isDigit {ad : Nat → Nat → Value} {cA : Nat → ClassId} {D : va_G} {tys : List (ClassId × FieldType)} {A : Nat → Prop} (l : Launch) (hF : mv_Fix mv_sh mv_ids mv_ros ad cA tys A mv_rc) : mv_Met l yX12_isDigit cX12_isDigit 2 (some .boolean) mv_Ts (mv_rm 2) 2 false mv_sh mv_ids mv_ros ad cA mv_cl D tys A mv_rc mv_cr (mv_EX ad A) ff_X12_isDigit := mv_met_of (by decide +kernel) (by decide) hF mv_stok (mv_rzZ (by decide +kernel) rfl) mv_clok (mv_dk_ok dk_X12_isDigit) (mv_fk_ok fk_X12) (fun p e s m args below meth c Q hBg hX hR => ⟨fun _ h => absurd h List.not_mem_nil, fun _ h => absurd h List.not_mem_nil⟩) (fun p e s m args below meth c Q hBg hX hR hK => List.forall_mem_cons.mpr ⟨mv_cal_of (cc_X12_isIn l hF) hBg hX hR hK mv_EX_ok hF mv_good mv_stok cw_X12_142.1 cw_X12_142.2.1 cw_X12_142.2.2 ⟨rfl, rfl, by exact Nat.le_of_ble_eq_true rfl, by exact Nat.le_of_ble_eq_true rfl⟩ ⟨Nat.zero_le _, Nat.zero_le _⟩, fun _ h => absurd h List.not_mem_nil⟩)
def ic_X12_isMarkSign : List (Nat × Instr × Nat) := [(0, .iload_n 1, 1), (1, .bipush 59, 2), (3, .if_icmp .eq 57, 3), (6, .iload_n 1, 1), (7, .bipush 43, 2), (9, .if_icmp .eq 51, 3), (12, .iload_n 1, 1), (13, .bipush 45, 2), (15, .if_icmp .eq 45, 3), (18, .iload_n 1, 1), (19, .bipush 42, 2), (21, .if_icmp .eq 39, 3), (24, .iload_n 1, 1), (25, .bipush 47, 2), (27, .if_icmp .eq 33, 3), (30, .iload_n 1, 1), (31, .bipush 40, 2), (33, .if_icmp .eq 27, 3), (36, .iload_n 1, 1), (37, .bipush 41, 2), (39, .if_icmp .eq 21, 3), (42, .iload_n 1, 1), (43, .bipush 60, 2), (45, .if_icmp .eq 15, 3), (48, .iload_n 1, 1), (49, .bipush 61, 2), (51, .if_icmp .eq 9, 3), (54, .iload_n 1, 1), (55, .bipush 62, 2), (57, .if_icmp .ne 7, 3), (60, .iconst 1, 1), (61, .goto 4, 3), (64, .iconst 0, 1), (65, .ireturn, 1)]
noncomputable def mm_X12_isMarkSign : mv_M := (ic_X12_isMarkSign, fl_X12, [], [], [], [], (some (0, 1)))
noncomputable def ff_X12_isMarkSign : mv_F := mv_fn mv_rc mm_X12_isMarkSign mv_sh 400 2
theorem dk_X12_isMarkSign : mv_dk cX12_isMarkSign ic_X12_isMarkSign = true := by decide +kernel
set_option maxRecDepth 20000 in
theorem cc_X12_isMarkSign {ad : Nat → Nat → Value} {cA : Nat → ClassId} {D : va_G} {tys : List (ClassId × FieldType)} {A : Nat → Prop} (l : Launch) (hF : mv_Fix mv_sh mv_ids mv_ros ad cA tys A mv_rc) : mv_Met l yX12_isMarkSign cX12_isMarkSign 2 (some .boolean) mv_Ts (mv_rm 1) 2 false mv_sh mv_ids mv_ros ad cA mv_cl D tys A mv_rc mv_cr (mv_EX ad A) ff_X12_isMarkSign := mv_met_of (by decide +kernel) (by decide) hF mv_stok (mv_rzZ (by decide +kernel) rfl) mv_clok (mv_dk_ok dk_X12_isMarkSign) (mv_fk_ok fk_X12) (fun p e s m args below meth c Q hBg hX hR => ⟨fun _ h => absurd h List.not_mem_nil, fun _ h => absurd h List.not_mem_nil⟩) (fun p e s m args below meth c Q hBg hX hR hK => fun _ h => absurd h List.not_mem_nil)
set_option maxRecDepth 20000 in
theorem cw_X12_174 : mv_Cw RX12 174 yX12_raw cX12_raw 2 (some .int) (some 12) 2 := mv_cw_of (a := 1587) (b := 143) (c := 1589) (d := 42) (mv_T 1590 rfl rfl) (by decide +kernel)
set_option maxRecDepth 20000 in
theorem cw_X12_186 : mv_Cw RX12 186 yX12_isLetter cX12_isLetter 2 (some .boolean) (some 12) 2 := mv_cw_of (a := 1591) (b := 143) (c := 1593) (d := 43) (mv_T 1594 rfl rfl) (by decide +kernel)
set_option maxRecDepth 20000 in
theorem cw_X12_189 : mv_Cw RX12 189 yX12_wordAt cX12_wordAt 6 (some .int) (some 12) 3 := mv_cw_of (a := 1595) (b := 143) (c := 1597) (d := 44) (mv_T 1598 rfl rfl) (by decide +kernel)
set_option maxRecDepth 20000 in
theorem cw_X12_193 : mv_Cw RX12 193 yX12_isDigit cX12_isDigit 2 (some .boolean) (some 12) 2 := mv_cw_of (a := 1599) (b := 143) (c := 1601) (d := 45) (mv_T 1602 rfl rfl) (by decide +kernel)
set_option maxRecDepth 20000 in
theorem cw_X12_196 : mv_Cw RX12 196 yX12_isMarkSign cX12_isMarkSign 2 (some .boolean) (some 12) 2 := mv_cw_of (a := 1603) (b := 143) (c := 1605) (d := 46) (mv_T 1606 rfl rfl) (by decide +kernel)
def ic_X12_reads : List (Nat × Instr × Nat) := [(0, .aload_n 0, 1), (1, .aload_n 0, 1), (2, .getfield 171, 3), (5, .invokevirtual 174, 3), (8, .bipush 32, 2), (10, .if_icmp .eq 16, 3), (13, .aload_n 0, 1), (14, .aload_n 0, 1), (15, .getfield 171, 3), (18, .invokevirtual 174, 3), (21, .bipush 10, 2), (23, .if_icmp .ne 16, 3), (26, .aload_n 0, 1), (27, .aload_n 0, 1), (28, .getfield 171, 3), (31, .iconst 1, 1), (32, .iadd, 1), (33, .putfield 171, 3), (36, .goto (-36), 3), (39, .aload_n 0, 1), (40, .aload_n 0, 1), (41, .getfield 171, 3), (44, .putfield 177, 3), (47, .aload_n 0, 1), (48, .iconst 1, 1), (49, .putfield 180, 3), (52, .aload_n 0, 1), (53, .aload_n 0, 1), (54, .getfield 171, 3), (57, .invokevirtual 174, 3), (60, .istore_n 1, 1), (61, .iload_n 1, 1), (62, .iconst (-1), 1), (63, .if_icmp .ne 9, 3), (66, .aload_n 0, 1), (67, .iconst 0, 1), (68, .putfield 180, 3), (71, .return_, 1), (72, .aload_n 0, 1), (73, .aload_n 0, 1), (74, .getfield 171, 3), (77, .iconst 1, 1), (78, .iadd, 1), (79, .putfield 171, 3), (82, .aload_n 0, 1), (83, .iload_n 1, 1), (84, .putfield 183, 3), (87, .aload_n 0, 1), (88, .iload_n 1, 1), (89, .invokevirtual 186, 3), (92, .ifCond .eq 63, 3), (95, .aload_n 0, 1), (96, .aload_n 0, 1), (97, .aload_n 0, 1), (98, .getfield 171, 3), (101, .invokevirtual 174, 3), (104, .invokevirtual 186, 3), (107, .ifCond .eq 16, 3), (110, .aload_n 0, 1), (111, .aload_n 0, 1), (112, .getfield 171, 3), (115, .iconst 1, 1), (116, .iadd, 1), (117, .putfield 171, 3), (120, .goto (-25), 3), (123, .aload_n 0, 1), (124, .aload_n 0, 1), (125, .aload_n 0, 1), (126, .getfield 177, 3), (129, .aload_n 0, 1), (130, .getfield 171, 3), (133, .invokevirtual 189, 3), (136, .putfield 183, 3), (139, .aload_n 0, 1), (140, .getfield 183, 3), (143, .iconst (-1), 1), (144, .if_icmp .eq 129, 3), (147, .aload_n 0, 1), (148, .iconst 2, 1), (149, .putfield 180, 3), (152, .goto 121, 3), (155, .aload_n 0, 1), (156, .iload_n 1, 1), (157, .invokevirtual 193, 3), (160, .ifCond .eq 100, 3), (163, .aload_n 0, 1), (164, .iload_n 1, 1), (165, .bipush 48, 2), (167, .isub, 1), (168, .putfield 183, 3), (171, .aload_n 0, 1), (172, .aload_n 0, 1), (173, .aload_n 0, 1), (174, .getfield 171, 3), (177, .invokevirtual 174, 3), (180, .invokevirtual 193, 3), (183, .ifCond .eq 56, 3), (186, .aload_n 0, 1), (187, .aload_n 0, 1), (188, .getfield 183, 3), (191, .sipush 10000, 3), (194, .if_icmp .ge 25, 3), (197, .bipush 10, 2), (199, .aload_n 0, 1), (200, .getfield 183, 3), (203, .imul, 1), (204, .aload_n 0, 1), (205, .aload_n 0, 1), (206, .getfield 171, 3), (209, .invokevirtual 174, 3), (212, .iadd, 1), (213, .bipush 48, 2), (215, .isub, 1), (216, .goto 7, 3), (219, .aload_n 0, 1), (220, .getfield 183, 3), (223, .putfield 183, 3), (226, .aload_n 0, 1), (227, .aload_n 0, 1), (228, .getfield 171, 3), (231, .iconst 1, 1), (232, .iadd, 1), (233, .putfield 171, 3), (236, .goto (-65), 3), (239, .aload_n 0, 1), (240, .getfield 171, 3), (243, .aload_n 0, 1), (244, .getfield 177, 3), (247, .isub, 1), (248, .iconst 5, 1), (249, .if_icmp .ge 24, 3), (252, .aload_n 0, 1), (253, .iconst 3, 1), (254, .putfield 180, 3), (257, .goto 16, 3), (260, .aload_n 0, 1), (261, .iload_n 1, 1), (262, .invokevirtual 196, 3), (265, .ifCond .eq 8, 3), (268, .aload_n 0, 1), (269, .iconst 4, 1), (270, .putfield 180, 3), (273, .return_, 1)]
noncomputable def mm_X12_reads : mv_M := (ic_X12_reads, fl_X12, [], [], [(174, 2, some 12, false, ff_X12_raw), (186, 2, some 12, false, ff_X12_isLetter), (189, 3, some 12, false, ff_X12_wordAt), (193, 2, some 12, false, ff_X12_isDigit), (196, 2, some 12, false, ff_X12_isMarkSign)], [(0, [true, false]), (95, [true, false]), (171, [true, false])], none)
noncomputable def ff_X12_reads : mv_F := mv_fn mv_rc mm_X12_reads mv_sh 400 2
theorem dk_X12_reads : mv_dk cX12_reads ic_X12_reads = true := by decide +kernel
set_option maxRecDepth 20000 in
theorem cc_X12_reads {ad : Nat → Nat → Value} {cA : Nat → ClassId} {D : va_G} {tys : List (ClassId × FieldType)} {A : Nat → Prop} (l : Launch) (hF : mv_Fix mv_sh mv_ids mv_ros ad cA tys A mv_rc) : mv_Met l yX12_reads cX12_reads 2 none mv_Ts (mv_rm 3) 1 true mv_sh mv_ids mv_ros ad cA mv_cl D tys A mv_rc mv_cr (mv_EX ad A) ff_X12_reads := mv_met_of (by decide +kernel) (by decide) hF mv_stok (mv_rzV (by decide +kernel)) mv_clok (mv_dk_ok dk_X12_reads) (mv_fk_ok fk_X12) (fun p e s m args below meth c Q hBg hX hR => ⟨fun _ h => absurd h List.not_mem_nil, fun _ h => absurd h List.not_mem_nil⟩) (fun p e s m args below meth c Q hBg hX hR hK => List.forall_mem_cons.mpr ⟨mv_cal_of (cc_X12_raw l hF) hBg hX hR hK mv_EX_ok hF mv_good mv_stok cw_X12_174.1 cw_X12_174.2.1 cw_X12_174.2.2 ⟨rfl, rfl, by exact Nat.le_of_ble_eq_true rfl, by exact Nat.le_of_ble_eq_true rfl⟩ ⟨Nat.zero_le _, Nat.zero_le _⟩, List.forall_mem_cons.mpr ⟨mv_cal_of (cc_X12_isLetter l hF) hBg hX hR hK mv_EX_ok hF mv_good mv_stok cw_X12_186.1 cw_X12_186.2.1 cw_X12_186.2.2 ⟨rfl, rfl, by exact Nat.le_of_ble_eq_true rfl, by exact Nat.le_of_ble_eq_true rfl⟩ ⟨Nat.zero_le _, Nat.zero_le _⟩, List.forall_mem_cons.mpr ⟨mv_cal_of (cc_X12_wordAt l hF) hBg hX hR hK mv_EX_ok hF mv_good mv_stok cw_X12_189.1 cw_X12_189.2.1 cw_X12_189.2.2 ⟨rfl, rfl, by exact Nat.le_of_ble_eq_true rfl, by exact Nat.le_of_ble_eq_true rfl⟩ ⟨Nat.zero_le _, Nat.zero_le _⟩, List.forall_mem_cons.mpr ⟨mv_cal_of (cc_X12_isDigit l hF) hBg hX hR hK mv_EX_ok hF mv_good mv_stok cw_X12_193.1 cw_X12_193.2.1 cw_X12_193.2.2 ⟨rfl, rfl, by exact Nat.le_of_ble_eq_true rfl, by exact Nat.le_of_ble_eq_true rfl⟩ ⟨Nat.zero_le _, Nat.zero_le _⟩, List.forall_mem_cons.mpr ⟨mv_cal_of (cc_X12_isMarkSign l hF) hBg hX hR hK mv_EX_ok hF mv_good mv_stok cw_X12_196.1 cw_X12_196.2.1 cw_X12_196.2.2 ⟨rfl, rfl, by exact Nat.le_of_ble_eq_true rfl, by exact Nat.le_of_ble_eq_true rfl⟩ ⟨Nat.zero_le _, Nat.zero_le _⟩, fun _ h => absurd h List.not_mem_nil⟩⟩⟩⟩⟩)
def ic_X12_errs : List (Nat × Instr × Nat) := [(0, .aload_n 0, 1), (1, .iload_n 1, 1), (2, .putfield 199, 3), (5, .aload_n 0, 1), (6, .aload_n 0, 1), (7, .getfield 177, 3), (10, .putfield 202, 3), (13, .iconst (-1), 1), (14, .ireturn, 1)]
noncomputable def mm_X12_errs : mv_M := (ic_X12_errs, fl_X12, [], [], [], [], none)
noncomputable def ff_X12_errs : mv_F := mv_fn mv_rc mm_X12_errs mv_sh 400 2
theorem dk_X12_errs : mv_dk cX12_errs ic_X12_errs = true := by decide +kernel
set_option maxRecDepth 20000 in
theorem cc_X12_errs {ad : Nat → Nat → Value} {cA : Nat → ClassId} {D : va_G} {tys : List (ClassId × FieldType)} {A : Nat → Prop} (l : Launch) (hF : mv_Fix mv_sh mv_ids mv_ros ad cA tys A mv_rc) : mv_Met l yX12_errs cX12_errs 2 (some .int) mv_Ts (mv_rm 1) 2 false mv_sh mv_ids mv_ros ad cA mv_cl D tys A mv_rc mv_cr (mv_EX ad A) ff_X12_errs := mv_met_of (by decide +kernel) (by decide) hF mv_stok (mv_rzI (by decide +kernel)) mv_clok (mv_dk_ok dk_X12_errs) (mv_fk_ok fk_X12) (fun p e s m args below meth c Q hBg hX hR => ⟨fun _ h => absurd h List.not_mem_nil, fun _ h => absurd h List.not_mem_nil⟩) (fun p e s m args below meth c Q hBg hX hR hK => fun _ h => absurd h List.not_mem_nil)
set_option maxRecDepth 20000 in
theorem cw_X12_214 : mv_Cw RX12 214 yX12_errs cX12_errs 2 (some .int) (some 12) 2 := mv_cw_of (a := 1611) (b := 143) (c := 1613) (d := 48) (mv_T 1614 rfl rfl) (by decide +kernel)
set_option maxRecDepth 20000 in
theorem cw_X12_221 : mv_Cw RX12 221 yX12_reads cX12_reads 2 none (some 12) 1 := mv_cw_of (a := 1583) (b := 143) (c := 1585) (d := 41) (mv_T 1586 rfl rfl) (by decide +kernel)
def ic_X12_readNumber : List (Nat × Instr × Nat) := [(0, .aload_n 0, 1), (1, .getfield 180, 3), (4, .iconst 3, 1), (5, .if_icmp .eq 9, 3), (8, .aload_n 0, 1), (9, .iconst 1, 1), (10, .invokevirtual 214, 3), (13, .ireturn, 1), (14, .aload_n 0, 1), (15, .aload_n 0, 1), (16, .getfield 183, 3), (19, .iload_n 1, 1), (20, .iload_n 2, 1), (21, .invokevirtual 142, 3), (24, .ifCond .ne 9, 3), (27, .aload_n 0, 1), (28, .iconst 2, 1), (29, .invokevirtual 214, 3), (32, .ireturn, 1), (33, .aload_n 0, 1), (34, .getfield 183, 3), (37, .istore_n 3, 1), (38, .aload_n 0, 1), (39, .invokevirtual 221, 3), (42, .iload_n 3, 1), (43, .ireturn, 1)]
noncomputable def mm_X12_readNumber : mv_M := (ic_X12_readNumber, fl_X12, [], [], [(214, 2, some 12, false, ff_X12_errs), (142, 4, some 12, false, ff_X12_isIn), (221, 1, some 12, true, ff_X12_reads)], [], none)
noncomputable def ff_X12_readNumber : mv_F := mv_fn mv_rc mm_X12_readNumber mv_sh 400 4
theorem dk_X12_readNumber : mv_dk cX12_readNumber ic_X12_readNumber = true := by decide +kernel
set_option maxRecDepth 20000 in
theorem cc_X12_readNumber {ad : Nat → Nat → Value} {cA : Nat → ClassId} {D : va_G} {tys : List (ClassId × FieldType)} {A : Nat → Prop} (l : Launch) (hF : mv_Fix mv_sh mv_ids mv_ros ad cA tys A mv_rc) : mv_Met l yX12_readNumber cX12_readNumber 4 (some .int) mv_Ts (mv_rm 4) 3 false mv_sh mv_ids mv_ros ad cA mv_cl D tys A mv_rc mv_cr (mv_EX ad A) ff_X12_readNumber := mv_met_of (by decide +kernel) (by decide) hF mv_stok (mv_rzI (by decide +kernel)) mv_clok (mv_dk_ok dk_X12_readNumber) (mv_fk_ok fk_X12) (fun p e s m args below meth c Q hBg hX hR => ⟨fun _ h => absurd h List.not_mem_nil, fun _ h => absurd h List.not_mem_nil⟩) (fun p e s m args below meth c Q hBg hX hR hK => List.forall_mem_cons.mpr ⟨mv_cal_of (cc_X12_errs l hF) hBg hX hR hK mv_EX_ok hF mv_good mv_stok cw_X12_214.1 cw_X12_214.2.1 cw_X12_214.2.2 ⟨rfl, rfl, by exact Nat.le_of_ble_eq_true rfl, by exact Nat.le_of_ble_eq_true rfl⟩ ⟨Nat.zero_le _, Nat.zero_le _⟩, List.forall_mem_cons.mpr ⟨mv_cal_of (cc_X12_isIn l hF) hBg hX hR hK mv_EX_ok hF mv_good mv_stok cw_X12_142.1 cw_X12_142.2.1 cw_X12_142.2.2 ⟨rfl, rfl, by exact Nat.le_of_ble_eq_true rfl, by exact Nat.le_of_ble_eq_true rfl⟩ ⟨Nat.zero_le _, Nat.zero_le _⟩, List.forall_mem_cons.mpr ⟨mv_cal_of (cc_X12_reads l hF) hBg hX hR hK mv_EX_ok hF mv_good mv_stok cw_X12_221.1 cw_X12_221.2.1 cw_X12_221.2.2 ⟨rfl, rfl, by exact Nat.le_of_ble_eq_true rfl, by exact Nat.le_of_ble_eq_true rfl⟩ ⟨Nat.zero_le _, Nat.zero_le _⟩, fun _ h => absurd h List.not_mem_nil⟩⟩⟩)
def ic_X12_isWord : List (Nat × Instr × Nat) := [(0, .aload_n 0, 1), (1, .getfield 180, 3), (4, .iconst 2, 1), (5, .if_icmp .ne 15, 3), (8, .aload_n 0, 1), (9, .getfield 183, 3), (12, .iload_n 1, 1), (13, .if_icmp .ne 7, 3), (16, .iconst 1, 1), (17, .goto 4, 3), (20, .iconst 0, 1), (21, .ireturn, 1)]
noncomputable def mm_X12_isWord : mv_M := (ic_X12_isWord, fl_X12, [], [], [], [], (some (0, 1)))
noncomputable def ff_X12_isWord : mv_F := mv_fn mv_rc mm_X12_isWord mv_sh 400 2
theorem dk_X12_isWord : mv_dk cX12_isWord ic_X12_isWord = true := by decide +kernel
set_option maxRecDepth 20000 in
theorem cc_X12_isWord {ad : Nat → Nat → Value} {cA : Nat → ClassId} {D : va_G} {tys : List (ClassId × FieldType)} {A : Nat → Prop} (l : Launch) (hF : mv_Fix mv_sh mv_ids mv_ros ad cA tys A mv_rc) : mv_Met l yX12_isWord cX12_isWord 2 (some .boolean) mv_Ts (mv_rm 1) 2 false mv_sh mv_ids mv_ros ad cA mv_cl D tys A mv_rc mv_cr (mv_EX ad A) ff_X12_isWord := mv_met_of (by decide +kernel) (by decide) hF mv_stok (mv_rzZ (by decide +kernel) rfl) mv_clok (mv_dk_ok dk_X12_isWord) (mv_fk_ok fk_X12) (fun p e s m args below meth c Q hBg hX hR => ⟨fun _ h => absurd h List.not_mem_nil, fun _ h => absurd h List.not_mem_nil⟩) (fun p e s m args below meth c Q hBg hX hR hK => fun _ h => absurd h List.not_mem_nil)
def ic_X12_isSign : List (Nat × Instr × Nat) := [(0, .aload_n 0, 1), (1, .getfield 180, 3), (4, .iconst 4, 1), (5, .if_icmp .ne 15, 3), (8, .aload_n 0, 1), (9, .getfield 183, 3), (12, .iload_n 1, 1), (13, .if_icmp .ne 7, 3), (16, .iconst 1, 1), (17, .goto 4, 3), (20, .iconst 0, 1), (21, .ireturn, 1)]
noncomputable def mm_X12_isSign : mv_M := (ic_X12_isSign, fl_X12, [], [], [], [], (some (0, 1)))
noncomputable def ff_X12_isSign : mv_F := mv_fn mv_rc mm_X12_isSign mv_sh 400 2
theorem dk_X12_isSign : mv_dk cX12_isSign ic_X12_isSign = true := by decide +kernel
set_option maxRecDepth 20000 in
theorem cc_X12_isSign {ad : Nat → Nat → Value} {cA : Nat → ClassId} {D : va_G} {tys : List (ClassId × FieldType)} {A : Nat → Prop} (l : Launch) (hF : mv_Fix mv_sh mv_ids mv_ros ad cA tys A mv_rc) : mv_Met l yX12_isSign cX12_isSign 2 (some .boolean) mv_Ts (mv_rm 1) 2 false mv_sh mv_ids mv_ros ad cA mv_cl D tys A mv_rc mv_cr (mv_EX ad A) ff_X12_isSign := mv_met_of (by decide +kernel) (by decide) hF mv_stok (mv_rzZ (by decide +kernel) rfl) mv_clok (mv_dk_ok dk_X12_isSign) (mv_fk_ok fk_X12) (fun p e s m args below meth c Q hBg hX hR => ⟨fun _ h => absurd h List.not_mem_nil, fun _ h => absurd h List.not_mem_nil⟩) (fun p e s m args below meth c Q hBg hX hR hK => fun _ h => absurd h List.not_mem_nil)
set_option maxRecDepth 20000 in
theorem cw_X12_261 : mv_Cw RX12 261 yX12_readNumber cX12_readNumber 4 (some .int) (some 12) 3 := mv_cw_of (a := 1619) (b := 143) (c := 1621) (d := 50) (mv_T 1622 rfl rfl) (by decide +kernel)
set_option maxRecDepth 20000 in
theorem cw_X12_242 : mv_Cw RX12 242 yX12_isWord cX12_isWord 2 (some .boolean) (some 12) 2 := mv_cw_of (a := 1623) (b := 143) (c := 1625) (d := 51) (mv_T 1626 rfl rfl) (by decide +kernel)
set_option maxRecDepth 20000 in
theorem cw_X12_227 : mv_Cw RX12 227 yX12_isSign cX12_isSign 2 (some .boolean) (some 12) 2 := mv_cw_of (a := 1627) (b := 143) (c := 1629) (d := 52) (mv_T 1630 rfl rfl) (by decide +kernel)
def ic_X12_readDayLine : List (Nat × Instr × Nat) := [(0, .aload_n 0, 1), (1, .getfield 72, 3), (4, .iload_n 1, 1), (5, .aload_n 0, 1), (6, .getfield 183, 3), (9, .bipush 18, 2), (11, .isub, 1), (12, .iastore, 1), (13, .aload_n 0, 1), (14, .invokevirtual 221, 3), (17, .aload_n 0, 1), (18, .getfield 72, 3), (21, .iload_n 1, 1), (22, .iconst 1, 1), (23, .iadd, 1), (24, .aload_n 0, 1), (25, .iconst 0, 1), (26, .aload_n 0, 1), (27, .getfield 139, 3), (30, .iconst 1, 1), (31, .isub, 1), (32, .invokevirtual 261, 3), (35, .iastore, 1), (36, .aload_n 0, 1), (37, .getfield 72, 3), (40, .iload_n 1, 1), (41, .iconst 1, 1), (42, .iadd, 1), (43, .iaload, 1), (44, .iconst (-1), 1), (45, .if_icmp .ne 5, 3), (48, .iconst (-1), 1), (49, .ireturn, 1), (50, .aload_n 0, 1), (51, .bipush 11, 2), (53, .invokevirtual 242, 3), (56, .ifCond .ne 9, 3), (59, .aload_n 0, 1), (60, .iconst 1, 1), (61, .invokevirtual 214, 3), (64, .ireturn, 1), (65, .aload_n 0, 1), (66, .invokevirtual 221, 3), (69, .aload_n 0, 1), (70, .getfield 72, 3), (73, .iload_n 1, 1), (74, .iconst 2, 1), (75, .iadd, 1), (76, .aload_n 0, 1), (77, .iconst 0, 1), (78, .sipush 999, 3), (81, .invokevirtual 261, 3), (84, .iastore, 1), (85, .aload_n 0, 1), (86, .getfield 72, 3), (89, .iload_n 1, 1), (90, .iconst 2, 1), (91, .iadd, 1), (92, .iaload, 1), (93, .iconst (-1), 1), (94, .if_icmp .ne 5, 3), (97, .iconst (-1), 1), (98, .ireturn, 1), (99, .aload_n 0, 1), (100, .bipush 59, 2), (102, .invokevirtual 227, 3), (105, .ifCond .ne 9, 3), (108, .aload_n 0, 1), (109, .iconst 1, 1), (110, .invokevirtual 214, 3), (113, .ireturn, 1), (114, .aload_n 0, 1), (115, .invokevirtual 221, 3), (118, .iconst 0, 1), (119, .ireturn, 1)]
noncomputable def mm_X12_readDayLine : mv_M := (ic_X12_readDayLine, fl_X12, [], [], [(221, 1, some 12, true, ff_X12_reads), (261, 3, some 12, false, ff_X12_readNumber), (242, 2, some 12, false, ff_X12_isWord), (214, 2, some 12, false, ff_X12_errs), (227, 2, some 12, false, ff_X12_isSign)], [], none)
noncomputable def ff_X12_readDayLine : mv_F := mv_fn mv_rc mm_X12_readDayLine mv_sh 400 2
theorem dk_X12_readDayLine : mv_dk cX12_readDayLine ic_X12_readDayLine = true := by decide +kernel
set_option maxRecDepth 20000 in
theorem cc_X12_readDayLine {ad : Nat → Nat → Value} {cA : Nat → ClassId} {D : va_G} {tys : List (ClassId × FieldType)} {A : Nat → Prop} (l : Launch) (hF : mv_Fix mv_sh mv_ids mv_ros ad cA tys A mv_rc) : mv_Met l yX12_readDayLine cX12_readDayLine 2 (some .int) mv_Ts (mv_rm 5) 2 false mv_sh mv_ids mv_ros ad cA mv_cl D tys A mv_rc mv_cr (mv_EX ad A) ff_X12_readDayLine := mv_met_of (by decide +kernel) (by decide) hF mv_stok (mv_rzI (by decide +kernel)) mv_clok (mv_dk_ok dk_X12_readDayLine) (mv_fk_ok fk_X12) (fun p e s m args below meth c Q hBg hX hR => ⟨fun _ h => absurd h List.not_mem_nil, fun _ h => absurd h List.not_mem_nil⟩) (fun p e s m args below meth c Q hBg hX hR hK => List.forall_mem_cons.mpr ⟨mv_cal_of (cc_X12_reads l hF) hBg hX hR hK mv_EX_ok hF mv_good mv_stok cw_X12_221.1 cw_X12_221.2.1 cw_X12_221.2.2 ⟨rfl, rfl, by exact Nat.le_of_ble_eq_true rfl, by exact Nat.le_of_ble_eq_true rfl⟩ ⟨Nat.zero_le _, Nat.zero_le _⟩, List.forall_mem_cons.mpr ⟨mv_cal_of (cc_X12_readNumber l hF) hBg hX hR hK mv_EX_ok hF mv_good mv_stok cw_X12_261.1 cw_X12_261.2.1 cw_X12_261.2.2 ⟨rfl, rfl, by exact Nat.le_of_ble_eq_true rfl, by exact Nat.le_of_ble_eq_true rfl⟩ ⟨Nat.zero_le _, Nat.zero_le _⟩, List.forall_mem_cons.mpr ⟨mv_cal_of (cc_X12_isWord l hF) hBg hX hR hK mv_EX_ok hF mv_good mv_stok cw_X12_242.1 cw_X12_242.2.1 cw_X12_242.2.2 ⟨rfl, rfl, by exact Nat.le_of_ble_eq_true rfl, by exact Nat.le_of_ble_eq_true rfl⟩ ⟨Nat.zero_le _, Nat.zero_le _⟩, List.forall_mem_cons.mpr ⟨mv_cal_of (cc_X12_errs l hF) hBg hX hR hK mv_EX_ok hF mv_good mv_stok cw_X12_214.1 cw_X12_214.2.1 cw_X12_214.2.2 ⟨rfl, rfl, by exact Nat.le_of_ble_eq_true rfl, by exact Nat.le_of_ble_eq_true rfl⟩ ⟨Nat.zero_le _, Nat.zero_le _⟩, List.forall_mem_cons.mpr ⟨mv_cal_of (cc_X12_isSign l hF) hBg hX hR hK mv_EX_ok hF mv_good mv_stok cw_X12_227.1 cw_X12_227.2.1 cw_X12_227.2.2 ⟨rfl, rfl, by exact Nat.le_of_ble_eq_true rfl, by exact Nat.le_of_ble_eq_true rfl⟩ ⟨Nat.zero_le _, Nat.zero_le _⟩, fun _ h => absurd h List.not_mem_nil⟩⟩⟩⟩⟩)
set_option maxRecDepth 20000 in
theorem cw_X12_264 : mv_Cw RX12 264 yX12_readDayLine cX12_readDayLine 2 (some .int) (some 12) 2 := mv_cw_of (a := 1615) (b := 143) (c := 1617) (d := 49) (mv_T 1618 rfl rfl) (by decide +kernel)
def ic_X12_readDay : List (Nat × Instr × Nat) := [(0, .iconst 0, 1), (1, .istore_n 1, 1), (2, .aload_n 0, 1), (3, .getfield 180, 3), (6, .iconst 2, 1), (7, .if_icmp .ne 53, 3), (10, .aload_n 0, 1), (11, .aload_n 0, 1), (12, .getfield 183, 3), (15, .bipush 18, 2), (17, .bipush 20, 2), (19, .invokevirtual 142, 3), (22, .ifCond .eq 38, 3), (25, .iload_n 1, 1), (26, .bipush 24, 2), (28, .if_icmp .ne 9, 3), (31, .aload_n 0, 1), (32, .iconst 3, 1), (33, .invokevirtual 214, 3), (36, .ireturn, 1), (37, .aload_n 0, 1), (38, .bipush 72, 2), (40, .iconst 3, 1), (41, .iload_n 1, 1), (42, .imul, 1), (43, .iadd, 1), (44, .invokevirtual 264, 3), (47, .iconst (-1), 1), (48, .if_icmp .ne 5, 3), (51, .iconst (-1), 1), (52, .ireturn, 1), (53, .iload_n 1, 1), (54, .iconst 1, 1), (55, .iadd, 1), (56, .istore_n 1, 1), (57, .goto (-55), 3), (60, .aload_n 0, 1), (61, .getfield 180, 3), (64, .ifCond .ne 7, 3), (67, .iload_n 1, 1), (68, .goto 8, 3), (71, .aload_n 0, 1), (72, .iconst 1, 1), (73, .invokevirtual 214, 3), (76, .ireturn, 1)]
noncomputable def mm_X12_readDay : mv_M := (ic_X12_readDay, fl_X12, [], [], [(142, 4, some 12, false, ff_X12_isIn), (214, 2, some 12, false, ff_X12_errs), (264, 2, some 12, false, ff_X12_readDayLine)], [(2, [true, true])], none)
noncomputable def ff_X12_readDay : mv_F := mv_fn mv_rc mm_X12_readDay mv_sh 400 2
theorem dk_X12_readDay : mv_dk cX12_readDay ic_X12_readDay = true := by decide +kernel
set_option maxRecDepth 20000 in
theorem cc_X12_readDay {ad : Nat → Nat → Value} {cA : Nat → ClassId} {D : va_G} {tys : List (ClassId × FieldType)} {A : Nat → Prop} (l : Launch) (hF : mv_Fix mv_sh mv_ids mv_ros ad cA tys A mv_rc) : mv_Met l yX12_readDay cX12_readDay 2 (some .int) mv_Ts (mv_rm 6) 1 false mv_sh mv_ids mv_ros ad cA mv_cl D tys A mv_rc mv_cr (mv_EX ad A) ff_X12_readDay := mv_met_of (by decide +kernel) (by decide) hF mv_stok (mv_rzI (by decide +kernel)) mv_clok (mv_dk_ok dk_X12_readDay) (mv_fk_ok fk_X12) (fun p e s m args below meth c Q hBg hX hR => ⟨fun _ h => absurd h List.not_mem_nil, fun _ h => absurd h List.not_mem_nil⟩) (fun p e s m args below meth c Q hBg hX hR hK => List.forall_mem_cons.mpr ⟨mv_cal_of (cc_X12_isIn l hF) hBg hX hR hK mv_EX_ok hF mv_good mv_stok cw_X12_142.1 cw_X12_142.2.1 cw_X12_142.2.2 ⟨rfl, rfl, by exact Nat.le_of_ble_eq_true rfl, by exact Nat.le_of_ble_eq_true rfl⟩ ⟨Nat.zero_le _, Nat.zero_le _⟩, List.forall_mem_cons.mpr ⟨mv_cal_of (cc_X12_errs l hF) hBg hX hR hK mv_EX_ok hF mv_good mv_stok cw_X12_214.1 cw_X12_214.2.1 cw_X12_214.2.2 ⟨rfl, rfl, by exact Nat.le_of_ble_eq_true rfl, by exact Nat.le_of_ble_eq_true rfl⟩ ⟨Nat.zero_le _, Nat.zero_le _⟩, List.forall_mem_cons.mpr ⟨mv_cal_of (cc_X12_readDayLine l hF) hBg hX hR hK mv_EX_ok hF mv_good mv_stok cw_X12_264.1 cw_X12_264.2.1 cw_X12_264.2.2 ⟨rfl, rfl, by exact Nat.le_of_ble_eq_true rfl, by exact Nat.le_of_ble_eq_true rfl⟩ ⟨Nat.zero_le _, Nat.zero_le _⟩, fun _ h => absurd h List.not_mem_nil⟩⟩⟩)
def ic_X12_isLineWord : List (Nat × Instr × Nat) := [(0, .aload_n 0, 1), (1, .aload_n 0, 1), (2, .getfield 208, 3), (5, .ifCond .ne 7, 3), (8, .iconst 0, 1), (9, .goto 4, 3), (12, .iconst 1, 1), (13, .invokevirtual 242, 3), (16, .ireturn, 1)]
noncomputable def mm_X12_isLineWord : mv_M := (ic_X12_isLineWord, fl_X12, [], [], [(242, 2, some 12, false, ff_X12_isWord)], [], (some (0, 1)))
noncomputable def ff_X12_isLineWord : mv_F := mv_fn mv_rc mm_X12_isLineWord mv_sh 400 1
theorem dk_X12_isLineWord : mv_dk cX12_isLineWord ic_X12_isLineWord = true := by decide +kernel
set_option maxRecDepth 20000 in
theorem cc_X12_isLineWord {ad : Nat → Nat → Value} {cA : Nat → ClassId} {D : va_G} {tys : List (ClassId × FieldType)} {A : Nat → Prop} (l : Launch) (hF : mv_Fix mv_sh mv_ids mv_ros ad cA tys A mv_rc) : mv_Met l yX12_isLineWord cX12_isLineWord 1 (some .boolean) mv_Ts (mv_rm 2) 1 false mv_sh mv_ids mv_ros ad cA mv_cl D tys A mv_rc mv_cr (mv_EX ad A) ff_X12_isLineWord := mv_met_of (by decide +kernel) (by decide) hF mv_stok (mv_rzZ (by decide +kernel) rfl) mv_clok (mv_dk_ok dk_X12_isLineWord) (mv_fk_ok fk_X12) (fun p e s m args below meth c Q hBg hX hR => ⟨fun _ h => absurd h List.not_mem_nil, fun _ h => absurd h List.not_mem_nil⟩) (fun p e s m args below meth c Q hBg hX hR hK => List.forall_mem_cons.mpr ⟨mv_cal_of (cc_X12_isWord l hF) hBg hX hR hK mv_EX_ok hF mv_good mv_stok cw_X12_242.1 cw_X12_242.2.1 cw_X12_242.2.2 ⟨rfl, rfl, by exact Nat.le_of_ble_eq_true rfl, by exact Nat.le_of_ble_eq_true rfl⟩ ⟨Nat.zero_le _, Nat.zero_le _⟩, fun _ h => absurd h List.not_mem_nil⟩)
def ic_X12_canAsk : List (Nat × Instr × Nat) := [(0, .aload_n 0, 1), (1, .iload_n 1, 1), (2, .bipush 6, 2), (4, .aload_n 0, 1), (5, .getfield 208, 3), (8, .ifCond .ne 8, 3), (11, .bipush 16, 2), (13, .goto 5, 3), (16, .bipush 10, 2), (18, .invokevirtual 142, 3), (21, .ifCond .ne 17, 3), (24, .aload_n 0, 1), (25, .getfield 208, 3), (28, .iconst 1, 1), (29, .if_icmp .ne 13, 3), (32, .iload_n 1, 1), (33, .bipush 17, 2), (35, .if_icmp .ne 7, 3), (38, .iconst 1, 1), (39, .goto 4, 3), (42, .iconst 0, 1), (43, .ireturn, 1)]
noncomputable def mm_X12_canAsk : mv_M := (ic_X12_canAsk, fl_X12, [], [], [(142, 4, some 12, false, ff_X12_isIn)], [], (some (0, 1)))
noncomputable def ff_X12_canAsk : mv_F := mv_fn mv_rc mm_X12_canAsk mv_sh 400 2
theorem dk_X12_canAsk : mv_dk cX12_canAsk ic_X12_canAsk = true := by decide +kernel
set_option maxRecDepth 20000 in
theorem cc_X12_canAsk {ad : Nat → Nat → Value} {cA : Nat → ClassId} {D : va_G} {tys : List (ClassId × FieldType)} {A : Nat → Prop} (l : Launch) (hF : mv_Fix mv_sh mv_ids mv_ros ad cA tys A mv_rc) : mv_Met l yX12_canAsk cX12_canAsk 2 (some .boolean) mv_Ts (mv_rm 2) 2 false mv_sh mv_ids mv_ros ad cA mv_cl D tys A mv_rc mv_cr (mv_EX ad A) ff_X12_canAsk := mv_met_of (by decide +kernel) (by decide) hF mv_stok (mv_rzZ (by decide +kernel) rfl) mv_clok (mv_dk_ok dk_X12_canAsk) (mv_fk_ok fk_X12) (fun p e s m args below meth c Q hBg hX hR => ⟨fun _ h => absurd h List.not_mem_nil, fun _ h => absurd h List.not_mem_nil⟩) (fun p e s m args below meth c Q hBg hX hR hK => List.forall_mem_cons.mpr ⟨mv_cal_of (cc_X12_isIn l hF) hBg hX hR hK mv_EX_ok hF mv_good mv_stok cw_X12_142.1 cw_X12_142.2.1 cw_X12_142.2.2 ⟨rfl, rfl, by exact Nat.le_of_ble_eq_true rfl, by exact Nat.le_of_ble_eq_true rfl⟩ ⟨Nat.zero_le _, Nat.zero_le _⟩, fun _ h => absurd h List.not_mem_nil⟩)
def ic_X12_emits : List (Nat × Instr × Nat) := [(0, .aload_n 0, 1), (1, .getfield 59, 3), (4, .sipush 800, 3), (7, .aload_n 0, 1), (8, .getfield 205, 3), (11, .iadd, 1), (12, .iload_n 1, 1), (13, .iastore, 1), (14, .aload_n 0, 1), (15, .getfield 62, 3), (18, .sipush 800, 3), (21, .aload_n 0, 1), (22, .getfield 205, 3), (25, .iadd, 1), (26, .iload_n 2, 1), (27, .iastore, 1), (28, .aload_n 0, 1), (29, .aload_n 0, 1), (30, .getfield 205, 3), (33, .iconst 1, 1), (34, .iadd, 1), (35, .putfield 205, 3), (38, .return_, 1)]
noncomputable def mm_X12_emits : mv_M := (ic_X12_emits, fl_X12, [], [], [], [], none)
noncomputable def ff_X12_emits : mv_F := mv_fn mv_rc mm_X12_emits mv_sh 400 3
theorem dk_X12_emits : mv_dk cX12_emits ic_X12_emits = true := by decide +kernel
set_option maxRecDepth 20000 in
theorem cc_X12_emits {ad : Nat → Nat → Value} {cA : Nat → ClassId} {D : va_G} {tys : List (ClassId × FieldType)} {A : Nat → Prop} (l : Launch) (hF : mv_Fix mv_sh mv_ids mv_ros ad cA tys A mv_rc) : mv_Met l yX12_emits cX12_emits 3 none mv_Ts (mv_rm 1) 3 true mv_sh mv_ids mv_ros ad cA mv_cl D tys A mv_rc mv_cr (mv_EX ad A) ff_X12_emits := mv_met_of (by decide +kernel) (by decide) hF mv_stok (mv_rzV (by decide +kernel)) mv_clok (mv_dk_ok dk_X12_emits) (mv_fk_ok fk_X12) (fun p e s m args below meth c Q hBg hX hR => ⟨fun _ h => absurd h List.not_mem_nil, fun _ h => absurd h List.not_mem_nil⟩) (fun p e s m args below meth c Q hBg hX hR hK => fun _ h => absurd h List.not_mem_nil)
set_option maxRecDepth 20000 in
theorem cw_X12_211 : mv_Cw RX12 211 yX12_canAsk cX12_canAsk 2 (some .boolean) (some 12) 2 := mv_cw_of (a := 1651) (b := 143) (c := 1653) (d := 58) (mv_T 1654 rfl rfl) (by decide +kernel)
set_option maxRecDepth 20000 in
theorem cw_X12_217 : mv_Cw RX12 217 yX12_emits cX12_emits 3 none (some 12) 3 := mv_cw_of (a := 1655) (b := 143) (c := 1657) (d := 59) (mv_T 1658 rfl rfl) (by decide +kernel)
def ic_X12_readUnit : List (Nat × Instr × Nat) := [(0, .aload_n 0, 1), (1, .getfield 180, 3), (4, .iconst 2, 1), (5, .if_icmp .ne 18, 3), (8, .aload_n 0, 1), (9, .aload_n 0, 1), (10, .getfield 183, 3), (13, .invokevirtual 211, 3), (16, .ifCond .eq 7, 3), (19, .iconst 1, 1), (20, .goto 4, 3), (23, .iconst 0, 1), (24, .istore_n 1, 1), (25, .iload_n 1, 1), (26, .ifCond .ne 17, 3), (29, .aload_n 0, 1), (30, .getfield 180, 3), (33, .iconst 3, 1), (34, .if_icmp .eq 9, 3), (37, .aload_n 0, 1), (38, .iconst 1, 1), (39, .invokevirtual 214, 3), (42, .ireturn, 1), (43, .aload_n 0, 1), (44, .iload_n 1, 1), (45, .ifCond .eq 7, 3), (48, .iconst 1, 1), (49, .goto 4, 3), (52, .iconst 0, 1), (53, .iload_n 1, 1), (54, .ifCond .eq 13, 3), (57, .aload_n 0, 1), (58, .getfield 183, 3), (61, .bipush 6, 2), (63, .isub, 1), (64, .goto 7, 3), (67, .aload_n 0, 1), (68, .getfield 183, 3), (71, .invokevirtual 217, 3), (74, .aload_n 0, 1), (75, .invokevirtual 221, 3), (78, .iconst 0, 1), (79, .ireturn, 1)]
noncomputable def mm_X12_readUnit : mv_M := (ic_X12_readUnit, fl_X12, [], [], [(211, 2, some 12, false, ff_X12_canAsk), (214, 2, some 12, false, ff_X12_errs), (217, 3, some 12, true, ff_X12_emits), (221, 1, some 12, true, ff_X12_reads)], [], none)
noncomputable def ff_X12_readUnit : mv_F := mv_fn mv_rc mm_X12_readUnit mv_sh 400 2
theorem dk_X12_readUnit : mv_dk cX12_readUnit ic_X12_readUnit = true := by decide +kernel
set_option maxRecDepth 20000 in
theorem cc_X12_readUnit {ad : Nat → Nat → Value} {cA : Nat → ClassId} {D : va_G} {tys : List (ClassId × FieldType)} {A : Nat → Prop} (l : Launch) (hF : mv_Fix mv_sh mv_ids mv_ros ad cA tys A mv_rc) : mv_Met l yX12_readUnit cX12_readUnit 2 (some .int) mv_Ts (mv_rm 4) 1 false mv_sh mv_ids mv_ros ad cA mv_cl D tys A mv_rc mv_cr (mv_EX ad A) ff_X12_readUnit := mv_met_of (by decide +kernel) (by decide) hF mv_stok (mv_rzI (by decide +kernel)) mv_clok (mv_dk_ok dk_X12_readUnit) (mv_fk_ok fk_X12) (fun p e s m args below meth c Q hBg hX hR => ⟨fun _ h => absurd h List.not_mem_nil, fun _ h => absurd h List.not_mem_nil⟩) (fun p e s m args below meth c Q hBg hX hR hK => List.forall_mem_cons.mpr ⟨mv_cal_of (cc_X12_canAsk l hF) hBg hX hR hK mv_EX_ok hF mv_good mv_stok cw_X12_211.1 cw_X12_211.2.1 cw_X12_211.2.2 ⟨rfl, rfl, by exact Nat.le_of_ble_eq_true rfl, by exact Nat.le_of_ble_eq_true rfl⟩ ⟨Nat.zero_le _, Nat.zero_le _⟩, List.forall_mem_cons.mpr ⟨mv_cal_of (cc_X12_errs l hF) hBg hX hR hK mv_EX_ok hF mv_good mv_stok cw_X12_214.1 cw_X12_214.2.1 cw_X12_214.2.2 ⟨rfl, rfl, by exact Nat.le_of_ble_eq_true rfl, by exact Nat.le_of_ble_eq_true rfl⟩ ⟨Nat.zero_le _, Nat.zero_le _⟩, List.forall_mem_cons.mpr ⟨mv_cal_of (cc_X12_emits l hF) hBg hX hR hK mv_EX_ok hF mv_good mv_stok cw_X12_217.1 cw_X12_217.2.1 cw_X12_217.2.2 ⟨rfl, rfl, by exact Nat.le_of_ble_eq_true rfl, by exact Nat.le_of_ble_eq_true rfl⟩ ⟨Nat.zero_le _, Nat.zero_le _⟩, List.forall_mem_cons.mpr ⟨mv_cal_of (cc_X12_reads l hF) hBg hX hR hK mv_EX_ok hF mv_good mv_stok cw_X12_221.1 cw_X12_221.2.1 cw_X12_221.2.2 ⟨rfl, rfl, by exact Nat.le_of_ble_eq_true rfl, by exact Nat.le_of_ble_eq_true rfl⟩ ⟨Nat.zero_le _, Nat.zero_le _⟩, fun _ h => absurd h List.not_mem_nil⟩⟩⟩⟩)
set_option maxRecDepth 20000 in
theorem cw_X12_224 : mv_Cw RX12 224 yX12_readUnit cX12_readUnit 2 (some .int) (some 12) 1 := mv_cw_of (a := 1647) (b := 143) (c := 1649) (d := 57) (mv_T 1650 rfl rfl) (by decide +kernel)
def ic_X12_readProduct : List (Nat × Instr × Nat) := [(0, .aload_n 0, 1), (1, .invokevirtual 224, 3), (4, .iconst (-1), 1), (5, .if_icmp .ne 5, 3), (8, .iconst (-1), 1), (9, .ireturn, 1), (10, .aload_n 0, 1), (11, .bipush 42, 2), (13, .invokevirtual 227, 3), (16, .ifCond .ne 12, 3), (19, .aload_n 0, 1), (20, .bipush 47, 2), (22, .invokevirtual 227, 3), (25, .ifCond .eq 76, 3), (28, .aload_n 0, 1), (29, .bipush 42, 2), (31, .invokevirtual 227, 3), (34, .istore_n 1, 1), (35, .aload_n 0, 1), (36, .invokevirtual 221, 3), (39, .iload_n 1, 1), (40, .ifCond .ne 17, 3), (43, .aload_n 0, 1), (44, .getfield 180, 3), (47, .iconst 3, 1), (48, .if_icmp .eq 9, 3), (51, .aload_n 0, 1), (52, .iconst 1, 1), (53, .invokevirtual 214, 3), (56, .ireturn, 1), (57, .iload_n 1, 1), (58, .ifCond .ne 16, 3), (61, .aload_n 0, 1), (62, .getfield 183, 3), (65, .ifCond .ne 9, 3), (68, .aload_n 0, 1), (69, .iconst 2, 1), (70, .invokevirtual 214, 3), (73, .ireturn, 1), (74, .aload_n 0, 1), (75, .invokevirtual 224, 3), (78, .iconst (-1), 1), (79, .if_icmp .ne 5, 3), (82, .iconst (-1), 1), (83, .ireturn, 1), (84, .aload_n 0, 1), (85, .iload_n 1, 1), (86, .ifCond .eq 7, 3), (89, .iconst 4, 1), (90, .goto 4, 3), (93, .iconst 5, 1), (94, .iconst 0, 1), (95, .invokevirtual 217, 3), (98, .goto (-88), 3), (101, .iconst 0, 1), (102, .ireturn, 1)]
noncomputable def mm_X12_readProduct : mv_M := (ic_X12_readProduct, fl_X12, [], [], [(224, 1, some 12, false, ff_X12_readUnit), (227, 2, some 12, false, ff_X12_isSign), (221, 1, some 12, true, ff_X12_reads), (214, 2, some 12, false, ff_X12_errs), (217, 3, some 12, true, ff_X12_emits)], [(10, [true, false])], none)
noncomputable def ff_X12_readProduct : mv_F := mv_fn mv_rc mm_X12_readProduct mv_sh 400 2
theorem dk_X12_readProduct : mv_dk cX12_readProduct ic_X12_readProduct = true := by decide +kernel
set_option maxRecDepth 20000 in
theorem cc_X12_readProduct {ad : Nat → Nat → Value} {cA : Nat → ClassId} {D : va_G} {tys : List (ClassId × FieldType)} {A : Nat → Prop} (l : Launch) (hF : mv_Fix mv_sh mv_ids mv_ros ad cA tys A mv_rc) : mv_Met l yX12_readProduct cX12_readProduct 2 (some .int) mv_Ts (mv_rm 5) 1 false mv_sh mv_ids mv_ros ad cA mv_cl D tys A mv_rc mv_cr (mv_EX ad A) ff_X12_readProduct := mv_met_of (by decide +kernel) (by decide) hF mv_stok (mv_rzI (by decide +kernel)) mv_clok (mv_dk_ok dk_X12_readProduct) (mv_fk_ok fk_X12) (fun p e s m args below meth c Q hBg hX hR => ⟨fun _ h => absurd h List.not_mem_nil, fun _ h => absurd h List.not_mem_nil⟩) (fun p e s m args below meth c Q hBg hX hR hK => List.forall_mem_cons.mpr ⟨mv_cal_of (cc_X12_readUnit l hF) hBg hX hR hK mv_EX_ok hF mv_good mv_stok cw_X12_224.1 cw_X12_224.2.1 cw_X12_224.2.2 ⟨rfl, rfl, by exact Nat.le_of_ble_eq_true rfl, by exact Nat.le_of_ble_eq_true rfl⟩ ⟨Nat.zero_le _, Nat.zero_le _⟩, List.forall_mem_cons.mpr ⟨mv_cal_of (cc_X12_isSign l hF) hBg hX hR hK mv_EX_ok hF mv_good mv_stok cw_X12_227.1 cw_X12_227.2.1 cw_X12_227.2.2 ⟨rfl, rfl, by exact Nat.le_of_ble_eq_true rfl, by exact Nat.le_of_ble_eq_true rfl⟩ ⟨Nat.zero_le _, Nat.zero_le _⟩, List.forall_mem_cons.mpr ⟨mv_cal_of (cc_X12_reads l hF) hBg hX hR hK mv_EX_ok hF mv_good mv_stok cw_X12_221.1 cw_X12_221.2.1 cw_X12_221.2.2 ⟨rfl, rfl, by exact Nat.le_of_ble_eq_true rfl, by exact Nat.le_of_ble_eq_true rfl⟩ ⟨Nat.zero_le _, Nat.zero_le _⟩, List.forall_mem_cons.mpr ⟨mv_cal_of (cc_X12_errs l hF) hBg hX hR hK mv_EX_ok hF mv_good mv_stok cw_X12_214.1 cw_X12_214.2.1 cw_X12_214.2.2 ⟨rfl, rfl, by exact Nat.le_of_ble_eq_true rfl, by exact Nat.le_of_ble_eq_true rfl⟩ ⟨Nat.zero_le _, Nat.zero_le _⟩, List.forall_mem_cons.mpr ⟨mv_cal_of (cc_X12_emits l hF) hBg hX hR hK mv_EX_ok hF mv_good mv_stok cw_X12_217.1 cw_X12_217.2.1 cw_X12_217.2.2 ⟨rfl, rfl, by exact Nat.le_of_ble_eq_true rfl, by exact Nat.le_of_ble_eq_true rfl⟩ ⟨Nat.zero_le _, Nat.zero_le _⟩, fun _ h => absurd h List.not_mem_nil⟩⟩⟩⟩⟩)
set_option maxRecDepth 20000 in
theorem cw_X12_230 : mv_Cw RX12 230 yX12_readProduct cX12_readProduct 2 (some .int) (some 12) 1 := mv_cw_of (a := 1643) (b := 143) (c := 1645) (d := 56) (mv_T 1646 rfl rfl) (by decide +kernel)
def ic_X12_readSum : List (Nat × Instr × Nat) := [(0, .aload_n 0, 1), (1, .invokevirtual 230, 3), (4, .iconst (-1), 1), (5, .if_icmp .ne 5, 3), (8, .iconst (-1), 1), (9, .ireturn, 1), (10, .aload_n 0, 1), (11, .bipush 43, 2), (13, .invokevirtual 227, 3), (16, .ifCond .ne 12, 3), (19, .aload_n 0, 1), (20, .bipush 45, 2), (22, .invokevirtual 227, 3), (25, .ifCond .eq 41, 3), (28, .aload_n 0, 1), (29, .getfield 183, 3), (32, .bipush 43, 2), (34, .if_icmp .ne 7, 3), (37, .iconst 2, 1), (38, .goto 4, 3), (41, .iconst 3, 1), (42, .istore_n 1, 1), (43, .aload_n 0, 1), (44, .invokevirtual 221, 3), (47, .aload_n 0, 1), (48, .invokevirtual 230, 3), (51, .iconst (-1), 1), (52, .if_icmp .ne 5, 3), (55, .iconst (-1), 1), (56, .ireturn, 1), (57, .aload_n 0, 1), (58, .iload_n 1, 1), (59, .iconst 0, 1), (60, .invokevirtual 217, 3), (63, .goto (-53), 3), (66, .iconst 0, 1), (67, .ireturn, 1)]
noncomputable def mm_X12_readSum : mv_M := (ic_X12_readSum, fl_X12, [], [], [(230, 1, some 12, false, ff_X12_readProduct), (227, 2, some 12, false, ff_X12_isSign), (221, 1, some 12, true, ff_X12_reads), (217, 3, some 12, true, ff_X12_emits)], [(10, [true, false])], none)
noncomputable def ff_X12_readSum : mv_F := mv_fn mv_rc mm_X12_readSum mv_sh 400 2
theorem dk_X12_readSum : mv_dk cX12_readSum ic_X12_readSum = true := by decide +kernel
set_option maxRecDepth 20000 in
theorem cc_X12_readSum {ad : Nat → Nat → Value} {cA : Nat → ClassId} {D : va_G} {tys : List (ClassId × FieldType)} {A : Nat → Prop} (l : Launch) (hF : mv_Fix mv_sh mv_ids mv_ros ad cA tys A mv_rc) : mv_Met l yX12_readSum cX12_readSum 2 (some .int) mv_Ts (mv_rm 6) 1 false mv_sh mv_ids mv_ros ad cA mv_cl D tys A mv_rc mv_cr (mv_EX ad A) ff_X12_readSum := mv_met_of (by decide +kernel) (by decide) hF mv_stok (mv_rzI (by decide +kernel)) mv_clok (mv_dk_ok dk_X12_readSum) (mv_fk_ok fk_X12) (fun p e s m args below meth c Q hBg hX hR => ⟨fun _ h => absurd h List.not_mem_nil, fun _ h => absurd h List.not_mem_nil⟩) (fun p e s m args below meth c Q hBg hX hR hK => List.forall_mem_cons.mpr ⟨mv_cal_of (cc_X12_readProduct l hF) hBg hX hR hK mv_EX_ok hF mv_good mv_stok cw_X12_230.1 cw_X12_230.2.1 cw_X12_230.2.2 ⟨rfl, rfl, by exact Nat.le_of_ble_eq_true rfl, by exact Nat.le_of_ble_eq_true rfl⟩ ⟨Nat.zero_le _, Nat.zero_le _⟩, List.forall_mem_cons.mpr ⟨mv_cal_of (cc_X12_isSign l hF) hBg hX hR hK mv_EX_ok hF mv_good mv_stok cw_X12_227.1 cw_X12_227.2.1 cw_X12_227.2.2 ⟨rfl, rfl, by exact Nat.le_of_ble_eq_true rfl, by exact Nat.le_of_ble_eq_true rfl⟩ ⟨Nat.zero_le _, Nat.zero_le _⟩, List.forall_mem_cons.mpr ⟨mv_cal_of (cc_X12_reads l hF) hBg hX hR hK mv_EX_ok hF mv_good mv_stok cw_X12_221.1 cw_X12_221.2.1 cw_X12_221.2.2 ⟨rfl, rfl, by exact Nat.le_of_ble_eq_true rfl, by exact Nat.le_of_ble_eq_true rfl⟩ ⟨Nat.zero_le _, Nat.zero_le _⟩, List.forall_mem_cons.mpr ⟨mv_cal_of (cc_X12_emits l hF) hBg hX hR hK mv_EX_ok hF mv_good mv_stok cw_X12_217.1 cw_X12_217.2.1 cw_X12_217.2.2 ⟨rfl, rfl, by exact Nat.le_of_ble_eq_true rfl, by exact Nat.le_of_ble_eq_true rfl⟩ ⟨Nat.zero_le _, Nat.zero_le _⟩, fun _ h => absurd h List.not_mem_nil⟩⟩⟩⟩)
def ic_X12_waits : List (Nat × Instr × Nat) := [(0, .aload_n 0, 1), (1, .getfield 65, 3), (4, .aload_n 0, 1), (5, .getfield 236, 3), (8, .iload_n 1, 1), (9, .iastore, 1), (10, .aload_n 0, 1), (11, .aload_n 0, 1), (12, .getfield 236, 3), (15, .iconst 1, 1), (16, .iadd, 1), (17, .putfield 236, 3), (20, .return_, 1)]
noncomputable def mm_X12_waits : mv_M := (ic_X12_waits, fl_X12, [], [], [], [], none)
noncomputable def ff_X12_waits : mv_F := mv_fn mv_rc mm_X12_waits mv_sh 400 2
theorem dk_X12_waits : mv_dk cX12_waits ic_X12_waits = true := by decide +kernel
set_option maxRecDepth 20000 in
theorem cc_X12_waits {ad : Nat → Nat → Value} {cA : Nat → ClassId} {D : va_G} {tys : List (ClassId × FieldType)} {A : Nat → Prop} (l : Launch) (hF : mv_Fix mv_sh mv_ids mv_ros ad cA tys A mv_rc) : mv_Met l yX12_waits cX12_waits 2 none mv_Ts (mv_rm 1) 2 true mv_sh mv_ids mv_ros ad cA mv_cl D tys A mv_rc mv_cr (mv_EX ad A) ff_X12_waits := mv_met_of (by decide +kernel) (by decide) hF mv_stok (mv_rzV (by decide +kernel)) mv_clok (mv_dk_ok dk_X12_waits) (mv_fk_ok fk_X12) (fun p e s m args below meth c Q hBg hX hR => ⟨fun _ h => absurd h List.not_mem_nil, fun _ h => absurd h List.not_mem_nil⟩) (fun p e s m args below meth c Q hBg hX hR hK => fun _ h => absurd h List.not_mem_nil)
set_option maxRecDepth 20000 in
theorem cw_X12_233 : mv_Cw RX12 233 yX12_readSum cX12_readSum 2 (some .int) (some 12) 1 := mv_cw_of (a := 1639) (b := 143) (c := 1641) (d := 55) (mv_T 1642 rfl rfl) (by decide +kernel)
def ic_X12_readCompared : List (Nat × Instr × Nat) := [(0, .aload_n 0, 1), (1, .invokevirtual 233, 3), (4, .iconst (-1), 1), (5, .if_icmp .ne 5, 3), (8, .iconst (-1), 1), (9, .ireturn, 1), (10, .aload_n 0, 1), (11, .bipush 60, 2), (13, .invokevirtual 227, 3), (16, .ifCond .ne 27, 3), (19, .aload_n 0, 1), (20, .bipush 61, 2), (22, .invokevirtual 227, 3), (25, .ifCond .ne 18, 3), (28, .aload_n 0, 1), (29, .bipush 62, 2), (31, .invokevirtual 227, 3), (34, .ifCond .ne 9, 3), (37, .aload_n 0, 1), (38, .iconst 1, 1), (39, .invokevirtual 214, 3), (42, .ireturn, 1), (43, .aload_n 0, 1), (44, .getfield 183, 3), (47, .bipush 60, 2), (49, .if_icmp .ne 8, 3), (52, .bipush 6, 2), (54, .goto 19, 3), (57, .aload_n 0, 1), (58, .getfield 183, 3), (61, .bipush 61, 2), (63, .if_icmp .ne 8, 3), (66, .bipush 7, 2), (68, .goto 5, 3), (71, .bipush 8, 2), (73, .istore_n 1, 1), (74, .aload_n 0, 1), (75, .invokevirtual 221, 3), (78, .aload_n 0, 1), (79, .invokevirtual 233, 3), (82, .iconst (-1), 1), (83, .if_icmp .ne 5, 3), (86, .iconst (-1), 1), (87, .ireturn, 1), (88, .aload_n 0, 1), (89, .iload_n 1, 1), (90, .iconst 0, 1), (91, .invokevirtual 217, 3), (94, .iconst 0, 1), (95, .ireturn, 1)]
noncomputable def mm_X12_readCompared : mv_M := (ic_X12_readCompared, fl_X12, [], [], [(233, 1, some 12, false, ff_X12_readSum), (227, 2, some 12, false, ff_X12_isSign), (214, 2, some 12, false, ff_X12_errs), (221, 1, some 12, true, ff_X12_reads), (217, 3, some 12, true, ff_X12_emits)], [], none)
noncomputable def ff_X12_readCompared : mv_F := mv_fn mv_rc mm_X12_readCompared mv_sh 400 2
theorem dk_X12_readCompared : mv_dk cX12_readCompared ic_X12_readCompared = true := by decide +kernel
set_option maxRecDepth 20000 in
theorem cc_X12_readCompared {ad : Nat → Nat → Value} {cA : Nat → ClassId} {D : va_G} {tys : List (ClassId × FieldType)} {A : Nat → Prop} (l : Launch) (hF : mv_Fix mv_sh mv_ids mv_ros ad cA tys A mv_rc) : mv_Met l yX12_readCompared cX12_readCompared 2 (some .int) mv_Ts (mv_rm 7) 1 false mv_sh mv_ids mv_ros ad cA mv_cl D tys A mv_rc mv_cr (mv_EX ad A) ff_X12_readCompared := mv_met_of (by decide +kernel) (by decide) hF mv_stok (mv_rzI (by decide +kernel)) mv_clok (mv_dk_ok dk_X12_readCompared) (mv_fk_ok fk_X12) (fun p e s m args below meth c Q hBg hX hR => ⟨fun _ h => absurd h List.not_mem_nil, fun _ h => absurd h List.not_mem_nil⟩) (fun p e s m args below meth c Q hBg hX hR hK => List.forall_mem_cons.mpr ⟨mv_cal_of (cc_X12_readSum l hF) hBg hX hR hK mv_EX_ok hF mv_good mv_stok cw_X12_233.1 cw_X12_233.2.1 cw_X12_233.2.2 ⟨rfl, rfl, by exact Nat.le_of_ble_eq_true rfl, by exact Nat.le_of_ble_eq_true rfl⟩ ⟨Nat.zero_le _, Nat.zero_le _⟩, List.forall_mem_cons.mpr ⟨mv_cal_of (cc_X12_isSign l hF) hBg hX hR hK mv_EX_ok hF mv_good mv_stok cw_X12_227.1 cw_X12_227.2.1 cw_X12_227.2.2 ⟨rfl, rfl, by exact Nat.le_of_ble_eq_true rfl, by exact Nat.le_of_ble_eq_true rfl⟩ ⟨Nat.zero_le _, Nat.zero_le _⟩, List.forall_mem_cons.mpr ⟨mv_cal_of (cc_X12_errs l hF) hBg hX hR hK mv_EX_ok hF mv_good mv_stok cw_X12_214.1 cw_X12_214.2.1 cw_X12_214.2.2 ⟨rfl, rfl, by exact Nat.le_of_ble_eq_true rfl, by exact Nat.le_of_ble_eq_true rfl⟩ ⟨Nat.zero_le _, Nat.zero_le _⟩, List.forall_mem_cons.mpr ⟨mv_cal_of (cc_X12_reads l hF) hBg hX hR hK mv_EX_ok hF mv_good mv_stok cw_X12_221.1 cw_X12_221.2.1 cw_X12_221.2.2 ⟨rfl, rfl, by exact Nat.le_of_ble_eq_true rfl, by exact Nat.le_of_ble_eq_true rfl⟩ ⟨Nat.zero_le _, Nat.zero_le _⟩, List.forall_mem_cons.mpr ⟨mv_cal_of (cc_X12_emits l hF) hBg hX hR hK mv_EX_ok hF mv_good mv_stok cw_X12_217.1 cw_X12_217.2.1 cw_X12_217.2.2 ⟨rfl, rfl, by exact Nat.le_of_ble_eq_true rfl, by exact Nat.le_of_ble_eq_true rfl⟩ ⟨Nat.zero_le _, Nat.zero_le _⟩, fun _ h => absurd h List.not_mem_nil⟩⟩⟩⟩⟩)
def ic_X12_settles : List (Nat × Instr × Nat) := [(0, .aload_n 0, 1), (1, .getfield 236, 3), (4, .ifCond .le 53, 3), (7, .aload_n 0, 1), (8, .getfield 65, 3), (11, .aload_n 0, 1), (12, .getfield 236, 3), (15, .iconst 1, 1), (16, .isub, 1), (17, .iaload, 1), (18, .iload_n 1, 1), (19, .if_icmp .ne 38, 3), (22, .aload_n 0, 1), (23, .aload_n 0, 1), (24, .getfield 236, 3), (27, .iconst 1, 1), (28, .isub, 1), (29, .putfield 236, 3), (32, .aload_n 0, 1), (33, .iload_n 1, 1), (34, .iconst 0, 1), (35, .invokevirtual 217, 3), (38, .iload_n 1, 1), (39, .bipush 9, 2), (41, .if_icmp .ne (-41), 3), (44, .aload_n 0, 1), (45, .aload_n 0, 1), (46, .getfield 239, 3), (49, .iconst 1, 1), (50, .isub, 1), (51, .putfield 239, 3), (54, .goto (-54), 3), (57, .return_, 1)]
noncomputable def mm_X12_settles : mv_M := (ic_X12_settles, fl_X12, [], [], [(217, 3, some 12, true, ff_X12_emits)], [(0, [true, true])], none)
noncomputable def ff_X12_settles : mv_F := mv_fn mv_rc mm_X12_settles mv_sh 400 2
theorem dk_X12_settles : mv_dk cX12_settles ic_X12_settles = true := by decide +kernel
set_option maxRecDepth 20000 in
theorem cc_X12_settles {ad : Nat → Nat → Value} {cA : Nat → ClassId} {D : va_G} {tys : List (ClassId × FieldType)} {A : Nat → Prop} (l : Launch) (hF : mv_Fix mv_sh mv_ids mv_ros ad cA tys A mv_rc) : mv_Met l yX12_settles cX12_settles 2 none mv_Ts (mv_rm 2) 2 true mv_sh mv_ids mv_ros ad cA mv_cl D tys A mv_rc mv_cr (mv_EX ad A) ff_X12_settles := mv_met_of (by decide +kernel) (by decide) hF mv_stok (mv_rzV (by decide +kernel)) mv_clok (mv_dk_ok dk_X12_settles) (mv_fk_ok fk_X12) (fun p e s m args below meth c Q hBg hX hR => ⟨fun _ h => absurd h List.not_mem_nil, fun _ h => absurd h List.not_mem_nil⟩) (fun p e s m args below meth c Q hBg hX hR hK => List.forall_mem_cons.mpr ⟨mv_cal_of (cc_X12_emits l hF) hBg hX hR hK mv_EX_ok hF mv_good mv_stok cw_X12_217.1 cw_X12_217.2.1 cw_X12_217.2.2 ⟨rfl, rfl, by exact Nat.le_of_ble_eq_true rfl, by exact Nat.le_of_ble_eq_true rfl⟩ ⟨Nat.zero_le _, Nat.zero_le _⟩, fun _ h => absurd h List.not_mem_nil⟩)
set_option maxRecDepth 20000 in
theorem cw_X12_245 : mv_Cw RX12 245 yX12_waits cX12_waits 2 none (some 12) 2 := mv_cw_of (a := 1663) (b := 143) (c := 1665) (d := 61) (mv_T 1666 rfl rfl) (by decide +kernel)
set_option maxRecDepth 20000 in
theorem cw_X12_248 : mv_Cw RX12 248 yX12_readCompared cX12_readCompared 2 (some .int) (some 12) 1 := mv_cw_of (a := 1667) (b := 143) (c := 1669) (d := 62) (mv_T 1670 rfl rfl) (by decide +kernel)
set_option maxRecDepth 20000 in
theorem cw_X12_251 : mv_Cw RX12 251 yX12_settles cX12_settles 2 none (some 12) 2 := mv_cw_of (a := 1671) (b := 143) (c := 1673) (d := 63) (mv_T 1674 rfl rfl) (by decide +kernel)
def ic_X12_readAny : List (Nat × Instr × Nat) := [(0, .iconst 0, 1), (1, .istore_n 1, 1), (2, .aload_n 0, 1), (3, .iconst 0, 1), (4, .putfield 236, 3), (7, .iconst 1, 1), (8, .istore_n 2, 1), (9, .iload_n 2, 1), (10, .ifCond .eq 98, 3), (13, .aload_n 0, 1), (14, .iconst 5, 1), (15, .invokevirtual 242, 3), (18, .istore_n 3, 1), (19, .iload_n 3, 1), (20, .ifCond .ne 12, 3), (23, .aload_n 0, 1), (24, .bipush 40, 2), (26, .invokevirtual 227, 3), (29, .ifCond .eq 58, 3), (32, .aload_n 0, 1), (33, .getfield 239, 3), (36, .bipush 8, 2), (38, .if_icmp .ne 9, 3), (41, .aload_n 0, 1), (42, .iconst 3, 1), (43, .invokevirtual 214, 3), (46, .ireturn, 1), (47, .aload_n 0, 1), (48, .aload_n 0, 1), (49, .getfield 239, 3), (52, .iconst 1, 1), (53, .iadd, 1), (54, .putfield 239, 3), (57, .iload_n 3, 1), (58, .ifCond .ne 7, 3), (61, .iload_n 1, 1), (62, .iconst 1, 1), (63, .iadd, 1), (64, .istore_n 1, 1), (65, .aload_n 0, 1), (66, .iload_n 3, 1), (67, .ifCond .eq 8, 3), (70, .bipush 9, 2), (72, .goto 5, 3), (75, .bipush 12, 2), (77, .invokevirtual 245, 3), (80, .aload_n 0, 1), (81, .invokevirtual 221, 3), (84, .goto (-75), 3), (87, .aload_n 0, 1), (88, .invokevirtual 248, 3), (91, .iconst (-1), 1), (92, .if_icmp .ne 5, 3), (95, .iconst (-1), 1), (96, .ireturn, 1), (97, .aload_n 0, 1), (98, .bipush 9, 2), (100, .invokevirtual 251, 3), (103, .iconst 0, 1), (104, .istore_n 2, 1), (105, .goto (-96), 3), (108, .aload_n 0, 1), (109, .iconst 4, 1), (110, .invokevirtual 242, 3), (113, .ifCond .eq 24, 3), (116, .aload_n 0, 1), (117, .bipush 10, 2), (119, .invokevirtual 251, 3), (122, .aload_n 0, 1), (123, .bipush 10, 2), (125, .invokevirtual 245, 3), (128, .aload_n 0, 1), (129, .invokevirtual 221, 3), (132, .iconst 1, 1), (133, .istore_n 2, 1), (134, .goto (-125), 3), (137, .aload_n 0, 1), (138, .iconst 3, 1), (139, .invokevirtual 242, 3), (142, .ifCond .eq 30, 3), (145, .aload_n 0, 1), (146, .bipush 10, 2), (148, .invokevirtual 251, 3), (151, .aload_n 0, 1), (152, .bipush 11, 2), (154, .invokevirtual 251, 3), (157, .aload_n 0, 1), (158, .bipush 11, 2), (160, .invokevirtual 245, 3), (163, .aload_n 0, 1), (164, .invokevirtual 221, 3), (167, .iconst 1, 1), (168, .istore_n 2, 1), (169, .goto (-160), 3), (172, .aload_n 0, 1), (173, .bipush 10, 2), (175, .invokevirtual 251, 3), (178, .aload_n 0, 1), (179, .bipush 11, 2), (181, .invokevirtual 251, 3), (184, .iload_n 1, 1), (185, .ifCond .ne 5, 3), (188, .iconst 0, 1), (189, .ireturn, 1), (190, .aload_n 0, 1), (191, .bipush 41, 2), (193, .invokevirtual 227, 3), (196, .ifCond .ne 9, 3), (199, .aload_n 0, 1), (200, .iconst 1, 1), (201, .invokevirtual 214, 3), (204, .ireturn, 1), (205, .aload_n 0, 1), (206, .aload_n 0, 1), (207, .getfield 236, 3), (210, .iconst 1, 1), (211, .isub, 1), (212, .putfield 236, 3), (215, .iload_n 1, 1), (216, .iconst 1, 1), (217, .isub, 1), (218, .istore_n 1, 1), (219, .aload_n 0, 1), (220, .aload_n 0, 1), (221, .getfield 239, 3), (224, .iconst 1, 1), (225, .isub, 1), (226, .putfield 239, 3), (229, .aload_n 0, 1), (230, .bipush 9, 2), (232, .invokevirtual 251, 3), (235, .aload_n 0, 1), (236, .invokevirtual 221, 3), (239, .goto (-230), 3)]
noncomputable def mm_X12_readAny : mv_M := (ic_X12_readAny, fl_X12, [], [], [(242, 2, some 12, false, ff_X12_isWord), (227, 2, some 12, false, ff_X12_isSign), (214, 2, some 12, false, ff_X12_errs), (245, 2, some 12, true, ff_X12_waits), (221, 1, some 12, true, ff_X12_reads), (248, 1, some 12, false, ff_X12_readCompared), (251, 2, some 12, true, ff_X12_settles)], [(9, [true, true, true, false])], none)
noncomputable def ff_X12_readAny : mv_F := mv_fn mv_rc mm_X12_readAny mv_sh 400 4
theorem dk_X12_readAny : mv_dk cX12_readAny ic_X12_readAny = true := by decide +kernel
set_option maxRecDepth 20000 in
theorem cc_X12_readAny {ad : Nat → Nat → Value} {cA : Nat → ClassId} {D : va_G} {tys : List (ClassId × FieldType)} {A : Nat → Prop} (l : Launch) (hF : mv_Fix mv_sh mv_ids mv_ros ad cA tys A mv_rc) : mv_Met l yX12_readAny cX12_readAny 4 (some .int) mv_Ts (mv_rm 8) 1 false mv_sh mv_ids mv_ros ad cA mv_cl D tys A mv_rc mv_cr (mv_EX ad A) ff_X12_readAny := mv_met_of (by decide +kernel) (by decide) hF mv_stok (mv_rzI (by decide +kernel)) mv_clok (mv_dk_ok dk_X12_readAny) (mv_fk_ok fk_X12) (fun p e s m args below meth c Q hBg hX hR => ⟨fun _ h => absurd h List.not_mem_nil, fun _ h => absurd h List.not_mem_nil⟩) (fun p e s m args below meth c Q hBg hX hR hK => List.forall_mem_cons.mpr ⟨mv_cal_of (cc_X12_isWord l hF) hBg hX hR hK mv_EX_ok hF mv_good mv_stok cw_X12_242.1 cw_X12_242.2.1 cw_X12_242.2.2 ⟨rfl, rfl, by exact Nat.le_of_ble_eq_true rfl, by exact Nat.le_of_ble_eq_true rfl⟩ ⟨Nat.zero_le _, Nat.zero_le _⟩, List.forall_mem_cons.mpr ⟨mv_cal_of (cc_X12_isSign l hF) hBg hX hR hK mv_EX_ok hF mv_good mv_stok cw_X12_227.1 cw_X12_227.2.1 cw_X12_227.2.2 ⟨rfl, rfl, by exact Nat.le_of_ble_eq_true rfl, by exact Nat.le_of_ble_eq_true rfl⟩ ⟨Nat.zero_le _, Nat.zero_le _⟩, List.forall_mem_cons.mpr ⟨mv_cal_of (cc_X12_errs l hF) hBg hX hR hK mv_EX_ok hF mv_good mv_stok cw_X12_214.1 cw_X12_214.2.1 cw_X12_214.2.2 ⟨rfl, rfl, by exact Nat.le_of_ble_eq_true rfl, by exact Nat.le_of_ble_eq_true rfl⟩ ⟨Nat.zero_le _, Nat.zero_le _⟩, List.forall_mem_cons.mpr ⟨mv_cal_of (cc_X12_waits l hF) hBg hX hR hK mv_EX_ok hF mv_good mv_stok cw_X12_245.1 cw_X12_245.2.1 cw_X12_245.2.2 ⟨rfl, rfl, by exact Nat.le_of_ble_eq_true rfl, by exact Nat.le_of_ble_eq_true rfl⟩ ⟨Nat.zero_le _, Nat.zero_le _⟩, List.forall_mem_cons.mpr ⟨mv_cal_of (cc_X12_reads l hF) hBg hX hR hK mv_EX_ok hF mv_good mv_stok cw_X12_221.1 cw_X12_221.2.1 cw_X12_221.2.2 ⟨rfl, rfl, by exact Nat.le_of_ble_eq_true rfl, by exact Nat.le_of_ble_eq_true rfl⟩ ⟨Nat.zero_le _, Nat.zero_le _⟩, List.forall_mem_cons.mpr ⟨mv_cal_of (cc_X12_readCompared l hF) hBg hX hR hK mv_EX_ok hF mv_good mv_stok cw_X12_248.1 cw_X12_248.2.1 cw_X12_248.2.2 ⟨rfl, rfl, by exact Nat.le_of_ble_eq_true rfl, by exact Nat.le_of_ble_eq_true rfl⟩ ⟨Nat.zero_le _, Nat.zero_le _⟩, List.forall_mem_cons.mpr ⟨mv_cal_of (cc_X12_settles l hF) hBg hX hR hK mv_EX_ok hF mv_good mv_stok cw_X12_251.1 cw_X12_251.2.1 cw_X12_251.2.2 ⟨rfl, rfl, by exact Nat.le_of_ble_eq_true rfl, by exact Nat.le_of_ble_eq_true rfl⟩ ⟨Nat.zero_le _, Nat.zero_le _⟩, fun _ h => absurd h List.not_mem_nil⟩⟩⟩⟩⟩⟩⟩)
end
section
set_option maxRecDepth 20000 in
theorem cw_X12_254 : mv_Cw RX12 254 yX12_isLineWord cX12_isLineWord 1 (some .boolean) (some 12) 1 := mv_cw_of (a := 1635) (b := 143) (c := 1637) (d := 54) (mv_T 1638 rfl rfl) (by decide +kernel)
set_option maxRecDepth 20000 in
theorem cw_X12_258 : mv_Cw RX12 258 yX12_readAny cX12_readAny 4 (some .int) (some 12) 1 := mv_cw_of (a := 1659) (b := 143) (c := 1661) (d := 60) (mv_T 1662 rfl rfl) (by decide +kernel)
def ic_X12_readLaw : List (Nat × Instr × Nat) := [(0, .iconst 0, 1), (1, .istore_n 1, 1), (2, .aload_n 0, 1), (3, .invokevirtual 254, 3), (6, .ifCond .eq 112, 3), (9, .iload_n 1, 1), (10, .bipush 16, 2), (12, .if_icmp .ne 9, 3), (15, .aload_n 0, 1), (16, .iconst 3, 1), (17, .invokevirtual 214, 3), (20, .ireturn, 1), (21, .bipush 32, 2), (23, .iload_n 1, 1), (24, .iadd, 1), (25, .istore_n 2, 1), (26, .aload_n 0, 1), (27, .invokevirtual 221, 3), (30, .aload_n 0, 1), (31, .getfield 50, 3), (34, .iload_n 2, 1), (35, .aload_n 0, 1), (36, .getfield 205, 3), (39, .iastore, 1), (40, .aload_n 0, 1), (41, .invokevirtual 233, 3), (44, .iconst (-1), 1), (45, .if_icmp .ne 5, 3), (48, .iconst (-1), 1), (49, .ireturn, 1), (50, .aload_n 0, 1), (51, .getfield 53, 3), (54, .iload_n 2, 1), (55, .aload_n 0, 1), (56, .getfield 205, 3), (59, .iastore, 1), (60, .aload_n 0, 1), (61, .iconst 2, 1), (62, .invokevirtual 242, 3), (65, .ifCond .eq 17, 3), (68, .aload_n 0, 1), (69, .invokevirtual 221, 3), (72, .aload_n 0, 1), (73, .invokevirtual 258, 3), (76, .iconst (-1), 1), (77, .if_icmp .ne 5, 3), (80, .iconst (-1), 1), (81, .ireturn, 1), (82, .aload_n 0, 1), (83, .getfield 56, 3), (86, .iload_n 2, 1), (87, .aload_n 0, 1), (88, .getfield 205, 3), (91, .iastore, 1), (92, .aload_n 0, 1), (93, .bipush 59, 2), (95, .invokevirtual 227, 3), (98, .ifCond .ne 9, 3), (101, .aload_n 0, 1), (102, .iconst 1, 1), (103, .invokevirtual 214, 3), (106, .ireturn, 1), (107, .aload_n 0, 1), (108, .invokevirtual 221, 3), (111, .iload_n 1, 1), (112, .iconst 1, 1), (113, .iadd, 1), (114, .istore_n 1, 1), (115, .goto (-113), 3), (118, .aload_n 0, 1), (119, .getfield 180, 3), (122, .ifCond .ne 7, 3), (125, .iload_n 1, 1), (126, .goto 8, 3), (129, .aload_n 0, 1), (130, .iconst 1, 1), (131, .invokevirtual 214, 3), (134, .ireturn, 1)]
noncomputable def mm_X12_readLaw : mv_M := (ic_X12_readLaw, fl_X12, [], [], [(254, 1, some 12, false, ff_X12_isLineWord), (214, 2, some 12, false, ff_X12_errs), (221, 1, some 12, true, ff_X12_reads), (233, 1, some 12, false, ff_X12_readSum), (242, 2, some 12, false, ff_X12_isWord), (258, 1, some 12, false, ff_X12_readAny), (227, 2, some 12, false, ff_X12_isSign)], [(2, [true, true, false])], none)
noncomputable def ff_X12_readLaw : mv_F := mv_fn mv_rc mm_X12_readLaw mv_sh 400 3
theorem dk_X12_readLaw : mv_dk cX12_readLaw ic_X12_readLaw = true := by decide +kernel
set_option maxRecDepth 20000 in
theorem cc_X12_readLaw {ad : Nat → Nat → Value} {cA : Nat → ClassId} {D : va_G} {tys : List (ClassId × FieldType)} {A : Nat → Prop} (l : Launch) (hF : mv_Fix mv_sh mv_ids mv_ros ad cA tys A mv_rc) : mv_Met l yX12_readLaw cX12_readLaw 3 (some .int) mv_Ts (mv_rm 9) 1 false mv_sh mv_ids mv_ros ad cA mv_cl D tys A mv_rc mv_cr (mv_EX ad A) ff_X12_readLaw := mv_met_of (by decide +kernel) (by decide) hF mv_stok (mv_rzI (by decide +kernel)) mv_clok (mv_dk_ok dk_X12_readLaw) (mv_fk_ok fk_X12) (fun p e s m args below meth c Q hBg hX hR => ⟨fun _ h => absurd h List.not_mem_nil, fun _ h => absurd h List.not_mem_nil⟩) (fun p e s m args below meth c Q hBg hX hR hK => List.forall_mem_cons.mpr ⟨mv_cal_of (cc_X12_isLineWord l hF) hBg hX hR hK mv_EX_ok hF mv_good mv_stok cw_X12_254.1 cw_X12_254.2.1 cw_X12_254.2.2 ⟨rfl, rfl, by exact Nat.le_of_ble_eq_true rfl, by exact Nat.le_of_ble_eq_true rfl⟩ ⟨Nat.zero_le _, Nat.zero_le _⟩, List.forall_mem_cons.mpr ⟨mv_cal_of (cc_X12_errs l hF) hBg hX hR hK mv_EX_ok hF mv_good mv_stok cw_X12_214.1 cw_X12_214.2.1 cw_X12_214.2.2 ⟨rfl, rfl, by exact Nat.le_of_ble_eq_true rfl, by exact Nat.le_of_ble_eq_true rfl⟩ ⟨Nat.zero_le _, Nat.zero_le _⟩, List.forall_mem_cons.mpr ⟨mv_cal_of (cc_X12_reads l hF) hBg hX hR hK mv_EX_ok hF mv_good mv_stok cw_X12_221.1 cw_X12_221.2.1 cw_X12_221.2.2 ⟨rfl, rfl, by exact Nat.le_of_ble_eq_true rfl, by exact Nat.le_of_ble_eq_true rfl⟩ ⟨Nat.zero_le _, Nat.zero_le _⟩, List.forall_mem_cons.mpr ⟨mv_cal_of (cc_X12_readSum l hF) hBg hX hR hK mv_EX_ok hF mv_good mv_stok cw_X12_233.1 cw_X12_233.2.1 cw_X12_233.2.2 ⟨rfl, rfl, by exact Nat.le_of_ble_eq_true rfl, by exact Nat.le_of_ble_eq_true rfl⟩ ⟨Nat.zero_le _, Nat.zero_le _⟩, List.forall_mem_cons.mpr ⟨mv_cal_of (cc_X12_isWord l hF) hBg hX hR hK mv_EX_ok hF mv_good mv_stok cw_X12_242.1 cw_X12_242.2.1 cw_X12_242.2.2 ⟨rfl, rfl, by exact Nat.le_of_ble_eq_true rfl, by exact Nat.le_of_ble_eq_true rfl⟩ ⟨Nat.zero_le _, Nat.zero_le _⟩, List.forall_mem_cons.mpr ⟨mv_cal_of (cc_X12_readAny l hF) hBg hX hR hK mv_EX_ok hF mv_good mv_stok cw_X12_258.1 cw_X12_258.2.1 cw_X12_258.2.2 ⟨rfl, rfl, by exact Nat.le_of_ble_eq_true rfl, by exact Nat.le_of_ble_eq_true rfl⟩ ⟨Nat.zero_le _, Nat.zero_le _⟩, List.forall_mem_cons.mpr ⟨mv_cal_of (cc_X12_isSign l hF) hBg hX hR hK mv_EX_ok hF mv_good mv_stok cw_X12_227.1 cw_X12_227.2.1 cw_X12_227.2.2 ⟨rfl, rfl, by exact Nat.le_of_ble_eq_true rfl, by exact Nat.le_of_ble_eq_true rfl⟩ ⟨Nat.zero_le _, Nat.zero_le _⟩, fun _ h => absurd h List.not_mem_nil⟩⟩⟩⟩⟩⟩⟩)
def ic_X12_takesDay : List (Nat × Instr × Nat) := [(0, .iconst 0, 1), (1, .istore_n 2, 1), (2, .iload_n 2, 1), (3, .iconst 3, 1), (4, .iload_n 1, 1), (5, .imul, 1), (6, .if_icmp .ge 24, 3), (9, .aload_n 0, 1), (10, .getfield 72, 3), (13, .iload_n 2, 1), (14, .aload_n 0, 1), (15, .getfield 72, 3), (18, .bipush 72, 2), (20, .iload_n 2, 1), (21, .iadd, 1), (22, .iaload, 1), (23, .iastore, 1), (24, .iinc 2 1, 3), (27, .goto (-25), 3), (30, .aload_n 0, 1), (31, .iload_n 1, 1), (32, .putfield 146, 3), (35, .aload_n 0, 1), (36, .iconst 0, 1), (37, .putfield 129, 3), (40, .return_, 1)]
noncomputable def mm_X12_takesDay : mv_M := (ic_X12_takesDay, fl_X12, [], [], [], [(2, [true, true, true])], none)
noncomputable def ff_X12_takesDay : mv_F := mv_fn mv_rc mm_X12_takesDay mv_sh 400 3
theorem dk_X12_takesDay : mv_dk cX12_takesDay ic_X12_takesDay = true := by decide +kernel
set_option maxRecDepth 20000 in
theorem cc_X12_takesDay {ad : Nat → Nat → Value} {cA : Nat → ClassId} {D : va_G} {tys : List (ClassId × FieldType)} {A : Nat → Prop} (l : Launch) (hF : mv_Fix mv_sh mv_ids mv_ros ad cA tys A mv_rc) : mv_Met l yX12_takesDay cX12_takesDay 3 none mv_Ts (mv_rm 1) 2 true mv_sh mv_ids mv_ros ad cA mv_cl D tys A mv_rc mv_cr (mv_EX ad A) ff_X12_takesDay := mv_met_of (by decide +kernel) (by decide) hF mv_stok (mv_rzV (by decide +kernel)) mv_clok (mv_dk_ok dk_X12_takesDay) (mv_fk_ok fk_X12) (fun p e s m args below meth c Q hBg hX hR => ⟨fun _ h => absurd h List.not_mem_nil, fun _ h => absurd h List.not_mem_nil⟩) (fun p e s m args below meth c Q hBg hX hR hK => fun _ h => absurd h List.not_mem_nil)
def ic_X12_takesLaw : List (Nat × Instr × Nat) := [(0, .iconst 0, 1), (1, .istore_n 2, 1), (2, .iload_n 2, 1), (3, .iload_n 1, 1), (4, .if_icmp .ge 78, 3), (7, .aload_n 0, 1), (8, .getfield 50, 3), (11, .bipush 16, 2), (13, .aload_n 0, 1), (14, .getfield 208, 3), (17, .imul, 1), (18, .iload_n 2, 1), (19, .iadd, 1), (20, .aload_n 0, 1), (21, .getfield 50, 3), (24, .bipush 32, 2), (26, .iload_n 2, 1), (27, .iadd, 1), (28, .iaload, 1), (29, .iastore, 1), (30, .aload_n 0, 1), (31, .getfield 53, 3), (34, .bipush 16, 2), (36, .aload_n 0, 1), (37, .getfield 208, 3), (40, .imul, 1), (41, .iload_n 2, 1), (42, .iadd, 1), (43, .aload_n 0, 1), (44, .getfield 53, 3), (47, .bipush 32, 2), (49, .iload_n 2, 1), (50, .iadd, 1), (51, .iaload, 1), (52, .iastore, 1), (53, .aload_n 0, 1), (54, .getfield 56, 3), (57, .bipush 16, 2), (59, .aload_n 0, 1), (60, .getfield 208, 3), (63, .imul, 1), (64, .iload_n 2, 1), (65, .iadd, 1), (66, .aload_n 0, 1), (67, .getfield 56, 3), (70, .bipush 32, 2), (72, .iload_n 2, 1), (73, .iadd, 1), (74, .iaload, 1), (75, .iastore, 1), (76, .iinc 2 1, 3), (79, .goto (-77), 3), (82, .iconst 0, 1), (83, .istore_n 2, 1), (84, .iload_n 2, 1), (85, .aload_n 0, 1), (86, .getfield 205, 3), (89, .if_icmp .ge 59, 3), (92, .aload_n 0, 1), (93, .getfield 59, 3), (96, .sipush 400, 3), (99, .aload_n 0, 1), (100, .getfield 208, 3), (103, .imul, 1), (104, .iload_n 2, 1), (105, .iadd, 1), (106, .aload_n 0, 1), (107, .getfield 59, 3), (110, .sipush 800, 3), (113, .iload_n 2, 1), (114, .iadd, 1), (115, .iaload, 1), (116, .iastore, 1), (117, .aload_n 0, 1), (118, .getfield 62, 3), (121, .sipush 400, 3), (124, .aload_n 0, 1), (125, .getfield 208, 3), (128, .imul, 1), (129, .iload_n 2, 1), (130, .iadd, 1), (131, .aload_n 0, 1), (132, .getfield 62, 3), (135, .sipush 800, 3), (138, .iload_n 2, 1), (139, .iadd, 1), (140, .iaload, 1), (141, .iastore, 1), (142, .iinc 2 1, 3), (145, .goto (-61), 3), (148, .aload_n 0, 1), (149, .getfield 47, 3), (152, .aload_n 0, 1), (153, .getfield 208, 3), (156, .iload_n 1, 1), (157, .iastore, 1), (158, .return_, 1)]
noncomputable def mm_X12_takesLaw : mv_M := (ic_X12_takesLaw, fl_X12, [], [], [], [(2, [true, true, true]), (84, [true, true, true])], none)
noncomputable def ff_X12_takesLaw : mv_F := mv_fn mv_rc mm_X12_takesLaw mv_sh 400 3
theorem dk_X12_takesLaw : mv_dk cX12_takesLaw ic_X12_takesLaw = true := by decide +kernel
set_option maxRecDepth 20000 in
theorem cc_X12_takesLaw {ad : Nat → Nat → Value} {cA : Nat → ClassId} {D : va_G} {tys : List (ClassId × FieldType)} {A : Nat → Prop} (l : Launch) (hF : mv_Fix mv_sh mv_ids mv_ros ad cA tys A mv_rc) : mv_Met l yX12_takesLaw cX12_takesLaw 3 none mv_Ts (mv_rm 1) 2 true mv_sh mv_ids mv_ros ad cA mv_cl D tys A mv_rc mv_cr (mv_EX ad A) ff_X12_takesLaw := mv_met_of (by decide +kernel) (by decide) hF mv_stok (mv_rzV (by decide +kernel)) mv_clok (mv_dk_ok dk_X12_takesLaw) (mv_fk_ok fk_X12) (fun p e s m args below meth c Q hBg hX hR => ⟨fun _ h => absurd h List.not_mem_nil, fun _ h => absurd h List.not_mem_nil⟩) (fun p e s m args below meth c Q hBg hX hR hK => fun _ h => absurd h List.not_mem_nil)
set_option maxRecDepth 20000 in
theorem cw_X12_270 : mv_Cw RX12 270 yX12_readDay cX12_readDay 2 (some .int) (some 12) 1 := mv_cw_of (a := 1607) (b := 143) (c := 1609) (d := 47) (mv_T 1610 rfl rfl) (by decide +kernel)
set_option maxRecDepth 20000 in
theorem cw_X12_273 : mv_Cw RX12 273 yX12_readLaw cX12_readLaw 3 (some .int) (some 12) 1 := mv_cw_of (a := 1631) (b := 143) (c := 1633) (d := 53) (mv_T 1634 rfl rfl) (by decide +kernel)
set_option maxRecDepth 20000 in
theorem cw_X12_276 : mv_Cw RX12 276 yX12_takesDay cX12_takesDay 3 none (some 12) 2 := mv_cw_of (a := 1675) (b := 143) (c := 1677) (d := 64) (mv_T 1678 rfl rfl) (by decide +kernel)
set_option maxRecDepth 20000 in
theorem cw_X12_279 : mv_Cw RX12 279 yX12_takesLaw cX12_takesLaw 3 none (some 12) 2 := mv_cw_of (a := 1679) (b := 143) (c := 1681) (d := 65) (mv_T 1682 rfl rfl) (by decide +kernel)
def ic_X12_text : List (Nat × Instr × Nat) := [(0, .aload_n 0, 1), (1, .iconst 0, 1), (2, .putfield 126, 3), (5, .aload_n 0, 1), (6, .iconst 0, 1), (7, .putfield 267, 3), (10, .aload_n 0, 1), (11, .iconst (-1), 1), (12, .putfield 68, 3), (15, .aload_n 0, 1), (16, .iconst 0, 1), (17, .putfield 171, 3), (20, .aload_n 0, 1), (21, .iconst 0, 1), (22, .putfield 205, 3), (25, .aload_n 0, 1), (26, .iconst 0, 1), (27, .putfield 239, 3), (30, .aload_n 0, 1), (31, .iload_n 1, 1), (32, .putfield 208, 3), (35, .iconst (-1), 1), (36, .istore_n 2, 1), (37, .aload_n 0, 1), (38, .iload_n 1, 1), (39, .iconst 0, 1), (40, .iconst 2, 1), (41, .invokevirtual 142, 3), (44, .ifCond .eq 45, 3), (47, .aload_n 0, 1), (48, .invokevirtual 221, 3), (51, .iload_n 1, 1), (52, .iconst 2, 1), (53, .if_icmp .ne 10, 3), (56, .aload_n 0, 1), (57, .invokevirtual 270, 3), (60, .goto 7, 3), (63, .aload_n 0, 1), (64, .invokevirtual 273, 3), (67, .istore_n 2, 1), (68, .iload_n 2, 1), (69, .iconst (-1), 1), (70, .if_icmp .ne 19, 3), (73, .aload_n 0, 1), (74, .aload_n 0, 1), (75, .getfield 199, 3), (78, .putfield 267, 3), (81, .aload_n 0, 1), (82, .aload_n 0, 1), (83, .getfield 202, 3), (86, .putfield 68, 3), (89, .aload_n 0, 1), (90, .iconst 0, 1), (91, .putfield 164, 3), (94, .iload_n 2, 1), (95, .iconst (-1), 1), (96, .if_icmp .ne 5, 3), (99, .iconst (-1), 1), (100, .ireturn, 1), (101, .iload_n 1, 1), (102, .iconst 2, 1), (103, .if_icmp .ne 11, 3), (106, .aload_n 0, 1), (107, .iload_n 2, 1), (108, .invokevirtual 276, 3), (111, .goto 8, 3), (114, .aload_n 0, 1), (115, .iload_n 2, 1), (116, .invokevirtual 279, 3), (119, .iload_n 2, 1), (120, .ireturn, 1)]
noncomputable def mm_X12_text : mv_M := (ic_X12_text, fl_X12, [], [], [(142, 4, some 12, false, ff_X12_isIn), (221, 1, some 12, true, ff_X12_reads), (270, 1, some 12, false, ff_X12_readDay), (273, 1, some 12, false, ff_X12_readLaw), (276, 2, some 12, true, ff_X12_takesDay), (279, 2, some 12, true, ff_X12_takesLaw)], [], none)
noncomputable def ff_X12_text : mv_F := mv_fn mv_rc mm_X12_text mv_sh 400 3
theorem dk_X12_text : mv_dk cX12_text ic_X12_text = true := by decide +kernel
set_option maxRecDepth 20000 in
theorem cc_X12_text {ad : Nat → Nat → Value} {cA : Nat → ClassId} {D : va_G} {tys : List (ClassId × FieldType)} {A : Nat → Prop} (l : Launch) (hF : mv_Fix mv_sh mv_ids mv_ros ad cA tys A mv_rc) : mv_Met l yX12_text cX12_text 3 (some .int) mv_Ts (mv_rm 10) 2 false mv_sh mv_ids mv_ros ad cA mv_cl D tys A mv_rc mv_cr (mv_EX ad A) ff_X12_text := mv_met_of (by decide +kernel) (by decide) hF mv_stok (mv_rzI (by decide +kernel)) mv_clok (mv_dk_ok dk_X12_text) (mv_fk_ok fk_X12) (fun p e s m args below meth c Q hBg hX hR => ⟨fun _ h => absurd h List.not_mem_nil, fun _ h => absurd h List.not_mem_nil⟩) (fun p e s m args below meth c Q hBg hX hR hK => List.forall_mem_cons.mpr ⟨mv_cal_of (cc_X12_isIn l hF) hBg hX hR hK mv_EX_ok hF mv_good mv_stok cw_X12_142.1 cw_X12_142.2.1 cw_X12_142.2.2 ⟨rfl, rfl, by exact Nat.le_of_ble_eq_true rfl, by exact Nat.le_of_ble_eq_true rfl⟩ ⟨Nat.zero_le _, Nat.zero_le _⟩, List.forall_mem_cons.mpr ⟨mv_cal_of (cc_X12_reads l hF) hBg hX hR hK mv_EX_ok hF mv_good mv_stok cw_X12_221.1 cw_X12_221.2.1 cw_X12_221.2.2 ⟨rfl, rfl, by exact Nat.le_of_ble_eq_true rfl, by exact Nat.le_of_ble_eq_true rfl⟩ ⟨Nat.zero_le _, Nat.zero_le _⟩, List.forall_mem_cons.mpr ⟨mv_cal_of (cc_X12_readDay l hF) hBg hX hR hK mv_EX_ok hF mv_good mv_stok cw_X12_270.1 cw_X12_270.2.1 cw_X12_270.2.2 ⟨rfl, rfl, by exact Nat.le_of_ble_eq_true rfl, by exact Nat.le_of_ble_eq_true rfl⟩ ⟨Nat.zero_le _, Nat.zero_le _⟩, List.forall_mem_cons.mpr ⟨mv_cal_of (cc_X12_readLaw l hF) hBg hX hR hK mv_EX_ok hF mv_good mv_stok cw_X12_273.1 cw_X12_273.2.1 cw_X12_273.2.2 ⟨rfl, rfl, by exact Nat.le_of_ble_eq_true rfl, by exact Nat.le_of_ble_eq_true rfl⟩ ⟨Nat.zero_le _, Nat.zero_le _⟩, List.forall_mem_cons.mpr ⟨mv_cal_of (cc_X12_takesDay l hF) hBg hX hR hK mv_EX_ok hF mv_good mv_stok cw_X12_276.1 cw_X12_276.2.1 cw_X12_276.2.2 ⟨rfl, rfl, by exact Nat.le_of_ble_eq_true rfl, by exact Nat.le_of_ble_eq_true rfl⟩ ⟨Nat.zero_le _, Nat.zero_le _⟩, List.forall_mem_cons.mpr ⟨mv_cal_of (cc_X12_takesLaw l hF) hBg hX hR hK mv_EX_ok hF mv_good mv_stok cw_X12_279.1 cw_X12_279.2.1 cw_X12_279.2.2 ⟨rfl, rfl, by exact Nat.le_of_ble_eq_true rfl, by exact Nat.le_of_ble_eq_true rfl⟩ ⟨Nat.zero_le _, Nat.zero_le _⟩, fun _ h => absurd h List.not_mem_nil⟩⟩⟩⟩⟩⟩)
def ic_X7_isLetter : List (Nat × Instr × Nat) := [(0, .iload_n 0, 1), (1, .bipush 97, 2), (3, .if_icmp .lt 9, 3), (6, .iload_n 0, 1), (7, .bipush 122, 2), (9, .if_icmp .le 15, 3), (12, .iload_n 0, 1), (13, .bipush 65, 2), (15, .if_icmp .lt 13, 3), (18, .iload_n 0, 1), (19, .bipush 90, 2), (21, .if_icmp .gt 7, 3), (24, .iconst 1, 1), (25, .goto 4, 3), (28, .iconst 0, 1), (29, .ireturn, 1)]
noncomputable def mm_X7_isLetter : mv_M := (ic_X7_isLetter, fl_X7, [], [], [], [], (some (0, 1)))
noncomputable def ff_X7_isLetter : mv_F := mv_fn mv_rc mm_X7_isLetter mv_sh 400 1
theorem dk_X7_isLetter : mv_dk cX7_isLetter ic_X7_isLetter = true := by decide +kernel
set_option maxRecDepth 20000 in
theorem cc_X7_isLetter {ad : Nat → Nat → Value} {cA : Nat → ClassId} {D : va_G} {tys : List (ClassId × FieldType)} {A : Nat → Prop} (l : Launch) (hF : mv_Fix mv_sh mv_ids mv_ros ad cA tys A mv_rc) : mv_Met l yX7_isLetter cX7_isLetter 1 (some .boolean) mv_Ts (mv_rm 1) 1 false mv_sh mv_ids mv_ros ad cA mv_cl D tys A mv_rc mv_cr (mv_EX ad A) ff_X7_isLetter := mv_met_of (by decide +kernel) (by decide) hF mv_stok (mv_rzZ (by decide +kernel) rfl) mv_clok (mv_dk_ok dk_X7_isLetter) (mv_fk_ok fk_X7) (fun p e s m args below meth c Q hBg hX hR => ⟨fun _ h => absurd h List.not_mem_nil, fun _ h => absurd h List.not_mem_nil⟩) (fun p e s m args below meth c Q hBg hX hR hK => fun _ h => absurd h List.not_mem_nil)
def ic_X7_isDigit : List (Nat × Instr × Nat) := [(0, .iload_n 0, 1), (1, .bipush 48, 2), (3, .if_icmp .lt 13, 3), (6, .iload_n 0, 1), (7, .bipush 57, 2), (9, .if_icmp .gt 7, 3), (12, .iconst 1, 1), (13, .goto 4, 3), (16, .iconst 0, 1), (17, .ireturn, 1)]
noncomputable def mm_X7_isDigit : mv_M := (ic_X7_isDigit, fl_X7, [], [], [], [], (some (0, 1)))
noncomputable def ff_X7_isDigit : mv_F := mv_fn mv_rc mm_X7_isDigit mv_sh 400 1
theorem dk_X7_isDigit : mv_dk cX7_isDigit ic_X7_isDigit = true := by decide +kernel
set_option maxRecDepth 20000 in
theorem cc_X7_isDigit {ad : Nat → Nat → Value} {cA : Nat → ClassId} {D : va_G} {tys : List (ClassId × FieldType)} {A : Nat → Prop} (l : Launch) (hF : mv_Fix mv_sh mv_ids mv_ros ad cA tys A mv_rc) : mv_Met l yX7_isDigit cX7_isDigit 1 (some .boolean) mv_Ts (mv_rm 1) 1 false mv_sh mv_ids mv_ros ad cA mv_cl D tys A mv_rc mv_cr (mv_EX ad A) ff_X7_isDigit := mv_met_of (by decide +kernel) (by decide) hF mv_stok (mv_rzZ (by decide +kernel) rfl) mv_clok (mv_dk_ok dk_X7_isDigit) (mv_fk_ok fk_X7) (fun p e s m args below meth c Q hBg hX hR => ⟨fun _ h => absurd h List.not_mem_nil, fun _ h => absurd h List.not_mem_nil⟩) (fun p e s m args below meth c Q hBg hX hR hK => fun _ h => absurd h List.not_mem_nil)
def ic_J0_coder_7d493 : List (Nat × Instr × Nat) := [(0, .getstatic 38, 3), (3, .ifCond .eq 10, 3), (6, .aload_n 0, 1), (7, .getfield 15, 3), (10, .goto 4, 3), (13, .iconst 1, 1), (14, .ireturn, 1)]
noncomputable def mm_J0_coder_7d493 : mv_M := (ic_J0_coder_7d493, fl_J0, [], [(38, .inl 1)], [], [], (some (-128, 127)))
noncomputable def ff_J0_coder_7d493 : mv_F := mv_fn mv_rc mm_J0_coder_7d493 mv_sh 400 1
theorem dk_J0_coder_7d493 : mv_dk cJ0_coder_7d493 ic_J0_coder_7d493 = true := by decide +kernel
set_option maxRecDepth 20000 in
theorem cc_J0_coder_7d493 {ad : Nat → Nat → Value} {cA : Nat → ClassId} {D : va_G} {tys : List (ClassId × FieldType)} {A : Nat → Prop} (l : Launch) (hF : mv_Fix mv_sh mv_ids mv_ros ad cA tys A mv_rc) : mv_Met l yJ0_coder_7d493 cJ0_coder_7d493 1 (some .byte) mv_Ts (mv_rm 1) 1 false mv_sh mv_ids mv_ros ad cA mv_cl D tys A mv_rc mv_cr (mv_EX ad A) ff_J0_coder_7d493 := mv_met_of (by decide +kernel) (by decide) hF mv_stok (mv_rzB (by decide +kernel) rfl) mv_clok (mv_dk_ok dk_J0_coder_7d493) (mv_fk_ok fk_J0) (fun p e s m args below meth c Q hBg hX hR => ⟨fun _ h => absurd h List.not_mem_nil, List.forall_mem_cons.mpr ⟨mv_st_z hBg ((by show mv_in 1; unfold mv_in; decide)) (mv_T 888 rfl rfl) hX.2.2.1, fun _ h => absurd h List.not_mem_nil⟩⟩) (fun p e s m args below meth c Q hBg hX hR hK => fun _ h => absurd h List.not_mem_nil)
set_option maxRecDepth 20000 in
theorem cw_J0_335 : mv_Cw RJ0 335 yJ0_coder_7d493 cJ0_coder_7d493 1 (some .byte) (some 100) 1 := mv_cw_of (a := 884) (b := 145) (c := 885) (d := 886) (mv_T 887 rfl rfl) (by decide +kernel)
def ic_J0_length_8abf5 : List (Nat × Instr × Nat) := [(0, .aload_n 0, 1), (1, .getfield 9, 3), (4, .arraylength, 1), (5, .aload_n 0, 1), (6, .invokevirtual 335, 3), (9, .ishr, 1), (10, .ireturn, 1)]
noncomputable def mm_J0_length_8abf5 : mv_M := (ic_J0_length_8abf5, fl_J0, [], [], [(335, 1, some 100, false, ff_J0_coder_7d493)], [], none)
noncomputable def ff_J0_length_8abf5 : mv_F := mv_fn mv_rc mm_J0_length_8abf5 mv_sh 400 1
theorem dk_J0_length_8abf5 : mv_dk cJ0_length_8abf5 ic_J0_length_8abf5 = true := by decide +kernel
set_option maxRecDepth 20000 in
theorem cc_J0_length_8abf5 {ad : Nat → Nat → Value} {cA : Nat → ClassId} {D : va_G} {tys : List (ClassId × FieldType)} {A : Nat → Prop} (l : Launch) (hF : mv_Fix mv_sh mv_ids mv_ros ad cA tys A mv_rc) : mv_Met l yJ0_length_8abf5 cJ0_length_8abf5 1 (some .int) mv_Ts (mv_rm 2) 1 false mv_sh mv_ids mv_ros ad cA mv_cl D tys A mv_rc mv_cr (mv_EX ad A) ff_J0_length_8abf5 := mv_met_of (by decide +kernel) (by decide) hF mv_stok (mv_rzI (by decide +kernel)) mv_clok (mv_dk_ok dk_J0_length_8abf5) (mv_fk_ok fk_J0) (fun p e s m args below meth c Q hBg hX hR => ⟨fun _ h => absurd h List.not_mem_nil, fun _ h => absurd h List.not_mem_nil⟩) (fun p e s m args below meth c Q hBg hX hR hK => List.forall_mem_cons.mpr ⟨mv_cal_of (cc_J0_coder_7d493 l hF) hBg hX hR hK mv_EX_ok hF mv_good mv_stok cw_J0_335.1 cw_J0_335.2.1 cw_J0_335.2.2 ⟨rfl, rfl, by exact Nat.le_of_ble_eq_true rfl, by exact Nat.le_of_ble_eq_true rfl⟩ ⟨Nat.zero_le _, Nat.zero_le _⟩, fun _ h => absurd h List.not_mem_nil⟩)
def ic_J0_isLatin1_aae02 : List (Nat × Instr × Nat) := [(0, .getstatic 38, 3), (3, .ifCond .eq 14, 3), (6, .aload_n 0, 1), (7, .getfield 15, 3), (10, .ifCond .ne 7, 3), (13, .iconst 1, 1), (14, .goto 4, 3), (17, .iconst 0, 1), (18, .ireturn, 1)]
noncomputable def mm_J0_isLatin1_aae02 : mv_M := (ic_J0_isLatin1_aae02, fl_J0, [], [(38, .inl 1)], [], [], (some (0, 1)))
noncomputable def ff_J0_isLatin1_aae02 : mv_F := mv_fn mv_rc mm_J0_isLatin1_aae02 mv_sh 400 1
theorem dk_J0_isLatin1_aae02 : mv_dk cJ0_isLatin1_aae02 ic_J0_isLatin1_aae02 = true := by decide +kernel
set_option maxRecDepth 20000 in
theorem cc_J0_isLatin1_aae02 {ad : Nat → Nat → Value} {cA : Nat → ClassId} {D : va_G} {tys : List (ClassId × FieldType)} {A : Nat → Prop} (l : Launch) (hF : mv_Fix mv_sh mv_ids mv_ros ad cA tys A mv_rc) : mv_Met l yJ0_isLatin1_aae02 cJ0_isLatin1_aae02 1 (some .boolean) mv_Ts (mv_rm 1) 1 false mv_sh mv_ids mv_ros ad cA mv_cl D tys A mv_rc mv_cr (mv_EX ad A) ff_J0_isLatin1_aae02 := mv_met_of (by decide +kernel) (by decide) hF mv_stok (mv_rzZ (by decide +kernel) rfl) mv_clok (mv_dk_ok dk_J0_isLatin1_aae02) (mv_fk_ok fk_J0) (fun p e s m args below meth c Q hBg hX hR => ⟨fun _ h => absurd h List.not_mem_nil, List.forall_mem_cons.mpr ⟨mv_st_z hBg ((by show mv_in 1; unfold mv_in; decide)) (mv_T 888 rfl rfl) hX.2.2.1, fun _ h => absurd h List.not_mem_nil⟩⟩) (fun p e s m args below meth c Q hBg hX hR hK => fun _ h => absurd h List.not_mem_nil)
def ic_J3_checkIndex_8e157 : List (Nat × Instr × Nat) := [(0, .iload_n 0, 1), (1, .ifCond .lt 8, 3), (4, .iload_n 0, 1), (5, .iload_n 1, 1), (6, .if_icmp .lt 10, 3), (9, .aload_n 2, 1), (10, .iload_n 0, 1), (11, .iload_n 1, 1), (12, .invokestatic 95, 3), (16, .iload_n 0, 1), (17, .ireturn, 1)]
noncomputable def mm_J3_checkIndex_8e157 : mv_M := (ic_J3_checkIndex_8e157, [], [], [], [], [], none)
noncomputable def ff_J3_checkIndex_8e157 : mv_F := mv_fn mv_rc mm_J3_checkIndex_8e157 mv_sh 400 3
theorem dk_J3_checkIndex_8e157 : mv_dk cJ3_checkIndex_8e157 ic_J3_checkIndex_8e157 = true := by decide +kernel
set_option maxRecDepth 20000 in
theorem cc_J3_checkIndex_8e157 {ad : Nat → Nat → Value} {cA : Nat → ClassId} {D : va_G} {tys : List (ClassId × FieldType)} {A : Nat → Prop} (l : Launch) (hF : mv_Fix mv_sh mv_ids mv_ros ad cA tys A mv_rc) : mv_Met l yJ3_checkIndex_8e157 cJ3_checkIndex_8e157 3 (some .int) mv_Ts (mv_rm 1) 3 false mv_sh mv_ids mv_ros ad cA mv_cl D tys A mv_rc mv_cr (mv_EX ad A) ff_J3_checkIndex_8e157 := mv_met_of (by decide +kernel) (by decide) hF mv_stok (mv_rzI (by decide +kernel)) mv_clok (mv_dk_ok dk_J3_checkIndex_8e157) (fun _ h => absurd h List.not_mem_nil) (fun p e s m args below meth c Q hBg hX hR => ⟨fun _ h => absurd h List.not_mem_nil, fun _ h => absurd h List.not_mem_nil⟩) (fun p e s m args below meth c Q hBg hX hR hK => fun _ h => absurd h List.not_mem_nil)
set_option maxRecDepth 20000 in
theorem cw_J0_1059 : mv_Cw RJ0 1059 yJ3_checkIndex_8e157 cJ3_checkIndex_8e157 3 (some .int) (none) 3 := mv_cw_of (a := 906) (b := 147) (c := 907) (d := 0) (mv_T 908 rfl rfl) (by decide +kernel)
def ic_J0_checkIndex_df160 : List (Nat × Instr × Nat) := [(0, .iload_n 0, 1), (1, .iload_n 1, 1), (2, .getstatic 1053, 3), (5, .invokestatic 1059, 3), (8, .pop, 1), (9, .return_, 1)]
noncomputable def mm_J0_checkIndex_df160 : mv_M := (ic_J0_checkIndex_df160, fl_J0, [], [(1053, .inr (999, 0))], [(1059, 3, none, false, ff_J3_checkIndex_8e157)], [], none)
noncomputable def ff_J0_checkIndex_df160 : mv_F := mv_fn mv_rc mm_J0_checkIndex_df160 mv_sh 400 2
theorem dk_J0_checkIndex_df160 : mv_dk cJ0_checkIndex_df160 ic_J0_checkIndex_df160 = true := by decide +kernel
set_option maxRecDepth 20000 in
theorem cc_J0_checkIndex_df160 {ad : Nat → Nat → Value} {cA : Nat → ClassId} {D : va_G} {tys : List (ClassId × FieldType)} {A : Nat → Prop} (l : Launch) (hF : mv_Fix mv_sh mv_ids mv_ros ad cA tys A mv_rc) : mv_Met l yJ0_checkIndex_df160 cJ0_checkIndex_df160 2 none mv_Ts (mv_rm 2) 2 true mv_sh mv_ids mv_ros ad cA mv_cl D tys A mv_rc mv_cr (mv_EX ad A) ff_J0_checkIndex_df160 := mv_met_of (by decide +kernel) (by decide) hF mv_stok (mv_rzV (by decide +kernel)) mv_clok (mv_dk_ok dk_J0_checkIndex_df160) (mv_fk_ok fk_J0) (fun p e s m args below meth c Q hBg hX hR => ⟨fun _ h => absurd h List.not_mem_nil, List.forall_mem_cons.mpr ⟨mv_st_z hBg (Or.inr ⟨rfl, rfl⟩) (mv_T 904 rfl rfl) hX.2.2.2.1, fun _ h => absurd h List.not_mem_nil⟩⟩) (fun p e s m args below meth c Q hBg hX hR hK => List.forall_mem_cons.mpr ⟨mv_cal_of (cc_J3_checkIndex_8e157 l hF) hBg hX hR hK mv_EX_ok hF mv_good mv_stok cw_J0_1059.1 cw_J0_1059.2.1 cw_J0_1059.2.2 ⟨rfl, rfl, by exact Nat.le_of_ble_eq_true rfl, by exact Nat.le_of_ble_eq_true rfl⟩ ⟨Nat.zero_le _, Nat.zero_le _⟩, fun _ h => absurd h List.not_mem_nil⟩)
set_option maxRecDepth 20000 in
theorem cw_J1_9 : mv_Cw RJ1 9 yJ0_checkIndex_df160 cJ0_checkIndex_df160 2 none (none) 2 := mv_cw_of (a := 901) (b := 145) (c := 902) (d := 0) (mv_T 903 rfl rfl) (by decide +kernel)
def ic_J1_charAt_3b067 : List (Nat × Instr × Nat) := [(0, .iload_n 1, 1), (1, .aload_n 0, 1), (2, .arraylength, 1), (3, .invokestatic 9, 3), (6, .aload_n 0, 1), (7, .iload_n 1, 1), (8, .baload, 1), (9, .sipush 255, 3), (12, .iand, 1), (13, .i2c, 1), (14, .ireturn, 1)]
noncomputable def mm_J1_charAt_3b067 : mv_M := (ic_J1_charAt_3b067, [], [], [], [(9, 2, none, true, ff_J0_checkIndex_df160)], [], (some (0, 65535)))
noncomputable def ff_J1_charAt_3b067 : mv_F := mv_fn mv_rc mm_J1_charAt_3b067 mv_sh 400 2
theorem dk_J1_charAt_3b067 : mv_dk cJ1_charAt_3b067 ic_J1_charAt_3b067 = true := by decide +kernel
set_option maxRecDepth 20000 in
theorem cc_J1_charAt_3b067 {ad : Nat → Nat → Value} {cA : Nat → ClassId} {D : va_G} {tys : List (ClassId × FieldType)} {A : Nat → Prop} (l : Launch) (hF : mv_Fix mv_sh mv_ids mv_ros ad cA tys A mv_rc) : mv_Met l yJ1_charAt_3b067 cJ1_charAt_3b067 2 (some .char) mv_Ts (mv_rm 3) 2 false mv_sh mv_ids mv_ros ad cA mv_cl D tys A mv_rc mv_cr (mv_EX ad A) ff_J1_charAt_3b067 := mv_met_of (by decide +kernel) (by decide) hF mv_stok (mv_rzC (by decide +kernel) rfl) mv_clok (mv_dk_ok dk_J1_charAt_3b067) (fun _ h => absurd h List.not_mem_nil) (fun p e s m args below meth c Q hBg hX hR => ⟨fun _ h => absurd h List.not_mem_nil, fun _ h => absurd h List.not_mem_nil⟩) (fun p e s m args below meth c Q hBg hX hR hK => List.forall_mem_cons.mpr ⟨mv_cal_of (cc_J0_checkIndex_df160 l hF) hBg hX hR hK mv_EX_ok hF mv_good mv_stok cw_J1_9.1 cw_J1_9.2.1 cw_J1_9.2.2 ⟨rfl, rfl, by exact Nat.le_of_ble_eq_true rfl, by exact Nat.le_of_ble_eq_true rfl⟩ ⟨Nat.zero_le _, Nat.zero_le _⟩, fun _ h => absurd h List.not_mem_nil⟩)
set_option maxRecDepth 20000 in
theorem cw_J0_492 : mv_Cw RJ0 492 yJ0_isLatin1_aae02 cJ0_isLatin1_aae02 1 (some .boolean) (some 100) 1 := mv_cw_of (a := 894) (b := 145) (c := 895) (d := 896) (mv_T 897 rfl rfl) (by decide +kernel)
set_option maxRecDepth 20000 in
theorem cw_J0_495 : mv_Cw RJ0 495 yJ1_charAt_3b067 cJ1_charAt_3b067 2 (some .char) (none) 2 := mv_cw_of (a := 898) (b := 146) (c := 899) (d := 0) (mv_T 900 rfl rfl) (by decide +kernel)
def ic_J0_charAt_5068e : List (Nat × Instr × Nat) := [(0, .aload_n 0, 1), (1, .invokevirtual 492, 3), (4, .ifCond .eq 12, 3), (7, .aload_n 0, 1), (8, .getfield 9, 3), (11, .iload_n 1, 1), (12, .invokestatic 495, 3), (15, .ireturn, 1), (16, .aload_n 0, 1), (17, .getfield 9, 3), (20, .iload_n 1, 1), (21, .invokestatic 498, 3), (24, .ireturn, 1)]
noncomputable def mm_J0_charAt_5068e : mv_M := (ic_J0_charAt_5068e, fl_J0, [], [], [(492, 1, some 100, false, ff_J0_isLatin1_aae02), (495, 2, none, false, ff_J1_charAt_3b067)], [], (some (0, 65535)))
noncomputable def ff_J0_charAt_5068e : mv_F := mv_fn mv_rc mm_J0_charAt_5068e mv_sh 400 2
theorem dk_J0_charAt_5068e : mv_dk cJ0_charAt_5068e ic_J0_charAt_5068e = true := by decide +kernel
set_option maxRecDepth 20000 in
theorem cc_J0_charAt_5068e {ad : Nat → Nat → Value} {cA : Nat → ClassId} {D : va_G} {tys : List (ClassId × FieldType)} {A : Nat → Prop} (l : Launch) (hF : mv_Fix mv_sh mv_ids mv_ros ad cA tys A mv_rc) : mv_Met l yJ0_charAt_5068e cJ0_charAt_5068e 2 (some .char) mv_Ts (mv_rm 4) 2 false mv_sh mv_ids mv_ros ad cA mv_cl D tys A mv_rc mv_cr (mv_EX ad A) ff_J0_charAt_5068e := mv_met_of (by decide +kernel) (by decide) hF mv_stok (mv_rzC (by decide +kernel) rfl) mv_clok (mv_dk_ok dk_J0_charAt_5068e) (mv_fk_ok fk_J0) (fun p e s m args below meth c Q hBg hX hR => ⟨fun _ h => absurd h List.not_mem_nil, fun _ h => absurd h List.not_mem_nil⟩) (fun p e s m args below meth c Q hBg hX hR hK => List.forall_mem_cons.mpr ⟨mv_cal_of (cc_J0_isLatin1_aae02 l hF) hBg hX hR hK mv_EX_ok hF mv_good mv_stok cw_J0_492.1 cw_J0_492.2.1 cw_J0_492.2.2 ⟨rfl, rfl, by exact Nat.le_of_ble_eq_true rfl, by exact Nat.le_of_ble_eq_true rfl⟩ ⟨Nat.zero_le _, Nat.zero_le _⟩, List.forall_mem_cons.mpr ⟨mv_cal_of (cc_J1_charAt_3b067 l hF) hBg hX hR hK mv_EX_ok hF mv_good mv_stok cw_J0_495.1 cw_J0_495.2.1 cw_J0_495.2.2 ⟨rfl, rfl, by exact Nat.le_of_ble_eq_true rfl, by exact Nat.le_of_ble_eq_true rfl⟩ ⟨Nat.zero_le _, Nat.zero_le _⟩, fun _ h => absurd h List.not_mem_nil⟩⟩)
set_option maxRecDepth 20000 in
theorem cw_X7_92 : mv_Cw RX7 92 yJ0_length_8abf5 cJ0_length_8abf5 1 (some .int) (some 100) 1 := mv_cw_of (a := 880) (b := 145) (c := 881) (d := 882) (mv_T 883 rfl rfl) (by decide +kernel)
set_option maxRecDepth 20000 in
theorem cw_X7_96 : mv_Cw RX7 96 yJ0_charAt_5068e cJ0_charAt_5068e 2 (some .char) (some 100) 2 := mv_cw_of (a := 890) (b := 145) (c := 891) (d := 892) (mv_T 893 rfl rfl) (by decide +kernel)
def ic_X7_wordOf : List (Nat × Instr × Nat) := [(0, .iconst 0, 1), (1, .istore_n 3, 1), (2, .iconst 0, 1), (3, .istore 4, 2), (5, .iconst 0, 1), (6, .istore 5, 2), (8, .iload 5, 2), (10, .ldc 90, 2), (12, .invokevirtual 92, 3), (15, .if_icmp .ge 80, 3), (18, .ldc 90, 2), (20, .iload 5, 2), (22, .invokevirtual 96, 3), (25, .istore 6, 2), (27, .iload 6, 2), (29, .bipush 32, 2), (31, .if_icmp .ne 22, 3), (34, .iload 4, 2), (36, .iload_n 2, 1), (37, .iload_n 1, 1), (38, .isub, 1), (39, .if_icmp .ne 5, 3), (42, .iload_n 3, 1), (43, .ireturn, 1), (44, .iinc 3 1, 3), (47, .iconst 0, 1), (48, .istore 4, 2), (50, .goto 39, 3), (53, .iload 4, 2), (55, .ifCond .lt 31, 3), (58, .iload_n 1, 1), (59, .iload 4, 2), (61, .iadd, 1), (62, .iload_n 2, 1), (63, .if_icmp .ge 23, 3), (66, .aload_n 0, 1), (67, .getfield 29, 3), (70, .iload_n 1, 1), (71, .iload 4, 2), (73, .iadd, 1), (74, .iaload, 1), (75, .iload 6, 2), (77, .if_icmp .ne 9, 3), (80, .iinc 4 1, 3), (83, .goto 6, 3), (86, .iconst (-1), 1), (87, .istore 4, 2), (89, .iinc 5 1, 3), (92, .goto (-84), 3), (95, .iconst (-1), 1), (96, .ireturn, 1)]
noncomputable def mm_X7_wordOf : mv_M := (ic_X7_wordOf, fl_X7, [(90, .inr (1002, 0))], [], [(92, 1, some 100, false, ff_J0_length_8abf5), (96, 2, some 100, false, ff_J0_charAt_5068e)], [(8, [true, true, true, true, true, true, false])], none)
noncomputable def ff_X7_wordOf : mv_F := mv_fn mv_rc mm_X7_wordOf mv_sh 400 7
theorem dk_X7_wordOf : mv_dk cX7_wordOf ic_X7_wordOf = true := by decide +kernel
set_option maxRecDepth 20000 in
theorem cc_X7_wordOf {ad : Nat → Nat → Value} {cA : Nat → ClassId} {D : va_G} {tys : List (ClassId × FieldType)} {A : Nat → Prop} (l : Launch) (hF : mv_Fix mv_sh mv_ids mv_ros ad cA tys A mv_rc) : mv_Met l yX7_wordOf cX7_wordOf 7 (some .int) mv_Ts (mv_rm 5) 3 false mv_sh mv_ids mv_ros ad cA mv_cl D tys A mv_rc mv_cr (mv_EX ad A) ff_X7_wordOf := mv_met_of (by decide +kernel) (by decide) hF mv_stok (mv_rzI (by decide +kernel)) mv_clok (mv_dk_ok dk_X7_wordOf) (mv_fk_ok fk_X7) (fun p e s m args below meth c Q hBg hX hR => ⟨List.forall_mem_cons.mpr ⟨mv_cs_s hBg (by decide +kernel) hX.2.2.2.2.1 (by decide +kernel), fun _ h => absurd h List.not_mem_nil⟩, fun _ h => absurd h List.not_mem_nil⟩) (fun p e s m args below meth c Q hBg hX hR hK => List.forall_mem_cons.mpr ⟨mv_cal_of (cc_J0_length_8abf5 l hF) hBg hX hR hK mv_EX_ok hF mv_good mv_stok cw_X7_92.1 cw_X7_92.2.1 cw_X7_92.2.2 ⟨rfl, rfl, by exact Nat.le_of_ble_eq_true rfl, by exact Nat.le_of_ble_eq_true rfl⟩ ⟨Nat.zero_le _, Nat.zero_le _⟩, List.forall_mem_cons.mpr ⟨mv_cal_of (cc_J0_charAt_5068e l hF) hBg hX hR hK mv_EX_ok hF mv_good mv_stok cw_X7_96.1 cw_X7_96.2.1 cw_X7_96.2.2 ⟨rfl, rfl, by exact Nat.le_of_ble_eq_true rfl, by exact Nat.le_of_ble_eq_true rfl⟩ ⟨Nat.zero_le _, Nat.zero_le _⟩, fun _ h => absurd h List.not_mem_nil⟩⟩)
def ic_J1_canEncode_9a6ad : List (Nat × Instr × Nat) := [(0, .iload_n 0, 1), (1, .ifCond .lt 14, 3), (4, .iload_n 0, 1), (5, .sipush 255, 3), (8, .if_icmp .gt 7, 3), (11, .iconst 1, 1), (12, .goto 4, 3), (15, .iconst 0, 1), (16, .ireturn, 1)]
noncomputable def mm_J1_canEncode_9a6ad : mv_M := (ic_J1_canEncode_9a6ad, [], [], [], [], [], (some (0, 1)))
noncomputable def ff_J1_canEncode_9a6ad : mv_F := mv_fn mv_rc mm_J1_canEncode_9a6ad mv_sh 400 1
theorem dk_J1_canEncode_9a6ad : mv_dk cJ1_canEncode_9a6ad ic_J1_canEncode_9a6ad = true := by decide +kernel
set_option maxRecDepth 20000 in
theorem cc_J1_canEncode_9a6ad {ad : Nat → Nat → Value} {cA : Nat → ClassId} {D : va_G} {tys : List (ClassId × FieldType)} {A : Nat → Prop} (l : Launch) (hF : mv_Fix mv_sh mv_ids mv_ros ad cA tys A mv_rc) : mv_Met l yJ1_canEncode_9a6ad cJ1_canEncode_9a6ad 1 (some .boolean) mv_Ts (mv_rm 1) 1 false mv_sh mv_ids mv_ros ad cA mv_cl D tys A mv_rc mv_cr (mv_EX ad A) ff_J1_canEncode_9a6ad := mv_met_of (by decide +kernel) (by decide) hF mv_stok (mv_rzZ (by decide +kernel) rfl) mv_clok (mv_dk_ok dk_J1_canEncode_9a6ad) (fun _ h => absurd h List.not_mem_nil) (fun p e s m args below meth c Q hBg hX hR => ⟨fun _ h => absurd h List.not_mem_nil, fun _ h => absurd h List.not_mem_nil⟩) (fun p e s m args below meth c Q hBg hX hR hK => fun _ h => absurd h List.not_mem_nil)
def ic_J1_indexOfChar_4cfef : List (Nat × Instr × Nat) := [(0, .iload_n 1, 1), (2, .istore 4, 2), (4, .iload_n 2, 1), (5, .istore 5, 2), (7, .iload 5, 2), (9, .iload_n 3, 1), (10, .if_icmp .ge 21, 3), (13, .aload_n 0, 1), (14, .iload 5, 2), (16, .baload, 1), (17, .iload 4, 2), (19, .if_icmp .ne 6, 3), (22, .iload 5, 2), (24, .ireturn, 1), (25, .iinc 5 1, 3), (28, .goto (-21), 3), (31, .iconst (-1), 1), (32, .ireturn, 1)]
noncomputable def mm_J1_indexOfChar_4cfef : mv_M := (ic_J1_indexOfChar_4cfef, [], [], [], [], [(7, [true, false, false, true, true, true])], none)
noncomputable def ff_J1_indexOfChar_4cfef : mv_F := mv_fn mv_rc mm_J1_indexOfChar_4cfef mv_sh 400 6
theorem dk_J1_indexOfChar_4cfef : mv_dk cJ1_indexOfChar_4cfef ic_J1_indexOfChar_4cfef = true := by decide +kernel
set_option maxRecDepth 20000 in
theorem cc_J1_indexOfChar_4cfef {ad : Nat → Nat → Value} {cA : Nat → ClassId} {D : va_G} {tys : List (ClassId × FieldType)} {A : Nat → Prop} (l : Launch) (hF : mv_Fix mv_sh mv_ids mv_ros ad cA tys A mv_rc) : mv_Met l yJ1_indexOfChar_4cfef cJ1_indexOfChar_4cfef 6 (some .int) mv_Ts (mv_rm 1) 4 false mv_sh mv_ids mv_ros ad cA mv_cl D tys A mv_rc mv_cr (mv_EX ad A) ff_J1_indexOfChar_4cfef := mv_met_of (by decide +kernel) (by decide) hF mv_stok (mv_rzI (by decide +kernel)) mv_clok (mv_dk_ok dk_J1_indexOfChar_4cfef) (fun _ h => absurd h List.not_mem_nil) (fun p e s m args below meth c Q hBg hX hR => ⟨fun _ h => absurd h List.not_mem_nil, fun _ h => absurd h List.not_mem_nil⟩) (fun p e s m args below meth c Q hBg hX hR hK => fun _ h => absurd h List.not_mem_nil)
set_option maxRecDepth 20000 in
theorem cw_J1_88 : mv_Cw RJ1 88 yJ1_canEncode_9a6ad cJ1_canEncode_9a6ad 1 (some .boolean) (none) 1 := mv_cw_of (a := 941) (b := 146) (c := 942) (d := 0) (mv_T 943 rfl rfl) (by decide +kernel)
set_option maxRecDepth 20000 in
theorem cw_J1_95 : mv_Cw RJ1 95 yJ1_indexOfChar_4cfef cJ1_indexOfChar_4cfef 6 (some .int) (none) 4 := mv_cw_of (a := 946) (b := 146) (c := 947) (d := 0) (mv_T 948 rfl rfl) (by decide +kernel)
def ic_J1_indexOf_4cfef : List (Nat × Instr × Nat) := [(0, .iload_n 1, 1), (1, .invokestatic 88, 3), (4, .ifCond .ne 5, 3), (7, .iconst (-1), 1), (8, .ireturn, 1), (9, .iload_n 2, 1), (10, .iconst 0, 1), (11, .invokestatic 92, 3), (14, .istore_n 2, 1), (15, .iload_n 3, 1), (16, .aload_n 0, 1), (17, .arraylength, 1), (18, .invokestatic 38, 3), (21, .istore_n 3, 1), (22, .iload_n 2, 1), (23, .iload_n 3, 1), (24, .if_icmp .lt 5, 3), (27, .iconst (-1), 1), (28, .ireturn, 1), (29, .aload_n 0, 1), (30, .iload_n 1, 1), (31, .iload_n 2, 1), (32, .iload_n 3, 1), (33, .invokestatic 95, 3), (36, .ireturn, 1)]
noncomputable def mm_J1_indexOf_4cfef : mv_M := (ic_J1_indexOf_4cfef, [], [], [], [(88, 1, none, false, ff_J1_canEncode_9a6ad), (92, 2, none, false, mv_max), (38, 2, none, false, mv_min), (95, 4, none, false, ff_J1_indexOfChar_4cfef)], [], none)
noncomputable def ff_J1_indexOf_4cfef : mv_F := mv_fn mv_rc mm_J1_indexOf_4cfef mv_sh 400 4
theorem dk_J1_indexOf_4cfef : mv_dk cJ1_indexOf_4cfef ic_J1_indexOf_4cfef = true := by decide +kernel
set_option maxRecDepth 20000 in
theorem cc_J1_indexOf_4cfef {ad : Nat → Nat → Value} {cA : Nat → ClassId} {D : va_G} {tys : List (ClassId × FieldType)} {A : Nat → Prop} (l : Launch) (hF : mv_Fix mv_sh mv_ids mv_ros ad cA tys A mv_rc) : mv_Met l yJ1_indexOf_4cfef cJ1_indexOf_4cfef 4 (some .int) mv_Ts (mv_rm 2) 4 false mv_sh mv_ids mv_ros ad cA mv_cl D tys A mv_rc mv_cr (mv_EX ad A) ff_J1_indexOf_4cfef := mv_met_of (by decide +kernel) (by decide) hF mv_stok (mv_rzI (by decide +kernel)) mv_clok (mv_dk_ok dk_J1_indexOf_4cfef) (fun _ h => absurd h List.not_mem_nil) (fun p e s m args below meth c Q hBg hX hR => ⟨fun _ h => absurd h List.not_mem_nil, fun _ h => absurd h List.not_mem_nil⟩) (fun p e s m args below meth c Q hBg hX hR hK => List.forall_mem_cons.mpr ⟨mv_cal_of (cc_J1_canEncode_9a6ad l hF) hBg hX hR hK mv_EX_ok hF mv_good mv_stok cw_J1_88.1 cw_J1_88.2.1 cw_J1_88.2.2 ⟨rfl, rfl, by exact Nat.le_of_ble_eq_true rfl, by exact Nat.le_of_ble_eq_true rfl⟩ ⟨Nat.zero_le _, Nat.zero_le _⟩, List.forall_mem_cons.mpr ⟨mv_cal_max hBg ⟨mv_T 944 rfl rfl, mv_T 235 rfl rfl, mv_T 133 rfl rfl, mv_T 236 rfl rfl⟩ ⟨by decide, by decide⟩ ⟨Nat.zero_le _, Nat.zero_le _⟩, List.forall_mem_cons.mpr ⟨mv_cal_min hBg ⟨mv_T 945 rfl rfl, mv_T 238 rfl rfl, mv_T 133 rfl rfl, mv_T 239 rfl rfl⟩ ⟨by decide, by decide⟩ ⟨Nat.zero_le _, Nat.zero_le _⟩, List.forall_mem_cons.mpr ⟨mv_cal_of (cc_J1_indexOfChar_4cfef l hF) hBg hX hR hK mv_EX_ok hF mv_good mv_stok cw_J1_95.1 cw_J1_95.2.1 cw_J1_95.2.2 ⟨rfl, rfl, by exact Nat.le_of_ble_eq_true rfl, by exact Nat.le_of_ble_eq_true rfl⟩ ⟨Nat.zero_le _, Nat.zero_le _⟩, fun _ h => absurd h List.not_mem_nil⟩⟩⟩⟩)
set_option maxRecDepth 20000 in
theorem cw_J0_505 : mv_Cw RJ0 505 yJ0_length_8abf5 cJ0_length_8abf5 1 (some .int) (some 100) 1 := mv_cw_of (a := 937) (b := 145) (c := 881) (d := 882) (mv_T 883 rfl rfl) (by decide +kernel)
set_option maxRecDepth 20000 in
theorem cw_J0_637 : mv_Cw RJ0 637 yJ1_indexOf_4cfef cJ1_indexOf_4cfef 4 (some .int) (none) 4 := mv_cw_of (a := 938) (b := 146) (c := 939) (d := 0) (mv_T 940 rfl rfl) (by decide +kernel)
def ic_J0_indexOf_7cf53 : List (Nat × Instr × Nat) := [(0, .aload_n 0, 1), (1, .invokevirtual 492, 3), (4, .ifCond .eq 19, 3), (7, .aload_n 0, 1), (8, .getfield 9, 3), (11, .iload_n 1, 1), (12, .iload_n 2, 1), (13, .aload_n 0, 1), (14, .invokevirtual 505, 3), (17, .invokestatic 637, 3), (20, .goto 16, 3), (23, .aload_n 0, 1), (24, .getfield 9, 3), (27, .iload_n 1, 1), (28, .iload_n 2, 1), (29, .aload_n 0, 1), (30, .invokevirtual 505, 3), (33, .invokestatic 640, 3), (36, .ireturn, 1)]
noncomputable def mm_J0_indexOf_7cf53 : mv_M := (ic_J0_indexOf_7cf53, fl_J0, [], [], [(492, 1, some 100, false, ff_J0_isLatin1_aae02), (505, 1, some 100, false, ff_J0_length_8abf5), (637, 4, none, false, ff_J1_indexOf_4cfef)], [], none)
noncomputable def ff_J0_indexOf_7cf53 : mv_F := mv_fn mv_rc mm_J0_indexOf_7cf53 mv_sh 400 3
theorem dk_J0_indexOf_7cf53 : mv_dk cJ0_indexOf_7cf53 ic_J0_indexOf_7cf53 = true := by decide +kernel
set_option maxRecDepth 20000 in
theorem cc_J0_indexOf_7cf53 {ad : Nat → Nat → Value} {cA : Nat → ClassId} {D : va_G} {tys : List (ClassId × FieldType)} {A : Nat → Prop} (l : Launch) (hF : mv_Fix mv_sh mv_ids mv_ros ad cA tys A mv_rc) : mv_Met l yJ0_indexOf_7cf53 cJ0_indexOf_7cf53 3 (some .int) mv_Ts (mv_rm 3) 3 false mv_sh mv_ids mv_ros ad cA mv_cl D tys A mv_rc mv_cr (mv_EX ad A) ff_J0_indexOf_7cf53 := mv_met_of (by decide +kernel) (by decide) hF mv_stok (mv_rzI (by decide +kernel)) mv_clok (mv_dk_ok dk_J0_indexOf_7cf53) (mv_fk_ok fk_J0) (fun p e s m args below meth c Q hBg hX hR => ⟨fun _ h => absurd h List.not_mem_nil, fun _ h => absurd h List.not_mem_nil⟩) (fun p e s m args below meth c Q hBg hX hR hK => List.forall_mem_cons.mpr ⟨mv_cal_of (cc_J0_isLatin1_aae02 l hF) hBg hX hR hK mv_EX_ok hF mv_good mv_stok cw_J0_492.1 cw_J0_492.2.1 cw_J0_492.2.2 ⟨rfl, rfl, by exact Nat.le_of_ble_eq_true rfl, by exact Nat.le_of_ble_eq_true rfl⟩ ⟨Nat.zero_le _, Nat.zero_le _⟩, List.forall_mem_cons.mpr ⟨mv_cal_of (cc_J0_length_8abf5 l hF) hBg hX hR hK mv_EX_ok hF mv_good mv_stok cw_J0_505.1 cw_J0_505.2.1 cw_J0_505.2.2 ⟨rfl, rfl, by exact Nat.le_of_ble_eq_true rfl, by exact Nat.le_of_ble_eq_true rfl⟩ ⟨Nat.zero_le _, Nat.zero_le _⟩, List.forall_mem_cons.mpr ⟨mv_cal_of (cc_J1_indexOf_4cfef l hF) hBg hX hR hK mv_EX_ok hF mv_good mv_stok cw_J0_637.1 cw_J0_637.2.1 cw_J0_637.2.2 ⟨rfl, rfl, by exact Nat.le_of_ble_eq_true rfl, by exact Nat.le_of_ble_eq_true rfl⟩ ⟨Nat.zero_le _, Nat.zero_le _⟩, fun _ h => absurd h List.not_mem_nil⟩⟩⟩)
set_option maxRecDepth 20000 in
theorem cw_J0_633 : mv_Cw RJ0 633 yJ0_indexOf_7cf53 cJ0_indexOf_7cf53 3 (some .int) (some 100) 3 := mv_cw_of (a := 933) (b := 145) (c := 934) (d := 935) (mv_T 936 rfl rfl) (by decide +kernel)
def ic_J0_indexOf_0f7a4 : List (Nat × Instr × Nat) := [(0, .aload_n 0, 1), (1, .iload_n 1, 1), (2, .iconst 0, 1), (3, .invokevirtual 633, 3), (6, .ireturn, 1)]
noncomputable def mm_J0_indexOf_0f7a4 : mv_M := (ic_J0_indexOf_0f7a4, fl_J0, [], [], [(633, 3, some 100, false, ff_J0_indexOf_7cf53)], [], none)
noncomputable def ff_J0_indexOf_0f7a4 : mv_F := mv_fn mv_rc mm_J0_indexOf_0f7a4 mv_sh 400 2
theorem dk_J0_indexOf_0f7a4 : mv_dk cJ0_indexOf_0f7a4 ic_J0_indexOf_0f7a4 = true := by decide +kernel
set_option maxRecDepth 20000 in
theorem cc_J0_indexOf_0f7a4 {ad : Nat → Nat → Value} {cA : Nat → ClassId} {D : va_G} {tys : List (ClassId × FieldType)} {A : Nat → Prop} (l : Launch) (hF : mv_Fix mv_sh mv_ids mv_ros ad cA tys A mv_rc) : mv_Met l yJ0_indexOf_0f7a4 cJ0_indexOf_0f7a4 2 (some .int) mv_Ts (mv_rm 4) 2 false mv_sh mv_ids mv_ros ad cA mv_cl D tys A mv_rc mv_cr (mv_EX ad A) ff_J0_indexOf_0f7a4 := mv_met_of (by decide +kernel) (by decide) hF mv_stok (mv_rzI (by decide +kernel)) mv_clok (mv_dk_ok dk_J0_indexOf_0f7a4) (mv_fk_ok fk_J0) (fun p e s m args below meth c Q hBg hX hR => ⟨fun _ h => absurd h List.not_mem_nil, fun _ h => absurd h List.not_mem_nil⟩) (fun p e s m args below meth c Q hBg hX hR hK => List.forall_mem_cons.mpr ⟨mv_cal_of (cc_J0_indexOf_7cf53 l hF) hBg hX hR hK mv_EX_ok hF mv_good mv_stok cw_J0_633.1 cw_J0_633.2.1 cw_J0_633.2.2 ⟨rfl, rfl, by exact Nat.le_of_ble_eq_true rfl, by exact Nat.le_of_ble_eq_true rfl⟩ ⟨Nat.zero_le _, Nat.zero_le _⟩, fun _ h => absurd h List.not_mem_nil⟩)
set_option maxRecDepth 20000 in
theorem cw_X7_64 : mv_Cw RX7 64 yX7_isLetter cX7_isLetter 1 (some .boolean) (none) 1 := mv_cw_of (a := 865) (b := 136) (c := 866) (d := 0) (mv_T 867 rfl rfl) (by decide +kernel)
set_option maxRecDepth 20000 in
theorem cw_X7_79 : mv_Cw RX7 79 yX7_wordOf cX7_wordOf 7 (some .int) (some 7) 3 := mv_cw_of (a := 875) (b := 136) (c := 877) (d := 15) (mv_T 878 rfl rfl) (by decide +kernel)
set_option maxRecDepth 20000 in
theorem cw_X7_68 : mv_Cw RX7 68 yX7_isDigit cX7_isDigit 1 (some .boolean) (none) 1 := mv_cw_of (a := 868) (b := 136) (c := 869) (d := 0) (mv_T 870 rfl rfl) (by decide +kernel)
set_option maxRecDepth 20000 in
theorem cw_X7_84 : mv_Cw RX7 84 yJ0_indexOf_0f7a4 cJ0_indexOf_0f7a4 2 (some .int) (some 100) 2 := mv_cw_of (a := 929) (b := 145) (c := 930) (d := 931) (mv_T 932 rfl rfl) (by decide +kernel)
def ic_X7_tokenOf : List (Nat × Instr × Nat) := [(0, .aload_n 0, 1), (1, .getfield 29, 3), (4, .iload_n 1, 1), (5, .iaload, 1), (6, .istore_n 3, 1), (7, .iload_n 3, 1), (8, .invokestatic 64, 3), (11, .ifCond .eq 28, 3), (14, .aload_n 0, 1), (15, .iload_n 1, 1), (16, .iload_n 2, 1), (17, .invokevirtual 79, 3), (20, .istore 4, 2), (22, .iload 4, 2), (24, .iconst (-1), 1), (25, .if_icmp .ne 7, 3), (28, .iconst (-1), 1), (29, .goto 9, 3), (32, .sipush 20000, 3), (35, .iload 4, 2), (37, .iadd, 1), (38, .ireturn, 1), (39, .iload_n 3, 1), (40, .invokestatic 68, 3), (43, .ifCond .ne 23, 3), (46, .ldc 82, 2), (48, .iload_n 3, 1), (49, .i2c, 1), (50, .invokevirtual 84, 3), (53, .ifCond .ge 7, 3), (56, .iconst (-1), 1), (57, .goto 8, 3), (60, .sipush 30000, 3), (63, .iload_n 3, 1), (64, .iadd, 1), (65, .ireturn, 1), (66, .iload_n 2, 1), (67, .iload_n 1, 1), (68, .isub, 1), (69, .iconst 4, 1), (70, .if_icmp .le 5, 3), (73, .iconst (-1), 1), (74, .ireturn, 1), (75, .iconst 0, 1), (76, .istore 4, 2), (78, .iload_n 1, 1), (79, .istore 5, 2), (81, .iload 5, 2), (83, .iload_n 2, 1), (84, .if_icmp .ge 27, 3), (87, .iload 4, 2), (89, .bipush 10, 2), (91, .imul, 1), (92, .aload_n 0, 1), (93, .getfield 29, 3), (96, .iload 5, 2), (98, .iaload, 1), (99, .iadd, 1), (100, .bipush 48, 2), (102, .isub, 1), (103, .istore 4, 2), (105, .iinc 5 1, 3), (108, .goto (-27), 3), (111, .iload 4, 2), (113, .ireturn, 1)]
noncomputable def mm_X7_tokenOf : mv_M := (ic_X7_tokenOf, fl_X7, [(82, .inr (1004, 0))], [], [(64, 1, none, false, ff_X7_isLetter), (79, 3, some 7, false, ff_X7_wordOf), (68, 1, none, false, ff_X7_isDigit), (84, 2, some 100, false, ff_J0_indexOf_0f7a4)], [(81, [true, false, true, false, true, true])], none)
noncomputable def ff_X7_tokenOf : mv_F := mv_fn mv_rc mm_X7_tokenOf mv_sh 400 6
theorem dk_X7_tokenOf : mv_dk cX7_tokenOf ic_X7_tokenOf = true := by decide +kernel
set_option maxRecDepth 20000 in
theorem cc_X7_tokenOf {ad : Nat → Nat → Value} {cA : Nat → ClassId} {D : va_G} {tys : List (ClassId × FieldType)} {A : Nat → Prop} (l : Launch) (hF : mv_Fix mv_sh mv_ids mv_ros ad cA tys A mv_rc) : mv_Met l yX7_tokenOf cX7_tokenOf 6 (some .int) mv_Ts (mv_rm 6) 3 false mv_sh mv_ids mv_ros ad cA mv_cl D tys A mv_rc mv_cr (mv_EX ad A) ff_X7_tokenOf := mv_met_of (by decide +kernel) (by decide) hF mv_stok (mv_rzI (by decide +kernel)) mv_clok (mv_dk_ok dk_X7_tokenOf) (mv_fk_ok fk_X7) (fun p e s m args below meth c Q hBg hX hR => ⟨List.forall_mem_cons.mpr ⟨mv_cs_s hBg (by decide +kernel) hX.2.2.2.2.2 (by decide +kernel), fun _ h => absurd h List.not_mem_nil⟩, fun _ h => absurd h List.not_mem_nil⟩) (fun p e s m args below meth c Q hBg hX hR hK => List.forall_mem_cons.mpr ⟨mv_cal_of (cc_X7_isLetter l hF) hBg hX hR hK mv_EX_ok hF mv_good mv_stok cw_X7_64.1 cw_X7_64.2.1 cw_X7_64.2.2 ⟨rfl, rfl, by exact Nat.le_of_ble_eq_true rfl, by exact Nat.le_of_ble_eq_true rfl⟩ ⟨Nat.zero_le _, Nat.zero_le _⟩, List.forall_mem_cons.mpr ⟨mv_cal_of (cc_X7_wordOf l hF) hBg hX hR hK mv_EX_ok hF mv_good mv_stok cw_X7_79.1 cw_X7_79.2.1 cw_X7_79.2.2 ⟨rfl, rfl, by exact Nat.le_of_ble_eq_true rfl, by exact Nat.le_of_ble_eq_true rfl⟩ ⟨Nat.zero_le _, Nat.zero_le _⟩, List.forall_mem_cons.mpr ⟨mv_cal_of (cc_X7_isDigit l hF) hBg hX hR hK mv_EX_ok hF mv_good mv_stok cw_X7_68.1 cw_X7_68.2.1 cw_X7_68.2.2 ⟨rfl, rfl, by exact Nat.le_of_ble_eq_true rfl, by exact Nat.le_of_ble_eq_true rfl⟩ ⟨Nat.zero_le _, Nat.zero_le _⟩, List.forall_mem_cons.mpr ⟨mv_cal_of (cc_J0_indexOf_0f7a4 l hF) hBg hX hR hK mv_EX_ok hF mv_good mv_stok cw_X7_84.1 cw_X7_84.2.1 cw_X7_84.2.2 ⟨rfl, rfl, by exact Nat.le_of_ble_eq_true rfl, by exact Nat.le_of_ble_eq_true rfl⟩ ⟨Nat.zero_le _, Nat.zero_le _⟩, fun _ h => absurd h List.not_mem_nil⟩⟩⟩⟩)
def ic_X7_addToken : List (Nat × Instr × Nat) := [(0, .aload_n 0, 1), (1, .getfield 61, 3), (4, .aload_n 0, 1), (5, .getfield 33, 3), (8, .arraylength, 1), (9, .if_icmp .ge 33, 3), (12, .aload_n 0, 1), (13, .getfield 33, 3), (16, .aload_n 0, 1), (17, .getfield 61, 3), (20, .iload_n 1, 1), (21, .iastore, 1), (22, .aload_n 0, 1), (23, .getfield 36, 3), (26, .aload_n 0, 1), (27, .getfield 61, 3), (30, .iload_n 2, 1), (31, .iastore, 1), (32, .aload_n 0, 1), (33, .dup, 1), (34, .getfield 61, 3), (37, .iconst 1, 1), (38, .iadd, 1), (39, .putfield 61, 3), (42, .return_, 1)]
noncomputable def mm_X7_addToken : mv_M := (ic_X7_addToken, fl_X7, [], [], [], [], none)
noncomputable def ff_X7_addToken : mv_F := mv_fn mv_rc mm_X7_addToken mv_sh 400 3
theorem dk_X7_addToken : mv_dk cX7_addToken ic_X7_addToken = true := by decide +kernel
set_option maxRecDepth 20000 in
theorem cc_X7_addToken {ad : Nat → Nat → Value} {cA : Nat → ClassId} {D : va_G} {tys : List (ClassId × FieldType)} {A : Nat → Prop} (l : Launch) (hF : mv_Fix mv_sh mv_ids mv_ros ad cA tys A mv_rc) : mv_Met l yX7_addToken cX7_addToken 3 none mv_Ts (mv_rm 1) 3 true mv_sh mv_ids mv_ros ad cA mv_cl D tys A mv_rc mv_cr (mv_EX ad A) ff_X7_addToken := mv_met_of (by decide +kernel) (by decide) hF mv_stok (mv_rzV (by decide +kernel)) mv_clok (mv_dk_ok dk_X7_addToken) (mv_fk_ok fk_X7) (fun p e s m args below meth c Q hBg hX hR => ⟨fun _ h => absurd h List.not_mem_nil, fun _ h => absurd h List.not_mem_nil⟩) (fun p e s m args below meth c Q hBg hX hR hK => fun _ h => absurd h List.not_mem_nil)
set_option maxRecDepth 20000 in
theorem cw_X7_71 : mv_Cw RX7 71 yX7_tokenOf cX7_tokenOf 6 (some .int) (some 7) 3 := mv_cw_of (a := 871) (b := 136) (c := 873) (d := 14) (mv_T 874 rfl rfl) (by decide +kernel)
set_option maxRecDepth 20000 in
theorem cw_X7_75 : mv_Cw RX7 75 yX7_addToken cX7_addToken 3 none (some 7) 3 := mv_cw_of (a := 984) (b := 136) (c := 986) (d := 16) (mv_T 987 rfl rfl) (by decide +kernel)
def ic_X7_split : List (Nat × Instr × Nat) := [(0, .aload_n 0, 1), (1, .iconst 0, 1), (2, .putfield 61, 3), (5, .iconst 0, 1), (6, .istore_n 1, 1), (7, .iload_n 1, 1), (8, .aload_n 0, 1), (9, .getfield 39, 3), (12, .if_icmp .ge 120, 3), (15, .iload_n 1, 1), (16, .istore_n 2, 1), (17, .iinc 1 1, 3), (20, .aload_n 0, 1), (21, .getfield 29, 3), (24, .iload_n 2, 1), (25, .iaload, 1), (26, .invokestatic 64, 3), (29, .ifCond .eq 29, 3), (32, .iload_n 1, 1), (33, .aload_n 0, 1), (34, .getfield 39, 3), (37, .if_icmp .ge 59, 3), (40, .aload_n 0, 1), (41, .getfield 29, 3), (44, .iload_n 1, 1), (45, .iaload, 1), (46, .invokestatic 64, 3), (49, .ifCond .eq 47, 3), (52, .iinc 1 1, 3), (55, .goto (-23), 3), (58, .aload_n 0, 1), (59, .getfield 29, 3), (62, .iload_n 2, 1), (63, .iaload, 1), (64, .invokestatic 68, 3), (67, .ifCond .eq 29, 3), (70, .iload_n 1, 1), (71, .aload_n 0, 1), (72, .getfield 39, 3), (75, .if_icmp .ge 21, 3), (78, .aload_n 0, 1), (79, .getfield 29, 3), (82, .iload_n 1, 1), (83, .iaload, 1), (84, .invokestatic 68, 3), (87, .ifCond .eq 9, 3), (90, .iinc 1 1, 3), (93, .goto (-23), 3), (96, .aload_n 0, 1), (97, .getfield 29, 3), (100, .iload_n 2, 1), (101, .iaload, 1), (102, .bipush 32, 2), (104, .if_icmp .eq 25, 3), (107, .aload_n 0, 1), (108, .getfield 29, 3), (111, .iload_n 2, 1), (112, .iaload, 1), (113, .bipush 10, 2), (115, .if_icmp .eq 14, 3), (118, .aload_n 0, 1), (119, .aload_n 0, 1), (120, .iload_n 2, 1), (121, .iload_n 1, 1), (122, .invokevirtual 71, 3), (125, .iload_n 2, 1), (126, .invokevirtual 75, 3), (129, .goto (-122), 3), (132, .aload_n 0, 1), (133, .bipush (-2), 2), (135, .aload_n 0, 1), (136, .getfield 39, 3), (139, .invokevirtual 75, 3), (142, .return_, 1)]
noncomputable def mm_X7_split : mv_M := (ic_X7_split, fl_X7, [], [], [(64, 1, none, false, ff_X7_isLetter), (68, 1, none, false, ff_X7_isDigit), (71, 3, some 7, false, ff_X7_tokenOf), (75, 3, some 7, true, ff_X7_addToken)], [(7, [true, true, false]), (32, [true, true, true]), (70, [true, true, true])], none)
noncomputable def ff_X7_split : mv_F := mv_fn mv_rc mm_X7_split mv_sh 400 3
theorem dk_X7_split : mv_dk cX7_split ic_X7_split = true := by decide +kernel
set_option maxRecDepth 20000 in
theorem cc_X7_split {ad : Nat → Nat → Value} {cA : Nat → ClassId} {D : va_G} {tys : List (ClassId × FieldType)} {A : Nat → Prop} (l : Launch) (hF : mv_Fix mv_sh mv_ids mv_ros ad cA tys A mv_rc) : mv_Met l yX7_split cX7_split 3 none mv_Ts (mv_rm 7) 1 true mv_sh mv_ids mv_ros ad cA mv_cl D tys A mv_rc mv_cr (mv_EX ad A) ff_X7_split := mv_met_of (by decide +kernel) (by decide) hF mv_stok (mv_rzV (by decide +kernel)) mv_clok (mv_dk_ok dk_X7_split) (mv_fk_ok fk_X7) (fun p e s m args below meth c Q hBg hX hR => ⟨fun _ h => absurd h List.not_mem_nil, fun _ h => absurd h List.not_mem_nil⟩) (fun p e s m args below meth c Q hBg hX hR hK => List.forall_mem_cons.mpr ⟨mv_cal_of (cc_X7_isLetter l hF) hBg hX hR hK mv_EX_ok hF mv_good mv_stok cw_X7_64.1 cw_X7_64.2.1 cw_X7_64.2.2 ⟨rfl, rfl, by exact Nat.le_of_ble_eq_true rfl, by exact Nat.le_of_ble_eq_true rfl⟩ ⟨Nat.zero_le _, Nat.zero_le _⟩, List.forall_mem_cons.mpr ⟨mv_cal_of (cc_X7_isDigit l hF) hBg hX hR hK mv_EX_ok hF mv_good mv_stok cw_X7_68.1 cw_X7_68.2.1 cw_X7_68.2.2 ⟨rfl, rfl, by exact Nat.le_of_ble_eq_true rfl, by exact Nat.le_of_ble_eq_true rfl⟩ ⟨Nat.zero_le _, Nat.zero_le _⟩, List.forall_mem_cons.mpr ⟨mv_cal_of (cc_X7_tokenOf l hF) hBg hX hR hK mv_EX_ok hF mv_good mv_stok cw_X7_71.1 cw_X7_71.2.1 cw_X7_71.2.2 ⟨rfl, rfl, by exact Nat.le_of_ble_eq_true rfl, by exact Nat.le_of_ble_eq_true rfl⟩ ⟨Nat.zero_le _, Nat.zero_le _⟩, List.forall_mem_cons.mpr ⟨mv_cal_of (cc_X7_addToken l hF) hBg hX hR hK mv_EX_ok hF mv_good mv_stok cw_X7_75.1 cw_X7_75.2.1 cw_X7_75.2.2 ⟨rfl, rfl, by exact Nat.le_of_ble_eq_true rfl, by exact Nat.le_of_ble_eq_true rfl⟩ ⟨Nat.zero_le _, Nat.zero_le _⟩, fun _ h => absurd h List.not_mem_nil⟩⟩⟩⟩)
def ic_X7_fail : List (Nat × Instr × Nat) := [(0, .aload_n 0, 1), (1, .getfield 42, 3), (4, .ifCond .ne 21, 3), (7, .aload_n 0, 1), (8, .iload_n 1, 1), (9, .putfield 42, 3), (12, .aload_n 0, 1), (13, .aload_n 0, 1), (14, .getfield 36, 3), (17, .aload_n 0, 1), (18, .getfield 48, 3), (21, .iaload, 1), (22, .putfield 13, 3), (25, .return_, 1)]
noncomputable def mm_X7_fail : mv_M := (ic_X7_fail, fl_X7, [], [], [], [], none)
noncomputable def ff_X7_fail : mv_F := mv_fn mv_rc mm_X7_fail mv_sh 400 2
theorem dk_X7_fail : mv_dk cX7_fail ic_X7_fail = true := by decide +kernel
set_option maxRecDepth 20000 in
theorem cc_X7_fail {ad : Nat → Nat → Value} {cA : Nat → ClassId} {D : va_G} {tys : List (ClassId × FieldType)} {A : Nat → Prop} (l : Launch) (hF : mv_Fix mv_sh mv_ids mv_ros ad cA tys A mv_rc) : mv_Met l yX7_fail cX7_fail 2 none mv_Ts (mv_rm 1) 2 true mv_sh mv_ids mv_ros ad cA mv_cl D tys A mv_rc mv_cr (mv_EX ad A) ff_X7_fail := mv_met_of (by decide +kernel) (by decide) hF mv_stok (mv_rzV (by decide +kernel)) mv_clok (mv_dk_ok dk_X7_fail) (mv_fk_ok fk_X7) (fun p e s m args below meth c Q hBg hX hR => ⟨fun _ h => absurd h List.not_mem_nil, fun _ h => absurd h List.not_mem_nil⟩) (fun p e s m args below meth c Q hBg hX hR hK => fun _ h => absurd h List.not_mem_nil)
def ic_X7_step : List (Nat × Instr × Nat) := [(0, .aload_n 0, 1), (1, .getfield 48, 3), (4, .iconst 1, 1), (5, .iadd, 1), (6, .aload_n 0, 1), (7, .getfield 61, 3), (10, .if_icmp .ge 13, 3), (13, .aload_n 0, 1), (14, .dup, 1), (15, .getfield 48, 3), (18, .iconst 1, 1), (19, .iadd, 1), (20, .putfield 48, 3), (23, .return_, 1)]
noncomputable def mm_X7_step : mv_M := (ic_X7_step, fl_X7, [], [], [], [], none)
noncomputable def ff_X7_step : mv_F := mv_fn mv_rc mm_X7_step mv_sh 400 1
theorem dk_X7_step : mv_dk cX7_step ic_X7_step = true := by decide +kernel
set_option maxRecDepth 20000 in
theorem cc_X7_step {ad : Nat → Nat → Value} {cA : Nat → ClassId} {D : va_G} {tys : List (ClassId × FieldType)} {A : Nat → Prop} (l : Launch) (hF : mv_Fix mv_sh mv_ids mv_ros ad cA tys A mv_rc) : mv_Met l yX7_step cX7_step 1 none mv_Ts (mv_rm 1) 1 true mv_sh mv_ids mv_ros ad cA mv_cl D tys A mv_rc mv_cr (mv_EX ad A) ff_X7_step := mv_met_of (by decide +kernel) (by decide) hF mv_stok (mv_rzV (by decide +kernel)) mv_clok (mv_dk_ok dk_X7_step) (mv_fk_ok fk_X7) (fun p e s m args below meth c Q hBg hX hR => ⟨fun _ h => absurd h List.not_mem_nil, fun _ h => absurd h List.not_mem_nil⟩) (fun p e s m args below meth c Q hBg hX hR hK => fun _ h => absurd h List.not_mem_nil)
set_option maxRecDepth 20000 in
theorem cw_X7_103 : mv_Cw RX7 103 yX7_fail cX7_fail 2 none (some 7) 2 := mv_cw_of (a := 992) (b := 136) (c := 994) (d := 18) (mv_T 995 rfl rfl) (by decide +kernel)
set_option maxRecDepth 20000 in
theorem cw_X7_100 : mv_Cw RX7 100 yX7_step cX7_step 1 none (some 7) 1 := mv_cw_of (a := 996) (b := 136) (c := 998) (d := 19) (mv_T 999 rfl rfl) (by decide +kernel)
def ic_X7_readNumber : List (Nat × Instr × Nat) := [(0, .aload_n 0, 1), (1, .getfield 33, 3), (4, .aload_n 0, 1), (5, .getfield 48, 3), (8, .iaload, 1), (9, .istore_n 2, 1), (10, .iload_n 2, 1), (11, .ifCond .lt 10, 3), (14, .iload_n 2, 1), (15, .sipush 10000, 3), (18, .if_icmp .lt 11, 3), (21, .aload_n 0, 1), (22, .iconst 1, 1), (23, .invokevirtual 103, 3), (26, .goto 13, 3), (29, .iload_n 2, 1), (30, .iload_n 1, 1), (31, .if_icmp .le 8, 3), (34, .aload_n 0, 1), (35, .iconst 2, 1), (36, .invokevirtual 103, 3), (39, .aload_n 0, 1), (40, .getfield 42, 3), (43, .ifCond .ne 7, 3), (46, .aload_n 0, 1), (47, .invokevirtual 100, 3), (50, .iload_n 2, 1), (51, .ireturn, 1)]
noncomputable def mm_X7_readNumber : mv_M := (ic_X7_readNumber, fl_X7, [], [], [(103, 2, some 7, true, ff_X7_fail), (100, 1, some 7, true, ff_X7_step)], [], none)
noncomputable def ff_X7_readNumber : mv_F := mv_fn mv_rc mm_X7_readNumber mv_sh 400 3
theorem dk_X7_readNumber : mv_dk cX7_readNumber ic_X7_readNumber = true := by decide +kernel
set_option maxRecDepth 20000 in
theorem cc_X7_readNumber {ad : Nat → Nat → Value} {cA : Nat → ClassId} {D : va_G} {tys : List (ClassId × FieldType)} {A : Nat → Prop} (l : Launch) (hF : mv_Fix mv_sh mv_ids mv_ros ad cA tys A mv_rc) : mv_Met l yX7_readNumber cX7_readNumber 3 (some .int) mv_Ts (mv_rm 2) 2 false mv_sh mv_ids mv_ros ad cA mv_cl D tys A mv_rc mv_cr (mv_EX ad A) ff_X7_readNumber := mv_met_of (by decide +kernel) (by decide) hF mv_stok (mv_rzI (by decide +kernel)) mv_clok (mv_dk_ok dk_X7_readNumber) (mv_fk_ok fk_X7) (fun p e s m args below meth c Q hBg hX hR => ⟨fun _ h => absurd h List.not_mem_nil, fun _ h => absurd h List.not_mem_nil⟩) (fun p e s m args below meth c Q hBg hX hR hK => List.forall_mem_cons.mpr ⟨mv_cal_of (cc_X7_fail l hF) hBg hX hR hK mv_EX_ok hF mv_good mv_stok cw_X7_103.1 cw_X7_103.2.1 cw_X7_103.2.2 ⟨rfl, rfl, by exact Nat.le_of_ble_eq_true rfl, by exact Nat.le_of_ble_eq_true rfl⟩ ⟨Nat.zero_le _, Nat.zero_le _⟩, List.forall_mem_cons.mpr ⟨mv_cal_of (cc_X7_step l hF) hBg hX hR hK mv_EX_ok hF mv_good mv_stok cw_X7_100.1 cw_X7_100.2.1 cw_X7_100.2.2 ⟨rfl, rfl, by exact Nat.le_of_ble_eq_true rfl, by exact Nat.le_of_ble_eq_true rfl⟩ ⟨Nat.zero_le _, Nat.zero_le _⟩, fun _ h => absurd h List.not_mem_nil⟩⟩)
def ic_X7_take : List (Nat × Instr × Nat) := [(0, .aload_n 0, 1), (1, .getfield 42, 3), (4, .ifCond .ne 23, 3), (7, .aload_n 0, 1), (8, .getfield 33, 3), (11, .aload_n 0, 1), (12, .getfield 48, 3), (15, .iaload, 1), (16, .iload_n 1, 1), (17, .if_icmp .ne 10, 3), (20, .aload_n 0, 1), (21, .invokevirtual 100, 3), (24, .goto 8, 3), (27, .aload_n 0, 1), (28, .iconst 1, 1), (29, .invokevirtual 103, 3), (32, .return_, 1)]
noncomputable def mm_X7_take : mv_M := (ic_X7_take, fl_X7, [], [], [(100, 1, some 7, true, ff_X7_step), (103, 2, some 7, true, ff_X7_fail)], [], none)
noncomputable def ff_X7_take : mv_F := mv_fn mv_rc mm_X7_take mv_sh 400 2
theorem dk_X7_take : mv_dk cX7_take ic_X7_take = true := by decide +kernel
set_option maxRecDepth 20000 in
theorem cc_X7_take {ad : Nat → Nat → Value} {cA : Nat → ClassId} {D : va_G} {tys : List (ClassId × FieldType)} {A : Nat → Prop} (l : Launch) (hF : mv_Fix mv_sh mv_ids mv_ros ad cA tys A mv_rc) : mv_Met l yX7_take cX7_take 2 none mv_Ts (mv_rm 2) 2 true mv_sh mv_ids mv_ros ad cA mv_cl D tys A mv_rc mv_cr (mv_EX ad A) ff_X7_take := mv_met_of (by decide +kernel) (by decide) hF mv_stok (mv_rzV (by decide +kernel)) mv_clok (mv_dk_ok dk_X7_take) (mv_fk_ok fk_X7) (fun p e s m args below meth c Q hBg hX hR => ⟨fun _ h => absurd h List.not_mem_nil, fun _ h => absurd h List.not_mem_nil⟩) (fun p e s m args below meth c Q hBg hX hR hK => List.forall_mem_cons.mpr ⟨mv_cal_of (cc_X7_step l hF) hBg hX hR hK mv_EX_ok hF mv_good mv_stok cw_X7_100.1 cw_X7_100.2.1 cw_X7_100.2.2 ⟨rfl, rfl, by exact Nat.le_of_ble_eq_true rfl, by exact Nat.le_of_ble_eq_true rfl⟩ ⟨Nat.zero_le _, Nat.zero_le _⟩, List.forall_mem_cons.mpr ⟨mv_cal_of (cc_X7_fail l hF) hBg hX hR hK mv_EX_ok hF mv_good mv_stok cw_X7_103.1 cw_X7_103.2.1 cw_X7_103.2.2 ⟨rfl, rfl, by exact Nat.le_of_ble_eq_true rfl, by exact Nat.le_of_ble_eq_true rfl⟩ ⟨Nat.zero_le _, Nat.zero_le _⟩, fun _ h => absurd h List.not_mem_nil⟩⟩)
end
section
def ic_X3_add : List (Nat × Instr × Nat) := [(0, .aload_n 0, 1), (1, .getfield 21, 3), (4, .bipush 24, 2), (6, .if_icmp .ge 43, 3), (9, .aload_n 0, 1), (10, .getfield 9, 3), (13, .aload_n 0, 1), (14, .getfield 21, 3), (17, .iload_n 1, 1), (18, .iastore, 1), (19, .aload_n 0, 1), (20, .getfield 15, 3), (23, .aload_n 0, 1), (24, .getfield 21, 3), (27, .iload_n 2, 1), (28, .iastore, 1), (29, .aload_n 0, 1), (30, .getfield 18, 3), (33, .aload_n 0, 1), (34, .getfield 21, 3), (37, .iload_n 3, 1), (38, .iastore, 1), (39, .aload_n 0, 1), (40, .dup, 1), (41, .getfield 21, 3), (44, .iconst 1, 1), (45, .iadd, 1), (46, .putfield 21, 3), (49, .return_, 1)]
noncomputable def mm_X3_add : mv_M := (ic_X3_add, fl_X3, [], [], [], [], none)
noncomputable def ff_X3_add : mv_F := mv_fn mv_rc mm_X3_add mv_sh 400 4
theorem dk_X3_add : mv_dk cX3_add ic_X3_add = true := by decide +kernel
set_option maxRecDepth 20000 in
theorem cc_X3_add {ad : Nat → Nat → Value} {cA : Nat → ClassId} {D : va_G} {tys : List (ClassId × FieldType)} {A : Nat → Prop} (l : Launch) (hF : mv_Fix mv_sh mv_ids mv_ros ad cA tys A mv_rc) : mv_Met l yX3_add cX3_add 4 none mv_Ts (mv_rm 1) 4 true mv_sh mv_ids mv_ros ad cA mv_cl D tys A mv_rc mv_cr (mv_EX ad A) ff_X3_add := mv_met_of (by decide +kernel) (by decide) hF mv_stok (mv_rzV (by decide +kernel)) mv_clok (mv_dk_ok dk_X3_add) (mv_fk_ok fk_X3) (fun p e s m args below meth c Q hBg hX hR => ⟨fun _ h => absurd h List.not_mem_nil, fun _ h => absurd h List.not_mem_nil⟩) (fun p e s m args below meth c Q hBg hX hR hK => fun _ h => absurd h List.not_mem_nil)
set_option maxRecDepth 20000 in
theorem cw_X7_144 : mv_Cw RX7 144 yX7_readNumber cX7_readNumber 3 (some .int) (some 7) 2 := mv_cw_of (a := 1000) (b := 136) (c := 1002) (d := 20) (mv_T 1003 rfl rfl) (by decide +kernel)
set_option maxRecDepth 20000 in
theorem cw_X7_128 : mv_Cw RX7 128 yX7_take cX7_take 2 none (some 7) 2 := mv_cw_of (a := 1004) (b := 136) (c := 1006) (d := 21) (mv_T 1007 rfl rfl) (by decide +kernel)
set_option maxRecDepth 20000 in
theorem cw_X7_147 : mv_Cw RX7 147 yX3_add cX3_add 4 none (some 3) 4 := mv_cw_of (a := 1008) (b := 132) (c := 1009) (d := 1010) (mv_T 1011 rfl rfl) (by decide +kernel)
def ic_X7_readDay : List (Nat × Instr × Nat) := [(0, .aload_n 0, 1), (1, .getfield 25, 3), (4, .iconst 0, 1), (5, .putfield 143, 3), (8, .iconst 0, 1), (9, .istore_n 2, 1), (10, .iload_n 2, 1), (11, .aload_n 0, 1), (12, .getfield 61, 3), (15, .if_icmp .ge 125, 3), (18, .aload_n 0, 1), (19, .getfield 42, 3), (22, .ifCond .ne 118, 3), (25, .aload_n 0, 1), (26, .getfield 33, 3), (29, .aload_n 0, 1), (30, .getfield 48, 3), (33, .iaload, 1), (34, .bipush (-2), 2), (36, .if_icmp .eq 104, 3), (39, .aload_n 0, 1), (40, .getfield 33, 3), (43, .aload_n 0, 1), (44, .getfield 48, 3), (47, .iaload, 1), (48, .sipush 20006, 3), (51, .isub, 1), (52, .istore_n 3, 1), (53, .iload_n 3, 1), (54, .ifCond .lt 8, 3), (57, .iload_n 3, 1), (58, .iconst 2, 1), (59, .if_icmp .le 9, 3), (62, .aload_n 0, 1), (63, .iconst 1, 1), (64, .invokevirtual 103, 3), (67, .return_, 1), (68, .aload_n 0, 1), (69, .getfield 25, 3), (72, .getfield 143, 3), (75, .bipush 24, 2), (77, .if_icmp .lt 9, 3), (80, .aload_n 0, 1), (81, .iconst 3, 1), (82, .invokevirtual 103, 3), (85, .return_, 1), (86, .aload_n 0, 1), (87, .invokevirtual 100, 3), (90, .aload_n 0, 1), (91, .iload_n 1, 1), (92, .iconst 1, 1), (93, .isub, 1), (94, .invokevirtual 144, 3), (97, .istore 4, 2), (99, .aload_n 0, 1), (100, .sipush 20014, 3), (103, .invokevirtual 128, 3), (106, .aload_n 0, 1), (107, .sipush 999, 3), (110, .invokevirtual 144, 3), (113, .istore 5, 2), (115, .aload_n 0, 1), (116, .sipush 30059, 3), (119, .invokevirtual 128, 3), (122, .aload_n 0, 1), (123, .getfield 25, 3), (126, .iload_n 3, 1), (127, .iload 4, 2), (129, .iload 5, 2), (131, .invokevirtual 147, 3), (134, .iinc 2 1, 3), (137, .goto (-127), 3), (140, .return_, 1)]
noncomputable def mm_X7_readDay : mv_M := (ic_X7_readDay, fl_X7, [], [], [(103, 2, some 7, true, ff_X7_fail), (100, 1, some 7, true, ff_X7_step), (144, 2, some 7, false, ff_X7_readNumber), (128, 2, some 7, true, ff_X7_take), (147, 4, some 3, true, ff_X3_add)], [(10, [true, true, true, false, false, false])], none)
noncomputable def ff_X7_readDay : mv_F := mv_fn mv_rc mm_X7_readDay mv_sh 400 6
theorem dk_X7_readDay : mv_dk cX7_readDay ic_X7_readDay = true := by decide +kernel
set_option maxRecDepth 20000 in
theorem cc_X7_readDay {ad : Nat → Nat → Value} {cA : Nat → ClassId} {D : va_G} {tys : List (ClassId × FieldType)} {A : Nat → Prop} (l : Launch) (hF : mv_Fix mv_sh mv_ids mv_ros ad cA tys A mv_rc) : mv_Met l yX7_readDay cX7_readDay 6 none mv_Ts (mv_rm 3) 2 true mv_sh mv_ids mv_ros ad cA mv_cl D tys A mv_rc mv_cr (mv_EX ad A) ff_X7_readDay := mv_met_of (by decide +kernel) (by decide) hF mv_stok (mv_rzV (by decide +kernel)) mv_clok (mv_dk_ok dk_X7_readDay) (mv_fk_ok fk_X7) (fun p e s m args below meth c Q hBg hX hR => ⟨fun _ h => absurd h List.not_mem_nil, fun _ h => absurd h List.not_mem_nil⟩) (fun p e s m args below meth c Q hBg hX hR hK => List.forall_mem_cons.mpr ⟨mv_cal_of (cc_X7_fail l hF) hBg hX hR hK mv_EX_ok hF mv_good mv_stok cw_X7_103.1 cw_X7_103.2.1 cw_X7_103.2.2 ⟨rfl, rfl, by exact Nat.le_of_ble_eq_true rfl, by exact Nat.le_of_ble_eq_true rfl⟩ ⟨Nat.zero_le _, Nat.zero_le _⟩, List.forall_mem_cons.mpr ⟨mv_cal_of (cc_X7_step l hF) hBg hX hR hK mv_EX_ok hF mv_good mv_stok cw_X7_100.1 cw_X7_100.2.1 cw_X7_100.2.2 ⟨rfl, rfl, by exact Nat.le_of_ble_eq_true rfl, by exact Nat.le_of_ble_eq_true rfl⟩ ⟨Nat.zero_le _, Nat.zero_le _⟩, List.forall_mem_cons.mpr ⟨mv_cal_of (cc_X7_readNumber l hF) hBg hX hR hK mv_EX_ok hF mv_good mv_stok cw_X7_144.1 cw_X7_144.2.1 cw_X7_144.2.2 ⟨rfl, rfl, by exact Nat.le_of_ble_eq_true rfl, by exact Nat.le_of_ble_eq_true rfl⟩ ⟨Nat.zero_le _, Nat.zero_le _⟩, List.forall_mem_cons.mpr ⟨mv_cal_of (cc_X7_take l hF) hBg hX hR hK mv_EX_ok hF mv_good mv_stok cw_X7_128.1 cw_X7_128.2.1 cw_X7_128.2.2 ⟨rfl, rfl, by exact Nat.le_of_ble_eq_true rfl, by exact Nat.le_of_ble_eq_true rfl⟩ ⟨Nat.zero_le _, Nat.zero_le _⟩, List.forall_mem_cons.mpr ⟨mv_cal_of (cc_X3_add l hF) hBg hX hR hK mv_EX_ok hF mv_good mv_stok cw_X7_147.1 cw_X7_147.2.1 cw_X7_147.2.2 ⟨rfl, rfl, by exact Nat.le_of_ble_eq_true rfl, by exact Nat.le_of_ble_eq_true rfl⟩ ⟨Nat.zero_le _, Nat.zero_le _⟩, fun _ h => absurd h List.not_mem_nil⟩⟩⟩⟩⟩)
def ic_X5_clear : List (Nat × Instr × Nat) := [(0, .aload_n 0, 1), (1, .iconst 0, 1), (2, .putfield 27, 3), (5, .aload_n 0, 1), (6, .iconst 0, 1), (7, .putfield 31, 3), (10, .return_, 1)]
noncomputable def mm_X5_clear : mv_M := (ic_X5_clear, fl_X5, [], [], [], [], none)
noncomputable def ff_X5_clear : mv_F := mv_fn mv_rc mm_X5_clear mv_sh 400 1
theorem dk_X5_clear : mv_dk cX5_clear ic_X5_clear = true := by decide +kernel
set_option maxRecDepth 20000 in
theorem cc_X5_clear {ad : Nat → Nat → Value} {cA : Nat → ClassId} {D : va_G} {tys : List (ClassId × FieldType)} {A : Nat → Prop} (l : Launch) (hF : mv_Fix mv_sh mv_ids mv_ros ad cA tys A mv_rc) : mv_Met l yX5_clear cX5_clear 1 none mv_Ts (mv_rm 1) 1 true mv_sh mv_ids mv_ros ad cA mv_cl D tys A mv_rc mv_cr (mv_EX ad A) ff_X5_clear := mv_met_of (by decide +kernel) (by decide) hF mv_stok (mv_rzV (by decide +kernel)) mv_clok (mv_dk_ok dk_X5_clear) (mv_fk_ok fk_X5) (fun p e s m args below meth c Q hBg hX hR => ⟨fun _ h => absurd h List.not_mem_nil, fun _ h => absurd h List.not_mem_nil⟩) (fun p e s m args below meth c Q hBg hX hR hK => fun _ h => absurd h List.not_mem_nil)
def ic_X7_isTerm : List (Nat × Instr × Nat) := [(0, .iload_n 1, 1), (1, .sipush 20009, 3), (4, .isub, 1), (5, .istore_n 2, 1), (6, .iload_n 2, 1), (7, .ifCond .lt 9, 3), (10, .iload_n 2, 1), (11, .bipush 11, 2), (13, .if_icmp .le 5, 3), (16, .iconst 0, 1), (17, .ireturn, 1), (18, .iload_n 2, 1), (19, .iconst 4, 1), (20, .if_icmp .le 30, 3), (23, .aload_n 0, 1), (24, .getfield 45, 3), (27, .iconst 1, 1), (28, .if_icmp .ne 7, 3), (31, .iconst 1, 1), (32, .goto 4, 3), (35, .iconst 0, 1), (36, .iload_n 2, 1), (37, .bipush 11, 2), (39, .if_icmp .ne 7, 3), (42, .iconst 1, 1), (43, .goto 4, 3), (46, .iconst 0, 1), (47, .if_icmp .ne 7, 3), (50, .iconst 1, 1), (51, .goto 4, 3), (54, .iconst 0, 1), (55, .ireturn, 1)]
noncomputable def mm_X7_isTerm : mv_M := (ic_X7_isTerm, fl_X7, [], [], [], [], (some (0, 1)))
noncomputable def ff_X7_isTerm : mv_F := mv_fn mv_rc mm_X7_isTerm mv_sh 400 3
theorem dk_X7_isTerm : mv_dk cX7_isTerm ic_X7_isTerm = true := by decide +kernel
set_option maxRecDepth 20000 in
theorem cc_X7_isTerm {ad : Nat → Nat → Value} {cA : Nat → ClassId} {D : va_G} {tys : List (ClassId × FieldType)} {A : Nat → Prop} (l : Launch) (hF : mv_Fix mv_sh mv_ids mv_ros ad cA tys A mv_rc) : mv_Met l yX7_isTerm cX7_isTerm 3 (some .boolean) mv_Ts (mv_rm 1) 2 false mv_sh mv_ids mv_ros ad cA mv_cl D tys A mv_rc mv_cr (mv_EX ad A) ff_X7_isTerm := mv_met_of (by decide +kernel) (by decide) hF mv_stok (mv_rzZ (by decide +kernel) rfl) mv_clok (mv_dk_ok dk_X7_isTerm) (mv_fk_ok fk_X7) (fun p e s m args below meth c Q hBg hX hR => ⟨fun _ h => absurd h List.not_mem_nil, fun _ h => absurd h List.not_mem_nil⟩) (fun p e s m args below meth c Q hBg hX hR hK => fun _ h => absurd h List.not_mem_nil)
def ic_X5_add : List (Nat × Instr × Nat) := [(0, .aload_n 0, 1), (1, .getfield 31, 3), (4, .aload_n 0, 1), (5, .getfield 11, 3), (8, .arraylength, 1), (9, .if_icmp .ge 23, 3), (12, .aload_n 0, 1), (13, .getfield 11, 3), (16, .aload_n 0, 1), (17, .getfield 31, 3), (20, .iload_n 1, 1), (21, .iastore, 1), (22, .aload_n 0, 1), (23, .dup, 1), (24, .getfield 31, 3), (27, .iconst 1, 1), (28, .iadd, 1), (29, .putfield 31, 3), (32, .return_, 1)]
noncomputable def mm_X5_add : mv_M := (ic_X5_add, fl_X5, [], [], [], [], none)
noncomputable def ff_X5_add : mv_F := mv_fn mv_rc mm_X5_add mv_sh 400 2
theorem dk_X5_add : mv_dk cX5_add ic_X5_add = true := by decide +kernel
set_option maxRecDepth 20000 in
theorem cc_X5_add {ad : Nat → Nat → Value} {cA : Nat → ClassId} {D : va_G} {tys : List (ClassId × FieldType)} {A : Nat → Prop} (l : Launch) (hF : mv_Fix mv_sh mv_ids mv_ros ad cA tys A mv_rc) : mv_Met l yX5_add cX5_add 2 none mv_Ts (mv_rm 1) 2 true mv_sh mv_ids mv_ros ad cA mv_cl D tys A mv_rc mv_cr (mv_EX ad A) ff_X5_add := mv_met_of (by decide +kernel) (by decide) hF mv_stok (mv_rzV (by decide +kernel)) mv_clok (mv_dk_ok dk_X5_add) (mv_fk_ok fk_X5) (fun p e s m args below meth c Q hBg hX hR => ⟨fun _ h => absurd h List.not_mem_nil, fun _ h => absurd h List.not_mem_nil⟩) (fun p e s m args below meth c Q hBg hX hR hK => fun _ h => absurd h List.not_mem_nil)
set_option maxRecDepth 20000 in
theorem cw_X7_140 : mv_Cw RX7 140 yX7_isTerm cX7_isTerm 3 (some .boolean) (some 7) 2 := mv_cw_of (a := 1025) (b := 136) (c := 1027) (d := 25) (mv_T 1028 rfl rfl) (by decide +kernel)
set_option maxRecDepth 20000 in
theorem cw_X7_134 : mv_Cw RX7 134 yX5_add cX5_add 2 none (some 5) 2 := mv_cw_of (a := 1029) (b := 131) (c := 1030) (d := 1031) (mv_T 1032 rfl rfl) (by decide +kernel)
def ic_X7_readProduct : List (Nat × Instr × Nat) := [(0, .bipush (-2), 2), (2, .istore_n 1, 1), (3, .iconst 0, 1), (4, .istore_n 2, 1), (5, .iload_n 2, 1), (6, .aload_n 0, 1), (7, .getfield 61, 3), (10, .if_icmp .ge 167, 3), (13, .aload_n 0, 1), (14, .getfield 42, 3), (17, .ifCond .ne 160, 3), (20, .aload_n 0, 1), (21, .getfield 33, 3), (24, .aload_n 0, 1), (25, .getfield 48, 3), (28, .iaload, 1), (29, .istore_n 3, 1), (30, .iload_n 3, 1), (31, .ifCond .lt 14, 3), (34, .iload_n 3, 1), (35, .sipush 10000, 3), (38, .if_icmp .ge 7, 3), (41, .iconst 1, 1), (42, .goto 4, 3), (45, .iconst 0, 1), (46, .istore 4, 2), (48, .iload_n 1, 1), (49, .sipush 30047, 3), (52, .if_icmp .ne 7, 3), (55, .iconst 1, 1), (56, .goto 4, 3), (59, .iconst 0, 1), (60, .istore 5, 2), (62, .iload 4, 2), (64, .ifCond .ne 22, 3), (67, .iload 5, 2), (69, .ifCond .ne 11, 3), (72, .aload_n 0, 1), (73, .iload_n 3, 1), (74, .invokevirtual 140, 3), (77, .ifCond .ne 9, 3), (80, .aload_n 0, 1), (81, .iconst 1, 1), (82, .invokevirtual 103, 3), (85, .return_, 1), (86, .iload 5, 2), (88, .ifCond .eq 13, 3), (91, .iload_n 3, 1), (92, .ifCond .ne 9, 3), (95, .aload_n 0, 1), (96, .iconst 2, 1), (97, .invokevirtual 103, 3), (100, .return_, 1), (101, .aload_n 0, 1), (102, .getfield 18, 3), (105, .iload 4, 2), (107, .ifCond .eq 7, 3), (110, .iload_n 3, 1), (111, .goto 12, 3), (114, .iload_n 3, 1), (115, .sipush 20009, 3), (118, .isub, 1), (119, .sipush 10000, 3), (122, .iadd, 1), (123, .invokevirtual 134, 3), (126, .iload_n 2, 1), (127, .ifCond .le 11, 3), (130, .aload_n 0, 1), (131, .getfield 18, 3), (134, .iload_n 1, 1), (135, .invokevirtual 134, 3), (138, .aload_n 0, 1), (139, .invokevirtual 100, 3), (142, .aload_n 0, 1), (143, .getfield 33, 3), (146, .aload_n 0, 1), (147, .getfield 48, 3), (150, .iaload, 1), (151, .istore_n 1, 1), (152, .iload_n 1, 1), (153, .sipush 30042, 3), (156, .if_icmp .eq 11, 3), (159, .iload_n 1, 1), (160, .sipush 30047, 3), (163, .if_icmp .eq 4, 3), (166, .return_, 1), (167, .aload_n 0, 1), (168, .invokevirtual 100, 3), (171, .iinc 2 1, 3), (174, .goto (-169), 3), (177, .return_, 1)]
noncomputable def mm_X7_readProduct : mv_M := (ic_X7_readProduct, fl_X7, [], [], [(140, 2, some 7, false, ff_X7_isTerm), (103, 2, some 7, true, ff_X7_fail), (134, 2, some 5, true, ff_X5_add), (100, 1, some 7, true, ff_X7_step)], [(5, [true, true, true, false, false, false])], none)
noncomputable def ff_X7_readProduct : mv_F := mv_fn mv_rc mm_X7_readProduct mv_sh 400 6
theorem dk_X7_readProduct : mv_dk cX7_readProduct ic_X7_readProduct = true := by decide +kernel
set_option maxRecDepth 20000 in
theorem cc_X7_readProduct {ad : Nat → Nat → Value} {cA : Nat → ClassId} {D : va_G} {tys : List (ClassId × FieldType)} {A : Nat → Prop} (l : Launch) (hF : mv_Fix mv_sh mv_ids mv_ros ad cA tys A mv_rc) : mv_Met l yX7_readProduct cX7_readProduct 6 none mv_Ts (mv_rm 2) 1 true mv_sh mv_ids mv_ros ad cA mv_cl D tys A mv_rc mv_cr (mv_EX ad A) ff_X7_readProduct := mv_met_of (by decide +kernel) (by decide) hF mv_stok (mv_rzV (by decide +kernel)) mv_clok (mv_dk_ok dk_X7_readProduct) (mv_fk_ok fk_X7) (fun p e s m args below meth c Q hBg hX hR => ⟨fun _ h => absurd h List.not_mem_nil, fun _ h => absurd h List.not_mem_nil⟩) (fun p e s m args below meth c Q hBg hX hR hK => List.forall_mem_cons.mpr ⟨mv_cal_of (cc_X7_isTerm l hF) hBg hX hR hK mv_EX_ok hF mv_good mv_stok cw_X7_140.1 cw_X7_140.2.1 cw_X7_140.2.2 ⟨rfl, rfl, by exact Nat.le_of_ble_eq_true rfl, by exact Nat.le_of_ble_eq_true rfl⟩ ⟨Nat.zero_le _, Nat.zero_le _⟩, List.forall_mem_cons.mpr ⟨mv_cal_of (cc_X7_fail l hF) hBg hX hR hK mv_EX_ok hF mv_good mv_stok cw_X7_103.1 cw_X7_103.2.1 cw_X7_103.2.2 ⟨rfl, rfl, by exact Nat.le_of_ble_eq_true rfl, by exact Nat.le_of_ble_eq_true rfl⟩ ⟨Nat.zero_le _, Nat.zero_le _⟩, List.forall_mem_cons.mpr ⟨mv_cal_of (cc_X5_add l hF) hBg hX hR hK mv_EX_ok hF mv_good mv_stok cw_X7_134.1 cw_X7_134.2.1 cw_X7_134.2.2 ⟨rfl, rfl, by exact Nat.le_of_ble_eq_true rfl, by exact Nat.le_of_ble_eq_true rfl⟩ ⟨Nat.zero_le _, Nat.zero_le _⟩, List.forall_mem_cons.mpr ⟨mv_cal_of (cc_X7_step l hF) hBg hX hR hK mv_EX_ok hF mv_good mv_stok cw_X7_100.1 cw_X7_100.2.1 cw_X7_100.2.2 ⟨rfl, rfl, by exact Nat.le_of_ble_eq_true rfl, by exact Nat.le_of_ble_eq_true rfl⟩ ⟨Nat.zero_le _, Nat.zero_le _⟩, fun _ h => absurd h List.not_mem_nil⟩⟩⟩⟩)
set_option maxRecDepth 20000 in
theorem cw_X7_137 : mv_Cw RX7 137 yX7_readProduct cX7_readProduct 6 none (some 7) 1 := mv_cw_of (a := 1021) (b := 136) (c := 1023) (d := 24) (mv_T 1024 rfl rfl) (by decide +kernel)
def ic_X7_readSum : List (Nat × Instr × Nat) := [(0, .bipush (-2), 2), (2, .istore_n 1, 1), (3, .iconst 0, 1), (4, .istore_n 2, 1), (5, .iload_n 2, 1), (6, .aload_n 0, 1), (7, .getfield 61, 3), (10, .if_icmp .ge 61, 3), (13, .aload_n 0, 1), (14, .getfield 42, 3), (17, .ifCond .ne 54, 3), (20, .aload_n 0, 1), (21, .invokevirtual 137, 3), (24, .iload_n 2, 1), (25, .ifCond .le 11, 3), (28, .aload_n 0, 1), (29, .getfield 18, 3), (32, .iload_n 1, 1), (33, .invokevirtual 134, 3), (36, .aload_n 0, 1), (37, .getfield 33, 3), (40, .aload_n 0, 1), (41, .getfield 48, 3), (44, .iaload, 1), (45, .istore_n 1, 1), (46, .iload_n 1, 1), (47, .sipush 30043, 3), (50, .if_icmp .eq 11, 3), (53, .iload_n 1, 1), (54, .sipush 30045, 3), (57, .if_icmp .eq 4, 3), (60, .return_, 1), (61, .aload_n 0, 1), (62, .invokevirtual 100, 3), (65, .iinc 2 1, 3), (68, .goto (-63), 3), (71, .return_, 1)]
noncomputable def mm_X7_readSum : mv_M := (ic_X7_readSum, fl_X7, [], [], [(137, 1, some 7, true, ff_X7_readProduct), (134, 2, some 5, true, ff_X5_add), (100, 1, some 7, true, ff_X7_step)], [(5, [true, true, true])], none)
noncomputable def ff_X7_readSum : mv_F := mv_fn mv_rc mm_X7_readSum mv_sh 400 3
theorem dk_X7_readSum : mv_dk cX7_readSum ic_X7_readSum = true := by decide +kernel
set_option maxRecDepth 20000 in
theorem cc_X7_readSum {ad : Nat → Nat → Value} {cA : Nat → ClassId} {D : va_G} {tys : List (ClassId × FieldType)} {A : Nat → Prop} (l : Launch) (hF : mv_Fix mv_sh mv_ids mv_ros ad cA tys A mv_rc) : mv_Met l yX7_readSum cX7_readSum 3 none mv_Ts (mv_rm 3) 1 true mv_sh mv_ids mv_ros ad cA mv_cl D tys A mv_rc mv_cr (mv_EX ad A) ff_X7_readSum := mv_met_of (by decide +kernel) (by decide) hF mv_stok (mv_rzV (by decide +kernel)) mv_clok (mv_dk_ok dk_X7_readSum) (mv_fk_ok fk_X7) (fun p e s m args below meth c Q hBg hX hR => ⟨fun _ h => absurd h List.not_mem_nil, fun _ h => absurd h List.not_mem_nil⟩) (fun p e s m args below meth c Q hBg hX hR hK => List.forall_mem_cons.mpr ⟨mv_cal_of (cc_X7_readProduct l hF) hBg hX hR hK mv_EX_ok hF mv_good mv_stok cw_X7_137.1 cw_X7_137.2.1 cw_X7_137.2.2 ⟨rfl, rfl, by exact Nat.le_of_ble_eq_true rfl, by exact Nat.le_of_ble_eq_true rfl⟩ ⟨Nat.zero_le _, Nat.zero_le _⟩, List.forall_mem_cons.mpr ⟨mv_cal_of (cc_X5_add l hF) hBg hX hR hK mv_EX_ok hF mv_good mv_stok cw_X7_134.1 cw_X7_134.2.1 cw_X7_134.2.2 ⟨rfl, rfl, by exact Nat.le_of_ble_eq_true rfl, by exact Nat.le_of_ble_eq_true rfl⟩ ⟨Nat.zero_le _, Nat.zero_le _⟩, List.forall_mem_cons.mpr ⟨mv_cal_of (cc_X7_step l hF) hBg hX hR hK mv_EX_ok hF mv_good mv_stok cw_X7_100.1 cw_X7_100.2.1 cw_X7_100.2.2 ⟨rfl, rfl, by exact Nat.le_of_ble_eq_true rfl, by exact Nat.le_of_ble_eq_true rfl⟩ ⟨Nat.zero_le _, Nat.zero_le _⟩, fun _ h => absurd h List.not_mem_nil⟩⟩⟩)
set_option maxRecDepth 20000 in
theorem cw_X7_122 : mv_Cw RX7 122 yX7_readClaims cX7_readClaims 4 none (some 7) 3 := mv_cw_of (a := 1033) (b := 136) (c := 1035) (d := 26) (mv_T 1036 rfl rfl) (by decide +kernel)
set_option maxRecDepth 20000 in
theorem cw_X7_131 : mv_Cw RX7 131 yX7_readClaim cX7_readClaim 4 none (some 7) 2 := mv_cw_of (a := 1037) (b := 136) (c := 1039) (d := 27) (mv_T 1040 rfl rfl) (by decide +kernel)
def ic_X7_readClaims : List (Nat × Instr × Nat) := [(0, .iconst 0, 1), (1, .istore_n 3, 1), (2, .iload_n 3, 1), (3, .aload_n 0, 1), (4, .getfield 61, 3), (7, .if_icmp .ge 69, 3), (10, .aload_n 0, 1), (11, .getfield 42, 3), (14, .ifCond .ne 62, 3), (17, .iload_n 1, 1), (18, .sipush 20003, 3), (21, .if_icmp .ne 14, 3), (24, .aload_n 0, 1), (25, .sipush 20004, 3), (28, .iload_n 2, 1), (29, .invokevirtual 122, 3), (32, .goto 8, 3), (35, .aload_n 0, 1), (36, .iload_n 2, 1), (37, .invokevirtual 131, 3), (40, .iload_n 3, 1), (41, .ifCond .le 11, 3), (44, .aload_n 0, 1), (45, .getfield 18, 3), (48, .iload_n 1, 1), (49, .invokevirtual 134, 3), (52, .aload_n 0, 1), (53, .getfield 33, 3), (56, .aload_n 0, 1), (57, .getfield 48, 3), (60, .iaload, 1), (61, .iload_n 1, 1), (62, .if_icmp .eq 4, 3), (65, .return_, 1), (66, .aload_n 0, 1), (67, .invokevirtual 100, 3), (70, .iinc 3 1, 3), (73, .goto (-71), 3), (76, .return_, 1)]
noncomputable def mm_X7_readClaims (f : mv_F × mv_F) : mv_M := (ic_X7_readClaims, fl_X7, [], [], [(122, 3, some 7, true, f.1), (131, 2, some 7, true, f.2), (134, 2, some 5, true, ff_X5_add), (100, 1, some 7, true, ff_X7_step)], [(2, [true, true, true, true])], none)
theorem dk_X7_readClaims : mv_dk cX7_readClaims ic_X7_readClaims = true := by decide +kernel
set_option maxRecDepth 20000 in
theorem cw_X7_116 : mv_Cw RX7 116 yX7_readSum cX7_readSum 3 none (some 7) 1 := mv_cw_of (a := 1017) (b := 136) (c := 1019) (d := 23) (mv_T 1020 rfl rfl) (by decide +kernel)
def ic_X7_readClaim : List (Nat × Instr × Nat) := [(0, .aload_n 0, 1), (1, .getfield 33, 3), (4, .aload_n 0, 1), (5, .getfield 48, 3), (8, .iaload, 1), (9, .istore_n 2, 1), (10, .iload_n 2, 1), (11, .sipush 20005, 3), (14, .if_icmp .eq 10, 3), (17, .iload_n 2, 1), (18, .sipush 30040, 3), (21, .if_icmp .ne 64, 3), (24, .iload_n 1, 1), (25, .bipush 8, 2), (27, .if_icmp .lt 9, 3), (30, .aload_n 0, 1), (31, .iconst 3, 1), (32, .invokevirtual 103, 3), (35, .return_, 1), (36, .aload_n 0, 1), (37, .invokevirtual 100, 3), (40, .iload_n 2, 1), (41, .sipush 20005, 3), (44, .if_icmp .ne 23, 3), (47, .aload_n 0, 1), (48, .iload_n 1, 1), (49, .iconst 1, 1), (50, .iadd, 1), (51, .invokevirtual 131, 3), (54, .aload_n 0, 1), (55, .getfield 18, 3), (58, .sipush 20005, 3), (61, .invokevirtual 134, 3), (64, .goto 20, 3), (67, .aload_n 0, 1), (68, .sipush 20003, 3), (71, .iload_n 1, 1), (72, .iconst 1, 1), (73, .iadd, 1), (74, .invokevirtual 122, 3), (77, .aload_n 0, 1), (78, .sipush 30041, 3), (81, .invokevirtual 128, 3), (84, .return_, 1), (85, .aload_n 0, 1), (86, .invokevirtual 116, 3), (89, .aload_n 0, 1), (90, .getfield 33, 3), (93, .aload_n 0, 1), (94, .getfield 48, 3), (97, .iaload, 1), (98, .istore_n 3, 1), (99, .iload_n 3, 1), (100, .sipush 30060, 3), (103, .if_icmp .eq 22, 3), (106, .iload_n 3, 1), (107, .sipush 30061, 3), (110, .if_icmp .eq 15, 3), (113, .iload_n 3, 1), (114, .sipush 30062, 3), (117, .if_icmp .eq 8, 3), (120, .aload_n 0, 1), (121, .iconst 1, 1), (122, .invokevirtual 103, 3), (125, .aload_n 0, 1), (126, .getfield 42, 3), (129, .ifCond .ne 19, 3), (132, .aload_n 0, 1), (133, .invokevirtual 100, 3), (136, .aload_n 0, 1), (137, .invokevirtual 116, 3), (140, .aload_n 0, 1), (141, .getfield 18, 3), (144, .iload_n 3, 1), (145, .invokevirtual 134, 3), (148, .return_, 1)]
noncomputable def mm_X7_readClaim (f : mv_F × mv_F) : mv_M := (ic_X7_readClaim, fl_X7, [], [], [(103, 2, some 7, true, ff_X7_fail), (100, 1, some 7, true, ff_X7_step), (131, 2, some 7, true, f.2), (134, 2, some 5, true, ff_X5_add), (122, 3, some 7, true, f.1), (128, 2, some 7, true, ff_X7_take), (116, 1, some 7, true, ff_X7_readSum)], [], none)
theorem dk_X7_readClaim : mv_dk cX7_readClaim ic_X7_readClaim = true := by decide +kernel
noncomputable def ff_rc : Nat → mv_F × mv_F
  | 0 => (fun _ _ => none, fun _ _ => none)
  | d + 1 => (mv_fn mv_rc (mm_X7_readClaims (ff_rc d)) mv_sh 400 4, mv_fn mv_rc (mm_X7_readClaim (ff_rc d)) mv_sh 400 4)
set_option maxRecDepth 20000 in
theorem cc_rc {ad : Nat → Nat → Value} {cA : Nat → ClassId} {D : va_G} {tys : List (ClassId × FieldType)} {A : Nat → Prop} (l : Launch) (hF : mv_Fix mv_sh mv_ids mv_ros ad cA tys A mv_rc) : ∀ d : Nat, mv_Met l yX7_readClaims cX7_readClaims 4 none mv_Ts (mv_rm (4 + d)) 3 true mv_sh mv_ids mv_ros ad cA mv_cl D tys A mv_rc mv_cr (mv_EX ad A) (ff_rc d).1 ∧ mv_Met l yX7_readClaim cX7_readClaim 4 none mv_Ts (mv_rm (4 + d)) 2 true mv_sh mv_ids mv_ros ad cA mv_cl D tys A mv_rc mv_cr (mv_EX ad A) (ff_rc d).2
  | 0 => ⟨fun _ _ _ _ _ _ h => (by cases h), fun _ _ _ _ _ _ h => (by cases h)⟩
  | d + 1 => by
    have ih := cc_rc (D := D) l hF d
    exact ⟨mv_met_of (by decide +kernel) (by decide) hF mv_stok (mv_rzV (by decide +kernel)) mv_clok (mv_dk_ok dk_X7_readClaims) (mv_fk_ok fk_X7) (fun p e s m args below meth c Q hBg hX hR => ⟨fun _ h => absurd h List.not_mem_nil, fun _ h => absurd h List.not_mem_nil⟩) (fun p e s m args below meth c Q hBg hX hR hK => List.forall_mem_cons.mpr ⟨mv_cal_of ih.1 hBg hX hR hK mv_EX_ok hF mv_good mv_stok cw_X7_122.1 cw_X7_122.2.1 cw_X7_122.2.2 ⟨rfl, rfl, by show _ + 1 ≤ _; first | omega | (simp only [mv_rm]; omega), by simp only [mv_rm]; omega⟩ ⟨Nat.zero_le _, Nat.zero_le _⟩, List.forall_mem_cons.mpr ⟨mv_cal_of ih.2 hBg hX hR hK mv_EX_ok hF mv_good mv_stok cw_X7_131.1 cw_X7_131.2.1 cw_X7_131.2.2 ⟨rfl, rfl, by show _ + 1 ≤ _; first | omega | (simp only [mv_rm]; omega), by simp only [mv_rm]; omega⟩ ⟨Nat.zero_le _, Nat.zero_le _⟩, List.forall_mem_cons.mpr ⟨mv_cal_of (cc_X5_add l hF) hBg hX hR hK mv_EX_ok hF mv_good mv_stok cw_X7_134.1 cw_X7_134.2.1 cw_X7_134.2.2 ⟨rfl, rfl, by show _ + 1 ≤ _; first | omega | (simp only [mv_rm]; omega), by simp only [mv_rm]; omega⟩ ⟨Nat.zero_le _, Nat.zero_le _⟩, List.forall_mem_cons.mpr ⟨mv_cal_of (cc_X7_step l hF) hBg hX hR hK mv_EX_ok hF mv_good mv_stok cw_X7_100.1 cw_X7_100.2.1 cw_X7_100.2.2 ⟨rfl, rfl, by show _ + 1 ≤ _; first | omega | (simp only [mv_rm]; omega), by simp only [mv_rm]; omega⟩ ⟨Nat.zero_le _, Nat.zero_le _⟩, fun _ h => absurd h List.not_mem_nil⟩⟩⟩⟩), mv_met_of (by decide +kernel) (by decide) hF mv_stok (mv_rzV (by decide +kernel)) mv_clok (mv_dk_ok dk_X7_readClaim) (mv_fk_ok fk_X7) (fun p e s m args below meth c Q hBg hX hR => ⟨fun _ h => absurd h List.not_mem_nil, fun _ h => absurd h List.not_mem_nil⟩) (fun p e s m args below meth c Q hBg hX hR hK => List.forall_mem_cons.mpr ⟨mv_cal_of (cc_X7_fail l hF) hBg hX hR hK mv_EX_ok hF mv_good mv_stok cw_X7_103.1 cw_X7_103.2.1 cw_X7_103.2.2 ⟨rfl, rfl, by show _ + 1 ≤ _; first | omega | (simp only [mv_rm]; omega), by simp only [mv_rm]; omega⟩ ⟨Nat.zero_le _, Nat.zero_le _⟩, List.forall_mem_cons.mpr ⟨mv_cal_of (cc_X7_step l hF) hBg hX hR hK mv_EX_ok hF mv_good mv_stok cw_X7_100.1 cw_X7_100.2.1 cw_X7_100.2.2 ⟨rfl, rfl, by show _ + 1 ≤ _; first | omega | (simp only [mv_rm]; omega), by simp only [mv_rm]; omega⟩ ⟨Nat.zero_le _, Nat.zero_le _⟩, List.forall_mem_cons.mpr ⟨mv_cal_of ih.2 hBg hX hR hK mv_EX_ok hF mv_good mv_stok cw_X7_131.1 cw_X7_131.2.1 cw_X7_131.2.2 ⟨rfl, rfl, by show _ + 1 ≤ _; first | omega | (simp only [mv_rm]; omega), by simp only [mv_rm]; omega⟩ ⟨Nat.zero_le _, Nat.zero_le _⟩, List.forall_mem_cons.mpr ⟨mv_cal_of (cc_X5_add l hF) hBg hX hR hK mv_EX_ok hF mv_good mv_stok cw_X7_134.1 cw_X7_134.2.1 cw_X7_134.2.2 ⟨rfl, rfl, by show _ + 1 ≤ _; first | omega | (simp only [mv_rm]; omega), by simp only [mv_rm]; omega⟩ ⟨Nat.zero_le _, Nat.zero_le _⟩, List.forall_mem_cons.mpr ⟨mv_cal_of ih.1 hBg hX hR hK mv_EX_ok hF mv_good mv_stok cw_X7_122.1 cw_X7_122.2.1 cw_X7_122.2.2 ⟨rfl, rfl, by show _ + 1 ≤ _; first | omega | (simp only [mv_rm]; omega), by simp only [mv_rm]; omega⟩ ⟨Nat.zero_le _, Nat.zero_le _⟩, List.forall_mem_cons.mpr ⟨mv_cal_of (cc_X7_take l hF) hBg hX hR hK mv_EX_ok hF mv_good mv_stok cw_X7_128.1 cw_X7_128.2.1 cw_X7_128.2.2 ⟨rfl, rfl, by show _ + 1 ≤ _; first | omega | (simp only [mv_rm]; omega), by simp only [mv_rm]; omega⟩ ⟨Nat.zero_le _, Nat.zero_le _⟩, List.forall_mem_cons.mpr ⟨mv_cal_of (cc_X7_readSum l hF) hBg hX hR hK mv_EX_ok hF mv_good mv_stok cw_X7_116.1 cw_X7_116.2.1 cw_X7_116.2.2 ⟨rfl, rfl, by show _ + 1 ≤ _; first | omega | (simp only [mv_rm]; omega), by simp only [mv_rm]; omega⟩ ⟨Nat.zero_le _, Nat.zero_le _⟩, fun _ h => absurd h List.not_mem_nil⟩⟩⟩⟩⟩⟩⟩)⟩
set_option maxRecDepth 20000 in
theorem cw_X7_106 : mv_Cw RX7 106 yX5_clear cX5_clear 1 none (some 5) 1 := mv_cw_of (a := 1016) (b := 131) (c := 244) (d := 245) (mv_T 246 rfl rfl) (by decide +kernel)
def ic_X7_readLaw : List (Nat × Instr × Nat) := [(0, .aload_n 0, 1), (1, .getfield 18, 3), (4, .invokevirtual 106, 3), (7, .iconst 0, 1), (8, .istore_n 1, 1), (9, .iload_n 1, 1), (10, .aload_n 0, 1), (11, .getfield 61, 3), (14, .if_icmp .ge 202, 3), (17, .aload_n 0, 1), (18, .getfield 42, 3), (21, .ifCond .ne 195, 3), (24, .aload_n 0, 1), (25, .getfield 33, 3), (28, .aload_n 0, 1), (29, .getfield 48, 3), (32, .iaload, 1), (33, .bipush (-2), 2), (35, .if_icmp .eq 181, 3), (38, .aload_n 0, 1), (39, .getfield 33, 3), (42, .aload_n 0, 1), (43, .getfield 48, 3), (46, .iaload, 1), (47, .sipush 20000, 3), (50, .aload_n 0, 1), (51, .getfield 45, 3), (54, .iadd, 1), (55, .if_icmp .eq 9, 3), (58, .aload_n 0, 1), (59, .iconst 1, 1), (60, .invokevirtual 103, 3), (63, .return_, 1), (64, .aload_n 0, 1), (65, .getfield 18, 3), (68, .getfield 109, 3), (71, .bipush 16, 2), (73, .if_icmp .lt 9, 3), (76, .aload_n 0, 1), (77, .iconst 3, 1), (78, .invokevirtual 103, 3), (81, .return_, 1), (82, .aload_n 0, 1), (83, .invokevirtual 100, 3), (86, .aload_n 0, 1), (87, .getfield 18, 3), (90, .getfield 112, 3), (93, .aload_n 0, 1), (94, .getfield 18, 3), (97, .getfield 109, 3), (100, .aload_n 0, 1), (101, .getfield 18, 3), (104, .getfield 115, 3), (107, .iastore, 1), (108, .aload_n 0, 1), (109, .invokevirtual 116, 3), (112, .aload_n 0, 1), (113, .getfield 18, 3), (116, .getfield 119, 3), (119, .aload_n 0, 1), (120, .getfield 18, 3), (123, .getfield 109, 3), (126, .aload_n 0, 1), (127, .getfield 18, 3), (130, .getfield 115, 3), (133, .iastore, 1), (134, .aload_n 0, 1), (135, .getfield 42, 3), (138, .ifCond .ne 30, 3), (141, .aload_n 0, 1), (142, .getfield 33, 3), (145, .aload_n 0, 1), (146, .getfield 48, 3), (149, .iaload, 1), (150, .sipush 20002, 3), (153, .if_icmp .ne 15, 3), (156, .aload_n 0, 1), (157, .invokevirtual 100, 3), (160, .aload_n 0, 1), (161, .sipush 20003, 3), (164, .iconst 0, 1), (165, .invokevirtual 122, 3), (168, .aload_n 0, 1), (169, .getfield 18, 3), (172, .getfield 125, 3), (175, .aload_n 0, 1), (176, .getfield 18, 3), (179, .getfield 109, 3), (182, .aload_n 0, 1), (183, .getfield 18, 3), (186, .getfield 115, 3), (189, .iastore, 1), (190, .aload_n 0, 1), (191, .getfield 18, 3), (194, .dup, 1), (195, .getfield 109, 3), (198, .iconst 1, 1), (199, .iadd, 1), (200, .putfield 109, 3), (203, .aload_n 0, 1), (204, .sipush 30059, 3), (207, .invokevirtual 128, 3), (210, .iinc 1 1, 3), (213, .goto (-204), 3), (216, .return_, 1)]
noncomputable def mm_X7_readLaw : mv_M := (ic_X7_readLaw, fl_X7, [], [], [(106, 1, some 5, true, ff_X5_clear), (103, 2, some 7, true, ff_X7_fail), (100, 1, some 7, true, ff_X7_step), (116, 1, some 7, true, ff_X7_readSum), (122, 3, some 7, true, (ff_rc 20).1), (128, 2, some 7, true, ff_X7_take)], [(9, [true, true])], none)
noncomputable def ff_X7_readLaw : mv_F := mv_fn mv_rc mm_X7_readLaw mv_sh 400 2
theorem dk_X7_readLaw : mv_dk cX7_readLaw ic_X7_readLaw = true := by decide +kernel
set_option maxRecDepth 20000 in
theorem cc_X7_readLaw {ad : Nat → Nat → Value} {cA : Nat → ClassId} {D : va_G} {tys : List (ClassId × FieldType)} {A : Nat → Prop} (l : Launch) (hF : mv_Fix mv_sh mv_ids mv_ros ad cA tys A mv_rc) : mv_Met l yX7_readLaw cX7_readLaw 2 none mv_Ts (mv_rm 25) 1 true mv_sh mv_ids mv_ros ad cA mv_cl D tys A mv_rc mv_cr (mv_EX ad A) ff_X7_readLaw := mv_met_of (by decide +kernel) (by decide) hF mv_stok (mv_rzV (by decide +kernel)) mv_clok (mv_dk_ok dk_X7_readLaw) (mv_fk_ok fk_X7) (fun p e s m args below meth c Q hBg hX hR => ⟨fun _ h => absurd h List.not_mem_nil, fun _ h => absurd h List.not_mem_nil⟩) (fun p e s m args below meth c Q hBg hX hR hK => List.forall_mem_cons.mpr ⟨mv_cal_of (cc_X5_clear l hF) hBg hX hR hK mv_EX_ok hF mv_good mv_stok cw_X7_106.1 cw_X7_106.2.1 cw_X7_106.2.2 ⟨rfl, rfl, by exact Nat.le_of_ble_eq_true rfl, by exact Nat.le_of_ble_eq_true rfl⟩ ⟨Nat.zero_le _, Nat.zero_le _⟩, List.forall_mem_cons.mpr ⟨mv_cal_of (cc_X7_fail l hF) hBg hX hR hK mv_EX_ok hF mv_good mv_stok cw_X7_103.1 cw_X7_103.2.1 cw_X7_103.2.2 ⟨rfl, rfl, by exact Nat.le_of_ble_eq_true rfl, by exact Nat.le_of_ble_eq_true rfl⟩ ⟨Nat.zero_le _, Nat.zero_le _⟩, List.forall_mem_cons.mpr ⟨mv_cal_of (cc_X7_step l hF) hBg hX hR hK mv_EX_ok hF mv_good mv_stok cw_X7_100.1 cw_X7_100.2.1 cw_X7_100.2.2 ⟨rfl, rfl, by exact Nat.le_of_ble_eq_true rfl, by exact Nat.le_of_ble_eq_true rfl⟩ ⟨Nat.zero_le _, Nat.zero_le _⟩, List.forall_mem_cons.mpr ⟨mv_cal_of (cc_X7_readSum l hF) hBg hX hR hK mv_EX_ok hF mv_good mv_stok cw_X7_116.1 cw_X7_116.2.1 cw_X7_116.2.2 ⟨rfl, rfl, by exact Nat.le_of_ble_eq_true rfl, by exact Nat.le_of_ble_eq_true rfl⟩ ⟨Nat.zero_le _, Nat.zero_le _⟩, List.forall_mem_cons.mpr ⟨mv_cal_of (cc_rc l hF 20).1 hBg hX hR hK mv_EX_ok hF mv_good mv_stok cw_X7_122.1 cw_X7_122.2.1 cw_X7_122.2.2 ⟨rfl, rfl, by exact Nat.le_of_ble_eq_true rfl, by exact Nat.le_of_ble_eq_true rfl⟩ ⟨Nat.zero_le _, Nat.zero_le _⟩, List.forall_mem_cons.mpr ⟨mv_cal_of (cc_X7_take l hF) hBg hX hR hK mv_EX_ok hF mv_good mv_stok cw_X7_128.1 cw_X7_128.2.1 cw_X7_128.2.2 ⟨rfl, rfl, by exact Nat.le_of_ble_eq_true rfl, by exact Nat.le_of_ble_eq_true rfl⟩ ⟨Nat.zero_le _, Nat.zero_le _⟩, fun _ h => absurd h List.not_mem_nil⟩⟩⟩⟩⟩⟩)
set_option maxRecDepth 20000 in
theorem cw_X7_51 : mv_Cw RX7 51 yX7_split cX7_split 3 none (some 7) 1 := mv_cw_of (a := 861) (b := 136) (c := 863) (d := 13) (mv_T 864 rfl rfl) (by decide +kernel)
set_option maxRecDepth 20000 in
theorem cw_X7_54 : mv_Cw RX7 54 yX7_readDay cX7_readDay 6 none (some 7) 2 := mv_cw_of (a := 988) (b := 136) (c := 990) (d := 17) (mv_T 991 rfl rfl) (by decide +kernel)
set_option maxRecDepth 20000 in
theorem cw_X7_58 : mv_Cw RX7 58 yX7_readLaw cX7_readLaw 2 none (some 7) 1 := mv_cw_of (a := 1012) (b := 136) (c := 1014) (d := 22) (mv_T 1015 rfl rfl) (by decide +kernel)
def ic_X7_reads : List (Nat × Instr × Nat) := [(0, .aload_n 0, 1), (1, .iconst 0, 1), (2, .putfield 42, 3), (5, .aload_n 0, 1), (6, .iconst (-1), 1), (7, .putfield 13, 3), (10, .aload_n 0, 1), (11, .iload_n 1, 1), (12, .putfield 45, 3), (15, .aload_n 0, 1), (16, .iconst 0, 1), (17, .putfield 48, 3), (20, .aload_n 0, 1), (21, .invokevirtual 51, 3), (24, .aload_n 0, 1), (25, .iconst 0, 1), (26, .putfield 39, 3), (29, .iload_n 1, 1), (30, .iconst 2, 1), (31, .if_icmp .ne 11, 3), (34, .aload_n 0, 1), (35, .iload_n 2, 1), (36, .invokevirtual 54, 3), (39, .goto 21, 3), (42, .iload_n 1, 1), (43, .ifCond .eq 8, 3), (46, .iload_n 1, 1), (47, .iconst 1, 1), (48, .if_icmp .ne 10, 3), (51, .aload_n 0, 1), (52, .invokevirtual 58, 3), (55, .goto 5, 3), (58, .iconst 0, 1), (59, .ireturn, 1), (60, .aload_n 0, 1), (61, .getfield 42, 3), (64, .ifCond .ne 7, 3), (67, .iconst 1, 1), (68, .goto 4, 3), (71, .iconst 0, 1), (72, .ireturn, 1)]
noncomputable def mm_X7_reads : mv_M := (ic_X7_reads, fl_X7, [], [], [(51, 1, some 7, true, ff_X7_split), (54, 2, some 7, true, ff_X7_readDay), (58, 1, some 7, true, ff_X7_readLaw)], [], (some (0, 1)))
noncomputable def ff_X7_reads : mv_F := mv_fn mv_rc mm_X7_reads mv_sh 400 3
theorem dk_X7_reads : mv_dk cX7_reads ic_X7_reads = true := by decide +kernel
set_option maxRecDepth 20000 in
theorem cc_X7_reads {ad : Nat → Nat → Value} {cA : Nat → ClassId} {D : va_G} {tys : List (ClassId × FieldType)} {A : Nat → Prop} (l : Launch) (hF : mv_Fix mv_sh mv_ids mv_ros ad cA tys A mv_rc) : mv_Met l yX7_reads cX7_reads 3 (some .boolean) mv_Ts (mv_rm 26) 3 false mv_sh mv_ids mv_ros ad cA mv_cl D tys A mv_rc mv_cr (mv_EX ad A) ff_X7_reads := mv_met_of (by decide +kernel) (by decide) hF mv_stok (mv_rzZ (by decide +kernel) rfl) mv_clok (mv_dk_ok dk_X7_reads) (mv_fk_ok fk_X7) (fun p e s m args below meth c Q hBg hX hR => ⟨fun _ h => absurd h List.not_mem_nil, fun _ h => absurd h List.not_mem_nil⟩) (fun p e s m args below meth c Q hBg hX hR hK => List.forall_mem_cons.mpr ⟨mv_cal_of (cc_X7_split l hF) hBg hX hR hK mv_EX_ok hF mv_good mv_stok cw_X7_51.1 cw_X7_51.2.1 cw_X7_51.2.2 ⟨rfl, rfl, by exact Nat.le_of_ble_eq_true rfl, by exact Nat.le_of_ble_eq_true rfl⟩ ⟨Nat.zero_le _, Nat.zero_le _⟩, List.forall_mem_cons.mpr ⟨mv_cal_of (cc_X7_readDay l hF) hBg hX hR hK mv_EX_ok hF mv_good mv_stok cw_X7_54.1 cw_X7_54.2.1 cw_X7_54.2.2 ⟨rfl, rfl, by exact Nat.le_of_ble_eq_true rfl, by exact Nat.le_of_ble_eq_true rfl⟩ ⟨Nat.zero_le _, Nat.zero_le _⟩, List.forall_mem_cons.mpr ⟨mv_cal_of (cc_X7_readLaw l hF) hBg hX hR hK mv_EX_ok hF mv_good mv_stok cw_X7_58.1 cw_X7_58.2.1 cw_X7_58.2.2 ⟨rfl, rfl, by exact Nat.le_of_ble_eq_true rfl, by exact Nat.le_of_ble_eq_true rfl⟩ ⟨Nat.zero_le _, Nat.zero_le _⟩, fun _ h => absurd h List.not_mem_nil⟩⟩⟩)
set_option maxRecDepth 20000 in
theorem cw_X11_144 : mv_Cw RX11 144 yX7_reads cX7_reads 3 (some .boolean) (some 7) 3 := mv_cw_of (a := 857) (b := 136) (c := 858) (d := 859) (mv_T 860 rfl rfl) (by decide +kernel)
set_option maxRecDepth 20000 in
theorem cw_X11_152 : mv_Cw RX11 152 yX3_copyFrom cX3_copyFrom 2 none (some 3) 2 := mv_cw_of (a := 1041) (b := 132) (c := 1042) (d := 1043) (mv_T 1044 rfl rfl) (by decide +kernel)
set_option maxRecDepth 20000 in
theorem cw_X11_171 : mv_Cw RX11 171 yX5_copyFrom cX5_copyFrom 2 none (some 5) 2 := mv_cw_of (a := 1046) (b := 131) (c := 1047) (d := 1048) (mv_T 1049 rfl rfl) (by decide +kernel)
def ic_X11_text : List (Nat × Instr × Nat) := [(0, .aload_n 0, 1), (1, .getfield 29, 3), (4, .iload_n 1, 1), (5, .aload_n 0, 1), (6, .getfield 12, 3), (9, .getfield 104, 3), (12, .invokevirtual 144, 3), (15, .istore_n 2, 1), (16, .iload_n 2, 1), (17, .ifCond .ne 5, 3), (20, .iconst (-1), 1), (21, .ireturn, 1), (22, .iload_n 1, 1), (23, .iconst 2, 1), (24, .if_icmp .ne 38, 3), (27, .aload_n 0, 1), (28, .getfield 12, 3), (31, .getfield 147, 3), (34, .aload_n 0, 1), (35, .getfield 29, 3), (38, .getfield 151, 3), (41, .invokevirtual 152, 3), (44, .aload_n 0, 1), (45, .getfield 22, 3), (48, .invokevirtual 85, 3), (51, .aload_n 0, 1), (52, .getfield 12, 3), (55, .getfield 147, 3), (58, .getfield 158, 3), (61, .ireturn, 1), (62, .iload_n 1, 1), (63, .ifCond .ne 13, 3), (66, .aload_n 0, 1), (67, .getfield 12, 3), (70, .getfield 161, 3), (73, .goto 10, 3), (76, .aload_n 0, 1), (77, .getfield 12, 3), (80, .getfield 165, 3), (83, .astore_n 3, 1), (84, .aload_n 3, 1), (85, .aload_n 0, 1), (86, .getfield 29, 3), (89, .getfield 168, 3), (92, .invokevirtual 171, 3), (95, .aload_n 3, 1), (96, .getfield 176, 3), (99, .ireturn, 1)]
noncomputable def mm_X11_text : mv_M := (ic_X11_text, fl_X11, [], [], [(144, 3, some 7, false, ff_X7_reads), (152, 2, some 3, true, ff_X3_copyFrom), (85, 1, some 6, true, ff_X6_forget), (171, 2, some 5, true, ff_X5_copyFrom)], [], none)
noncomputable def ff_X11_text : mv_F := mv_fn mv_rc mm_X11_text mv_sh 400 4
theorem dk_X11_text : mv_dk cX11_text ic_X11_text = true := by decide +kernel
set_option maxRecDepth 20000 in
theorem cc_X11_text {ad : Nat → Nat → Value} {cA : Nat → ClassId} {D : va_G} {tys : List (ClassId × FieldType)} {A : Nat → Prop} (l : Launch) (hF : mv_Fix mv_sh mv_ids mv_ros ad cA tys A mv_rc) : mv_Met l yX11_text cX11_text 4 (some .int) mv_Ts (mv_rm 27) 2 false mv_sh mv_ids mv_ros ad cA mv_cl D tys A mv_rc mv_cr (mv_EX ad A) ff_X11_text := mv_met_of (by decide +kernel) (by decide) hF mv_stok (mv_rzI (by decide +kernel)) mv_clok (mv_dk_ok dk_X11_text) (mv_fk_ok fk_X11) (fun p e s m args below meth c Q hBg hX hR => ⟨fun _ h => absurd h List.not_mem_nil, fun _ h => absurd h List.not_mem_nil⟩) (fun p e s m args below meth c Q hBg hX hR hK => List.forall_mem_cons.mpr ⟨mv_cal_of (cc_X7_reads l hF) hBg hX hR hK mv_EX_ok hF mv_good mv_stok cw_X11_144.1 cw_X11_144.2.1 cw_X11_144.2.2 ⟨rfl, rfl, by exact Nat.le_of_ble_eq_true rfl, by exact Nat.le_of_ble_eq_true rfl⟩ ⟨Nat.zero_le _, Nat.zero_le _⟩, List.forall_mem_cons.mpr ⟨mv_cal_of (cc_X3_copyFrom l hF) hBg hX hR hK mv_EX_ok hF mv_good mv_stok cw_X11_152.1 cw_X11_152.2.1 cw_X11_152.2.2 ⟨rfl, rfl, by exact Nat.le_of_ble_eq_true rfl, by exact Nat.le_of_ble_eq_true rfl⟩ ⟨Nat.zero_le _, Nat.zero_le _⟩, List.forall_mem_cons.mpr ⟨mv_cal_of (cc_X6_forget l hF) hBg hX hR hK mv_EX_ok hF mv_good mv_stok cw_X11_85.1 cw_X11_85.2.1 cw_X11_85.2.2 ⟨rfl, rfl, by exact Nat.le_of_ble_eq_true rfl, by exact Nat.le_of_ble_eq_true rfl⟩ ⟨Nat.zero_le _, Nat.zero_le _⟩, List.forall_mem_cons.mpr ⟨mv_cal_of (cc_X5_copyFrom l hF) hBg hX hR hK mv_EX_ok hF mv_good mv_stok cw_X11_171.1 cw_X11_171.2.1 cw_X11_171.2.2 ⟨rfl, rfl, by exact Nat.le_of_ble_eq_true rfl, by exact Nat.le_of_ble_eq_true rfl⟩ ⟨Nat.zero_le _, Nat.zero_le _⟩, fun _ h => absurd h List.not_mem_nil⟩⟩⟩⟩)
def ic_X12_end : List (Nat × Instr × Nat) := [(0, .aload_n 0, 1), (1, .iconst 0, 1), (2, .putfield 126, 3), (5, .aload_n 0, 1), (6, .iload_n 1, 1), (7, .iconst 0, 1), (8, .aload_n 0, 1), (9, .getfield 164, 3), (12, .invokevirtual 142, 3), (15, .ifCond .ne 5, 3), (18, .iconst 0, 1), (19, .ireturn, 1), (20, .aload_n 0, 1), (21, .iload_n 1, 1), (22, .putfield 164, 3), (25, .iconst 1, 1), (26, .ireturn, 1)]
noncomputable def mm_X12_end : mv_M := (ic_X12_end, fl_X12, [], [], [(142, 4, some 12, false, ff_X12_isIn)], [], (some (0, 1)))
noncomputable def ff_X12_end : mv_F := mv_fn mv_rc mm_X12_end mv_sh 400 2
theorem dk_X12_end : mv_dk cX12_end ic_X12_end = true := by decide +kernel
set_option maxRecDepth 20000 in
theorem cc_X12_end {ad : Nat → Nat → Value} {cA : Nat → ClassId} {D : va_G} {tys : List (ClassId × FieldType)} {A : Nat → Prop} (l : Launch) (hF : mv_Fix mv_sh mv_ids mv_ros ad cA tys A mv_rc) : mv_Met l yX12_end cX12_end 2 (some .boolean) mv_Ts (mv_rm 2) 2 false mv_sh mv_ids mv_ros ad cA mv_cl D tys A mv_rc mv_cr (mv_EX ad A) ff_X12_end := mv_met_of (by decide +kernel) (by decide) hF mv_stok (mv_rzZ (by decide +kernel) rfl) mv_clok (mv_dk_ok dk_X12_end) (mv_fk_ok fk_X12) (fun p e s m args below meth c Q hBg hX hR => ⟨fun _ h => absurd h List.not_mem_nil, fun _ h => absurd h List.not_mem_nil⟩) (fun p e s m args below meth c Q hBg hX hR hK => List.forall_mem_cons.mpr ⟨mv_cal_of (cc_X12_isIn l hF) hBg hX hR hK mv_EX_ok hF mv_good mv_stok cw_X12_142.1 cw_X12_142.2.1 cw_X12_142.2.2 ⟨rfl, rfl, by exact Nat.le_of_ble_eq_true rfl, by exact Nat.le_of_ble_eq_true rfl⟩ ⟨Nat.zero_le _, Nat.zero_le _⟩, fun _ h => absurd h List.not_mem_nil⟩)
def ic_X11_end : List (Nat × Instr × Nat) := [(0, .iload_n 1, 1), (1, .ifCond .lt 14, 3), (4, .iload_n 1, 1), (5, .aload_n 0, 1), (6, .getfield 29, 3), (9, .getfield 138, 3), (12, .if_icmp .le 5, 3), (15, .iconst 0, 1), (16, .ireturn, 1), (17, .aload_n 0, 1), (18, .getfield 29, 3), (21, .iload_n 1, 1), (22, .putfield 138, 3), (25, .iconst 1, 1), (26, .ireturn, 1)]
noncomputable def mm_X11_end : mv_M := (ic_X11_end, fl_X11, [], [], [], [], (some (0, 1)))
noncomputable def ff_X11_end : mv_F := mv_fn mv_rc mm_X11_end mv_sh 400 2
theorem dk_X11_end : mv_dk cX11_end ic_X11_end = true := by decide +kernel
set_option maxRecDepth 20000 in
theorem cc_X11_end {ad : Nat → Nat → Value} {cA : Nat → ClassId} {D : va_G} {tys : List (ClassId × FieldType)} {A : Nat → Prop} (l : Launch) (hF : mv_Fix mv_sh mv_ids mv_ros ad cA tys A mv_rc) : mv_Met l yX11_end cX11_end 2 (some .boolean) mv_Ts (mv_rm 1) 2 false mv_sh mv_ids mv_ros ad cA mv_cl D tys A mv_rc mv_cr (mv_EX ad A) ff_X11_end := mv_met_of (by decide +kernel) (by decide) hF mv_stok (mv_rzZ (by decide +kernel) rfl) mv_clok (mv_dk_ok dk_X11_end) (mv_fk_ok fk_X11) (fun p e s m args below meth c Q hBg hX hR => ⟨fun _ h => absurd h List.not_mem_nil, fun _ h => absurd h List.not_mem_nil⟩) (fun p e s m args below meth c Q hBg hX hR hK => fun _ h => absurd h List.not_mem_nil)
def ic_X12_types : List (Nat × Instr × Nat) := [(0, .bipush 24, 2), (2, .istore_n 2, 1), (3, .iload_n 2, 1), (4, .ifCond .lt 35, 3), (7, .aload_n 0, 1), (8, .getfield 41, 3), (11, .aload_n 0, 1), (12, .getfield 164, 3), (15, .iload_n 1, 1), (16, .iload_n 2, 1), (17, .ishr, 1), (18, .sipush 255, 3), (21, .iand, 1), (22, .iastore, 1), (23, .aload_n 0, 1), (24, .aload_n 0, 1), (25, .getfield 164, 3), (28, .iconst 1, 1), (29, .iadd, 1), (30, .putfield 164, 3), (33, .iinc 2 (-8), 3), (36, .goto (-33), 3), (39, .return_, 1)]
noncomputable def mm_X12_types : mv_M := (ic_X12_types, fl_X12, [], [], [], [(3, [true, true, true])], none)
noncomputable def ff_X12_types : mv_F := mv_fn mv_rc mm_X12_types mv_sh 400 3
theorem dk_X12_types : mv_dk cX12_types ic_X12_types = true := by decide +kernel
set_option maxRecDepth 20000 in
theorem cc_X12_types {ad : Nat → Nat → Value} {cA : Nat → ClassId} {D : va_G} {tys : List (ClassId × FieldType)} {A : Nat → Prop} (l : Launch) (hF : mv_Fix mv_sh mv_ids mv_ros ad cA tys A mv_rc) : mv_Met l yX12_types cX12_types 3 none mv_Ts (mv_rm 1) 2 true mv_sh mv_ids mv_ros ad cA mv_cl D tys A mv_rc mv_cr (mv_EX ad A) ff_X12_types := mv_met_of (by decide +kernel) (by decide) hF mv_stok (mv_rzV (by decide +kernel)) mv_clok (mv_dk_ok dk_X12_types) (mv_fk_ok fk_X12) (fun p e s m args below meth c Q hBg hX hR => ⟨fun _ h => absurd h List.not_mem_nil, fun _ h => absurd h List.not_mem_nil⟩) (fun p e s m args below meth c Q hBg hX hR hK => fun _ h => absurd h List.not_mem_nil)
set_option maxRecDepth 20000 in
theorem cw_X12_167 : mv_Cw RX12 167 yX12_types cX12_types 3 none (some 12) 2 := mv_cw_of (a := 1571) (b := 143) (c := 1573) (d := 40) (mv_T 1574 rfl rfl) (by decide +kernel)
def ic_X12_feed : List (Nat × Instr × Nat) := [(0, .aload_n 0, 1), (1, .iconst 0, 1), (2, .putfield 126, 3), (5, .aload_n 0, 1), (6, .getfield 164, 3), (9, .sipush 380, 3), (12, .if_icmp .le 5, 3), (15, .iconst (-1), 1), (16, .ireturn, 1), (17, .aload_n 0, 1), (18, .iload_n 1, 1), (19, .invokevirtual 167, 3), (22, .aload_n 0, 1), (23, .iload_n 2, 1), (24, .invokevirtual 167, 3), (27, .aload_n 0, 1), (28, .iload_n 3, 1), (29, .invokevirtual 167, 3), (32, .aload_n 0, 1), (33, .iload 4, 2), (35, .invokevirtual 167, 3), (38, .aload_n 0, 1), (39, .iload 5, 2), (41, .invokevirtual 167, 3), (44, .aload_n 0, 1), (45, .getfield 164, 3), (48, .ireturn, 1)]
noncomputable def mm_X12_feed : mv_M := (ic_X12_feed, fl_X12, [], [], [(167, 2, some 12, true, ff_X12_types)], [], none)
noncomputable def ff_X12_feed : mv_F := mv_fn mv_rc mm_X12_feed mv_sh 400 6
theorem dk_X12_feed : mv_dk cX12_feed ic_X12_feed = true := by decide +kernel
set_option maxRecDepth 20000 in
theorem cc_X12_feed {ad : Nat → Nat → Value} {cA : Nat → ClassId} {D : va_G} {tys : List (ClassId × FieldType)} {A : Nat → Prop} (l : Launch) (hF : mv_Fix mv_sh mv_ids mv_ros ad cA tys A mv_rc) : mv_Met l yX12_feed cX12_feed 6 (some .int) mv_Ts (mv_rm 2) 6 false mv_sh mv_ids mv_ros ad cA mv_cl D tys A mv_rc mv_cr (mv_EX ad A) ff_X12_feed := mv_met_of (by decide +kernel) (by decide) hF mv_stok (mv_rzI (by decide +kernel)) mv_clok (mv_dk_ok dk_X12_feed) (mv_fk_ok fk_X12) (fun p e s m args below meth c Q hBg hX hR => ⟨fun _ h => absurd h List.not_mem_nil, fun _ h => absurd h List.not_mem_nil⟩) (fun p e s m args below meth c Q hBg hX hR hK => List.forall_mem_cons.mpr ⟨mv_cal_of (cc_X12_types l hF) hBg hX hR hK mv_EX_ok hF mv_good mv_stok cw_X12_167.1 cw_X12_167.2.1 cw_X12_167.2.2 ⟨rfl, rfl, by exact Nat.le_of_ble_eq_true rfl, by exact Nat.le_of_ble_eq_true rfl⟩ ⟨Nat.zero_le _, Nat.zero_le _⟩, fun _ h => absurd h List.not_mem_nil⟩)
def ic_X7_append : List (Nat × Instr × Nat) := [(0, .bipush 24, 2), (2, .istore_n 2, 1), (3, .iload_n 2, 1), (4, .ifCond .lt 45, 3), (7, .aload_n 0, 1), (8, .getfield 39, 3), (11, .sipush 400, 3), (14, .if_icmp .ge 29, 3), (17, .aload_n 0, 1), (18, .getfield 29, 3), (21, .aload_n 0, 1), (22, .getfield 39, 3), (25, .iload_n 1, 1), (26, .iload_n 2, 1), (27, .ishr, 1), (28, .sipush 255, 3), (31, .iand, 1), (32, .iastore, 1), (33, .aload_n 0, 1), (34, .dup, 1), (35, .getfield 39, 3), (38, .iconst 1, 1), (39, .iadd, 1), (40, .putfield 39, 3), (43, .iinc 2 (-8), 3), (46, .goto (-43), 3), (49, .return_, 1)]
noncomputable def mm_X7_append : mv_M := (ic_X7_append, fl_X7, [], [], [], [(3, [true, true, true])], none)
noncomputable def ff_X7_append : mv_F := mv_fn mv_rc mm_X7_append mv_sh 400 3
theorem dk_X7_append : mv_dk cX7_append ic_X7_append = true := by decide +kernel
set_option maxRecDepth 20000 in
theorem cc_X7_append {ad : Nat → Nat → Value} {cA : Nat → ClassId} {D : va_G} {tys : List (ClassId × FieldType)} {A : Nat → Prop} (l : Launch) (hF : mv_Fix mv_sh mv_ids mv_ros ad cA tys A mv_rc) : mv_Met l yX7_append cX7_append 3 none mv_Ts (mv_rm 1) 2 true mv_sh mv_ids mv_ros ad cA mv_cl D tys A mv_rc mv_cr (mv_EX ad A) ff_X7_append := mv_met_of (by decide +kernel) (by decide) hF mv_stok (mv_rzV (by decide +kernel)) mv_clok (mv_dk_ok dk_X7_append) (mv_fk_ok fk_X7) (fun p e s m args below meth c Q hBg hX hR => ⟨fun _ h => absurd h List.not_mem_nil, fun _ h => absurd h List.not_mem_nil⟩) (fun p e s m args below meth c Q hBg hX hR hK => fun _ h => absurd h List.not_mem_nil)
set_option maxRecDepth 20000 in
theorem cw_X11_141 : mv_Cw RX11 141 yX7_append cX7_append 3 none (some 7) 2 := mv_cw_of (a := 845) (b := 136) (c := 846) (d := 847) (mv_T 848 rfl rfl) (by decide +kernel)
def ic_X11_feed : List (Nat × Instr × Nat) := [(0, .aload_n 0, 1), (1, .getfield 29, 3), (4, .getfield 138, 3), (7, .bipush 20, 2), (9, .iadd, 1), (10, .sipush 400, 3), (13, .if_icmp .le 5, 3), (16, .iconst (-1), 1), (17, .ireturn, 1), (18, .aload_n 0, 1), (19, .getfield 29, 3), (22, .iload_n 1, 1), (23, .invokevirtual 141, 3), (26, .aload_n 0, 1), (27, .getfield 29, 3), (30, .iload_n 2, 1), (31, .invokevirtual 141, 3), (34, .aload_n 0, 1), (35, .getfield 29, 3), (38, .iload_n 3, 1), (39, .invokevirtual 141, 3), (42, .aload_n 0, 1), (43, .getfield 29, 3), (46, .iload 4, 2), (48, .invokevirtual 141, 3), (51, .aload_n 0, 1), (52, .getfield 29, 3), (55, .iload 5, 2), (57, .invokevirtual 141, 3), (60, .aload_n 0, 1), (61, .getfield 29, 3), (64, .getfield 138, 3), (67, .ireturn, 1)]
noncomputable def mm_X11_feed : mv_M := (ic_X11_feed, fl_X11, [], [], [(141, 2, some 7, true, ff_X7_append)], [], none)
noncomputable def ff_X11_feed : mv_F := mv_fn mv_rc mm_X11_feed mv_sh 400 6
theorem dk_X11_feed : mv_dk cX11_feed ic_X11_feed = true := by decide +kernel
set_option maxRecDepth 20000 in
theorem cc_X11_feed {ad : Nat → Nat → Value} {cA : Nat → ClassId} {D : va_G} {tys : List (ClassId × FieldType)} {A : Nat → Prop} (l : Launch) (hF : mv_Fix mv_sh mv_ids mv_ros ad cA tys A mv_rc) : mv_Met l yX11_feed cX11_feed 6 (some .int) mv_Ts (mv_rm 2) 6 false mv_sh mv_ids mv_ros ad cA mv_cl D tys A mv_rc mv_cr (mv_EX ad A) ff_X11_feed := mv_met_of (by decide +kernel) (by decide) hF mv_stok (mv_rzI (by decide +kernel)) mv_clok (mv_dk_ok dk_X11_feed) (mv_fk_ok fk_X11) (fun p e s m args below meth c Q hBg hX hR => ⟨fun _ h => absurd h List.not_mem_nil, fun _ h => absurd h List.not_mem_nil⟩) (fun p e s m args below meth c Q hBg hX hR hK => List.forall_mem_cons.mpr ⟨mv_cal_of (cc_X7_append l hF) hBg hX hR hK mv_EX_ok hF mv_good mv_stok cw_X11_141.1 cw_X11_141.2.1 cw_X11_141.2.2 ⟨rfl, rfl, by exact Nat.le_of_ble_eq_true rfl, by exact Nat.le_of_ble_eq_true rfl⟩ ⟨Nat.zero_le _, Nat.zero_le _⟩, fun _ h => absurd h List.not_mem_nil⟩)
def ic_X12_beg : List (Nat × Instr × Nat) := [(0, .aload_n 0, 1), (1, .iconst 0, 1), (2, .putfield 126, 3), (5, .aload_n 0, 1), (6, .iload_n 1, 1), (7, .invokevirtual 363, 3), (10, .ifCond .ne 5, 3), (13, .iconst (-1), 1), (14, .ireturn, 1), (15, .aload_n 0, 1), (16, .invokevirtual 366, 3), (19, .aload_n 0, 1), (20, .iload_n 1, 1), (21, .invokevirtual 375, 3), (24, .ireturn, 1)]
noncomputable def mm_X12_beg : mv_M := (ic_X12_beg, fl_X12, [], [], [(363, 2, some 12, false, ff_X12_isAside), (366, 1, some 12, true, ff_X12_keepsAhead), (375, 2, some 12, false, ff_X12_begs)], [], none)
noncomputable def ff_X12_beg : mv_F := mv_fn mv_rc mm_X12_beg mv_sh 400 2
theorem dk_X12_beg : mv_dk cX12_beg ic_X12_beg = true := by decide +kernel
set_option maxRecDepth 20000 in
theorem cc_X12_beg {ad : Nat → Nat → Value} {cA : Nat → ClassId} {D : va_G} {tys : List (ClassId × FieldType)} {A : Nat → Prop} (l : Launch) (hF : mv_Fix mv_sh mv_ids mv_ros ad cA tys A mv_rc) : mv_Met l yX12_beg cX12_beg 2 (some .int) mv_Ts (mv_rm 9) 2 false mv_sh mv_ids mv_ros ad cA mv_cl D tys A mv_rc mv_cr (mv_EX ad A) ff_X12_beg := mv_met_of (by decide +kernel) (by decide) hF mv_stok (mv_rzI (by decide +kernel)) mv_clok (mv_dk_ok dk_X12_beg) (mv_fk_ok fk_X12) (fun p e s m args below meth c Q hBg hX hR => ⟨fun _ h => absurd h List.not_mem_nil, fun _ h => absurd h List.not_mem_nil⟩) (fun p e s m args below meth c Q hBg hX hR hK => List.forall_mem_cons.mpr ⟨mv_cal_of (cc_X12_isAside l hF) hBg hX hR hK mv_EX_ok hF mv_good mv_stok cw_X12_363.1 cw_X12_363.2.1 cw_X12_363.2.2 ⟨rfl, rfl, by exact Nat.le_of_ble_eq_true rfl, by exact Nat.le_of_ble_eq_true rfl⟩ ⟨Nat.zero_le _, Nat.zero_le _⟩, List.forall_mem_cons.mpr ⟨mv_cal_of (cc_X12_keepsAhead l hF) hBg hX hR hK mv_EX_ok hF mv_good mv_stok cw_X12_366.1 cw_X12_366.2.1 cw_X12_366.2.2 ⟨rfl, rfl, by exact Nat.le_of_ble_eq_true rfl, by exact Nat.le_of_ble_eq_true rfl⟩ ⟨Nat.zero_le _, Nat.zero_le _⟩, List.forall_mem_cons.mpr ⟨mv_cal_of (cc_X12_begs l hF) hBg hX hR hK mv_EX_ok hF mv_good mv_stok cw_X12_375.1 cw_X12_375.2.1 cw_X12_375.2.2 ⟨rfl, rfl, by exact Nat.le_of_ble_eq_true rfl, by exact Nat.le_of_ble_eq_true rfl⟩ ⟨Nat.zero_le _, Nat.zero_le _⟩, fun _ h => absurd h List.not_mem_nil⟩⟩⟩)
set_option maxRecDepth 20000 in
theorem cw_X11_135 : mv_Cw RX11 135 yX0_begs cX0_begs 3 (some .int) (some 0) 2 := mv_cw_of (a := 794) (b := 142) (c := 795) (d := 796) (mv_T 797 rfl rfl) (by decide +kernel)
def ic_X11_beg : List (Nat × Instr × Nat) := [(0, .aload_n 0, 1), (1, .getfield 12, 3), (4, .iload_n 1, 1), (5, .invokevirtual 121, 3), (8, .ifCond .ne 5, 3), (11, .iconst (-1), 1), (12, .ireturn, 1), (13, .aload_n 0, 1), (14, .getfield 22, 3), (17, .aload_n 0, 1), (18, .getfield 12, 3), (21, .invokevirtual 124, 3), (24, .aload_n 0, 1), (25, .getfield 77, 3), (28, .iload_n 1, 1), (29, .invokevirtual 135, 3), (32, .ireturn, 1)]
noncomputable def mm_X11_beg : mv_M := (ic_X11_beg, fl_X11, [], [], [(121, 2, some 2, false, ff_X2_isAside), (124, 2, some 6, true, ff_X6_keepNow), (135, 2, some 0, false, ff_X0_begs)], [], none)
noncomputable def ff_X11_beg : mv_F := mv_fn mv_rc mm_X11_beg mv_sh 400 2
theorem dk_X11_beg : mv_dk cX11_beg ic_X11_beg = true := by decide +kernel
set_option maxRecDepth 20000 in
theorem cc_X11_beg {ad : Nat → Nat → Value} {cA : Nat → ClassId} {D : va_G} {tys : List (ClassId × FieldType)} {A : Nat → Prop} (l : Launch) (hF : mv_Fix mv_sh mv_ids mv_ros ad cA tys A mv_rc) : mv_Met l yX11_beg cX11_beg 2 (some .int) mv_Ts (mv_rm 7) 2 false mv_sh mv_ids mv_ros ad cA mv_cl D tys A mv_rc mv_cr (mv_EX ad A) ff_X11_beg := mv_met_of (by decide +kernel) (by decide) hF mv_stok (mv_rzI (by decide +kernel)) mv_clok (mv_dk_ok dk_X11_beg) (mv_fk_ok fk_X11) (fun p e s m args below meth c Q hBg hX hR => ⟨fun _ h => absurd h List.not_mem_nil, fun _ h => absurd h List.not_mem_nil⟩) (fun p e s m args below meth c Q hBg hX hR hK => List.forall_mem_cons.mpr ⟨mv_cal_of (cc_X2_isAside l hF) hBg hX hR hK mv_EX_ok hF mv_good mv_stok cw_X11_121.1 cw_X11_121.2.1 cw_X11_121.2.2 ⟨rfl, rfl, by exact Nat.le_of_ble_eq_true rfl, by exact Nat.le_of_ble_eq_true rfl⟩ ⟨Nat.zero_le _, Nat.zero_le _⟩, List.forall_mem_cons.mpr ⟨mv_cal_of (cc_X6_keepNow l hF) hBg hX hR hK mv_EX_ok hF mv_good mv_stok cw_X11_124.1 cw_X11_124.2.1 cw_X11_124.2.2 ⟨rfl, rfl, by exact Nat.le_of_ble_eq_true rfl, by exact Nat.le_of_ble_eq_true rfl⟩ ⟨Nat.zero_le _, Nat.zero_le _⟩, List.forall_mem_cons.mpr ⟨mv_cal_of (cc_X0_begs l hF) hBg hX hR hK mv_EX_ok hF mv_good mv_stok cw_X11_135.1 cw_X11_135.2.1 cw_X11_135.2.2 ⟨rfl, rfl, by exact Nat.le_of_ble_eq_true rfl, by exact Nat.le_of_ble_eq_true rfl⟩ ⟨Nat.zero_le _, Nat.zero_le _⟩, fun _ h => absurd h List.not_mem_nil⟩⟩⟩)
def ic_X12_go : List (Nat × Instr × Nat) := [(0, .aload_n 0, 1), (1, .iconst 0, 1), (2, .putfield 126, 3), (5, .aload_n 0, 1), (6, .iload_n 1, 1), (7, .invokevirtual 161, 3), (10, .ifCond .eq 11, 3), (13, .aload_n 0, 1), (14, .iload_n 1, 1), (15, .invokevirtual 153, 3), (18, .ifCond .ne 5, 3), (21, .iconst 0, 1), (22, .ireturn, 1), (23, .aload_n 0, 1), (24, .invokevirtual 366, 3), (27, .aload_n 0, 1), (28, .iload_n 1, 1), (29, .invokevirtual 372, 3), (32, .iconst 1, 1), (33, .ireturn, 1)]
noncomputable def mm_X12_go : mv_M := (ic_X12_go, fl_X12, [], [], [(161, 2, some 12, false, ff_X12_isPerson), (153, 2, some 12, false, ff_X12_sits), (366, 1, some 12, true, ff_X12_keepsAhead), (372, 2, some 12, true, ff_X12_goes)], [], (some (0, 1)))
noncomputable def ff_X12_go : mv_F := mv_fn mv_rc mm_X12_go mv_sh 400 2
theorem dk_X12_go : mv_dk cX12_go ic_X12_go = true := by decide +kernel
set_option maxRecDepth 20000 in
theorem cc_X12_go {ad : Nat → Nat → Value} {cA : Nat → ClassId} {D : va_G} {tys : List (ClassId × FieldType)} {A : Nat → Prop} (l : Launch) (hF : mv_Fix mv_sh mv_ids mv_ros ad cA tys A mv_rc) : mv_Met l yX12_go cX12_go 2 (some .boolean) mv_Ts (mv_rm 3) 2 false mv_sh mv_ids mv_ros ad cA mv_cl D tys A mv_rc mv_cr (mv_EX ad A) ff_X12_go := mv_met_of (by decide +kernel) (by decide) hF mv_stok (mv_rzZ (by decide +kernel) rfl) mv_clok (mv_dk_ok dk_X12_go) (mv_fk_ok fk_X12) (fun p e s m args below meth c Q hBg hX hR => ⟨fun _ h => absurd h List.not_mem_nil, fun _ h => absurd h List.not_mem_nil⟩) (fun p e s m args below meth c Q hBg hX hR hK => List.forall_mem_cons.mpr ⟨mv_cal_of (cc_X12_isPerson l hF) hBg hX hR hK mv_EX_ok hF mv_good mv_stok cw_X12_161.1 cw_X12_161.2.1 cw_X12_161.2.2 ⟨rfl, rfl, by exact Nat.le_of_ble_eq_true rfl, by exact Nat.le_of_ble_eq_true rfl⟩ ⟨Nat.zero_le _, Nat.zero_le _⟩, List.forall_mem_cons.mpr ⟨mv_cal_of (cc_X12_sits l hF) hBg hX hR hK mv_EX_ok hF mv_good mv_stok cw_X12_153.1 cw_X12_153.2.1 cw_X12_153.2.2 ⟨rfl, rfl, by exact Nat.le_of_ble_eq_true rfl, by exact Nat.le_of_ble_eq_true rfl⟩ ⟨Nat.zero_le _, Nat.zero_le _⟩, List.forall_mem_cons.mpr ⟨mv_cal_of (cc_X12_keepsAhead l hF) hBg hX hR hK mv_EX_ok hF mv_good mv_stok cw_X12_366.1 cw_X12_366.2.1 cw_X12_366.2.2 ⟨rfl, rfl, by exact Nat.le_of_ble_eq_true rfl, by exact Nat.le_of_ble_eq_true rfl⟩ ⟨Nat.zero_le _, Nat.zero_le _⟩, List.forall_mem_cons.mpr ⟨mv_cal_of (cc_X12_goes l hF) hBg hX hR hK mv_EX_ok hF mv_good mv_stok cw_X12_372.1 cw_X12_372.2.1 cw_X12_372.2.2 ⟨rfl, rfl, by exact Nat.le_of_ble_eq_true rfl, by exact Nat.le_of_ble_eq_true rfl⟩ ⟨Nat.zero_le _, Nat.zero_le _⟩, fun _ h => absurd h List.not_mem_nil⟩⟩⟩⟩)
set_option maxRecDepth 20000 in
theorem cw_X11_132 : mv_Cw RX11 132 yX0_goes cX0_goes 2 none (some 0) 2 := mv_cw_of (a := 785) (b := 142) (c := 786) (d := 787) (mv_T 788 rfl rfl) (by decide +kernel)
def ic_X11_go : List (Nat × Instr × Nat) := [(0, .aload_n 0, 1), (1, .getfield 12, 3), (4, .iload_n 1, 1), (5, .invokevirtual 118, 3), (8, .ifCond .ne 5, 3), (11, .iconst 0, 1), (12, .ireturn, 1), (13, .aload_n 0, 1), (14, .getfield 22, 3), (17, .aload_n 0, 1), (18, .getfield 12, 3), (21, .invokevirtual 124, 3), (24, .aload_n 0, 1), (25, .getfield 77, 3), (28, .iload_n 1, 1), (29, .invokevirtual 132, 3), (32, .iconst 1, 1), (33, .ireturn, 1)]
noncomputable def mm_X11_go : mv_M := (ic_X11_go, fl_X11, [], [], [(118, 2, some 2, false, ff_X2_isSeated), (124, 2, some 6, true, ff_X6_keepNow), (132, 2, some 0, true, ff_X0_goes)], [], (some (0, 1)))
noncomputable def ff_X11_go : mv_F := mv_fn mv_rc mm_X11_go mv_sh 400 2
theorem dk_X11_go : mv_dk cX11_go ic_X11_go = true := by decide +kernel
set_option maxRecDepth 20000 in
theorem cc_X11_go {ad : Nat → Nat → Value} {cA : Nat → ClassId} {D : va_G} {tys : List (ClassId × FieldType)} {A : Nat → Prop} (l : Launch) (hF : mv_Fix mv_sh mv_ids mv_ros ad cA tys A mv_rc) : mv_Met l yX11_go cX11_go 2 (some .boolean) mv_Ts (mv_rm 4) 2 false mv_sh mv_ids mv_ros ad cA mv_cl D tys A mv_rc mv_cr (mv_EX ad A) ff_X11_go := mv_met_of (by decide +kernel) (by decide) hF mv_stok (mv_rzZ (by decide +kernel) rfl) mv_clok (mv_dk_ok dk_X11_go) (mv_fk_ok fk_X11) (fun p e s m args below meth c Q hBg hX hR => ⟨fun _ h => absurd h List.not_mem_nil, fun _ h => absurd h List.not_mem_nil⟩) (fun p e s m args below meth c Q hBg hX hR hK => List.forall_mem_cons.mpr ⟨mv_cal_of (cc_X2_isSeated l hF) hBg hX hR hK mv_EX_ok hF mv_good mv_stok cw_X11_118.1 cw_X11_118.2.1 cw_X11_118.2.2 ⟨rfl, rfl, by exact Nat.le_of_ble_eq_true rfl, by exact Nat.le_of_ble_eq_true rfl⟩ ⟨Nat.zero_le _, Nat.zero_le _⟩, List.forall_mem_cons.mpr ⟨mv_cal_of (cc_X6_keepNow l hF) hBg hX hR hK mv_EX_ok hF mv_good mv_stok cw_X11_124.1 cw_X11_124.2.1 cw_X11_124.2.2 ⟨rfl, rfl, by exact Nat.le_of_ble_eq_true rfl, by exact Nat.le_of_ble_eq_true rfl⟩ ⟨Nat.zero_le _, Nat.zero_le _⟩, List.forall_mem_cons.mpr ⟨mv_cal_of (cc_X0_goes l hF) hBg hX hR hK mv_EX_ok hF mv_good mv_stok cw_X11_132.1 cw_X11_132.2.1 cw_X11_132.2.2 ⟨rfl, rfl, by exact Nat.le_of_ble_eq_true rfl, by exact Nat.le_of_ble_eq_true rfl⟩ ⟨Nat.zero_le _, Nat.zero_le _⟩, fun _ h => absurd h List.not_mem_nil⟩⟩⟩)
def ic_X12_come : List (Nat × Instr × Nat) := [(0, .aload_n 0, 1), (1, .iconst 0, 1), (2, .putfield 126, 3), (5, .aload_n 0, 1), (6, .iload_n 1, 1), (7, .invokevirtual 363, 3), (10, .ifCond .ne 5, 3), (13, .iconst (-1), 1), (14, .ireturn, 1), (15, .aload_n 0, 1), (16, .invokevirtual 366, 3), (19, .aload_n 0, 1), (20, .iload_n 1, 1), (21, .invokevirtual 369, 3), (24, .ireturn, 1)]
noncomputable def mm_X12_come : mv_M := (ic_X12_come, fl_X12, [], [], [(363, 2, some 12, false, ff_X12_isAside), (366, 1, some 12, true, ff_X12_keepsAhead), (369, 2, some 12, false, ff_X12_comes)], [], none)
noncomputable def ff_X12_come : mv_F := mv_fn mv_rc mm_X12_come mv_sh 400 2
theorem dk_X12_come : mv_dk cX12_come ic_X12_come = true := by decide +kernel
set_option maxRecDepth 20000 in
theorem cc_X12_come {ad : Nat → Nat → Value} {cA : Nat → ClassId} {D : va_G} {tys : List (ClassId × FieldType)} {A : Nat → Prop} (l : Launch) (hF : mv_Fix mv_sh mv_ids mv_ros ad cA tys A mv_rc) : mv_Met l yX12_come cX12_come 2 (some .int) mv_Ts (mv_rm 7) 2 false mv_sh mv_ids mv_ros ad cA mv_cl D tys A mv_rc mv_cr (mv_EX ad A) ff_X12_come := mv_met_of (by decide +kernel) (by decide) hF mv_stok (mv_rzI (by decide +kernel)) mv_clok (mv_dk_ok dk_X12_come) (mv_fk_ok fk_X12) (fun p e s m args below meth c Q hBg hX hR => ⟨fun _ h => absurd h List.not_mem_nil, fun _ h => absurd h List.not_mem_nil⟩) (fun p e s m args below meth c Q hBg hX hR hK => List.forall_mem_cons.mpr ⟨mv_cal_of (cc_X12_isAside l hF) hBg hX hR hK mv_EX_ok hF mv_good mv_stok cw_X12_363.1 cw_X12_363.2.1 cw_X12_363.2.2 ⟨rfl, rfl, by exact Nat.le_of_ble_eq_true rfl, by exact Nat.le_of_ble_eq_true rfl⟩ ⟨Nat.zero_le _, Nat.zero_le _⟩, List.forall_mem_cons.mpr ⟨mv_cal_of (cc_X12_keepsAhead l hF) hBg hX hR hK mv_EX_ok hF mv_good mv_stok cw_X12_366.1 cw_X12_366.2.1 cw_X12_366.2.2 ⟨rfl, rfl, by exact Nat.le_of_ble_eq_true rfl, by exact Nat.le_of_ble_eq_true rfl⟩ ⟨Nat.zero_le _, Nat.zero_le _⟩, List.forall_mem_cons.mpr ⟨mv_cal_of (cc_X12_comes l hF) hBg hX hR hK mv_EX_ok hF mv_good mv_stok cw_X12_369.1 cw_X12_369.2.1 cw_X12_369.2.2 ⟨rfl, rfl, by exact Nat.le_of_ble_eq_true rfl, by exact Nat.le_of_ble_eq_true rfl⟩ ⟨Nat.zero_le _, Nat.zero_le _⟩, fun _ h => absurd h List.not_mem_nil⟩⟩⟩)
end
section
set_option maxRecDepth 20000 in
theorem cw_X11_128 : mv_Cw RX11 128 yX0_comes cX0_comes 3 (some .int) (some 0) 2 := mv_cw_of (a := 690) (b := 142) (c := 691) (d := 692) (mv_T 693 rfl rfl) (by decide +kernel)
def ic_X11_come : List (Nat × Instr × Nat) := [(0, .aload_n 0, 1), (1, .getfield 12, 3), (4, .iload_n 1, 1), (5, .invokevirtual 121, 3), (8, .ifCond .ne 5, 3), (11, .iconst (-1), 1), (12, .ireturn, 1), (13, .aload_n 0, 1), (14, .getfield 22, 3), (17, .aload_n 0, 1), (18, .getfield 12, 3), (21, .invokevirtual 124, 3), (24, .aload_n 0, 1), (25, .getfield 77, 3), (28, .iload_n 1, 1), (29, .invokevirtual 128, 3), (32, .ireturn, 1)]
noncomputable def mm_X11_come : mv_M := (ic_X11_come, fl_X11, [], [], [(121, 2, some 2, false, ff_X2_isAside), (124, 2, some 6, true, ff_X6_keepNow), (128, 2, some 0, false, ff_X0_comes)], [], none)
noncomputable def ff_X11_come : mv_F := mv_fn mv_rc mm_X11_come mv_sh 400 2
theorem dk_X11_come : mv_dk cX11_come ic_X11_come = true := by decide +kernel
set_option maxRecDepth 20000 in
theorem cc_X11_come {ad : Nat → Nat → Value} {cA : Nat → ClassId} {D : va_G} {tys : List (ClassId × FieldType)} {A : Nat → Prop} (l : Launch) (hF : mv_Fix mv_sh mv_ids mv_ros ad cA tys A mv_rc) : mv_Met l yX11_come cX11_come 2 (some .int) mv_Ts (mv_rm 7) 2 false mv_sh mv_ids mv_ros ad cA mv_cl D tys A mv_rc mv_cr (mv_EX ad A) ff_X11_come := mv_met_of (by decide +kernel) (by decide) hF mv_stok (mv_rzI (by decide +kernel)) mv_clok (mv_dk_ok dk_X11_come) (mv_fk_ok fk_X11) (fun p e s m args below meth c Q hBg hX hR => ⟨fun _ h => absurd h List.not_mem_nil, fun _ h => absurd h List.not_mem_nil⟩) (fun p e s m args below meth c Q hBg hX hR hK => List.forall_mem_cons.mpr ⟨mv_cal_of (cc_X2_isAside l hF) hBg hX hR hK mv_EX_ok hF mv_good mv_stok cw_X11_121.1 cw_X11_121.2.1 cw_X11_121.2.2 ⟨rfl, rfl, by exact Nat.le_of_ble_eq_true rfl, by exact Nat.le_of_ble_eq_true rfl⟩ ⟨Nat.zero_le _, Nat.zero_le _⟩, List.forall_mem_cons.mpr ⟨mv_cal_of (cc_X6_keepNow l hF) hBg hX hR hK mv_EX_ok hF mv_good mv_stok cw_X11_124.1 cw_X11_124.2.1 cw_X11_124.2.2 ⟨rfl, rfl, by exact Nat.le_of_ble_eq_true rfl, by exact Nat.le_of_ble_eq_true rfl⟩ ⟨Nat.zero_le _, Nat.zero_le _⟩, List.forall_mem_cons.mpr ⟨mv_cal_of (cc_X0_comes l hF) hBg hX hR hK mv_EX_ok hF mv_good mv_stok cw_X11_128.1 cw_X11_128.2.1 cw_X11_128.2.2 ⟨rfl, rfl, by exact Nat.le_of_ble_eq_true rfl, by exact Nat.le_of_ble_eq_true rfl⟩ ⟨Nat.zero_le _, Nat.zero_le _⟩, fun _ h => absurd h List.not_mem_nil⟩⟩⟩)
def ic_X12_set : List (Nat × Instr × Nat) := [(0, .aload_n 0, 1), (1, .iconst 0, 1), (2, .putfield 126, 3), (5, .iload_n 1, 1), (6, .ifCond .ne 8, 3), (9, .bipush 20, 2), (11, .goto 34, 3), (14, .iload_n 1, 1), (15, .iconst 1, 1), (16, .if_icmp .ne 8, 3), (19, .bipush 15, 2), (21, .goto 24, 3), (24, .iload_n 1, 1), (25, .iconst 2, 1), (26, .if_icmp .ne 8, 3), (29, .bipush 10, 2), (31, .goto 14, 3), (34, .iload_n 1, 1), (35, .iconst 3, 1), (36, .if_icmp .ne 8, 3), (39, .bipush 9, 2), (41, .goto 4, 3), (44, .iconst 1, 1), (45, .istore 4, 2), (47, .aload_n 0, 1), (48, .iload_n 1, 1), (49, .iconst 0, 1), (50, .iconst 4, 1), (51, .invokevirtual 142, 3), (54, .ifCond .eq 43, 3), (57, .aload_n 0, 1), (58, .iload_n 2, 1), (59, .invokevirtual 161, 3), (62, .ifCond .eq 35, 3), (65, .iload_n 1, 1), (66, .iconst 4, 1), (67, .if_icmp .ge 11, 3), (70, .aload_n 0, 1), (71, .iload_n 2, 1), (72, .invokevirtual 153, 3), (75, .ifCond .ne 22, 3), (78, .aload_n 0, 1), (79, .iload_n 3, 1), (80, .iload_n 1, 1), (81, .ifCond .ne 7, 3), (84, .iconst 1, 1), (85, .goto 4, 3), (88, .iconst 0, 1), (89, .iload 4, 2), (91, .invokevirtual 142, 3), (94, .ifCond .ne 5, 3), (97, .iconst 0, 1), (98, .ireturn, 1), (99, .iload_n 1, 1), (100, .ifCond .ne 10, 3), (103, .aload_n 0, 1), (104, .getfield 23, 3), (107, .iload_n 2, 1), (108, .iload_n 3, 1), (109, .iastore, 1), (110, .iload_n 1, 1), (111, .iconst 1, 1), (112, .if_icmp .ne 10, 3), (115, .aload_n 0, 1), (116, .getfield 26, 3), (119, .iload_n 2, 1), (120, .iload_n 3, 1), (121, .iastore, 1), (122, .iload_n 1, 1), (123, .iconst 2, 1), (124, .if_icmp .ne 10, 3), (127, .aload_n 0, 1), (128, .getfield 29, 3), (131, .iload_n 2, 1), (132, .iload_n 3, 1), (133, .iastore, 1), (134, .iload_n 1, 1), (135, .iconst 3, 1), (136, .if_icmp .ne 10, 3), (139, .aload_n 0, 1), (140, .getfield 32, 3), (143, .iload_n 2, 1), (144, .iload_n 3, 1), (145, .iastore, 1), (146, .iload_n 1, 1), (147, .iconst 4, 1), (148, .if_icmp .ne 10, 3), (151, .aload_n 0, 1), (152, .getfield 35, 3), (155, .iload_n 2, 1), (156, .iload_n 3, 1), (157, .iastore, 1), (158, .aload_n 0, 1), (159, .iconst 0, 1), (160, .putfield 129, 3), (163, .iconst 1, 1), (164, .ireturn, 1)]
noncomputable def mm_X12_set : mv_M := (ic_X12_set, fl_X12, [], [], [(142, 4, some 12, false, ff_X12_isIn), (161, 2, some 12, false, ff_X12_isPerson), (153, 2, some 12, false, ff_X12_sits)], [], (some (0, 1)))
noncomputable def ff_X12_set : mv_F := mv_fn mv_rc mm_X12_set mv_sh 400 5
theorem dk_X12_set : mv_dk cX12_set ic_X12_set = true := by decide +kernel
set_option maxRecDepth 20000 in
theorem cc_X12_set {ad : Nat → Nat → Value} {cA : Nat → ClassId} {D : va_G} {tys : List (ClassId × FieldType)} {A : Nat → Prop} (l : Launch) (hF : mv_Fix mv_sh mv_ids mv_ros ad cA tys A mv_rc) : mv_Met l yX12_set cX12_set 5 (some .boolean) mv_Ts (mv_rm 2) 4 false mv_sh mv_ids mv_ros ad cA mv_cl D tys A mv_rc mv_cr (mv_EX ad A) ff_X12_set := mv_met_of (by decide +kernel) (by decide) hF mv_stok (mv_rzZ (by decide +kernel) rfl) mv_clok (mv_dk_ok dk_X12_set) (mv_fk_ok fk_X12) (fun p e s m args below meth c Q hBg hX hR => ⟨fun _ h => absurd h List.not_mem_nil, fun _ h => absurd h List.not_mem_nil⟩) (fun p e s m args below meth c Q hBg hX hR hK => List.forall_mem_cons.mpr ⟨mv_cal_of (cc_X12_isIn l hF) hBg hX hR hK mv_EX_ok hF mv_good mv_stok cw_X12_142.1 cw_X12_142.2.1 cw_X12_142.2.2 ⟨rfl, rfl, by exact Nat.le_of_ble_eq_true rfl, by exact Nat.le_of_ble_eq_true rfl⟩ ⟨Nat.zero_le _, Nat.zero_le _⟩, List.forall_mem_cons.mpr ⟨mv_cal_of (cc_X12_isPerson l hF) hBg hX hR hK mv_EX_ok hF mv_good mv_stok cw_X12_161.1 cw_X12_161.2.1 cw_X12_161.2.2 ⟨rfl, rfl, by exact Nat.le_of_ble_eq_true rfl, by exact Nat.le_of_ble_eq_true rfl⟩ ⟨Nat.zero_le _, Nat.zero_le _⟩, List.forall_mem_cons.mpr ⟨mv_cal_of (cc_X12_sits l hF) hBg hX hR hK mv_EX_ok hF mv_good mv_stok cw_X12_153.1 cw_X12_153.2.1 cw_X12_153.2.2 ⟨rfl, rfl, by exact Nat.le_of_ble_eq_true rfl, by exact Nat.le_of_ble_eq_true rfl⟩ ⟨Nat.zero_le _, Nat.zero_le _⟩, fun _ h => absurd h List.not_mem_nil⟩⟩⟩)
def ic_X11_set : List (Nat × Instr × Nat) := [(0, .iload_n 1, 1), (1, .iload_n 3, 1), (2, .invokestatic 100, 3), (5, .ifCond .eq 30, 3), (8, .aload_n 0, 1), (9, .getfield 12, 3), (12, .iload_n 2, 1), (13, .invokevirtual 115, 3), (16, .ifCond .eq 19, 3), (19, .iload_n 1, 1), (20, .iconst 4, 1), (21, .if_icmp .eq 16, 3), (24, .aload_n 0, 1), (25, .getfield 12, 3), (28, .iload_n 2, 1), (29, .invokevirtual 118, 3), (32, .ifCond .eq 5, 3), (35, .iconst 0, 1), (36, .ireturn, 1), (37, .aload_n 0, 1), (38, .getfield 12, 3), (41, .getfield 107, 3), (44, .iload_n 1, 1), (45, .aaload, 1), (46, .iload_n 2, 1), (47, .iload_n 3, 1), (48, .iastore, 1), (49, .aload_n 0, 1), (50, .getfield 22, 3), (53, .invokevirtual 85, 3), (56, .iconst 1, 1), (57, .ireturn, 1)]
noncomputable def mm_X11_set : mv_M := (ic_X11_set, fl_X11, [], [], [(100, 2, none, false, ff_X11_allowed), (115, 2, some 2, false, ff_X2_isPerson), (118, 2, some 2, false, ff_X2_isSeated), (85, 1, some 6, true, ff_X6_forget)], [], (some (0, 1)))
noncomputable def ff_X11_set : mv_F := mv_fn mv_rc mm_X11_set mv_sh 400 4
theorem dk_X11_set : mv_dk cX11_set ic_X11_set = true := by decide +kernel
set_option maxRecDepth 20000 in
theorem cc_X11_set {ad : Nat → Nat → Value} {cA : Nat → ClassId} {D : va_G} {tys : List (ClassId × FieldType)} {A : Nat → Prop} (l : Launch) (hF : mv_Fix mv_sh mv_ids mv_ros ad cA tys A mv_rc) : mv_Met l yX11_set cX11_set 4 (some .boolean) mv_Ts (mv_rm 3) 4 false mv_sh mv_ids mv_ros ad cA mv_cl D tys A mv_rc mv_cr (mv_EX ad A) ff_X11_set := mv_met_of (by decide +kernel) (by decide) hF mv_stok (mv_rzZ (by decide +kernel) rfl) mv_clok (mv_dk_ok dk_X11_set) (mv_fk_ok fk_X11) (fun p e s m args below meth c Q hBg hX hR => ⟨fun _ h => absurd h List.not_mem_nil, fun _ h => absurd h List.not_mem_nil⟩) (fun p e s m args below meth c Q hBg hX hR hK => List.forall_mem_cons.mpr ⟨mv_cal_of (cc_X11_allowed l hF) hBg hX hR hK mv_EX_ok hF mv_good mv_stok cw_X11_100.1 cw_X11_100.2.1 cw_X11_100.2.2 ⟨rfl, rfl, by exact Nat.le_of_ble_eq_true rfl, by exact Nat.le_of_ble_eq_true rfl⟩ ⟨Nat.zero_le _, Nat.zero_le _⟩, List.forall_mem_cons.mpr ⟨mv_cal_of (cc_X2_isPerson l hF) hBg hX hR hK mv_EX_ok hF mv_good mv_stok cw_X11_115.1 cw_X11_115.2.1 cw_X11_115.2.2 ⟨rfl, rfl, by exact Nat.le_of_ble_eq_true rfl, by exact Nat.le_of_ble_eq_true rfl⟩ ⟨Nat.zero_le _, Nat.zero_le _⟩, List.forall_mem_cons.mpr ⟨mv_cal_of (cc_X2_isSeated l hF) hBg hX hR hK mv_EX_ok hF mv_good mv_stok cw_X11_118.1 cw_X11_118.2.1 cw_X11_118.2.2 ⟨rfl, rfl, by exact Nat.le_of_ble_eq_true rfl, by exact Nat.le_of_ble_eq_true rfl⟩ ⟨Nat.zero_le _, Nat.zero_le _⟩, List.forall_mem_cons.mpr ⟨mv_cal_of (cc_X6_forget l hF) hBg hX hR hK mv_EX_ok hF mv_good mv_stok cw_X11_85.1 cw_X11_85.2.1 cw_X11_85.2.2 ⟨rfl, rfl, by exact Nat.le_of_ble_eq_true rfl, by exact Nat.le_of_ble_eq_true rfl⟩ ⟨Nat.zero_le _, Nat.zero_le _⟩, fun _ h => absurd h List.not_mem_nil⟩⟩⟩⟩)
def ic_X12_person : List (Nat × Instr × Nat) := [(0, .aload_n 0, 1), (1, .iconst 0, 1), (2, .putfield 126, 3), (5, .aload_n 0, 1), (6, .iload_n 1, 1), (7, .iconst 1, 1), (8, .bipush 20, 2), (10, .invokevirtual 142, 3), (13, .ifCond .eq 57, 3), (16, .aload_n 0, 1), (17, .iload_n 2, 1), (18, .iconst 0, 1), (19, .bipush 15, 2), (21, .invokevirtual 142, 3), (24, .ifCond .eq 46, 3), (27, .aload_n 0, 1), (28, .iload_n 3, 1), (29, .iconst 0, 1), (30, .bipush 10, 2), (32, .invokevirtual 142, 3), (35, .ifCond .eq 35, 3), (38, .aload_n 0, 1), (39, .iload 4, 2), (41, .iconst 0, 1), (42, .bipush 9, 2), (44, .invokevirtual 142, 3), (47, .ifCond .eq 23, 3), (50, .aload_n 0, 1), (51, .iload 5, 2), (53, .iconst 0, 1), (54, .iconst 1, 1), (55, .invokevirtual 142, 3), (58, .ifCond .eq 12, 3), (61, .aload_n 0, 1), (62, .getfield 139, 3), (65, .bipush 10, 2), (67, .if_icmp .ne 5, 3), (70, .iconst (-1), 1), (71, .ireturn, 1), (72, .aload_n 0, 1), (73, .getfield 139, 3), (76, .istore 6, 2), (78, .aload_n 0, 1), (79, .getfield 23, 3), (82, .iload 6, 2), (84, .iload_n 1, 1), (85, .iastore, 1), (86, .aload_n 0, 1), (87, .getfield 26, 3), (90, .iload 6, 2), (92, .iload_n 2, 1), (93, .iastore, 1), (94, .aload_n 0, 1), (95, .getfield 29, 3), (98, .iload 6, 2), (100, .iload_n 3, 1), (101, .iastore, 1), (102, .aload_n 0, 1), (103, .getfield 32, 3), (106, .iload 6, 2), (108, .iload 4, 2), (110, .iastore, 1), (111, .aload_n 0, 1), (112, .getfield 35, 3), (115, .iload 6, 2), (117, .iload 5, 2), (119, .iastore, 1), (120, .aload_n 0, 1), (121, .getfield 7, 3), (124, .iconst 2, 1), (125, .iload 6, 2), (127, .iadd, 1), (128, .iconst 0, 1), (129, .iastore, 1), (130, .aload_n 0, 1), (131, .aload_n 0, 1), (132, .getfield 139, 3), (135, .iconst 1, 1), (136, .iadd, 1), (137, .putfield 139, 3), (140, .aload_n 0, 1), (141, .iconst 0, 1), (142, .putfield 129, 3), (145, .iload 6, 2), (147, .ireturn, 1)]
noncomputable def mm_X12_person : mv_M := (ic_X12_person, fl_X12, [], [], [(142, 4, some 12, false, ff_X12_isIn)], [], none)
noncomputable def ff_X12_person : mv_F := mv_fn mv_rc mm_X12_person mv_sh 400 7
theorem dk_X12_person : mv_dk cX12_person ic_X12_person = true := by decide +kernel
set_option maxRecDepth 20000 in
theorem cc_X12_person {ad : Nat → Nat → Value} {cA : Nat → ClassId} {D : va_G} {tys : List (ClassId × FieldType)} {A : Nat → Prop} (l : Launch) (hF : mv_Fix mv_sh mv_ids mv_ros ad cA tys A mv_rc) : mv_Met l yX12_person cX12_person 7 (some .int) mv_Ts (mv_rm 2) 6 false mv_sh mv_ids mv_ros ad cA mv_cl D tys A mv_rc mv_cr (mv_EX ad A) ff_X12_person := mv_met_of (by decide +kernel) (by decide) hF mv_stok (mv_rzI (by decide +kernel)) mv_clok (mv_dk_ok dk_X12_person) (mv_fk_ok fk_X12) (fun p e s m args below meth c Q hBg hX hR => ⟨fun _ h => absurd h List.not_mem_nil, fun _ h => absurd h List.not_mem_nil⟩) (fun p e s m args below meth c Q hBg hX hR hK => List.forall_mem_cons.mpr ⟨mv_cal_of (cc_X12_isIn l hF) hBg hX hR hK mv_EX_ok hF mv_good mv_stok cw_X12_142.1 cw_X12_142.2.1 cw_X12_142.2.2 ⟨rfl, rfl, by exact Nat.le_of_ble_eq_true rfl, by exact Nat.le_of_ble_eq_true rfl⟩ ⟨Nat.zero_le _, Nat.zero_le _⟩, fun _ h => absurd h List.not_mem_nil⟩)
def ic_X11_person : List (Nat × Instr × Nat) := [(0, .iconst 0, 1), (1, .iload_n 1, 1), (2, .invokestatic 100, 3), (5, .ifCond .eq 49, 3), (8, .iconst 1, 1), (9, .iload_n 2, 1), (10, .invokestatic 100, 3), (13, .ifCond .eq 41, 3), (16, .iconst 2, 1), (17, .iload_n 3, 1), (18, .invokestatic 100, 3), (21, .ifCond .eq 33, 3), (24, .iconst 3, 1), (25, .iload 4, 2), (27, .invokestatic 100, 3), (30, .ifCond .eq 24, 3), (33, .iconst 4, 1), (34, .iload 5, 2), (36, .invokestatic 100, 3), (39, .ifCond .eq 15, 3), (42, .aload_n 0, 1), (43, .getfield 12, 3), (46, .getfield 104, 3), (49, .bipush 10, 2), (51, .if_icmp .lt 5, 3), (54, .iconst (-1), 1), (55, .ireturn, 1), (56, .aload_n 0, 1), (57, .getfield 12, 3), (60, .getfield 104, 3), (63, .istore 6, 2), (65, .aload_n 0, 1), (66, .getfield 12, 3), (69, .dup, 1), (70, .getfield 104, 3), (73, .iconst 1, 1), (74, .iadd, 1), (75, .putfield 104, 3), (78, .aload_n 0, 1), (79, .getfield 12, 3), (82, .getfield 107, 3), (85, .iconst 0, 1), (86, .aaload, 1), (87, .iload 6, 2), (89, .iload_n 1, 1), (90, .iastore, 1), (91, .aload_n 0, 1), (92, .getfield 12, 3), (95, .getfield 107, 3), (98, .iconst 1, 1), (99, .aaload, 1), (100, .iload 6, 2), (102, .iload_n 2, 1), (103, .iastore, 1), (104, .aload_n 0, 1), (105, .getfield 12, 3), (108, .getfield 107, 3), (111, .iconst 2, 1), (112, .aaload, 1), (113, .iload 6, 2), (115, .iload_n 3, 1), (116, .iastore, 1), (117, .aload_n 0, 1), (118, .getfield 12, 3), (121, .getfield 107, 3), (124, .iconst 3, 1), (125, .aaload, 1), (126, .iload 6, 2), (128, .iload 4, 2), (130, .iastore, 1), (131, .aload_n 0, 1), (132, .getfield 12, 3), (135, .getfield 107, 3), (138, .iconst 4, 1), (139, .aaload, 1), (140, .iload 6, 2), (142, .iload 5, 2), (144, .iastore, 1), (145, .aload_n 0, 1), (146, .getfield 12, 3), (149, .getfield 111, 3), (152, .iload 6, 2), (154, .iconst (-1), 1), (155, .iastore, 1), (156, .aload_n 0, 1), (157, .getfield 22, 3), (160, .invokevirtual 85, 3), (163, .iload 6, 2), (165, .ireturn, 1)]
noncomputable def mm_X11_person : mv_M := (ic_X11_person, fl_X11, [], [], [(100, 2, none, false, ff_X11_allowed), (85, 1, some 6, true, ff_X6_forget)], [], none)
noncomputable def ff_X11_person : mv_F := mv_fn mv_rc mm_X11_person mv_sh 400 7
theorem dk_X11_person : mv_dk cX11_person ic_X11_person = true := by decide +kernel
set_option maxRecDepth 20000 in
theorem cc_X11_person {ad : Nat → Nat → Value} {cA : Nat → ClassId} {D : va_G} {tys : List (ClassId × FieldType)} {A : Nat → Prop} (l : Launch) (hF : mv_Fix mv_sh mv_ids mv_ros ad cA tys A mv_rc) : mv_Met l yX11_person cX11_person 7 (some .int) mv_Ts (mv_rm 2) 6 false mv_sh mv_ids mv_ros ad cA mv_cl D tys A mv_rc mv_cr (mv_EX ad A) ff_X11_person := mv_met_of (by decide +kernel) (by decide) hF mv_stok (mv_rzI (by decide +kernel)) mv_clok (mv_dk_ok dk_X11_person) (mv_fk_ok fk_X11) (fun p e s m args below meth c Q hBg hX hR => ⟨fun _ h => absurd h List.not_mem_nil, fun _ h => absurd h List.not_mem_nil⟩) (fun p e s m args below meth c Q hBg hX hR hK => List.forall_mem_cons.mpr ⟨mv_cal_of (cc_X11_allowed l hF) hBg hX hR hK mv_EX_ok hF mv_good mv_stok cw_X11_100.1 cw_X11_100.2.1 cw_X11_100.2.2 ⟨rfl, rfl, by exact Nat.le_of_ble_eq_true rfl, by exact Nat.le_of_ble_eq_true rfl⟩ ⟨Nat.zero_le _, Nat.zero_le _⟩, List.forall_mem_cons.mpr ⟨mv_cal_of (cc_X6_forget l hF) hBg hX hR hK mv_EX_ok hF mv_good mv_stok cw_X11_85.1 cw_X11_85.2.1 cw_X11_85.2.2 ⟨rfl, rfl, by exact Nat.le_of_ble_eq_true rfl, by exact Nat.le_of_ble_eq_true rfl⟩ ⟨Nat.zero_le _, Nat.zero_le _⟩, fun _ h => absurd h List.not_mem_nil⟩⟩)
def ic_X12_rest : List (Nat × Instr × Nat) := [(0, .aload_n 0, 1), (1, .iconst 0, 1), (2, .putfield 126, 3), (5, .aload_n 0, 1), (6, .iload_n 1, 1), (7, .iconst 1, 1), (8, .aload_n 0, 1), (9, .invokevirtual 149, 3), (12, .iconst 1, 1), (13, .isub, 1), (14, .invokevirtual 142, 3), (17, .ifCond .ne 5, 3), (20, .iconst 0, 1), (21, .ireturn, 1), (22, .iconst 0, 1), (23, .istore_n 3, 1), (24, .iload_n 3, 1), (25, .aload_n 0, 1), (26, .getfield 139, 3), (29, .if_icmp .ge 48, 3), (32, .iload_n 2, 1), (33, .ifCond .eq 44, 3), (36, .aload_n 0, 1), (37, .iload_n 3, 1), (38, .invokevirtual 153, 3), (41, .ifCond .eq 30, 3), (44, .iload_n 1, 1), (45, .aload_n 0, 1), (46, .iload_n 3, 1), (47, .invokevirtual 157, 3), (50, .if_icmp .le 21, 3), (53, .iload_n 1, 1), (54, .aload_n 0, 1), (55, .iload_n 3, 1), (56, .invokevirtual 157, 3), (59, .aload_n 0, 1), (60, .getfield 23, 3), (63, .iload_n 3, 1), (64, .iaload, 1), (65, .iadd, 1), (66, .if_icmp .ge 5, 3), (69, .iconst 0, 1), (70, .ireturn, 1), (71, .iinc 3 1, 3), (74, .goto (-50), 3), (77, .aload_n 0, 1), (78, .getfield 19, 3), (81, .iload_n 1, 1), (82, .iload_n 2, 1), (83, .bastore, 1), (84, .aload_n 0, 1), (85, .iconst 0, 1), (86, .putfield 129, 3), (89, .iconst 1, 1), (90, .ireturn, 1)]
noncomputable def mm_X12_rest : mv_M := (ic_X12_rest, fl_X12, [], [], [(149, 1, some 12, false, ff_X12_length), (142, 4, some 12, false, ff_X12_isIn), (153, 2, some 12, false, ff_X12_sits), (157, 2, some 12, false, ff_X12_inchOf)], [(24, [true, true, true, true])], (some (0, 1)))
noncomputable def ff_X12_rest : mv_F := mv_fn mv_rc mm_X12_rest mv_sh 400 4
theorem dk_X12_rest : mv_dk cX12_rest ic_X12_rest = true := by decide +kernel
set_option maxRecDepth 20000 in
theorem cc_X12_rest {ad : Nat → Nat → Value} {cA : Nat → ClassId} {D : va_G} {tys : List (ClassId × FieldType)} {A : Nat → Prop} (l : Launch) (hF : mv_Fix mv_sh mv_ids mv_ros ad cA tys A mv_rc) : mv_Met l yX12_rest cX12_rest 4 (some .boolean) mv_Ts (mv_rm 2) 3 false mv_sh mv_ids mv_ros ad cA mv_cl D tys A mv_rc mv_cr (mv_EX ad A) ff_X12_rest := mv_met_of (by decide +kernel) (by decide) hF mv_stok (mv_rzZ (by decide +kernel) rfl) mv_clok (mv_dk_ok dk_X12_rest) (mv_fk_ok fk_X12) (fun p e s m args below meth c Q hBg hX hR => ⟨fun _ h => absurd h List.not_mem_nil, fun _ h => absurd h List.not_mem_nil⟩) (fun p e s m args below meth c Q hBg hX hR hK => List.forall_mem_cons.mpr ⟨mv_cal_of (cc_X12_length l hF) hBg hX hR hK mv_EX_ok hF mv_good mv_stok cw_X12_149.1 cw_X12_149.2.1 cw_X12_149.2.2 ⟨rfl, rfl, by exact Nat.le_of_ble_eq_true rfl, by exact Nat.le_of_ble_eq_true rfl⟩ ⟨Nat.zero_le _, Nat.zero_le _⟩, List.forall_mem_cons.mpr ⟨mv_cal_of (cc_X12_isIn l hF) hBg hX hR hK mv_EX_ok hF mv_good mv_stok cw_X12_142.1 cw_X12_142.2.1 cw_X12_142.2.2 ⟨rfl, rfl, by exact Nat.le_of_ble_eq_true rfl, by exact Nat.le_of_ble_eq_true rfl⟩ ⟨Nat.zero_le _, Nat.zero_le _⟩, List.forall_mem_cons.mpr ⟨mv_cal_of (cc_X12_sits l hF) hBg hX hR hK mv_EX_ok hF mv_good mv_stok cw_X12_153.1 cw_X12_153.2.1 cw_X12_153.2.2 ⟨rfl, rfl, by exact Nat.le_of_ble_eq_true rfl, by exact Nat.le_of_ble_eq_true rfl⟩ ⟨Nat.zero_le _, Nat.zero_le _⟩, List.forall_mem_cons.mpr ⟨mv_cal_of (cc_X12_inchOf l hF) hBg hX hR hK mv_EX_ok hF mv_good mv_stok cw_X12_157.1 cw_X12_157.2.1 cw_X12_157.2.2 ⟨rfl, rfl, by exact Nat.le_of_ble_eq_true rfl, by exact Nat.le_of_ble_eq_true rfl⟩ ⟨Nat.zero_le _, Nat.zero_le _⟩, fun _ h => absurd h List.not_mem_nil⟩⟩⟩⟩)
def ic_X2_isSatOver : List (Nat × Instr × Nat) := [(0, .iconst 0, 1), (1, .istore_n 2, 1), (2, .iload_n 2, 1), (3, .aload_n 0, 1), (4, .getfield 69, 3), (7, .if_icmp .ge 50, 3), (10, .aload_n 0, 1), (11, .getfield 29, 3), (14, .iload_n 2, 1), (15, .iaload, 1), (16, .iconst (-1), 1), (17, .if_icmp .eq 34, 3), (20, .aload_n 0, 1), (21, .getfield 29, 3), (24, .iload_n 2, 1), (25, .iaload, 1), (26, .iload_n 1, 1), (27, .if_icmp .ge 24, 3), (30, .iload_n 1, 1), (31, .aload_n 0, 1), (32, .getfield 29, 3), (35, .iload_n 2, 1), (36, .iaload, 1), (37, .aload_n 0, 1), (38, .getfield 26, 3), (41, .iconst 0, 1), (42, .aaload, 1), (43, .iload_n 2, 1), (44, .iaload, 1), (45, .iadd, 1), (46, .if_icmp .ge 5, 3), (49, .iconst 1, 1), (50, .ireturn, 1), (51, .iinc 2 1, 3), (54, .goto (-52), 3), (57, .iconst 0, 1), (58, .ireturn, 1)]
noncomputable def mm_X2_isSatOver : mv_M := (ic_X2_isSatOver, fl_X2, [], [], [], [(2, [true, true, true])], (some (0, 1)))
noncomputable def ff_X2_isSatOver : mv_F := mv_fn mv_rc mm_X2_isSatOver mv_sh 400 3
theorem dk_X2_isSatOver : mv_dk cX2_isSatOver ic_X2_isSatOver = true := by decide +kernel
set_option maxRecDepth 20000 in
theorem cc_X2_isSatOver {ad : Nat → Nat → Value} {cA : Nat → ClassId} {D : va_G} {tys : List (ClassId × FieldType)} {A : Nat → Prop} (l : Launch) (hF : mv_Fix mv_sh mv_ids mv_ros ad cA tys A mv_rc) : mv_Met l yX2_isSatOver cX2_isSatOver 3 (some .boolean) mv_Ts (mv_rm 1) 2 false mv_sh mv_ids mv_ros ad cA mv_cl D tys A mv_rc mv_cr (mv_EX ad A) ff_X2_isSatOver := mv_met_of (by decide +kernel) (by decide) hF mv_stok (mv_rzZ (by decide +kernel) rfl) mv_clok (mv_dk_ok dk_X2_isSatOver) (mv_fk_ok fk_X2) (fun p e s m args below meth c Q hBg hX hR => ⟨fun _ h => absurd h List.not_mem_nil, fun _ h => absurd h List.not_mem_nil⟩) (fun p e s m args below meth c Q hBg hX hR hK => fun _ h => absurd h List.not_mem_nil)
def ic_X2_findReach : List (Nat × Instr × Nat) := [(0, .aload_n 0, 1), (1, .getfield 65, 3), (4, .istore_n 1, 1), (5, .aload_n 0, 1), (6, .getfield 65, 3), (9, .iconst 1, 1), (10, .isub, 1), (11, .istore_n 2, 1), (12, .iload_n 2, 1), (13, .ifCond .lt 28, 3), (16, .aload_n 0, 1), (17, .getfield 15, 3), (20, .iload_n 2, 1), (21, .iload_n 1, 1), (22, .iastore, 1), (23, .aload_n 0, 1), (24, .getfield 9, 3), (27, .iload_n 2, 1), (28, .iaload, 1), (29, .iconst 1, 1), (30, .if_icmp .ne 5, 3), (33, .iload_n 2, 1), (34, .istore_n 1, 1), (35, .iinc 2 (-1), 3), (38, .goto (-26), 3), (41, .return_, 1)]
noncomputable def mm_X2_findReach : mv_M := (ic_X2_findReach, fl_X2, [], [], [], [(12, [true, true, true])], none)
noncomputable def ff_X2_findReach : mv_F := mv_fn mv_rc mm_X2_findReach mv_sh 400 3
theorem dk_X2_findReach : mv_dk cX2_findReach ic_X2_findReach = true := by decide +kernel
set_option maxRecDepth 20000 in
theorem cc_X2_findReach {ad : Nat → Nat → Value} {cA : Nat → ClassId} {D : va_G} {tys : List (ClassId × FieldType)} {A : Nat → Prop} (l : Launch) (hF : mv_Fix mv_sh mv_ids mv_ros ad cA tys A mv_rc) : mv_Met l yX2_findReach cX2_findReach 3 none mv_Ts (mv_rm 1) 1 true mv_sh mv_ids mv_ros ad cA mv_cl D tys A mv_rc mv_cr (mv_EX ad A) ff_X2_findReach := mv_met_of (by decide +kernel) (by decide) hF mv_stok (mv_rzV (by decide +kernel)) mv_clok (mv_dk_ok dk_X2_findReach) (mv_fk_ok fk_X2) (fun p e s m args below meth c Q hBg hX hR => ⟨fun _ h => absurd h List.not_mem_nil, fun _ h => absurd h List.not_mem_nil⟩) (fun p e s m args below meth c Q hBg hX hR hK => fun _ h => absurd h List.not_mem_nil)
set_option maxRecDepth 20000 in
theorem cw_X2_87 : mv_Cw RX2 87 yX2_findReach cX2_findReach 3 none (some 2) 1 := mv_cw_of (a := 247) (b := 130) (c := 249) (d := 0) (mv_T 250 rfl rfl) (by decide +kernel)
def ic_X2_putRest : List (Nat × Instr × Nat) := [(0, .iload_n 1, 1), (1, .iconst 1, 1), (2, .if_icmp .lt 11, 3), (5, .iload_n 1, 1), (6, .aload_n 0, 1), (7, .getfield 65, 3), (10, .if_icmp .lt 4, 3), (13, .return_, 1), (14, .aload_n 0, 1), (15, .getfield 9, 3), (18, .iload_n 1, 1), (19, .iload_n 2, 1), (20, .ifCond .eq 7, 3), (23, .iconst 1, 1), (24, .goto 4, 3), (27, .iconst 0, 1), (28, .iastore, 1), (29, .aload_n 0, 1), (30, .invokevirtual 87, 3), (33, .return_, 1)]
noncomputable def mm_X2_putRest : mv_M := (ic_X2_putRest, fl_X2, [], [], [(87, 1, some 2, true, ff_X2_findReach)], [], none)
noncomputable def ff_X2_putRest : mv_F := mv_fn mv_rc mm_X2_putRest mv_sh 400 3
theorem dk_X2_putRest : mv_dk cX2_putRest ic_X2_putRest = true := by decide +kernel
set_option maxRecDepth 20000 in
theorem cc_X2_putRest {ad : Nat → Nat → Value} {cA : Nat → ClassId} {D : va_G} {tys : List (ClassId × FieldType)} {A : Nat → Prop} (l : Launch) (hF : mv_Fix mv_sh mv_ids mv_ros ad cA tys A mv_rc) : mv_Met l yX2_putRest cX2_putRest 3 none mv_Ts (mv_rm 2) 3 true mv_sh mv_ids mv_ros ad cA mv_cl D tys A mv_rc mv_cr (mv_EX ad A) ff_X2_putRest := mv_met_of (by decide +kernel) (by decide) hF mv_stok (mv_rzV (by decide +kernel)) mv_clok (mv_dk_ok dk_X2_putRest) (mv_fk_ok fk_X2) (fun p e s m args below meth c Q hBg hX hR => ⟨fun _ h => absurd h List.not_mem_nil, fun _ h => absurd h List.not_mem_nil⟩) (fun p e s m args below meth c Q hBg hX hR hK => List.forall_mem_cons.mpr ⟨mv_cal_of (cc_X2_findReach l hF) hBg hX hR hK mv_EX_ok hF mv_good mv_stok cw_X2_87.1 cw_X2_87.2.1 cw_X2_87.2.2 ⟨rfl, rfl, by exact Nat.le_of_ble_eq_true rfl, by exact Nat.le_of_ble_eq_true rfl⟩ ⟨Nat.zero_le _, Nat.zero_le _⟩, fun _ h => absurd h List.not_mem_nil⟩)
set_option maxRecDepth 20000 in
theorem cw_X11_92 : mv_Cw RX11 92 yX2_isSatOver cX2_isSatOver 3 (some .boolean) (some 2) 2 := mv_cw_of (a := 639) (b := 130) (c := 640) (d := 641) (mv_T 642 rfl rfl) (by decide +kernel)
set_option maxRecDepth 20000 in
theorem cw_X11_96 : mv_Cw RX11 96 yX2_putRest cX2_putRest 3 none (some 2) 3 := mv_cw_of (a := 643) (b := 130) (c := 644) (d := 645) (mv_T 646 rfl rfl) (by decide +kernel)
def ic_X11_rest : List (Nat × Instr × Nat) := [(0, .iload_n 1, 1), (1, .iconst 1, 1), (2, .if_icmp .lt 29, 3), (5, .iload_n 1, 1), (6, .aload_n 0, 1), (7, .getfield 12, 3), (10, .getfield 88, 3), (13, .if_icmp .ge 18, 3), (16, .iload_n 2, 1), (17, .ifCond .eq 16, 3), (20, .aload_n 0, 1), (21, .getfield 12, 3), (24, .iload_n 1, 1), (25, .invokevirtual 92, 3), (28, .ifCond .eq 5, 3), (31, .iconst 0, 1), (32, .ireturn, 1), (33, .aload_n 0, 1), (34, .getfield 12, 3), (37, .iload_n 1, 1), (38, .iload_n 2, 1), (39, .invokevirtual 96, 3), (42, .aload_n 0, 1), (43, .getfield 22, 3), (46, .invokevirtual 85, 3), (49, .iconst 1, 1), (50, .ireturn, 1)]
noncomputable def mm_X11_rest : mv_M := (ic_X11_rest, fl_X11, [], [], [(92, 2, some 2, false, ff_X2_isSatOver), (96, 3, some 2, true, ff_X2_putRest), (85, 1, some 6, true, ff_X6_forget)], [], (some (0, 1)))
noncomputable def ff_X11_rest : mv_F := mv_fn mv_rc mm_X11_rest mv_sh 400 3
theorem dk_X11_rest : mv_dk cX11_rest ic_X11_rest = true := by decide +kernel
set_option maxRecDepth 20000 in
theorem cc_X11_rest {ad : Nat → Nat → Value} {cA : Nat → ClassId} {D : va_G} {tys : List (ClassId × FieldType)} {A : Nat → Prop} (l : Launch) (hF : mv_Fix mv_sh mv_ids mv_ros ad cA tys A mv_rc) : mv_Met l yX11_rest cX11_rest 3 (some .boolean) mv_Ts (mv_rm 3) 3 false mv_sh mv_ids mv_ros ad cA mv_cl D tys A mv_rc mv_cr (mv_EX ad A) ff_X11_rest := mv_met_of (by decide +kernel) (by decide) hF mv_stok (mv_rzZ (by decide +kernel) rfl) mv_clok (mv_dk_ok dk_X11_rest) (mv_fk_ok fk_X11) (fun p e s m args below meth c Q hBg hX hR => ⟨fun _ h => absurd h List.not_mem_nil, fun _ h => absurd h List.not_mem_nil⟩) (fun p e s m args below meth c Q hBg hX hR hK => List.forall_mem_cons.mpr ⟨mv_cal_of (cc_X2_isSatOver l hF) hBg hX hR hK mv_EX_ok hF mv_good mv_stok cw_X11_92.1 cw_X11_92.2.1 cw_X11_92.2.2 ⟨rfl, rfl, by exact Nat.le_of_ble_eq_true rfl, by exact Nat.le_of_ble_eq_true rfl⟩ ⟨Nat.zero_le _, Nat.zero_le _⟩, List.forall_mem_cons.mpr ⟨mv_cal_of (cc_X2_putRest l hF) hBg hX hR hK mv_EX_ok hF mv_good mv_stok cw_X11_96.1 cw_X11_96.2.1 cw_X11_96.2.2 ⟨rfl, rfl, by exact Nat.le_of_ble_eq_true rfl, by exact Nat.le_of_ble_eq_true rfl⟩ ⟨Nat.zero_le _, Nat.zero_le _⟩, List.forall_mem_cons.mpr ⟨mv_cal_of (cc_X6_forget l hF) hBg hX hR hK mv_EX_ok hF mv_good mv_stok cw_X11_85.1 cw_X11_85.2.1 cw_X11_85.2.2 ⟨rfl, rfl, by exact Nat.le_of_ble_eq_true rfl, by exact Nat.le_of_ble_eq_true rfl⟩ ⟨Nat.zero_le _, Nat.zero_le _⟩, fun _ h => absurd h List.not_mem_nil⟩⟩⟩)
def ic_X12_bench : List (Nat × Instr × Nat) := [(0, .aload_n 0, 1), (1, .iconst 0, 1), (2, .putfield 126, 3), (5, .aload_n 0, 1), (6, .iload_n 1, 1), (7, .iconst 1, 1), (8, .bipush 60, 2), (10, .invokevirtual 142, 3), (13, .ifCond .ne 5, 3), (16, .iconst 0, 1), (17, .ireturn, 1), (18, .aload_n 0, 1), (19, .iload_n 1, 1), (20, .bipush 40, 2), (22, .isub, 1), (23, .putfield 136, 3), (26, .iconst 0, 1), (27, .istore_n 2, 1), (28, .iload_n 2, 1), (29, .bipush 72, 2), (31, .if_icmp .ge 16, 3), (34, .aload_n 0, 1), (35, .getfield 7, 3), (38, .iload_n 2, 1), (39, .iconst 0, 1), (40, .iastore, 1), (41, .iinc 2 1, 3), (44, .goto (-16), 3), (47, .iconst 0, 1), (48, .istore_n 2, 1), (49, .iload_n 2, 1), (50, .bipush 60, 2), (52, .if_icmp .gt 16, 3), (55, .aload_n 0, 1), (56, .getfield 19, 3), (59, .iload_n 2, 1), (60, .iconst 0, 1), (61, .bastore, 1), (62, .iinc 2 1, 3), (65, .goto (-16), 3), (68, .aload_n 0, 1), (69, .iconst 0, 1), (70, .putfield 139, 3), (73, .aload_n 0, 1), (74, .iconst 0, 1), (75, .putfield 146, 3), (78, .aload_n 0, 1), (79, .getfield 47, 3), (82, .iconst 0, 1), (83, .iconst 0, 1), (84, .iastore, 1), (85, .aload_n 0, 1), (86, .getfield 47, 3), (89, .iconst 1, 1), (90, .iconst 0, 1), (91, .iastore, 1), (92, .aload_n 0, 1), (93, .iconst 0, 1), (94, .putfield 129, 3), (97, .iconst 1, 1), (98, .ireturn, 1)]
noncomputable def mm_X12_bench : mv_M := (ic_X12_bench, fl_X12, [], [], [(142, 4, some 12, false, ff_X12_isIn)], [(28, [true, false, true]), (49, [true, false, true])], (some (0, 1)))
noncomputable def ff_X12_bench : mv_F := mv_fn mv_rc mm_X12_bench mv_sh 400 3
theorem dk_X12_bench : mv_dk cX12_bench ic_X12_bench = true := by decide +kernel
set_option maxRecDepth 20000 in
theorem cc_X12_bench {ad : Nat → Nat → Value} {cA : Nat → ClassId} {D : va_G} {tys : List (ClassId × FieldType)} {A : Nat → Prop} (l : Launch) (hF : mv_Fix mv_sh mv_ids mv_ros ad cA tys A mv_rc) : mv_Met l yX12_bench cX12_bench 3 (some .boolean) mv_Ts (mv_rm 2) 2 false mv_sh mv_ids mv_ros ad cA mv_cl D tys A mv_rc mv_cr (mv_EX ad A) ff_X12_bench := mv_met_of (by decide +kernel) (by decide) hF mv_stok (mv_rzZ (by decide +kernel) rfl) mv_clok (mv_dk_ok dk_X12_bench) (mv_fk_ok fk_X12) (fun p e s m args below meth c Q hBg hX hR => ⟨fun _ h => absurd h List.not_mem_nil, fun _ h => absurd h List.not_mem_nil⟩) (fun p e s m args below meth c Q hBg hX hR hK => List.forall_mem_cons.mpr ⟨mv_cal_of (cc_X12_isIn l hF) hBg hX hR hK mv_EX_ok hF mv_good mv_stok cw_X12_142.1 cw_X12_142.2.1 cw_X12_142.2.2 ⟨rfl, rfl, by exact Nat.le_of_ble_eq_true rfl, by exact Nat.le_of_ble_eq_true rfl⟩ ⟨Nat.zero_le _, Nat.zero_le _⟩, fun _ h => absurd h List.not_mem_nil⟩)
set_option maxRecDepth 20000 in
theorem cw_X2_78 : mv_Cw RX2 78 yJ7_fill_53178 cJ7_fill_53178 4 none (none) 2 := mv_cw_of (a := 240) (b := 134) (c := 241) (d := 0) (mv_T 242 rfl rfl) (by decide +kernel)
set_option maxRecDepth 20000 in
theorem cw_X2_84 : mv_Cw RX2 84 yX5_clear cX5_clear 1 none (some 5) 1 := mv_cw_of (a := 243) (b := 131) (c := 244) (d := 245) (mv_T 246 rfl rfl) (by decide +kernel)
def ic_X2_clear : List (Nat × Instr × Nat) := [(0, .aload_n 0, 1), (1, .iload_n 1, 1), (2, .iconst 1, 1), (3, .invokestatic 56, 3), (6, .bipush 60, 2), (8, .invokestatic 62, 3), (11, .putfield 65, 3), (14, .aload_n 0, 1), (15, .iconst 0, 1), (16, .putfield 69, 3), (19, .aload_n 0, 1), (20, .iconst 0, 1), (21, .putfield 72, 3), (24, .aload_n 0, 1), (25, .iconst 0, 1), (26, .putfield 75, 3), (29, .aload_n 0, 1), (30, .getfield 9, 3), (33, .iconst 0, 1), (34, .invokestatic 78, 3), (37, .aload_n 0, 1), (38, .getfield 18, 3), (41, .iconst (-1), 1), (42, .invokestatic 78, 3), (45, .aload_n 0, 1), (46, .getfield 29, 3), (49, .iconst (-1), 1), (50, .invokestatic 78, 3), (53, .aload_n 0, 1), (54, .getfield 38, 3), (57, .invokevirtual 84, 3), (60, .aload_n 0, 1), (61, .getfield 42, 3), (64, .invokevirtual 84, 3), (67, .aload_n 0, 1), (68, .getfield 48, 3), (71, .iconst 0, 1), (72, .putfield 86, 3), (75, .aload_n 0, 1), (76, .invokevirtual 87, 3), (79, .return_, 1)]
noncomputable def mm_X2_clear : mv_M := (ic_X2_clear, fl_X2, [], [], [(56, 2, none, false, mv_max), (62, 2, none, false, mv_min), (78, 2, none, true, ff_J7_fill_53178), (84, 1, some 5, true, ff_X5_clear), (87, 1, some 2, true, ff_X2_findReach)], [], none)
noncomputable def ff_X2_clear : mv_F := mv_fn mv_rc mm_X2_clear mv_sh 400 2
theorem dk_X2_clear : mv_dk cX2_clear ic_X2_clear = true := by decide +kernel
set_option maxRecDepth 20000 in
theorem cc_X2_clear {ad : Nat → Nat → Value} {cA : Nat → ClassId} {D : va_G} {tys : List (ClassId × FieldType)} {A : Nat → Prop} (l : Launch) (hF : mv_Fix mv_sh mv_ids mv_ros ad cA tys A mv_rc) : mv_Met l yX2_clear cX2_clear 2 none mv_Ts (mv_rm 2) 2 true mv_sh mv_ids mv_ros ad cA mv_cl D tys A mv_rc mv_cr (mv_EX ad A) ff_X2_clear := mv_met_of (by decide +kernel) (by decide) hF mv_stok (mv_rzV (by decide +kernel)) mv_clok (mv_dk_ok dk_X2_clear) (mv_fk_ok fk_X2) (fun p e s m args below meth c Q hBg hX hR => ⟨fun _ h => absurd h List.not_mem_nil, fun _ h => absurd h List.not_mem_nil⟩) (fun p e s m args below meth c Q hBg hX hR hK => List.forall_mem_cons.mpr ⟨mv_cal_max hBg ⟨mv_T 234 rfl rfl, mv_T 235 rfl rfl, mv_T 133 rfl rfl, mv_T 236 rfl rfl⟩ ⟨by decide, by decide⟩ ⟨Nat.zero_le _, Nat.zero_le _⟩, List.forall_mem_cons.mpr ⟨mv_cal_min hBg ⟨mv_T 237 rfl rfl, mv_T 238 rfl rfl, mv_T 133 rfl rfl, mv_T 239 rfl rfl⟩ ⟨by decide, by decide⟩ ⟨Nat.zero_le _, Nat.zero_le _⟩, List.forall_mem_cons.mpr ⟨mv_cal_of (cc_J7_fill_53178 l hF) hBg hX hR hK mv_EX_ok hF mv_good mv_stok cw_X2_78.1 cw_X2_78.2.1 cw_X2_78.2.2 ⟨rfl, rfl, by exact Nat.le_of_ble_eq_true rfl, by exact Nat.le_of_ble_eq_true rfl⟩ ⟨Nat.zero_le _, Nat.zero_le _⟩, List.forall_mem_cons.mpr ⟨mv_cal_of (cc_X5_clear l hF) hBg hX hR hK mv_EX_ok hF mv_good mv_stok cw_X2_84.1 cw_X2_84.2.1 cw_X2_84.2.2 ⟨rfl, rfl, by exact Nat.le_of_ble_eq_true rfl, by exact Nat.le_of_ble_eq_true rfl⟩ ⟨Nat.zero_le _, Nat.zero_le _⟩, List.forall_mem_cons.mpr ⟨mv_cal_of (cc_X2_findReach l hF) hBg hX hR hK mv_EX_ok hF mv_good mv_stok cw_X2_87.1 cw_X2_87.2.1 cw_X2_87.2.2 ⟨rfl, rfl, by exact Nat.le_of_ble_eq_true rfl, by exact Nat.le_of_ble_eq_true rfl⟩ ⟨Nat.zero_le _, Nat.zero_le _⟩, fun _ h => absurd h List.not_mem_nil⟩⟩⟩⟩⟩)
set_option maxRecDepth 20000 in
theorem cw_X11_81 : mv_Cw RX11 81 yX2_clear cX2_clear 2 none (some 2) 2 := mv_cw_of (a := 630) (b := 130) (c := 231) (d := 232) (mv_T 233 rfl rfl) (by decide +kernel)
def ic_X11_bench : List (Nat × Instr × Nat) := [(0, .iload_n 1, 1), (1, .iconst 1, 1), (2, .if_icmp .lt 9, 3), (5, .iload_n 1, 1), (6, .bipush 60, 2), (8, .if_icmp .le 5, 3), (11, .iconst 0, 1), (12, .ireturn, 1), (13, .aload_n 0, 1), (14, .getfield 12, 3), (17, .iload_n 1, 1), (18, .invokevirtual 81, 3), (21, .aload_n 0, 1), (22, .getfield 22, 3), (25, .invokevirtual 85, 3), (28, .iconst 1, 1), (29, .ireturn, 1)]
noncomputable def mm_X11_bench : mv_M := (ic_X11_bench, fl_X11, [], [], [(81, 2, some 2, true, ff_X2_clear), (85, 1, some 6, true, ff_X6_forget)], [], (some (0, 1)))
noncomputable def ff_X11_bench : mv_F := mv_fn mv_rc mm_X11_bench mv_sh 400 2
theorem dk_X11_bench : mv_dk cX11_bench ic_X11_bench = true := by decide +kernel
set_option maxRecDepth 20000 in
theorem cc_X11_bench {ad : Nat → Nat → Value} {cA : Nat → ClassId} {D : va_G} {tys : List (ClassId × FieldType)} {A : Nat → Prop} (l : Launch) (hF : mv_Fix mv_sh mv_ids mv_ros ad cA tys A mv_rc) : mv_Met l yX11_bench cX11_bench 2 (some .boolean) mv_Ts (mv_rm 3) 2 false mv_sh mv_ids mv_ros ad cA mv_cl D tys A mv_rc mv_cr (mv_EX ad A) ff_X11_bench := mv_met_of (by decide +kernel) (by decide) hF mv_stok (mv_rzZ (by decide +kernel) rfl) mv_clok (mv_dk_ok dk_X11_bench) (mv_fk_ok fk_X11) (fun p e s m args below meth c Q hBg hX hR => ⟨fun _ h => absurd h List.not_mem_nil, fun _ h => absurd h List.not_mem_nil⟩) (fun p e s m args below meth c Q hBg hX hR hK => List.forall_mem_cons.mpr ⟨mv_cal_of (cc_X2_clear l hF) hBg hX hR hK mv_EX_ok hF mv_good mv_stok cw_X11_81.1 cw_X11_81.2.1 cw_X11_81.2.2 ⟨rfl, rfl, by exact Nat.le_of_ble_eq_true rfl, by exact Nat.le_of_ble_eq_true rfl⟩ ⟨Nat.zero_le _, Nat.zero_le _⟩, List.forall_mem_cons.mpr ⟨mv_cal_of (cc_X6_forget l hF) hBg hX hR hK mv_EX_ok hF mv_good mv_stok cw_X11_85.1 cw_X11_85.2.1 cw_X11_85.2.2 ⟨rfl, rfl, by exact Nat.le_of_ble_eq_true rfl, by exact Nat.le_of_ble_eq_true rfl⟩ ⟨Nat.zero_le _, Nat.zero_le _⟩, fun _ h => absurd h List.not_mem_nil⟩⟩)
end
