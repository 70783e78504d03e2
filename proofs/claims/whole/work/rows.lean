section
/-! An interpreter of the methods' bytecode over a fixed world of cells, in Int: its answers are shown once to be the machine's (part 02). -/
abbrev mv_A : Type := Int ⊕ (Nat × Nat)
abbrev mv_G : Type := Nat → Nat → Nat → Int
/-- a cell: an array (kind: 0 int, 1 boolean, 2 byte, 3 rows of ints; length; length of a row), or an object (class, its fields: none a number, some k the cell k) -/
abbrev mv_S : Type := (Nat × Nat × Nat) ⊕ (Nat × List (Option Nat))
abbrev mv_L : Type := List (Option mv_A)
abbrev mv_F : Type := List mv_A → mv_G → Option (Int × mv_G)
abbrev mv_O : Type := (Int × mv_G) ⊕ (Nat × mv_L × mv_G)
/-- code; fields (class, slot, boolean); constants; statics; calls (how many arguments, receiver's class, no answer, what it does); cuts (which locals are kept); the bounds of the answer -/
abbrev mv_M : Type := List (Nat × Instr × Nat) × List (Nat × Nat × Nat × Bool) × List (Nat × mv_A) × List (Nat × mv_A) × List (Nat × Nat × Option Nat × Bool × mv_F) × List (Nat × List Bool) × Option (Int × Int)
def mv_lk {α : Type} : List (Nat × α) → Nat → Option α
  | [], _ => none
  | (k, v) :: l, x => bif Nat.beq k x then some v else mv_lk l x
def mv_w (x : Int) : Int := Int.bmod x 4294967296
def mv_and (x y : Int) : Int := (Int32.ofInt x &&& Int32.ofInt y).toInt
def mv_or (x y : Int) : Int := (Int32.ofInt x ||| Int32.ofInt y).toInt
def mv_xor (x y : Int) : Int := (Int32.ofInt x ^^^ Int32.ofInt y).toInt
def mv_shl (x y : Int) : Int := (Int32.ofInt x <<< (Int32.ofInt y &&& 31)).toInt
def mv_shr (x y : Int) : Int := (Int32.ofInt x >>> (Int32.ofInt y &&& 31)).toInt
def mv_ushr (x y : Int) : Int := (((Int32.ofInt x).toUInt32 >>> ((Int32.ofInt y).toUInt32 &&& Int32.toUInt32 31)).toInt32).toInt
def mv_i2c (x : Int) : Int := (((Int32.ofInt x).toUInt32 % 65536).toInt32).toInt
def mv_up (G : mv_G) (k i j : Nat) (v : Int) : mv_G := fun a b c => if a = k ∧ b = i ∧ c = j then v else G a b c
def mv_cmp (c : ClassFile.Cond) (x y : Int) : Bool := match c with
  | .eq => decide (x = y)
  | .ne => decide (¬ x = y)
  | .lt => decide (x < y)
  | .ge => decide (¬ x < y)
  | .gt => decide (y < x)
  | .le => decide (¬ y < x)
def mv_if (c : ClassFile.Cond) (x y : Int) (a b : Option mv_O) : Option mv_O := match c with
  | .eq => if x = y then a else b
  | .ne => if x = y then b else a
  | .lt => if x < y then a else b
  | .ge => if x < y then b else a
  | .gt => if y < x then a else b
  | .le => if y < x then b else a
def mv_op (i : Instr) (st : List mv_A) : Option (List mv_A) := match i with
  | .iconst n => some (.inl n :: st)
  | .bipush n => some (.inl n :: st)
  | .sipush n => some (.inl n :: st)
  | .iadd => match st with | .inl y :: .inl x :: r => some (.inl (mv_w (x + y)) :: r) | _ => none
  | .isub => match st with | .inl y :: .inl x :: r => some (.inl (mv_w (x - y)) :: r) | _ => none
  | .imul => match st with | .inl y :: .inl x :: r => some (.inl (mv_w (x * y)) :: r) | _ => none
  | .iand => match st with | .inl y :: .inl x :: r => some (.inl (mv_and x y) :: r) | _ => none
  | .ior => match st with | .inl y :: .inl x :: r => some (.inl (mv_or x y) :: r) | _ => none
  | .ixor => match st with | .inl y :: .inl x :: r => some (.inl (mv_xor x y) :: r) | _ => none
  | .ishl => match st with | .inl y :: .inl x :: r => some (.inl (mv_shl x y) :: r) | _ => none
  | .ishr => match st with | .inl y :: .inl x :: r => some (.inl (mv_shr x y) :: r) | _ => none
  | .iushr => match st with | .inl y :: .inl x :: r => some (.inl (mv_ushr x y) :: r) | _ => none
  | .ineg => match st with | .inl x :: r => some (.inl (mv_w (-x)) :: r) | _ => none
  | .i2c => match st with | .inl x :: r => some (.inl (mv_i2c x) :: r) | _ => none
  | .dup => match st with | v :: r => some (v :: v :: r) | _ => none
  | .dup2 => match st with | v :: w :: r => some (v :: w :: v :: w :: r) | _ => none
  | .pop => match st with | _ :: r => some r | _ => none
  | _ => none
abbrev mv_K : Type := Nat → mv_L → List mv_A → mv_G → Option mv_O
def mv_tg (pc : Nat) (off : Int) : Nat := ((pc : Int) + off).toNat
def mv_ldi (K : mv_K) (ls : mv_L) (k : Nat) (pc : Nat) (st : List mv_A) (G : mv_G) : Option mv_O := match ls[k]? with
  | some (some (.inl x)) => K pc ls (.inl x :: st) G
  | _ => none
def mv_lda (K : mv_K) (ls : mv_L) (k : Nat) (pc : Nat) (st : List mv_A) (G : mv_G) : Option mv_O := match ls[k]? with
  | some (some (.inr q)) => bif Nat.ble 990 q.1 then none else K pc ls (.inr q :: st) G
  | _ => none
def mv_sti (K : mv_K) (ls : mv_L) (k : Nat) (pc : Nat) (st : List mv_A) (G : mv_G) : Option mv_O := match ls[k]?, st with
  | some _, .inl x :: r => K pc (ls.set k (some (.inl x))) r G
  | _, _ => none
def mv_sta (K : mv_K) (ls : mv_L) (k : Nat) (pc : Nat) (st : List mv_A) (G : mv_G) : Option mv_O := match ls[k]?, st with
  | some _, .inr q :: r => bif Nat.ble 990 q.1 then none else K pc (ls.set k (some (.inr q))) r G
  | _, _ => none
def mv_lks (K : Nat → Option mv_O) (pc : Nat) (x dflt : Int) : List (Int × Int) → Option mv_O
  | [] => K (mv_tg pc dflt)
  | (a, t) :: l => if x = a then K (mv_tg pc t) else mv_lks K pc x dflt l
def mv_tbs (K : Nat → Option mv_O) (pc : Nat) (x dflt : Int) : Int → List Int → Option mv_O
  | _, [] => K (mv_tg pc dflt)
  | a, t :: l => if x = a then K (mv_tg pc t) else mv_tbs K pc x dflt (a + 1) l
def mv_inb (x : Int) (n : Nat) : Prop := 0 ≤ x ∧ x < n
def mv_ck (x : Int) (n : Nat) (a : Option mv_O) : Option mv_O := if 0 ≤ x ∧ x < n then a else none
def mv_cn (o : Option (Int × mv_G)) (k : Int → mv_G → Option mv_O) : Option mv_O := match o with
  | some (r, G) => k r G
  | none => none
def mv_call (K : mv_K) (n : Nat) (rc : Option Nat) (vo : Bool) (f : mv_F) (sh : Nat → Option mv_S) (pc : Nat) (ls : mv_L) (st : List mv_A) (G : mv_G) : Option mv_O :=
  bif Nat.ble n st.length && Nat.ble (st.length - n) 8 && (match rc, (st.take n).reverse with
    | none, _ => true
    | some ci, .inr (k, 0) :: _ => (match sh k with | some (.inr (ci', _)) => Nat.beq ci ci' | _ => false)
    | _, _ => false) then
    mv_cn (f (st.take n).reverse G) fun r G' => K (pc + 3) ls (bif vo then st.drop n else .inl r :: st.drop n) G'
  else none
def mv_rd (rc : mv_G) (G : mv_G) : mv_G := fun k i j => bif Nat.ble 1000 k then rc k i j else G k i j
def mv_step (rc : mv_G) (M : mv_M) (sh : Nat → Option mv_S) (K : mv_K) (pc : Nat) (ls : mv_L) (st : List mv_A) (G : mv_G) : Option mv_O :=
  match mv_lk M.1 pc with
  | none => none
  | some (i, len) => match i with
    | .iload k => mv_ldi K ls k (pc + len) st G
    | .aload k => mv_lda K ls k (pc + len) st G
    | .iload_n k => mv_ldi K ls k.val (pc + len) st G
    | .aload_n k => mv_lda K ls k.val (pc + len) st G
    | .istore k => mv_sti K ls k (pc + len) st G
    | .astore k => mv_sta K ls k (pc + len) st G
    | .istore_n k => mv_sti K ls k.val (pc + len) st G
    | .astore_n k => mv_sta K ls k.val (pc + len) st G
    | .iinc k n => match ls[k]? with
      | some (some (.inl x)) => K (pc + len) (ls.set k (some (.inl (mv_w (x + n))))) st G
      | _ => none
    | .ldc x => match mv_lk M.2.2.1 x with | some v => K (pc + len) ls (v :: st) G | none => none
    | .ldc_w x => match mv_lk M.2.2.1 x with | some v => K (pc + len) ls (v :: st) G | none => none
    | .getstatic x => match mv_lk M.2.2.2.1 x with | some v => K (pc + len) ls (v :: st) G | none => none
    | .idiv => match st with | .inl y :: .inl x :: r => if y = 0 then none else K (pc + len) ls (.inl (mv_w (Int.tdiv x y)) :: r) G | _ => none
    | .irem => match st with | .inl y :: .inl x :: r => if y = 0 then none else K (pc + len) ls (.inl (mv_w (Int.tmod x y)) :: r) G | _ => none
    | .getfield x => match st with
      | .inr (k, 0) :: r => match sh k, mv_lk M.2.1 x with
        | some (.inr (ci, fs)), some (ci', j, _) => bif Nat.beq ci ci' then (match fs[j]? with
          | some none => K (pc + len) ls (.inl (mv_rd rc G k 0 j) :: r) G
          | some (some t) => K (pc + len) ls (.inr (t, 0) :: r) G
          | none => none) else none
        | _, _ => none
      | _ => none
    | .putfield x => match st with
      | .inl v :: .inr (k, 0) :: r => match sh k, mv_lk M.2.1 x with
        | some (.inr (ci, fs)), some (ci', j, z) => bif Nat.beq ci ci' then (match fs[j]? with
          | some none => bif Nat.ble 1000 k then none else bif z then mv_ck v 2 (K (pc + len) ls r (mv_up G k 0 j v)) else K (pc + len) ls r (mv_up G k 0 j v)
          | _ => none) else none
        | _, _ => none
      | _ => none
    | .arraylength => match st with
      | .inr (k, i) :: r => match sh k, i with
        | some (.inl (0, n, _)), 0 => K (pc + len) ls (.inl (n : Int) :: r) G
        | some (.inl (2, n, _)), 0 => K (pc + len) ls (.inl (n : Int) :: r) G
        | some (.inl (3, n, _)), 0 => K (pc + len) ls (.inl (n : Int) :: r) G
        | some (.inl (3, _, m)), _ + 1 => K (pc + len) ls (.inl (m : Int) :: r) G
        | _, _ => none
      | _ => none
    | .iaload => match st with
      | .inl x :: .inr (k, i) :: r => match sh k, i with
        | some (.inl (0, n, _)), 0 => mv_ck x n (K (pc + len) ls (.inl (mv_rd rc G k 0 x.toNat) :: r) G)
        | some (.inl (3, _, m)), i + 1 => mv_ck x m (K (pc + len) ls (.inl (mv_rd rc G k (i + 1) x.toNat) :: r) G)
        | _, _ => none
      | _ => none
    | .iastore => match st with
      | .inl v :: .inl x :: .inr (k, i) :: r => match sh k, i with
        | some (.inl (0, n, _)), 0 => bif Nat.ble 1000 k then none else mv_ck x n (K (pc + len) ls r (mv_up G k 0 x.toNat v))
        | some (.inl (3, _, m)), i + 1 => bif Nat.ble 1000 k then none else mv_ck x m (K (pc + len) ls r (mv_up G k (i + 1) x.toNat v))
        | _, _ => none
      | _ => none
    | .baload => match st with
      | .inl x :: .inr (k, 0) :: r => match sh k with
        | some (.inl (1, n, _)) => mv_ck x n (K (pc + len) ls (.inl (mv_rd rc G k 0 x.toNat) :: r) G)
        | some (.inl (2, n, _)) => mv_ck x n (K (pc + len) ls (.inl (mv_rd rc G k 0 x.toNat) :: r) G)
        | _ => none
      | _ => none
    | .bastore => match st with
      | .inl v :: .inl x :: .inr (k, 0) :: r => match sh k with
        | some (.inl (1, n, _)) => bif Nat.ble 1000 k then none else mv_ck x n (mv_ck v 2 (K (pc + len) ls r (mv_up G k 0 x.toNat v)))
        | _ => none
      | _ => none
    | .aaload => match st with
      | .inl x :: .inr (k, 0) :: r => match sh k with
        | some (.inl (3, n, _)) => mv_ck x n (K (pc + len) ls (.inr (k, x.toNat + 1) :: r) G)
        | _ => none
      | _ => none
    | .goto off => K (mv_tg pc off) ls st G
    | .ifCond c off => match st with
      | .inl x :: r => mv_if c x 0 (K (mv_tg pc off) ls r G) (K (pc + len) ls r G)
      | _ => none
    | .if_icmp c off => match st with
      | .inl y :: .inl x :: r => mv_if c x y (K (mv_tg pc off) ls r G) (K (pc + len) ls r G)
      | _ => none
    | .lookupswitch d ps => match st with
      | .inl x :: r => mv_lks (fun t => K t ls r G) pc x d ps.toList
      | _ => none
    | .tableswitch d lo _ ofs => match st with
      | .inl x :: r => mv_tbs (fun t => K t ls r G) pc x d lo ofs.toList
      | _ => none
    | .invokevirtual x => match mv_lk M.2.2.2.2.1 x with
      | some (n, some ci, vo, f) => mv_call K n (some ci) vo f sh pc ls st G
      | _ => none
    | .invokestatic x => match mv_lk M.2.2.2.2.1 x with
      | some (n, none, vo, f) => mv_call K n none vo f sh pc ls st G
      | _ => none
    | .ireturn => match st, M.2.2.2.2.2.2 with
      | [.inl v], none => some (.inl (v, G))
      | [.inl v], some (lo, hi) => if lo ≤ v ∧ v ≤ hi then some (.inl (v, G)) else none
      | _, _ => none
    | .return_ => match st with
      | [] => some (.inl (0, G))
      | _ => none
    | i => match mv_op i st with
      | some r => K (pc + len) ls r G
      | none => none
def mv_msk : List Bool → mv_L → mv_L
  | true :: b, v :: l => v :: mv_msk b l
  | false :: b, _ :: l => none :: mv_msk b l
  | [], ls => ls
  | _, [] => []
def mv_nx (M : mv_M) (K : mv_K) : mv_K := fun pc ls st G => match mv_lk M.2.2.2.2.2.1 pc with
  | none => K pc ls st G
  | some mq => match st with
    | [] => some (.inr (pc, mv_msk mq ls, G))
    | _ => none
def mv_rg (rc : mv_G) (M : mv_M) (sh : Nat → Option mv_S) : Nat → mv_K
  | 0 => fun _ _ _ _ => none
  | n + 1 => fun pc ls st G => mv_step rc M sh (mv_nx M (mv_rg rc M sh n)) pc ls st G
end
section
/-! The interpreter's answers are the machine's. -/
def mv_in (x : Int) : Prop := -2147483648 ≤ x ∧ x < 2147483648
def mv_ra (v : Value) : Nat := match v with | .ref a => a | _ => 0
def mv_V (ad : Nat → Nat → Value) (v : mv_A) : Value := match v with | .inl x => .int (Int32.ofInt x) | .inr q => ad q.1 q.2
def mv_fv (ad : Nat → Nat → Value) (g : Nat → Int) (j : Nat) (r : Option Nat) : Value := match r with | none => .int (Int32.ofInt (g j)) | some t => ad t 0
def mv_fs (ad : Nat → Nat → Value) (g : Nat → Int) (fs : List (Option Nat)) : List Value := (List.range fs.length).map fun j => mv_fv ad g j (fs.getD j none)
def mv_cel (sh : Nat → Option mv_S) (ad : Nat → Nat → Value) (cA : Nat → ClassId) (G : mv_G) (k i : Nat) : Nat × va_E := (mv_ra (ad k i), match sh k, i with
  | some (.inl (0, n, _)), 0 => .inl (cA 0, n, .inl (fun j => Int32.ofInt (G k 0 j)))
  | some (.inl (1, n, _)), 0 => .inl (cA 1, n, .inl (fun j => Int32.ofInt (G k 0 j)))
  | some (.inl (2, n, _)), 0 => .inl (cA 2, n, .inl (fun j => Int32.ofInt (G k 0 j)))
  | some (.inl (3, n, _)), 0 => .inl (cA 3, n, .inr (.inr (.inr (.inr (fun j => if j < n then some (mv_ra (ad k (j + 1))) else none)))))
  | some (.inl (3, _, m)), i + 1 => .inl (cA 0, m, .inl (fun j => Int32.ofInt (G k (i + 1) j)))
  | some (.inr (ci, fs)), 0 => .inr (ci, mv_fs ad (G k 0) fs)
  | _, _ => .inr (0, []))
def mv_wd (sh : Nat → Option mv_S) (ad : Nat → Nat → Value) (cA : Nat → ClassId) (ids : List (Nat × Nat)) (G : mv_G) : va_W := ids.map fun q => mv_cel sh ad cA G q.1 q.2
theorem mv_cel_ne {sh : Nat → Option mv_S} {ad : Nat → Nat → Value} {cA : Nat → ClassId} {G : mv_G} {k i j : Nat} {v : Int} {a b : Nat} (h : ¬ (a, b) = (k, i)) : mv_cel sh ad cA (mv_up G k i j v) a b = mv_cel sh ad cA G a b := by
  have e : ∀ c, mv_up G k i j v a b c = G a b c := fun c => by
    unfold mv_up
    rw [if_neg]
    rintro ⟨h1, h2, -⟩
    exact h (by rw [h1, h2])
  have e0 : mv_up G k i j v a b = G a b := funext e
  unfold mv_cel
  split <;> simp_all
theorem mv_wd_get {sh : Nat → Option mv_S} {ad : Nat → Nat → Value} {cA : Nat → ClassId} {ids : List (Nat × Nat)} {G : mv_G} {k i : Nat} (h : (k, i) ∈ ids) : ∃ q0 : Nat, ids[q0]? = some (k, i) ∧ (mv_wd sh ad cA ids G)[q0]? = some (mv_cel sh ad cA G k i) := by
  obtain ⟨q0, hq⟩ := List.getElem?_of_mem h
  exact ⟨q0, hq, by simp [mv_wd, hq]⟩
theorem mv_wd_set {sh : Nat → Option mv_S} {ad : Nat → Nat → Value} {cA : Nat → ClassId} {ids : List (Nat × Nat)} {G : mv_G} {k i j q0 : Nat} {v : Int} (hn : ids.Nodup) (hq : ids[q0]? = some (k, i)) {x : Nat × va_E} (hx : x = mv_cel sh ad cA (mv_up G k i j v) k i) :
    (mv_wd sh ad cA ids G).set q0 x = mv_wd sh ad cA ids (mv_up G k i j v) := by
  subst hx
  refine List.ext_getElem? fun n => ?_
  by_cases e : n = q0
  · subst e
    obtain ⟨hl, hv⟩ := List.getElem?_eq_some_iff.mp hq
    simp [mv_wd, hl, hv]
  · rw [List.getElem?_set_ne (fun h => e h.symm)]
    simp only [mv_wd, List.getElem?_map]
    cases hm : ids[n]? with
    | none => rfl
    | some q =>
      obtain ⟨a, b⟩ := q
      show some (mv_cel sh ad cA G a b) = some (mv_cel sh ad cA (mv_up G k i j v) a b)
      rw [mv_cel_ne]
      rintro hab
      rw [hab] at hm
      exact e ((List.getElem?_inj (List.getElem?_eq_some_iff.mp hm).1 hn).mp (hm.trans hq.symm))
theorem mv_fs_len {ad : Nat → Nat → Value} {g : Nat → Int} {fs : List (Option Nat)} : (mv_fs ad g fs).length = fs.length := by simp [mv_fs]
theorem mv_fs_get {ad : Nat → Nat → Value} {g : Nat → Int} {fs : List (Option Nat)} {j : Nat} {r : Option Nat} (h : fs[j]? = some r) : (mv_fs ad g fs)[j]? = some (mv_fv ad g j r) := by
  obtain ⟨hl, hv⟩ := List.getElem?_eq_some_iff.mp h
  simp [mv_fs, hl, hv]
theorem mv_fs_set {ad : Nat → Nat → Value} {G : mv_G} {k : Nat} {fs : List (Option Nat)} {j : Nat} {v : Int} (h : fs[j]? = some none) : (mv_fs ad (G k 0) fs).set j (.int (Int32.ofInt v)) = mv_fs ad (mv_up G k 0 j v k 0) fs := by
  refine List.ext_getElem? fun n => ?_
  by_cases e : n = j
  · subst e
    obtain ⟨hl, hv⟩ := List.getElem?_eq_some_iff.mp h
    rw [List.getElem?_set_self (by rw [mv_fs_len]; exact hl), mv_fs_get h]
    simp [mv_fv, mv_up]
  · rw [List.getElem?_set_ne (fun h => e h.symm)]
    cases hm : fs[n]? with
    | none =>
      rw [List.getElem?_eq_none (by rw [mv_fs_len]; exact List.getElem?_eq_none_iff.mp hm), List.getElem?_eq_none (by rw [mv_fs_len]; exact List.getElem?_eq_none_iff.mp hm)]
    | some r =>
      rw [mv_fs_get hm, mv_fs_get hm]
      cases r <;> simp [mv_fv, mv_up, e]
theorem mv_toInt {x : Int} (h : mv_in x) : (Int32.ofInt x).toInt = x := Int32.toInt_ofInt_of_le h.1 h.2
theorem mv_clamp {x : Int} (h : mv_in x) (h0 : 0 ≤ x) : (Int32.ofInt x).toNatClampNeg = x.toNat := by
  rw [← Int32.toNat_toInt, mv_toInt h]
theorem mv_vpin {x : Int} {n : Nat} (h : mv_in x) (h0 : 0 ≤ x ∧ x < n) : vp_in (Int32.ofInt x) n := by
  rw [vp_in_iff, mv_toInt h]
  exact h0
theorem mv_w_in (x : Int) : mv_in (mv_w x) := by
  have h1 := Int.le_bmod (x := x) (m := 4294967296) (by decide)
  have h2 := Int.bmod_lt (x := x) (m := 4294967296) (by decide)
  unfold mv_w mv_in
  omega
theorem mv_w_of (x : Int) : Int32.ofInt (mv_w x) = Int32.ofInt x := by
  apply Int32.toInt_inj.mp
  simp [mv_w, Int32.toInt_ofInt, Int.bmod_bmod]
theorem mv_lt {x y : Int} (hx : mv_in x) (hy : mv_in y) : Int32.ofInt x < Int32.ofInt y ↔ x < y := by
  rw [Int32.lt_iff_toInt_lt, mv_toInt hx, mv_toInt hy]
theorem mv_eq {x y : Int} (hx : mv_in x) (hy : mv_in y) : Int32.ofInt x = Int32.ofInt y ↔ x = y := by
  rw [← Int32.toInt_inj, mv_toInt hx, mv_toInt hy]
theorem mv_ii (x : Int32) : mv_in x.toInt := ⟨Int32.le_toInt x, Int32.toInt_lt x⟩

section MV
variable {p : Program} {l : Launch} {e : Env} {R : Room} {s : State} {m : MethodId} {args : Array Value} {below : List Frame} {meth : Method} {c : Code} {cells slots : Nat} {Q : State → Prop}
variable {cc : ByteArray} {nL : Nat} {sh : Nat → Option mv_S} {ids ros : List (Nat × Nat)} {ad : Nat → Nat → Value} {cA : Nat → ClassId} {cl : List vw_C} {D : va_G} {tys : List (ClassId × FieldType)} {A : Nat → Prop} {rc : mv_G} {M : mv_M}
def mv_ty (t : Nat) : FieldType := match t with | 0 => .int | 1 => .boolean | 2 => .byte | _ => .array .int
/-- what is fixed of a world: kinds of arrays, addresses; cells from 1000 on are only read; 990 .. 999 are references that nobody follows -/
def mv_Fix (sh : Nat → Option mv_S) (ids ros : List (Nat × Nat)) (ad : Nat → Nat → Value) (cA : Nat → ClassId) (tys : List (ClassId × FieldType)) (A : Nat → Prop) (rc : mv_G) : Prop :=
  (∀ k t n w, sh k = some (.inl (t, n, w)) → n < 2147483648 ∧ w < 2147483648 ∧ (Nat.ble 1000 k = false → tys[t]? = some (cA t, mv_ty t) ∧ (t = 3 → tys[0]? = some (cA 0, .int) ∧ ∀ i, i < n → (k, i + 1) ∈ ids))) ∧
  (∀ k ci fs, sh k = some (.inr (ci, fs)) → ∀ (j t : Nat), fs[j]? = some (some t) → (t, 0) ∈ ids ++ ros) ∧
  (∀ q ∈ ids ++ ros, ∃ a, ad q.1 q.2 = .ref a) ∧ (∀ k i, (ad k i).category = 1) ∧ ids.Nodup ∧ (∀ q ∈ ids, A (mv_ra (ad q.1 q.2)) ∧ Nat.ble 1000 q.1 = false) ∧ (∀ q ∈ ros, Nat.ble 1000 q.1 = true ∧ q.2 = 0) ∧ (∀ k i j, mv_in (rc k i j)) ∧ (∀ k, Nat.ble 990 k = true → Nat.ble 1000 k = false → sh k = none)
def mv_okV (ids ros : List (Nat × Nat)) (v : mv_A) : Prop := match v with | .inl x => mv_in x | .inr q => q ∈ ids ++ ros ∨ (Nat.ble 990 q.1 = true ∧ Nat.ble 1000 q.1 = false)
/-- the names of a class of cells that are only read: its own, its fields' and their types' -/
abbrev mv_R : Type := Nat → String × (Nat → String × String)
/-- the cells that are only read -/
def mv_RO (sh : Nat → Option mv_S) (ros : List (Nat × Nat)) (ad : Nat → Nat → Value) (A : Nat → Prop) (rc : mv_G) (cr : mv_R) (s : State) : Prop := ∀ k, (k, 0) ∈ ros → match sh k with
  | some (.inl (0, n, _)) => va_T .int (mv_ra (ad k 0)) n (fun j => .int (Int32.ofInt (rc k 0 j))) A s s.heap
  | some (.inl (2, n, _)) => va_T .byte (mv_ra (ad k 0)) n (fun j => .int (Int32.ofInt (rc k 0 j))) A s s.heap
  | some (.inr (ci, fs)) => va_O (cr ci).1 (mv_ra (ad k 0)) A s s.heap ∧ ∀ (j : Nat) (r : Option Nat), fs[j]? = some r → va_OF (cr ci).1 ((cr ci).2 j).1 ((cr ci).2 j).2 (mv_fv ad (rc k 0) j r) (mv_ra (ad k 0)) A s s.heap
  | _ => True
/-- the world, with the contents G -/
def mv_Wd (sh : Nat → Option mv_S) (ids : List (Nat × Nat)) (ad : Nat → Nat → Value) (cA : Nat → ClassId) (cl : List vw_C) (D : va_G) (A : Nat → Prop) (G : mv_G) (H : Heap) : Prop :=
  va_P D cl (mv_wd sh ad cA ids G) H ∧ va_D A (mv_wd sh ad cA ids G) ∧ ∀ k i j, mv_in (G k i j)
/-- the locals -/
def mv_LR (ids ros : List (Nat × Nat)) (ad : Nat → Nat → Value) (nL : Nat) (ls : mv_L) (lsC : Array Slot) : Prop :=
  ls.length = nL ∧ lsC.size = nL ∧ lv_wf lsC ∧ ∀ (i : Nat) (v : mv_A), ls[i]? = some (some v) → lsC[i]? = some (.val (mv_V ad v)) ∧ mv_okV ids ros v
theorem mv_okcat {v : mv_A} (hF : mv_Fix sh ids ros ad cA tys A rc) : (mv_V ad v).category = 1 := by
  cases v with
  | inl x => rfl
  | inr q => exact hF.2.2.2.1 _ _
theorem mv_getcell {G : mv_G} {H : Heap} {k i : Nat} (hF : mv_Fix sh ids ros ad cA tys A rc) (hW : mv_Wd sh ids ad cA cl D A G H) (h : (k, i) ∈ ids ++ ros) (hb : Nat.ble 1000 k = false) :
    ∃ q0 : Nat, ids[q0]? = some (k, i) ∧ (mv_wd sh ad cA ids G)[q0]? = some (mv_cel sh ad cA G k i) := by
  rcases List.mem_append.mp h with h | h
  · exact mv_wd_get h
  · exact absurd ((hF.2.2.2.2.2.2.1 _ h).1.symm.trans hb) (by decide)
theorem mv_getro {k i : Nat} (hF : mv_Fix sh ids ros ad cA tys A rc) (h : (k, i) ∈ ids ++ ros) (hb : Nat.ble 1000 k = true) : (k, 0) ∈ ros ∧ i = 0 := by
  rcases List.mem_append.mp h with h | h
  · exact absurd ((hF.2.2.2.2.2.1 _ h).2.symm.trans hb) (by decide)
  · have := (hF.2.2.2.2.2.2.1 _ h).2
    dsimp only at this
    subst this
    exact ⟨h, rfl⟩
theorem mv_rd_rw {G : mv_G} {k : Nat} (hb : Nat.ble 1000 k = false) : mv_rd rc G k = G k := by funext a b; simp [mv_rd, hb]
theorem mv_rd_ro {G : mv_G} {k : Nat} (hb : Nat.ble 1000 k = true) : mv_rd rc G k = rc k := by funext a b; simp [mv_rd, hb]
theorem mv_LR_set {ls : mv_L} {lsC ls' : Array Slot} {k : Nat} {v : mv_A} {lv : List (Nat × Value)} (hF : mv_Fix sh ids ros ad cA tys A rc) (h : mv_LR ids ros ad nL ls lsC) (hv : mv_okV ids ros v) (hlv : ∀ i w, ls[i]? = some (some w) → (i, mv_V ad w) ∈ lv)
    (h' : lv_has ls' nL ((k, mv_V ad v) :: lv.filter (fun q => !(q.1 == k) && !(q.1 + 1 == k && q.2.category == 2)))) : mv_LR ids ros ad nL (ls.set k (some v)) ls' := by
  refine ⟨by rw [List.length_set]; exact h.1, h'.1, h'.2.1, fun i w hi => ?_⟩
  by_cases e : i = k
  · subst e
    have hl : i < ls.length := by
      have := (List.getElem?_eq_some_iff.mp hi).1
      rwa [List.length_set] at this
    rw [List.getElem?_set_self hl] at hi
    cases hi
    exact ⟨h'.2.2 _ List.mem_cons_self, hv⟩
  · rw [List.getElem?_set_ne (fun q => e q.symm)] at hi
    refine ⟨h'.2.2 (i, mv_V ad w) (List.mem_cons_of_mem _ (List.mem_filter.mpr ⟨hlv i w hi, ?_⟩)), (h.2.2.2 i w hi).2⟩
    simp [e, mv_okcat hF]
def mv_ll (ad : Nat → Nat → Value) (ls : mv_L) : List (Nat × Value) := (List.range ls.length).filterMap fun i => match ls[i]? with | some (some v) => some (i, mv_V ad v) | _ => none
theorem mv_ll_mem {ls : mv_L} {i : Nat} {w : mv_A} (h : ls[i]? = some (some w)) : (i, mv_V ad w) ∈ mv_ll ad ls := by
  refine List.mem_filterMap.mpr ⟨i, List.mem_range.mpr (List.getElem?_eq_some_iff.mp h).1, ?_⟩
  rw [h]
theorem mv_ll_has {ls : mv_L} {lsC : Array Slot} (h : mv_LR ids ros ad nL ls lsC) : lv_has lsC nL (mv_ll ad ls) := by
  refine ⟨h.2.1, h.2.2.1, fun q hq => ?_⟩
  obtain ⟨i, -, hi⟩ := List.mem_filterMap.mp hq
  split at hi
  · next v hv =>
    cases hi
    exact (h.2.2.2 i v hv).1
  · cases hi
end MV
end
section
/-! One step of the interpreter is one of the machine. -/
section MV
variable {p : Program} {l : Launch} {e : Env} {R : Room} {s : State} {m : MethodId} {args : Array Value} {below : List Frame} {meth : Method} {c : Code} {cells slots : Nat} {Q : State → Prop}
variable {cc : ByteArray} {nL : Nat} {sh : Nat → Option mv_S} {ids ros : List (Nat × Nat)} {ad : Nat → Nat → Value} {cA : Nat → ClassId} {cl : List vw_C} {D : va_G} {tys : List (ClassId × FieldType)} {A : Nat → Prop} {rc : mv_G} {M : mv_M}
/-- what an outcome leaves to be shown -/
def mv_Fin (p : Program) (l : Launch) (e : Env) (R : Room) (s : State) (m : MethodId) (args : Array Value) (below : List Frame) (meth : Method) (c : Code) (cells slots : Nat) (Q : State → Prop) (cc : ByteArray) (nL : Nat) (sh : Nat → Option mv_S) (ids ros : List (Nat × Nat)) (ad : Nat → Nat → Value) (cA : Nat → ClassId) (cl : List vw_C) (D : va_G) (A : Nat → Prop) (M : mv_M) (out : mv_O) : Prop := match out with
  | .inl (v, G) => ∀ (H : Heap) (locs : List Loc) (lsC : Array Slot) (pc : Nat), mv_Wd sh ids ad cA cl D A G H → va_S A s.heap H locs →
      (mv_in v → (∀ lo hi, M.2.2.2.2.2.2 = some (lo, hi) → lo ≤ v ∧ v ≤ hi) → (pc, Instr.ireturn, 1) ∈ M.1 → decode cc pc = .ok (.ireturn, 1) → W p l e R s m args below meth c H locs cells slots Q (F0 m pc lsC [.int (Int32.ofInt v)])) ∧ (v = 0 → (pc, Instr.return_, 1) ∈ M.1 → decode cc pc = .ok (.return_, 1) → W p l e R s m args below meth c H locs cells slots Q (F0 m pc lsC []))
  | .inr (pc, ls, G) => ∀ (H : Heap) (locs : List Loc) (lsC : Array Slot), mv_Wd sh ids ad cA cl D A G H → va_S A s.heap H locs → mv_LR ids ros ad nL ls lsC → W p l e R s m args below meth c H locs cells slots Q (F0 m pc lsC [])
/-- from this state of the interpreter on -/
def mv_Snd (p : Program) (l : Launch) (e : Env) (R : Room) (s : State) (m : MethodId) (args : Array Value) (below : List Frame) (meth : Method) (c : Code) (cells slots : Nat) (Q : State → Prop) (cc : ByteArray) (nL : Nat) (sh : Nat → Option mv_S) (ids ros : List (Nat × Nat)) (ad : Nat → Nat → Value) (cA : Nat → ClassId) (cl : List vw_C) (D : va_G) (A : Nat → Prop) (M : mv_M) (pc : Nat) (ls : mv_L) (st : List mv_A) (G : mv_G) (o : Option mv_O) : Prop :=
  ∀ out, o = some out → mv_Fin p l e R s m args below meth c cells slots Q cc nL sh ids ros ad cA cl D A M out → ∀ (H : Heap) (locs : List Loc) (lsC : Array Slot), mv_Wd sh ids ad cA cl D A G H → va_S A s.heap H locs → mv_LR ids ros ad nL ls lsC → (∀ v ∈ st, mv_okV ids ros v) → W p l e R s m args below meth c H locs cells slots Q (F0 m pc lsC (st.map (mv_V ad)))
def mv_len (i : Instr) : Nat := match i with
  | .iload _ | .aload _ | .istore _ | .astore _ | .bipush _ | .ldc _ => 2
  | .sipush _ | .iinc _ _ | .ldc_w _ | .getstatic _ | .getfield _ | .putfield _ | .goto _ | .ifCond _ _ | .if_icmp _ _ | .invokevirtual _ | .invokestatic _ => 3
  | _ => 1
/-- what a program decides of a row of code -/
def mv_iok (pc : Nat) (i : Instr) (len : Nat) : Bool := match i with
  | .bipush n => decide (-128 ≤ n ∧ n < 128) && Nat.beq len 2
  | .sipush n => decide (-32768 ≤ n ∧ n < 32768) && Nat.beq len 3
  | .iconst n => decide (-128 ≤ n ∧ n < 128) && Nat.beq len 1
  | .iinc _ n => decide (-32768 ≤ n ∧ n < 32768) && Nat.beq len 3
  | .goto off | .ifCond _ off | .if_icmp _ off => decide (0 ≤ (pc : Int) + off) && Nat.beq len 3
  | .lookupswitch d ps => decide (0 ≤ (pc : Int) + d) && ps.toList.all (fun q => decide (0 ≤ (pc : Int) + q.2)) && (ps.toList.zip (ps.toList.drop 1)).all (fun (a, next) => a.1 < next.1)
  | .tableswitch d lo hi ofs => decide (0 ≤ (pc : Int) + d) && ofs.toList.all (fun q => decide (0 ≤ (pc : Int) + q)) && decide (hi = lo + ofs.toList.length - 1)
  | i => Nat.beq len (mv_len i)
def mv_inv (rv : Option Nat) (idx : Nat) : Instr := match rv with | some _ => .invokevirtual idx | none => .invokestatic idx
/-- a call's contract, as a rule of the walk -/
def mv_Cal (p : Program) (l : Launch) (e : Env) (R : Room) (s : State) (m : MethodId) (args : Array Value) (below : List Frame) (meth : Method) (c : Code) (cells slots : Nat) (Q : State → Prop) (cc : ByteArray) (nL : Nat) (sh : Nat → Option mv_S) (ids ros : List (Nat × Nat)) (ad : Nat → Nat → Value) (cA : Nat → ClassId) (cl : List vw_C) (D : va_G) (A : Nat → Prop) (idx n : Nat) (rv : Option Nat) (vo : Bool) (f : mv_F) : Prop :=
  ∀ (pc : Nat) (lsC : Array Slot) (as : List mv_A) (rest : List Value) (G G' : mv_G) (r : Int) (H : Heap) (locs : List Loc), lsC.size = nL →
    decode cc pc = .ok (mv_inv rv idx, 3) → as.length = n → (∀ v ∈ as, mv_okV ids ros v) → (∀ ci, rv = some ci → ∃ k as' fs, as = .inr (k, 0) :: as' ∧ (k, 0) ∈ ids ++ ros ∧ sh k = some (.inr (ci, fs))) →
    rest.length ≤ 8 → (∀ v ∈ rest, v.category = 1) → f as G = some (r, G') → mv_Wd sh ids ad cA cl D A G H → va_S A s.heap H locs →
    (∀ (H1 : Heap) (locs1 : List Loc), mv_Wd sh ids ad cA cl D A G' H1 → va_S A s.heap H1 locs1 → (vo = false → mv_in r) → W p l e R s m args below meth c H1 locs1 cells slots Q (F0 m (pc + 3) lsC ((bif vo then [] else [.int (Int32.ofInt r)]) ++ rest))) →
    W p l e R s m args below meth c H locs cells slots Q (F0 m pc lsC ((as.map (mv_V ad)).reverse ++ rest))
/-- the fixed part of a walk -/
def mv_Ctx (p : Program) (s : State) (m : MethodId) (args : Array Value) (c : Code) (cc : ByteArray) (nL : Nat) (sh : Nat → Option mv_S) (cl : List vw_C) (D : va_G) (tys : List (ClassId × FieldType)) (own : String) (Ts : List Cond) (cr : mv_R) (M : mv_M) : Prop :=
  p.tables.exec = Jvm.exec ∧ c.code = cc ∧ s.vm.findClass own = some m.cls ∧ (∀ w ∈ Ts, w.before args s = true) ∧ va_K D cl tys s ∧ c.maxLocals = nL ∧
  (∀ (ci : Nat) (q : vw_C), cl[ci]? = some q → (∀ w ∈ u_ws q.1 q.2.1 q.2.2, w ∈ Ts) ∧ (∃ ty0 : Nat → FieldType, ∀ k, k < q.2.2 → parseFieldDescriptor (q.2.1 k).2.2.1 = some (ty0 k)) ∧ (∀ a, a < q.2.2 → ∀ b, b < q.2.2 → a ≠ b → (q.2.1 a).2.1 ≠ (q.2.1 b).2.1)) ∧
  (∀ x ∈ M.1, decode cc x.1 = .ok (x.2.1, x.2.2) ∧ mv_iok x.1 x.2.1 x.2.2 = true) ∧
  (∀ x ∈ M.2.1, (Nat.ble 100 x.2.1 = true → (Cond.fieldLink own x.1 (cr x.2.1).1 ((cr x.2.1).2 x.2.2.1).1 ((cr x.2.1).2 x.2.2.1).2).before args s = true) ∧ (Nat.ble 100 x.2.1 = false → ∃ q : vw_C, cl[x.2.1]? = some q ∧ x.2.2.1 < q.2.2 ∧ (Cond.fieldLink own x.1 (q.2.1 x.2.2.1).1 (q.2.1 x.2.2.1).2.1 (q.2.1 x.2.2.1).2.2.1).before args s = true ∧
    (∀ k fs, sh k = some (.inr (x.2.1, fs)) → fs[x.2.2.1]? = some none → (q.2.1 x.2.2.1).2.2.2 = false ∧ parseFieldDescriptor (q.2.1 x.2.2.1).2.2.1 = some (bif x.2.2.2 then .boolean else .int))))
theorem mv_lk_mem {α : Type} {l : List (Nat × α)} {k : Nat} {v : α} (h : mv_lk l k = some v) : (k, v) ∈ l := by
  induction l with
  | nil => cases h
  | cons q l ih =>
    obtain ⟨a, b⟩ := q
    simp only [mv_lk] at h
    cases hb : Nat.beq a k with
    | true =>
      rw [hb] at h
      cases h
      cases Nat.eq_of_beq_eq_true hb
      exact List.mem_cons_self
    | false =>
      rw [hb] at h
      exact List.mem_cons_of_mem _ (ih h)
theorem mv_tg_of {pc : Nat} {off : Int} (h : 0 ≤ (pc : Int) + off) : (pc : Int) + off = (mv_tg pc off : Int) := (Int.toNat_of_nonneg h).symm
theorem mv_if_snd {x y : Int} {cnd : ClassFile.Cond} {a b : Option mv_O} {out : mv_O} {P : Prop} (hx : mv_in x) (hy : mv_in y) (h : mv_if cnd x y a b = some out) (ht : ∀ h1 : a = some out, Op.if_icmp.holds cnd (Int32.ofInt x) (Int32.ofInt y) = true → P) (hf : ∀ h1 : b = some out, Op.if_icmp.holds cnd (Int32.ofInt x) (Int32.ofInt y) = false → P) : P := by
  have h1 := mv_lt hx hy
  have h2 := mv_lt hy hx
  have h3 := mv_eq hx hy
  have h4 : Int32.ofInt x ≤ Int32.ofInt y ↔ ¬ y < x := by rw [← h2, Int32.not_lt]
  have h5 : Int32.ofInt y ≤ Int32.ofInt x ↔ ¬ x < y := by rw [← h1, Int32.not_lt]
  cases cnd <;> simp only [mv_if] at h <;> split at h <;> first
    | exact ht h (by simp_all [Op.if_icmp.holds])
    | exact hf h (by simp_all [Op.if_icmp.holds])
    | skip
theorem mv_icmp {H : Heap} {locs : List Loc} {pc tgt : Nat} {ls : Array Slot} {rest : List Value} {x y : Int32} {off : Int} {cnd : ClassFile.Cond} (hx : p.tables.exec = Jvm.exec) (hb : c.code = cc) (hdg : decode cc pc = .ok (.if_icmp cnd off, 3)) (ht : (pc : Int) + off = (tgt : Int))
    (kt : Op.if_icmp.holds cnd x y = true → W p l e R s m args below meth c H locs cells slots Q (F0 m tgt ls rest)) (kf : Op.if_icmp.holds cnd x y = false → W p l e R s m args below meth c H locs cells slots Q (F0 m (pc + 3) ls rest)) : W p l e R s m args below meth c H locs cells slots Q (F0 m pc ls (.int y :: .int x :: rest)) := by
  cases cnd
  · exact lv_icmp_eq hx hb hdg ht (fun h => kt (by simp [Op.if_icmp.holds, h])) (fun h => kf (by simp [Op.if_icmp.holds, h]))
  · exact lv_icmp_ne hx hb hdg ht (fun h => kt (by simp [Op.if_icmp.holds, h])) (fun h => kf (by simpa [Op.if_icmp.holds] using h))
  · exact lv_icmp_lt hx hb hdg ht (fun h => kt (by simp [Op.if_icmp.holds, h])) (fun h => kf (by simpa [Op.if_icmp.holds] using h))
  · exact lv_icmp_ge hx hb hdg ht (fun h => kt (by simpa [Op.if_icmp.holds] using h)) (fun h => kf (by simpa [Op.if_icmp.holds] using h))
  · exact lv_icmp_gt hx hb hdg ht (fun h => kt (by simpa [Op.if_icmp.holds] using h)) (fun h => kf (by simpa [Op.if_icmp.holds] using h))
  · exact lv_icmp_le hx hb hdg ht (fun h => kt (by simpa [Op.if_icmp.holds] using h)) (fun h => kf (by simpa [Op.if_icmp.holds] using h))
theorem mv_ifc {H : Heap} {locs : List Loc} {pc tgt : Nat} {ls : Array Slot} {rest : List Value} {x : Int32} {off : Int} {cnd : ClassFile.Cond} (hx : p.tables.exec = Jvm.exec) (hb : c.code = cc) (hdg : decode cc pc = .ok (.ifCond cnd off, 3)) (ht : (pc : Int) + off = (tgt : Int))
    (kt : Op.if_icmp.holds cnd x 0 = true → W p l e R s m args below meth c H locs cells slots Q (F0 m tgt ls rest)) (kf : Op.if_icmp.holds cnd x 0 = false → W p l e R s m args below meth c H locs cells slots Q (F0 m (pc + 3) ls rest)) : W p l e R s m args below meth c H locs cells slots Q (F0 m pc ls (.int x :: rest)) := by
  cases cnd
  · exact lv_if_eq hx hb hdg ht (fun h => kt (by simp [Op.if_icmp.holds, h])) (fun h => kf (by simp [Op.if_icmp.holds, h]))
  · exact lv_if_ne hx hb hdg ht (fun h => kt (by simp [Op.if_icmp.holds, h])) (fun h => kf (by simpa [Op.if_icmp.holds] using h))
  · exact lv_if_lt hx hb hdg ht (fun h => kt (by simpa [Op.if_icmp.holds] using h)) (fun h => kf (by simpa [Op.if_icmp.holds] using h))
  · exact lv_if_ge hx hb hdg ht (fun h => kt (by simpa [Op.if_icmp.holds] using h)) (fun h => kf (by simpa [Op.if_icmp.holds] using h))
  · exact lv_if_gt hx hb hdg ht (fun h => kt (by simpa [Op.if_icmp.holds] using h)) (fun h => kf (by simpa [Op.if_icmp.holds] using h))
  · exact lv_if_le hx hb hdg ht (fun h => kt (by simpa [Op.if_icmp.holds] using h)) (fun h => kf (by simpa [Op.if_icmp.holds] using h))
theorem mv_okc {v : mv_A} {r : List mv_A} (h : ∀ w ∈ v :: r, mv_okV ids ros w) : mv_okV ids ros v ∧ ∀ w ∈ r, mv_okV ids ros w := ⟨h v List.mem_cons_self, fun w hw => h w (List.mem_cons_of_mem _ hw)⟩
theorem mv_oks {v : mv_A} {r : List mv_A} (h : mv_okV ids ros v) (hr : ∀ w ∈ r, mv_okV ids ros w) : ∀ w ∈ v :: r, mv_okV ids ros w := fun w hw => by
  rcases List.mem_cons.mp hw with rfl | hw
  · exact h
  · exact hr w hw
/-- instructions that touch the stack alone -/
theorem mv_op_snd {H : Heap} {locs : List Loc} {pc : Nat} {lsC : Array Slot} {i : Instr} {len : Nat} {st st' : List mv_A} (hF : mv_Fix sh ids ros ad cA tys A rc) (hx : p.tables.exec = Jvm.exec) (hb : c.code = cc) (hdg : decode cc pc = .ok (i, len)) (hi : mv_iok pc i len = true) (h : mv_op i st = some st') (hst : ∀ v ∈ st, mv_okV ids ros v)
    (kk : (∀ v ∈ st', mv_okV ids ros v) → W p l e R s m args below meth c H locs cells slots Q (F0 m (pc + len) lsC (st'.map (mv_V ad)))) : W p l e R s m args below meth c H locs cells slots Q (F0 m pc lsC (st.map (mv_V ad))) := by
  cases i <;> simp only [mv_op, reduceCtorEq] at h
  case iconst n =>
    cases h
    simp only [mv_iok, Bool.and_eq_true, decide_eq_true_eq] at hi
    cases Nat.eq_of_beq_eq_true hi.2
    exact lv_iconst hx hb hdg rfl (kk (mv_oks (by show mv_in n; unfold mv_in; omega) hst))
  case bipush n =>
    cases h
    simp only [mv_iok, Bool.and_eq_true, decide_eq_true_eq] at hi
    cases Nat.eq_of_beq_eq_true hi.2
    refine lv_bipush (v := Int32.ofInt n) hx hb hdg ?_ (kk (mv_oks (by show mv_in n; unfold mv_in; omega) hst))
    apply Int32.toInt_inj.mp
    rw [mv_toInt (by unfold mv_in; omega), Int8.toInt_toInt32, Int8.toInt_ofInt_of_le (by omega) (by omega)]
  case sipush n =>
    cases h
    simp only [mv_iok, Bool.and_eq_true, decide_eq_true_eq] at hi
    cases Nat.eq_of_beq_eq_true hi.2
    refine lv_sipush (v := Int32.ofInt n) hx hb hdg ?_ (kk (mv_oks (by show mv_in n; unfold mv_in; omega) hst))
    apply Int32.toInt_inj.mp
    rw [mv_toInt (by unfold mv_in; omega), Int16.toInt_toInt32, Int16.toInt_ofInt_of_le (by omega) (by omega)]
  all_goals (simp only [mv_iok, mv_len] at hi; cases Nat.eq_of_beq_eq_true hi; split at h <;> try contradiction)
  all_goals (cases h)
  all_goals (first | obtain ⟨h1, h2⟩ := mv_okc hst)
  all_goals first
    | (refine lv_iadd hx hb hdg ?_; simpa only [List.map_cons, mv_V, mv_w_of, Int32.ofInt_add] using kk (mv_oks (mv_w_in _) (mv_okc h2).2); done)
    | (refine lv_isub hx hb hdg ?_; simpa only [List.map_cons, mv_V, mv_w_of, Int32.ofInt_sub] using kk (mv_oks (mv_w_in _) (mv_okc h2).2); done)
    | (refine lv_imul hx hb hdg ?_; simpa only [List.map_cons, mv_V, mv_w_of, Int32.ofInt_mul] using kk (mv_oks (mv_w_in _) (mv_okc h2).2); done)
    | (refine lv_ineg hx hb hdg ?_; simpa only [List.map_cons, mv_V, mv_w_of, Int32.ofInt_neg] using kk (mv_oks (mv_w_in _) h2); done)
    | (refine lv_iand hx hb hdg ?_; simpa only [List.map_cons, mv_V, mv_and, Int32.ofInt_toInt] using kk (mv_oks (mv_ii _) (mv_okc h2).2); done)
    | (refine lv_ior hx hb hdg ?_; simpa only [List.map_cons, mv_V, mv_or, Int32.ofInt_toInt] using kk (mv_oks (mv_ii _) (mv_okc h2).2); done)
    | (refine lv_ixor hx hb hdg ?_; simpa only [List.map_cons, mv_V, mv_xor, Int32.ofInt_toInt] using kk (mv_oks (mv_ii _) (mv_okc h2).2); done)
    | (refine lv_ishl hx hb hdg ?_; simpa only [List.map_cons, mv_V, mv_shl, Int32.ofInt_toInt] using kk (mv_oks (mv_ii _) (mv_okc h2).2); done)
    | (refine lv_ishr hx hb hdg ?_; simpa only [List.map_cons, mv_V, mv_shr, Int32.ofInt_toInt] using kk (mv_oks (mv_ii _) (mv_okc h2).2); done)
    | (refine lv_iushr hx hb hdg rfl ?_; simpa only [List.map_cons, mv_V, mv_ushr, Int32.ofInt_toInt] using kk (mv_oks (mv_ii _) (mv_okc h2).2); done)
    | (refine lv_i2c hx hb hdg rfl ?_; simpa only [List.map_cons, mv_V, mv_i2c, Int32.ofInt_toInt] using kk (mv_oks (mv_ii _) h2); done)
    | (exact lv_dup hx hb hdg (mv_okcat hF) (kk (mv_oks h1 hst)))
    | (exact lv_pop hx hb hdg (mv_okcat hF) (kk h2))
    | (exact lv_dup2_11 hx hb hdg (mv_okcat hF) (mv_okcat hF) (kk (mv_oks h1 (mv_oks (mv_okc h2).1 hst))))
end MV
end
section
section MV
variable {p : Program} {l : Launch} {e : Env} {R : Room} {s : State} {m : MethodId} {args : Array Value} {below : List Frame} {meth : Method} {c : Code} {cells slots : Nat} {Q : State → Prop}
variable {cc : ByteArray} {nL : Nat} {sh : Nat → Option mv_S} {ids ros : List (Nat × Nat)} {ad : Nat → Nat → Value} {cA : Nat → ClassId} {cl : List vw_C} {D : va_G} {tys : List (ClassId × FieldType)} {A : Nat → Prop} {rc : mv_G} {M : mv_M}
variable {H : Heap} {locs : List Loc} {lsC : Array Slot} {pc : Nat} {ls : mv_L} {st : List mv_A} {G : mv_G} {out : mv_O} {K : mv_K}
theorem mv_ref_of {q : Nat × Nat} (hF : mv_Fix sh ids ros ad cA tys A rc) (h : q ∈ ids ++ ros) : ad q.1 q.2 = .ref (mv_ra (ad q.1 q.2)) := by
  obtain ⟨a, ha⟩ := hF.2.2.1 q h
  rw [ha]
  rfl
theorem mv_ild {k : Nat} {i : Instr} {len : Nat} (hx : p.tables.exec = Jvm.exec) (hb : c.code = cc) (hF : mv_Fix sh ids ros ad cA tys A rc) (hL : mv_LR ids ros ad nL ls lsC) (hi : mv_iok pc i len = true)
    (hd : (i = .iload k ∨ ∃ q : Fin 4, i = .iload_n q ∧ q.val = k)) (hdg : decode cc pc = .ok (i, len)) {x : Int} (hv : ls[k]? = some (some (.inl x)))
    (kk : mv_okV ids ros (.inl x) → W p l e R s m args below meth c H locs cells slots Q (F0 m (pc + len) lsC (mv_V ad (.inl x) :: st.map (mv_V ad)))) : W p l e R s m args below meth c H locs cells slots Q (F0 m pc lsC (st.map (mv_V ad))) := by
  obtain ⟨h1, h2⟩ := hL.2.2.2 k _ hv
  rcases hd with rfl | ⟨q, rfl, rfl⟩
  · cases Nat.eq_of_beq_eq_true hi
    exact lv_iload hx hb hdg h1 (kk h2)
  · cases Nat.eq_of_beq_eq_true hi
    exact lv_iload_n hx hb hdg rfl h1 (kk h2)
theorem mv_ald {k : Nat} {i : Instr} {len : Nat} (hx : p.tables.exec = Jvm.exec) (hb : c.code = cc) (hF : mv_Fix sh ids ros ad cA tys A rc) (hL : mv_LR ids ros ad nL ls lsC) (hi : mv_iok pc i len = true)
    (hd : (i = .aload k ∨ ∃ q : Fin 4, i = .aload_n q ∧ q.val = k)) (hdg : decode cc pc = .ok (i, len)) {x : Nat × Nat} (hv : ls[k]? = some (some (.inr x))) (h9 : Nat.ble 990 x.1 = false)
    (kk : mv_okV ids ros (.inr x) → W p l e R s m args below meth c H locs cells slots Q (F0 m (pc + len) lsC (mv_V ad (.inr x) :: st.map (mv_V ad)))) : W p l e R s m args below meth c H locs cells slots Q (F0 m pc lsC (st.map (mv_V ad))) := by
  obtain ⟨h1, h2⟩ := hL.2.2.2 k _ hv
  have hr := mv_ref_of hF (h2.resolve_right (fun q => absurd (q.1.symm.trans h9) (by decide)))
  have h3 : lsC[k]? = some (.val (.ref (mv_ra (ad x.1 x.2)))) := by rw [h1]; show some (Slot.val (ad x.1 x.2)) = _; rw [← hr]
  have kk' := kk h2
  have e : mv_V ad (.inr x) = .ref (mv_ra (ad x.1 x.2)) := hr
  rw [e] at kk'
  rcases hd with rfl | ⟨q, rfl, rfl⟩
  · cases Nat.eq_of_beq_eq_true hi
    exact lv_aload hx hb hdg h3 kk'
  · cases Nat.eq_of_beq_eq_true hi
    exact lv_aload_n hx hb hdg rfl h3 kk'
theorem mv_ist {k : Nat} {i : Instr} {len : Nat} (hx : p.tables.exec = Jvm.exec) (hb : c.code = cc) (hF : mv_Fix sh ids ros ad cA tys A rc) (hL : mv_LR ids ros ad nL ls lsC) (hi : mv_iok pc i len = true)
    (hd : (i = .istore k ∨ ∃ q : Fin 4, i = .istore_n q ∧ q.val = k)) (hdg : decode cc pc = .ok (i, len)) {x : Int} {r : List mv_A} (hk : k < ls.length) (hv : mv_okV ids ros (.inl x))
    (kk : ∀ lsC', mv_LR ids ros ad nL (ls.set k (some (.inl x))) lsC' → W p l e R s m args below meth c H locs cells slots Q (F0 m (pc + len) lsC' (r.map (mv_V ad)))) : W p l e R s m args below meth c H locs cells slots Q (F0 m pc lsC (mv_V ad (.inl x) :: r.map (mv_V ad))) := by
  have hn : k < nL := by rw [← hL.1]; exact hk
  rcases hd with rfl | ⟨q, rfl, rfl⟩
  · cases Nat.eq_of_beq_eq_true hi
    exact lv_istore hx hb hdg (mv_ll_has hL) hn rfl fun lsC' h' => kk lsC' (mv_LR_set hF hL hv (fun i w hw => mv_ll_mem hw) h')
  · cases Nat.eq_of_beq_eq_true hi
    exact lv_istore_n hx hb hdg rfl (mv_ll_has hL) hn rfl fun lsC' h' => kk lsC' (mv_LR_set hF hL hv (fun i w hw => mv_ll_mem hw) h')
theorem mv_ast {k : Nat} {i : Instr} {len : Nat} (hx : p.tables.exec = Jvm.exec) (hb : c.code = cc) (hF : mv_Fix sh ids ros ad cA tys A rc) (hL : mv_LR ids ros ad nL ls lsC) (hi : mv_iok pc i len = true)
    (hd : (i = .astore k ∨ ∃ q : Fin 4, i = .astore_n q ∧ q.val = k)) (hdg : decode cc pc = .ok (i, len)) {x : Nat × Nat} {r : List mv_A} (hk : k < ls.length) (hv : mv_okV ids ros (.inr x)) (h9 : Nat.ble 990 x.1 = false)
    (kk : ∀ lsC', mv_LR ids ros ad nL (ls.set k (some (.inr x))) lsC' → W p l e R s m args below meth c H locs cells slots Q (F0 m (pc + len) lsC' (r.map (mv_V ad)))) : W p l e R s m args below meth c H locs cells slots Q (F0 m pc lsC (mv_V ad (.inr x) :: r.map (mv_V ad))) := by
  have hn : k < nL := by rw [← hL.1]; exact hk
  have hr := mv_ref_of hF (hv.resolve_right (fun q => absurd (q.1.symm.trans h9) (by decide)))
  have e : mv_V ad (.inr x) = .ref (mv_ra (ad x.1 x.2)) := hr
  rw [e]
  rcases hd with rfl | ⟨q, rfl, rfl⟩
  · cases Nat.eq_of_beq_eq_true hi
    exact lv_astore hx hb hdg (mv_ll_has hL) hn rfl fun lsC' h' => kk lsC' (mv_LR_set hF hL hv (fun i w hw => mv_ll_mem hw) (by rw [e]; exact h'))
  · cases Nat.eq_of_beq_eq_true hi
    exact lv_astore_n hx hb hdg rfl (mv_ll_has hL) hn rfl fun lsC' h' => kk lsC' (mv_LR_set hF hL hv (fun i w hw => mv_ll_mem hw) (by rw [e]; exact h'))
theorem mv_iin {k : Nat} {n : Int} (hx : p.tables.exec = Jvm.exec) (hb : c.code = cc) (hF : mv_Fix sh ids ros ad cA tys A rc) (hL : mv_LR ids ros ad nL ls lsC) (hdg : decode cc pc = .ok (.iinc k n, 3)) {x : Int} {rest : List Value} (hv : ls[k]? = some (some (.inl x)))
    (kk : ∀ lsC', mv_LR ids ros ad nL (ls.set k (some (.inl (mv_w (x + n))))) lsC' → W p l e R s m args below meth c H locs cells slots Q (F0 m (pc + 3) lsC' rest)) : W p l e R s m args below meth c H locs cells slots Q (F0 m pc lsC rest) := by
  have hn : k < nL := by rw [← hL.1]; exact (List.getElem?_eq_some_iff.mp hv).1
  have h0 := mv_ll_has hL
  have h1 : lv_has lsC nL ((k, .int (Int32.ofInt x)) :: mv_ll ad ls) := ⟨h0.1, h0.2.1, fun q hq => by
    rcases List.mem_cons.mp hq with rfl | hq
    · exact (hL.2.2.2 k _ hv).1
    · exact h0.2.2 q hq⟩
  exact lv_iinc (v := Int32.ofInt (mv_w (x + n))) hx hb hdg h1 (k := 0) rfl (by rw [mv_w_of, Int32.ofInt_add]) hn rfl fun lsC' h' => kk lsC' (mv_LR_set hF hL (mv_w_in _) (fun i w hw => List.mem_cons_of_mem _ (mv_ll_mem hw)) h')
theorem mv_rd_in (hF : mv_Fix sh ids ros ad cA tys A rc) (hW : mv_Wd sh ids ad cA cl D A G H) (k i j : Nat) : mv_in (mv_rd rc G k i j) := by
  unfold mv_rd
  cases Nat.ble 1000 k
  · exact hW.2.2 _ _ _
  · exact hF.2.2.2.2.2.2.2.1 _ _ _
/-- a written cell -/
theorem mv_Wd_put {k i j q0 : Nat} {v : Int} {H1 : Heap} {x : Nat × va_E} (hF : mv_Fix sh ids ros ad cA tys A rc) (hW : mv_Wd sh ids ad cA cl D A G H) (hv : mv_in v) (hq : ids[q0]? = some (k, i)) (hx : x = mv_cel sh ad cA (mv_up G k i j v) k i)
    (hP1 : va_P D cl ((mv_wd sh ad cA ids G).set q0 x) H1) (hD1 : va_D A ((mv_wd sh ad cA ids G).set q0 x)) : mv_Wd sh ids ad cA cl D A (mv_up G k i j v) H1 := by
  rw [mv_wd_set hF.2.2.2.2.1 hq hx] at hP1 hD1
  refine ⟨hP1, hD1, fun a b c => ?_⟩
  unfold mv_up
  split
  · exact hv
  · exact hW.2.2 _ _ _
theorem mv_in0 : mv_in 0 := by unfold mv_in; decide
theorem mv_if_h {x y : Int} {cnd : ClassFile.Cond} {a b : Option mv_O} (hx : mv_in x) (hy : mv_in y) (h : mv_if cnd x y a b = some out) : (Op.if_icmp.holds cnd (Int32.ofInt x) (Int32.ofInt y) = true ∧ a = some out) ∨ (Op.if_icmp.holds cnd (Int32.ofInt x) (Int32.ofInt y) = false ∧ b = some out) :=
  mv_if_snd hx hy h (fun h1 h2 => Or.inl ⟨h2, h1⟩) (fun h1 h2 => Or.inr ⟨h2, h1⟩)
/-- a call's answer: none, or the callee's -/
def mv_cst (p : Program) (l : Launch) (e : Env) (R : Room) (s : State) (m : MethodId) (args : Array Value) (below : List Frame) (meth : Method) (c : Code) (cells slots : Nat) (Q : State → Prop) (cc : ByteArray) (ids ros : List (Nat × Nat)) (ad : Nat → Nat → Value) (A : Nat → Prop) (M : mv_M) : Prop :=
  (∀ x ∈ M.2.2.1, mv_okV ids ros x.2 ∧ ∀ (pc : Nat) (H : Heap) (locs : List Loc) (lsC : Array Slot) (rest : List Value), va_S A s.heap H locs →
    (decode cc pc = .ok (.ldc x.1, 2) → W p l e R s m args below meth c H locs cells slots Q (F0 m (pc + 2) lsC (mv_V ad x.2 :: rest)) → W p l e R s m args below meth c H locs cells slots Q (F0 m pc lsC rest)) ∧
    (decode cc pc = .ok (.ldc_w x.1, 3) → W p l e R s m args below meth c H locs cells slots Q (F0 m (pc + 3) lsC (mv_V ad x.2 :: rest)) → W p l e R s m args below meth c H locs cells slots Q (F0 m pc lsC rest))) ∧
  (∀ x ∈ M.2.2.2.1, mv_okV ids ros x.2 ∧ ∀ (pc : Nat) (H : Heap) (locs : List Loc) (lsC : Array Slot) (rest : List Value), va_S A s.heap H locs →
    (decode cc pc = .ok (.getstatic x.1, 3) → W p l e R s m args below meth c H locs cells slots Q (F0 m (pc + 3) lsC (mv_V ad x.2 :: rest)) → W p l e R s m args below meth c H locs cells slots Q (F0 m pc lsC rest)))
theorem mv_upd {G : mv_G} {k i j : Nat} {v : Int} : (fun a => Int32.ofInt (mv_up G k i j v k i a)) = upd (fun a => Int32.ofInt (G k i a)) j (Int32.ofInt v) := by
  funext a
  simp only [upd, mv_up, true_and]
  split <;> rfl
theorem mv_lks_h {KK : Nat → Option mv_O} {x d : Int} : ∀ {l : List (Int × Int)}, mv_lks KK pc x d l = some out → 0 ≤ (pc : Int) + d → l.all (fun q => decide (0 ≤ (pc : Int) + q.2)) = true → KK (mv_tg pc (Op.lookupswitch.offset l d x)) = some out ∧ 0 ≤ (pc : Int) + Op.lookupswitch.offset l d x
  | [], h, hd, _ => ⟨h, hd⟩
  | (a, t) :: l, h, hd, hl => by
    simp only [List.all_cons, Bool.and_eq_true, decide_eq_true_eq] at hl
    simp only [mv_lks] at h
    rw [Op.lookupswitch.offset_cons]
    split at h
    · next e =>
      subst e
      rw [if_pos rfl]
      exact ⟨h, hl.1⟩
    · next e =>
      rw [if_neg (fun q => e q.symm)]
      exact mv_lks_h h hd hl.2
theorem mv_tbs_h {KK : Nat → Option mv_O} {x d : Int} : ∀ {l : List Int} {lo : Int}, mv_tbs KK pc x d lo l = some out → (x < lo ∨ lo + l.length ≤ x ∧ KK (mv_tg pc d) = some out) ∨ (lo ≤ x ∧ ∃ t, l[(x - lo).toNat]? = some t ∧ KK (mv_tg pc t) = some out)
  | [], lo, h => by
    by_cases e : x < lo
    · exact Or.inl (Or.inl e)
    · exact Or.inl (Or.inr ⟨by simp; omega, h⟩)
  | t :: l, lo, h => by
    simp only [mv_tbs] at h
    split at h
    · next e =>
      exact Or.inr ⟨by omega, t, by rw [e, Int.sub_self]; rfl, h⟩
    · next e =>
      rcases mv_tbs_h h with (h1 | ⟨h1, h2⟩) | ⟨h1, t', h2, h3⟩
      · exact Or.inl (Or.inl (by omega))
      · exact Or.inl (Or.inr ⟨by simp only [List.length_cons]; omega, h2⟩)
      · refine Or.inr ⟨by omega, t', ?_, h3⟩
        rw [show (x - lo).toNat = (x - (lo + 1)).toNat + 1 by omega]
        exact h2
theorem mv_tbs_lo {KK : Nat → Option mv_O} {x d : Int} : ∀ {l : List Int} {lo : Int}, x < lo → mv_tbs KK pc x d lo l = some out → KK (mv_tg pc d) = some out
  | [], lo, _, h => h
  | t :: l, lo, h0, h => by
    simp only [mv_tbs] at h
    rw [if_neg (by omega)] at h
    exact mv_tbs_lo (by omega) h
theorem mv_ck_h {x : Int} {n : Nat} {a : Option mv_O} (h : mv_ck x n a = some out) : (0 ≤ x ∧ x < n) ∧ a = some out := by
  unfold mv_ck at h
  split at h
  · next h1 => exact ⟨h1, h⟩
  · cases h
theorem mv_no999 (hF : mv_Fix sh ids ros ad cA tys A rc) {k i : Nat} {q : mv_S} (h : sh k = some q) (ho : mv_okV ids ros (.inr (k, i))) : (k, i) ∈ ids ++ ros := by
  refine ho.resolve_right fun e => ?_
  have := hF.2.2.2.2.2.2.2.2 _ e.1 e.2
  dsimp only at this
  rw [h] at this
  cases this
theorem mv_call_snd {n idx : Nat} {rv : Option Nat} {vo : Bool} {f : mv_F} (hF : mv_Fix sh ids ros ad cA tys A rc) (hL : mv_LR ids ros ad nL ls lsC) (hW : mv_Wd sh ids ad cA cl D A G H) (hS : va_S A s.heap H locs) (hst : ∀ v ∈ st, mv_okV ids ros v)
    (hc : mv_Cal p l e R s m args below meth c cells slots Q cc nL sh ids ros ad cA cl D A idx n rv vo f) (hdg : decode cc pc = .ok (mv_inv rv idx, 3)) (h : mv_call K n rv vo f sh pc ls st G = some out)
    (kk : ∀ {G' : mv_G} (H1 : Heap) (locs1 : List Loc), mv_Wd sh ids ad cA cl D A G' H1 → va_S A s.heap H1 locs1 → ∀ st' : List mv_A, (∀ v ∈ st', mv_okV ids ros v) → K (pc + 3) ls st' G' = some out → W p l e R s m args below meth c H1 locs1 cells slots Q (F0 m (pc + 3) lsC (st'.map (mv_V ad)))) :
    W p l e R s m args below meth c H locs cells slots Q (F0 m pc lsC (st.map (mv_V ad))) := by
  unfold mv_call at h
  generalize hg : (Nat.ble n st.length && Nat.ble (st.length - n) 8 && _) = g at h
  cases g with
  | false => cases h
  | true =>
    simp only [Bool.and_eq_true] at hg
    obtain ⟨⟨g1, g2⟩, g3⟩ := hg
    have g1 := Nat.le_of_ble_eq_true g1
    have g2 := Nat.le_of_ble_eq_true g2
    dsimp only [cond] at h
    unfold mv_cn at h
    split at h <;> try contradiction
    next r G' hf =>
    have est : st.map (mv_V ad) = (((st.take n).reverse).map (mv_V ad)).reverse ++ (st.drop n).map (mv_V ad) := by
      rw [List.map_reverse, List.reverse_reverse, ← List.map_append, List.take_append_drop]
    rw [est]
    refine hc pc lsC (st.take n).reverse ((st.drop n).map (mv_V ad)) G G' r H locs hL.2.1 hdg (by simp; omega) (fun v hv => hst v (List.mem_of_mem_take (List.mem_reverse.mp hv))) (fun ci hci => ?_) (by simp; omega) (fun v hv => ?_) hf hW hS (fun H1 locs1 h1 h2 h3 => ?_)
    · subst hci
      generalize hta : (st.take n).reverse = ta at g3
      split at g3 <;> try contradiction
      next ci2 k as' hci2 =>
      cases hci2
      split at g3 <;> try contradiction
      next ci' fs hs =>
      cases Nat.eq_of_beq_eq_true g3
      exact ⟨k, as', fs, rfl, mv_no999 hF hs (hst _ (List.mem_of_mem_take (List.mem_reverse.mp (by rw [hta]; exact List.mem_cons_self)))), hs⟩
    · obtain ⟨w, -, rfl⟩ := List.mem_map.mp hv
      exact mv_okcat hF
    · cases vo with
      | true => exact kk H1 locs1 h1 h2 _ (fun v hv => hst v (List.mem_of_mem_drop hv)) h
      | false => exact kk H1 locs1 h1 h2 _ (mv_oks (show mv_okV ids ros (.inl r) from h3 rfl) (fun v hv => hst v (List.mem_of_mem_drop hv))) h
theorem mv_step_snd {own : String} {Ts : List Cond} {cr : mv_R} (hX : mv_Ctx p s m args c cc nL sh cl D tys own Ts cr M) (hF : mv_Fix sh ids ros ad cA tys A rc) (hR : mv_RO sh ros ad A rc cr s) (hro100 : ∀ k ci fs, sh k = some (.inr (ci, fs)) → Nat.ble 1000 k = true → Nat.ble 100 ci = true) (hro3 : ∀ k, Nat.ble 1000 k = true → ∀ n w, ¬ sh k = some (.inl (3, n, w))) (hrw2 : ∀ k, Nat.ble 1000 k = false → ∀ n w, ¬ sh k = some (.inl (2, n, w))) (hro1 : ∀ k, Nat.ble 1000 k = true → ∀ n w, ¬ sh k = some (.inl (1, n, w))) (hrw100 : ∀ k ci fs, sh k = some (.inr (ci, fs)) → Nat.ble 1000 k = false → Nat.ble 100 ci = false)
    (hC : mv_cst p l e R s m args below meth c cells slots Q cc ids ros ad A M) (hCal : ∀ x ∈ M.2.2.2.2.1, mv_Cal p l e R s m args below meth c cells slots Q cc nL sh ids ros ad cA cl D A x.1 x.2.1 x.2.2.1 x.2.2.2.1 x.2.2.2.2)
    (hK : ∀ pc ls st G, mv_Snd p l e R s m args below meth c cells slots Q cc nL sh ids ros ad cA cl D A M pc ls st G (K pc ls st G)) :
    mv_Snd p l e R s m args below meth c cells slots Q cc nL sh ids ros ad cA cl D A M pc ls st G (mv_step rc M sh K pc ls st G) := by
  obtain ⟨hx, hb, hown, hts, hKn, hml, hcls, hcode, hfld⟩ := hX
  intro out h hfin H locs lsC hW hS hL hst
  unfold mv_step at h
  split at h
  · cases h
  next i len hlk =>
  obtain ⟨hdg, hi⟩ := hcode _ (mv_lk_mem hlk)
  dsimp only at hdg hi
  have go : ∀ {pc' : Nat} {ls' : mv_L} {st' : List mv_A} {G' : mv_G}, K pc' ls' st' G' = some out → ∀ (H : Heap) (locs : List Loc) (lsC : Array Slot), mv_Wd sh ids ad cA cl D A G' H → va_S A s.heap H locs → mv_LR ids ros ad nL ls' lsC → (∀ v ∈ st', mv_okV ids ros v) → W p l e R s m args below meth c H locs cells slots Q (F0 m pc' lsC (st'.map (mv_V ad))) := fun h => hK _ _ _ _ out h hfin
  cases i
  case iload k =>
    dsimp only [mv_ldi] at h
    split at h <;> try contradiction
    next x hv => exact mv_ild hx hb hF hL hi (Or.inl rfl) hdg hv (fun ho => go h H locs lsC hW hS hL (mv_oks ho hst))
  case iload_n k =>
    dsimp only [mv_ldi] at h
    split at h <;> try contradiction
    next x hv => exact mv_ild hx hb hF hL hi (Or.inr ⟨k, rfl, rfl⟩) hdg hv (fun ho => go h H locs lsC hW hS hL (mv_oks ho hst))
  case aload k =>
    dsimp only [mv_lda] at h
    split at h <;> try contradiction
    next q hv =>
    cases h9 : Nat.ble 990 q.1 with
    | true => rw [h9] at h; cases h
    | false =>
      rw [h9] at h
      exact mv_ald hx hb hF hL hi (Or.inl rfl) hdg hv h9 (fun ho => go h H locs lsC hW hS hL (mv_oks ho hst))
  case aload_n k =>
    dsimp only [mv_lda] at h
    split at h <;> try contradiction
    next q hv =>
    cases h9 : Nat.ble 990 q.1 with
    | true => rw [h9] at h; cases h
    | false =>
      rw [h9] at h
      exact mv_ald hx hb hF hL hi (Or.inr ⟨k, rfl, rfl⟩) hdg hv h9 (fun ho => go h H locs lsC hW hS hL (mv_oks ho hst))
  case istore k =>
    dsimp only [mv_sti] at h
    split at h <;> try contradiction
    next x r hv => exact mv_ist hx hb hF hL hi (Or.inl rfl) hdg (List.getElem?_eq_some_iff.mp hv).1 (mv_okc hst).1 (fun lsC' hL' => go h H locs lsC' hW hS hL' (mv_okc hst).2)
  case istore_n k =>
    dsimp only [mv_sti] at h
    split at h <;> try contradiction
    next x r hv => exact mv_ist hx hb hF hL hi (Or.inr ⟨k, rfl, rfl⟩) hdg (List.getElem?_eq_some_iff.mp hv).1 (mv_okc hst).1 (fun lsC' hL' => go h H locs lsC' hW hS hL' (mv_okc hst).2)
  case astore k =>
    dsimp only [mv_sta] at h
    split at h <;> try contradiction
    next q r hv =>
    cases h9 : Nat.ble 990 q.1 with
    | true => rw [h9] at h; cases h
    | false =>
      rw [h9] at h
      exact mv_ast hx hb hF hL hi (Or.inl rfl) hdg (List.getElem?_eq_some_iff.mp hv).1 (mv_okc hst).1 h9 (fun lsC' hL' => go h H locs lsC' hW hS hL' (mv_okc hst).2)
  case astore_n k =>
    dsimp only [mv_sta] at h
    split at h <;> try contradiction
    next q r hv =>
    cases h9 : Nat.ble 990 q.1 with
    | true => rw [h9] at h; cases h
    | false =>
      rw [h9] at h
      exact mv_ast hx hb hF hL hi (Or.inr ⟨k, rfl, rfl⟩) hdg (List.getElem?_eq_some_iff.mp hv).1 (mv_okc hst).1 h9 (fun lsC' hL' => go h H locs lsC' hW hS hL' (mv_okc hst).2)
  case iinc k n =>
    dsimp only at h
    split at h <;> try contradiction
    next x hv =>
    simp only [mv_iok, Bool.and_eq_true] at hi
    cases Nat.eq_of_beq_eq_true hi.2
    exact mv_iin hx hb hF hL hdg hv (fun lsC' hL' => go h H locs lsC' hW hS hL' hst)
  case ldc k =>
    dsimp only at h
    split at h <;> try contradiction
    next v hv =>
    cases Nat.eq_of_beq_eq_true hi
    obtain ⟨ho, hc⟩ := hC.1 _ (mv_lk_mem hv)
    exact (hc pc H locs lsC _ hS).1 hdg (go h H locs lsC hW hS hL (mv_oks ho hst))
  case ldc_w k =>
    dsimp only at h
    split at h <;> try contradiction
    next v hv =>
    cases Nat.eq_of_beq_eq_true hi
    obtain ⟨ho, hc⟩ := hC.1 _ (mv_lk_mem hv)
    exact (hc pc H locs lsC _ hS).2 hdg (go h H locs lsC hW hS hL (mv_oks ho hst))
  case getstatic k =>
    dsimp only at h
    split at h <;> try contradiction
    next v hv =>
    cases Nat.eq_of_beq_eq_true hi
    obtain ⟨ho, hc⟩ := hC.2 _ (mv_lk_mem hv)
    exact (hc pc H locs lsC _ hS) hdg (go h H locs lsC hW hS hL (mv_oks ho hst))
  case goto off =>
    simp only [mv_iok, Bool.and_eq_true, decide_eq_true_eq] at hi
    cases Nat.eq_of_beq_eq_true hi.2
    exact lv_goto hx hb hdg (mv_tg_of hi.1) (go h H locs lsC hW hS hL hst)
  case ifCond cnd off =>
    dsimp only at h
    split at h <;> try contradiction
    next x r =>
    simp only [mv_iok, Bool.and_eq_true, decide_eq_true_eq] at hi
    cases Nat.eq_of_beq_eq_true hi.2
    rcases mv_if_h (mv_okc hst).1 mv_in0 h with ⟨h1, h2⟩ | ⟨h1, h2⟩
    · exact mv_ifc hx hb hdg (mv_tg_of hi.1) (fun _ => go h2 H locs lsC hW hS hL (mv_okc hst).2) (fun h3 => absurd (h3.symm.trans h1) (by decide))
    · exact mv_ifc hx hb hdg (mv_tg_of hi.1) (fun h3 => absurd (h3.symm.trans h1) (by decide)) (fun _ => go h2 H locs lsC hW hS hL (mv_okc hst).2)
  case if_icmp cnd off =>
    dsimp only at h
    split at h <;> try contradiction
    next y x r =>
    simp only [mv_iok, Bool.and_eq_true, decide_eq_true_eq] at hi
    cases Nat.eq_of_beq_eq_true hi.2
    obtain ⟨hy, hst⟩ := mv_okc hst
    rcases mv_if_h (mv_okc hst).1 hy h with ⟨h1, h2⟩ | ⟨h1, h2⟩
    · exact mv_icmp hx hb hdg (mv_tg_of hi.1) (fun _ => go h2 H locs lsC hW hS hL (mv_okc hst).2) (fun h3 => absurd (h3.symm.trans h1) (by decide))
    · exact mv_icmp hx hb hdg (mv_tg_of hi.1) (fun h3 => absurd (h3.symm.trans h1) (by decide)) (fun _ => go h2 H locs lsC hW hS hL (mv_okc hst).2)
  case idiv =>
    dsimp only at h
    split at h <;> try contradiction
    next y x r =>
    split at h <;> try contradiction
    next hy =>
    obtain ⟨ho1, hst⟩ := mv_okc hst
    obtain ⟨ho2, hst⟩ := mv_okc hst
    cases Nat.eq_of_beq_eq_true hi
    refine lv_idiv hx hb hdg (fun e => hy ((mv_eq ho1 mv_in0).mp e)) ?_
    have := go h H locs lsC hW hS hL (mv_oks (mv_w_in _) hst)
    rw [List.map_cons, mv_V, mv_w_of] at this
    have e : Int32.ofInt x / Int32.ofInt y = Int32.ofInt (x.tdiv y) := by
      apply Int32.toInt_inj.mp
      rw [Int32.toInt_div, mv_toInt ho2, mv_toInt ho1, Int32.toInt_ofInt]
    rw [e]
    exact this
  case irem =>
    dsimp only at h
    split at h <;> try contradiction
    next y x r =>
    split at h <;> try contradiction
    next hy =>
    obtain ⟨ho1, hst⟩ := mv_okc hst
    obtain ⟨ho2, hst⟩ := mv_okc hst
    cases Nat.eq_of_beq_eq_true hi
    refine lv_irem hx hb hdg (fun e => hy ((mv_eq ho1 mv_in0).mp e)) ?_
    have := go h H locs lsC hW hS hL (mv_oks (mv_w_in _) hst)
    rw [List.map_cons, mv_V, mv_w_of] at this
    have e0 : Int32.ofInt x / Int32.ofInt y = Int32.ofInt (x.tdiv y) := by
      apply Int32.toInt_inj.mp
      rw [Int32.toInt_div, mv_toInt ho2, mv_toInt ho1, Int32.toInt_ofInt]
    have e : Int32.ofInt x - Int32.ofInt x / Int32.ofInt y * Int32.ofInt y = Int32.ofInt (x.tmod y) := by
      rw [e0, ← Int32.ofInt_mul, ← Int32.ofInt_sub, Int.tmod_def, Int.mul_comm]
    rw [e]
    exact this
  case getfield k =>
    dsimp only at h
    split at h <;> try contradiction
    next q r =>
    split at h <;> try contradiction
    next ci fs ci' j z hs hf =>
    cases Nat.eq_of_beq_eq_true hi
    obtain ⟨ho, hst⟩ := mv_okc hst
    cases hc : Nat.beq ci ci' with
    | false => rw [hc] at h; cases h
    | true =>
      rw [hc] at h
      cases Nat.eq_of_beq_eq_true hc
      have hm := mv_no999 hF hs ho
      rw [List.map_cons, show mv_V ad (.inr (q, 0)) = .ref (mv_ra (ad q 0)) from mv_ref_of hF hm]
      dsimp only [cond] at h
      cases hro : Nat.ble 1000 q with
      | true =>
        have hR1 := hR q (mv_getro hF hm hro).1
        simp only [hs] at hR1
        rw [mv_rd_ro hro] at h
        have hlk2 : Nat.ble 100 ci = true := hro100 _ _ _ hs hro
        have e3 := (hfld _ (mv_lk_mem hf)).1 hlk2
        split at h <;> try contradiction
        · next hj => exact vk_getf hx hb (hR1.2 j _ hj) hS hown e3 (fun _ h => h) hdg (go h H locs lsC hW hS hL (mv_oks (hF.2.2.2.2.2.2.2.1 _ _ _) hst))
        · next t hj => exact vk_getf hx hb (hR1.2 j _ hj) hS hown e3 (fun _ h => h) hdg (go h H locs lsC hW hS hL (mv_oks (Or.inl (hF.2.1 _ _ _ hs _ _ hj)) hst))
      | false =>
        have hlk2 : Nat.ble 100 ci = false := hrw100 _ _ _ hs hro
        obtain ⟨q1, e1, e2, e3, -⟩ := (hfld _ (mv_lk_mem hf)).2 hlk2
        obtain ⟨q0, hq0, hg⟩ := mv_getcell hF hW hm hro
        simp only [mv_cel, hs] at hg
        rw [mv_rd_rw hro] at h
        split at h <;> try contradiction
        · next hj => exact va_get (C := q1.1) (T := q1.2.1) (N := q1.2.2) hx hb hts (hcls _ _ e1).1 hown hKn hW.1 q0 hg e1 j e2 e3 (fun _ h => h) (mv_fs_get hj) hdg (go h H locs lsC hW hS hL (mv_oks (hW.2.2 _ _ _) hst))
        · next t hj => exact va_get (C := q1.1) (T := q1.2.1) (N := q1.2.2) hx hb hts (hcls _ _ e1).1 hown hKn hW.1 q0 hg e1 j e2 e3 (fun _ h => h) (mv_fs_get hj) hdg (go h H locs lsC hW hS hL (mv_oks (Or.inl (hF.2.1 _ _ _ hs _ _ hj)) hst))
  case putfield k =>
    dsimp only at h
    split at h <;> try contradiction
    next v q r =>
    split at h <;> try contradiction
    next ci fs ci' j z hs hf =>
    cases Nat.eq_of_beq_eq_true hi
    obtain ⟨hov, hst⟩ := mv_okc hst
    obtain ⟨ho, hst⟩ := mv_okc hst
    cases hc : Nat.beq ci ci' with
    | false => rw [hc] at h; cases h
    | true =>
      rw [hc] at h
      cases Nat.eq_of_beq_eq_true hc
      have hm := mv_no999 hF hs ho
      have eV : mv_V ad (.inr (q, 0)) = .ref (mv_ra (ad q 0)) := mv_ref_of hF hm
      rw [List.map_cons, List.map_cons, eV]
      dsimp only [cond] at h
      split at h <;> try contradiction
      next hj =>
      cases hro : Nat.ble 1000 q with
      | true => rw [hro] at h; cases h
      | false =>
        rw [hro] at h
        obtain ⟨q1, e1, e2, e3, e4⟩ := (hfld _ (mv_lk_mem hf)).2 (hrw100 _ _ _ hs hro)
        obtain ⟨q0, hq0, hg⟩ := mv_getcell hF hW hm hro
        have hg' : (mv_wd sh ad cA ids G)[q0]? = some (mv_ra (ad q 0), .inr (ci, mv_fs ad (G q 0) fs)) := by rw [hg]; simp only [mv_cel, hs]
        obtain ⟨f1, f2⟩ := e4 _ _ hs hj
        obtain ⟨c1, ⟨ty0, c2⟩, c3⟩ := hcls _ _ e1
        have hxe : (mv_ra (ad q 0), (.inr (ci, (mv_fs ad (G q 0) fs).set j (.int (Int32.ofInt v))) : va_E)) = mv_cel sh ad cA (mv_up G q 0 j v) q 0 := by
          simp only [mv_cel, hs]
          rw [mv_fs_set hj]
        have key : K (pc + 3) ls r (mv_up G q 0 j v) = some out → (z = true → 0 ≤ v ∧ v < 2) → W p l e R s m args below meth c H locs cells slots Q (F0 m pc lsC (mv_V ad (.inl v) :: .ref (mv_ra (ad q 0)) :: r.map (mv_V ad))) := by
          intro h hz
          refine va_put (C := q1.1) (T := q1.2.1) (N := q1.2.2) (ty := bif z then .boolean else .int) hx hb hts c1 ty0 c2 c3 hown hKn hW.1 hW.2.1 hS q0 hg' e1 j e2 e3 (fun _ h => h) f1 f2 ?_ ?_ (by rw [mv_fs_len]; exact (List.getElem?_eq_some_iff.mp hj).1) hdg (fun H1 locs1 hP1 hD1 hS1 => ?_)
          · cases z with
            | false => rfl
            | true =>
              obtain ⟨z1, z2⟩ := hz rfl
              rcases (show v = 0 ∨ v = 1 by omega) with rfl | rfl <;> rfl
          · cases z with
            | false => rfl
            | true =>
              obtain ⟨z1, z2⟩ := hz rfl
              rcases (show v = 0 ∨ v = 1 by omega) with rfl | rfl <;> rfl
          · exact go h H1 locs1 lsC (mv_Wd_put hF hW hov hq0 hxe hP1 hD1) hS1 hL hst
        dsimp only [cond] at h
        cases z with
        | false => exact key h (fun h => by cases h)
        | true =>
          obtain ⟨z1, z2⟩ := mv_ck_h h
          exact key z2 (fun _ => z1)
  case arraylength =>
    dsimp only at h
    split at h <;> try contradiction
    next q i r =>
    have ho := (mv_okc hst).1
    cases Nat.eq_of_beq_eq_true hi
    split at h <;> try contradiction
    · rename sh q = some _ => hs
      have hm := mv_no999 hF hs ho
      rw [List.map_cons, show mv_V ad (.inr (q, 0)) = .ref (mv_ra (ad q 0)) from mv_ref_of hF hm]
      obtain ⟨hn, hw, h3⟩ := hF.1 _ _ _ _ hs
      cases hro : Nat.ble 1000 q with
      | true =>
        have hR1 := hR q (mv_getro hF hm hro).1
        simp only [hs] at hR1
        exact va_tlen hx hb hR1 hS rfl hdg (go h H locs lsC hW hS hL (mv_oks (by show mv_in _; unfold mv_in; omega) (mv_okc hst).2))
      | false =>
        obtain ⟨q0, hq0, hg⟩ := mv_getcell hF hW hm hro
        simp only [mv_cel, hs] at hg
        exact va_alen hx hb hKn hW.1 q0 _ hg (h3 hro).1 rfl hdg (go h H locs lsC hW hS hL (mv_oks (by show mv_in _; unfold mv_in; omega) (mv_okc hst).2))
    · rename sh q = some _ => hs
      have hm := mv_no999 hF hs ho
      rw [List.map_cons, show mv_V ad (.inr (q, 0)) = .ref (mv_ra (ad q 0)) from mv_ref_of hF hm]
      obtain ⟨hn, hw, h3⟩ := hF.1 _ _ _ _ hs
      cases hro : Nat.ble 1000 q with
      | true =>
        have hR1 := hR q (mv_getro hF hm hro).1
        simp only [hs] at hR1
        exact va_tlen hx hb hR1 hS rfl hdg (go h H locs lsC hW hS hL (mv_oks (by show mv_in _; unfold mv_in; omega) (mv_okc hst).2))
      | false =>
        obtain ⟨q0, hq0, hg⟩ := mv_getcell hF hW hm hro
        simp only [mv_cel, hs] at hg
        exact va_alen hx hb hKn hW.1 q0 _ hg (h3 hro).1 rfl hdg (go h H locs lsC hW hS hL (mv_oks (by show mv_in _; unfold mv_in; omega) (mv_okc hst).2))
    · rename sh q = some _ => hs
      have hm := mv_no999 hF hs ho
      rw [List.map_cons, show mv_V ad (.inr (q, 0)) = .ref (mv_ra (ad q 0)) from mv_ref_of hF hm]
      obtain ⟨hn, hw, h3⟩ := hF.1 _ _ _ _ hs
      cases hro : Nat.ble 1000 q with
      | true =>
        exact absurd hs (hro3 _ hro _ _)
      | false =>
        obtain ⟨q0, hq0, hg⟩ := mv_getcell hF hW hm hro
        simp only [mv_cel, hs] at hg
        exact va_alen hx hb hKn hW.1 q0 _ hg (h3 hro).1 rfl hdg (go h H locs lsC hW hS hL (mv_oks (by show mv_in _; unfold mv_in; omega) (mv_okc hst).2))
    · rename sh q = some _ => hs
      have hm := mv_no999 hF hs ho
      rw [List.map_cons, show ∀ i', (q, i') ∈ ids ++ ros → mv_V ad (.inr (q, i')) = .ref (mv_ra (ad q i')) from fun i' h => mv_ref_of hF h]
      · obtain ⟨hn, hw, h3⟩ := hF.1 _ _ _ _ hs
        cases hro : Nat.ble 1000 q with
        | true => exact absurd hs (hro3 _ hro _ _)
        | false =>
          obtain ⟨q0, hq0, hg⟩ := mv_getcell hF hW hm hro
          simp only [mv_cel, hs] at hg
          exact va_alen hx hb hKn hW.1 q0 0 hg ((h3 hro).2 rfl).1 rfl hdg (go h H locs lsC hW hS hL (mv_oks (by show mv_in _; unfold mv_in; omega) (mv_okc hst).2))
      · exact hm
  case iaload =>
    dsimp only at h
    split at h <;> try contradiction
    next x q i r =>
    have hox := (mv_okc hst).1
    have ho := (mv_okc (mv_okc hst).2).1
    have hst' := (mv_okc (mv_okc hst).2).2
    cases Nat.eq_of_beq_eq_true hi
    split at h <;> try contradiction
    · rename sh q = some _ => hs
      have hm := mv_no999 hF hs ho
      rw [List.map_cons, List.map_cons, show mv_V ad (.inr (q, 0)) = .ref (mv_ra (ad q 0)) from mv_ref_of hF hm]
      obtain ⟨hn, hw, h3⟩ := hF.1 _ _ _ _ hs
      obtain ⟨hin, h⟩ := mv_ck_h h
      cases hro : Nat.ble 1000 q with
      | true =>
        have hR1 := hR q (mv_getro hF hm hro).1
        simp only [hs] at hR1
        rw [mv_rd_ro hro] at h
        exact va_ti hx hb hR1 hS (mv_vpin hox hin) (by rw [mv_clamp hox hin.1]; rfl) hdg (go h H locs lsC hW hS hL (mv_oks (hF.2.2.2.2.2.2.2.1 _ _ _) hst'))
      | false =>
        obtain ⟨q0, hq0, hg⟩ := mv_getcell hF hW hm hro
        simp only [mv_cel, hs] at hg
        rw [mv_rd_rw hro] at h
        refine va_iald hx hb hKn hW.1 q0 0 hg (h3 hro).1 (mv_vpin hox hin) hdg ?_
        rw [mv_clamp hox hin.1]
        exact go h H locs lsC hW hS hL (mv_oks (hW.2.2 _ _ _) hst')
    · rename sh q = some _ => hs
      have hm := mv_no999 hF hs ho
      rw [List.map_cons, List.map_cons, show ∀ i', (q, i') ∈ ids ++ ros → mv_V ad (.inr (q, i')) = .ref (mv_ra (ad q i')) from fun i' h => mv_ref_of hF h]
      · obtain ⟨hn, hw, h3⟩ := hF.1 _ _ _ _ hs
        obtain ⟨hin, h⟩ := mv_ck_h h
        cases hro : Nat.ble 1000 q with
        | true => exact absurd hs (hro3 _ hro _ _)
        | false =>
          obtain ⟨q0, hq0, hg⟩ := mv_getcell hF hW hm hro
          simp only [mv_cel, hs] at hg
          rw [mv_rd_rw hro] at h
          refine va_iald hx hb hKn hW.1 q0 0 hg ((h3 hro).2 rfl).1 (mv_vpin hox hin) hdg ?_
          rw [mv_clamp hox hin.1]
          exact go h H locs lsC hW hS hL (mv_oks (hW.2.2 _ _ _) hst')
      · exact hm
  case iastore =>
    dsimp only at h
    split at h <;> try contradiction
    next v x q i r =>
    obtain ⟨hov, hst⟩ := mv_okc hst
    obtain ⟨hox, hst⟩ := mv_okc hst
    obtain ⟨ho, hst⟩ := mv_okc hst
    cases Nat.eq_of_beq_eq_true hi
    split at h <;> try contradiction
    · rename sh q = some _ => hs
      have hm := mv_no999 hF hs ho
      rw [List.map_cons, List.map_cons, List.map_cons, show mv_V ad (.inr (q, 0)) = .ref (mv_ra (ad q 0)) from mv_ref_of hF hm]
      obtain ⟨hn, hw, h3⟩ := hF.1 _ _ _ _ hs
      cases hro : Nat.ble 1000 q with
      | true => rw [hro] at h; cases h
      | false =>
        rw [hro] at h
        obtain ⟨hin, h⟩ := mv_ck_h h
        obtain ⟨q0, hq0, hg⟩ := mv_getcell hF hW hm hro
        simp only [mv_cel, hs] at hg
        refine va_iast hx hb hKn hW.1 hW.2.1 hS q0 0 hg (h3 hro).1 (mv_vpin hox hin) hdg (fun H1 locs1 hP1 hD1 hS1 => ?_)
        rw [mv_clamp hox hin.1] at hP1 hD1
        refine go h H1 locs1 lsC (mv_Wd_put hF hW hov hq0 ?_ hP1 hD1) hS1 hL (mv_okc hst).2
        simp only [mv_cel, hs, mv_upd]
    · rename sh q = some _ => hs
      have hm := mv_no999 hF hs ho
      rw [List.map_cons, List.map_cons, List.map_cons, show ∀ i', (q, i') ∈ ids ++ ros → mv_V ad (.inr (q, i')) = .ref (mv_ra (ad q i')) from fun i' h => mv_ref_of hF h]
      · obtain ⟨hn, hw, h3⟩ := hF.1 _ _ _ _ hs
        cases hro : Nat.ble 1000 q with
        | true => rw [hro] at h; cases h
        | false =>
          rw [hro] at h
          obtain ⟨hin, h⟩ := mv_ck_h h
          obtain ⟨q0, hq0, hg⟩ := mv_getcell hF hW hm hro
          simp only [mv_cel, hs] at hg
          refine va_iast hx hb hKn hW.1 hW.2.1 hS q0 0 hg ((h3 hro).2 rfl).1 (mv_vpin hox hin) hdg (fun H1 locs1 hP1 hD1 hS1 => ?_)
          rw [mv_clamp hox hin.1] at hP1 hD1
          refine go h H1 locs1 lsC (mv_Wd_put hF hW hov hq0 ?_ hP1 hD1) hS1 hL (mv_okc hst).2
          simp only [mv_cel, hs, mv_upd]
      · exact hm
  case baload =>
    dsimp only at h
    split at h <;> try contradiction
    next x q r =>
    obtain ⟨hox, hst⟩ := mv_okc hst
    obtain ⟨ho, hst⟩ := mv_okc hst
    cases Nat.eq_of_beq_eq_true hi
    split at h <;> try contradiction
    · rename sh q = some _ => hs
      have hm := mv_no999 hF hs ho
      rw [List.map_cons, List.map_cons, show mv_V ad (.inr (q, 0)) = .ref (mv_ra (ad q 0)) from mv_ref_of hF hm]
      obtain ⟨hn, hw, h3⟩ := hF.1 _ _ _ _ hs
      obtain ⟨hin, h⟩ := mv_ck_h h
      cases hro : Nat.ble 1000 q with
      | true => exact absurd hs (hro1 _ hro _ _)
      | false =>
        obtain ⟨q0, hq0, hg⟩ := mv_getcell hF hW hm hro
        simp only [mv_cel, hs] at hg
        rw [mv_rd_rw hro] at h
        refine va_zald hx hb hKn hW.1 q0 1 hg (h3 hro).1 (mv_vpin hox hin) hdg ?_
        rw [mv_clamp hox hin.1]
        exact go h H locs lsC hW hS hL (mv_oks (hW.2.2 _ _ _) hst)
    · rename sh q = some _ => hs
      have hm := mv_no999 hF hs ho
      rw [List.map_cons, List.map_cons, show mv_V ad (.inr (q, 0)) = .ref (mv_ra (ad q 0)) from mv_ref_of hF hm]
      obtain ⟨hn, hw, h3⟩ := hF.1 _ _ _ _ hs
      obtain ⟨hin, h⟩ := mv_ck_h h
      cases hro : Nat.ble 1000 q with
      | false => exact absurd hs (hrw2 _ hro _ _)
      | true =>
        have hR1 := hR q (mv_getro hF hm hro).1
        simp only [hs] at hR1
        rw [mv_rd_ro hro] at h
        exact va_tb hx hb hR1 hS (mv_vpin hox hin) (by rw [mv_clamp hox hin.1]; rfl) hdg (go h H locs lsC hW hS hL (mv_oks (hF.2.2.2.2.2.2.2.1 _ _ _) hst))
  case bastore =>
    dsimp only at h
    split at h <;> try contradiction
    next v x q r =>
    obtain ⟨hov, hst⟩ := mv_okc hst
    obtain ⟨hox, hst⟩ := mv_okc hst
    obtain ⟨ho, hst⟩ := mv_okc hst
    cases Nat.eq_of_beq_eq_true hi
    split at h <;> try contradiction
    rename sh q = some _ => hs
    have hm := mv_no999 hF hs ho
    rw [List.map_cons, List.map_cons, List.map_cons, show mv_V ad (.inr (q, 0)) = .ref (mv_ra (ad q 0)) from mv_ref_of hF hm]
    obtain ⟨hn, hw, h3⟩ := hF.1 _ _ _ _ hs
    cases hro : Nat.ble 1000 q with
    | true => rw [hro] at h; cases h
    | false =>
      rw [hro] at h
      obtain ⟨hin, h⟩ := mv_ck_h h
      obtain ⟨hin2, h⟩ := mv_ck_h h
      obtain ⟨q0, hq0, hg⟩ := mv_getcell hF hW hm hro
      simp only [mv_cel, hs] at hg
      refine va_zast hx hb hKn hW.1 hW.2.1 hS q0 1 hg (h3 hro).1 (mv_vpin hox hin) hdg (fun H1 locs1 hP1 hD1 hS1 => ?_)
      have e1 : vp_nar .boolean (Int32.ofInt v) = Int32.ofInt v := by
        rcases (show v = 0 ∨ v = 1 by omega) with rfl | rfl <;> rfl
      rw [mv_clamp hox hin.1, e1] at hP1 hD1
      refine go h H1 locs1 lsC (mv_Wd_put hF hW hov hq0 ?_ hP1 hD1) hS1 hL hst
      simp only [mv_cel, hs, mv_upd]
  case aaload =>
    dsimp only at h
    split at h <;> try contradiction
    next x q r =>
    obtain ⟨hox, hst⟩ := mv_okc hst
    obtain ⟨ho, hst⟩ := mv_okc hst
    cases Nat.eq_of_beq_eq_true hi
    split at h <;> try contradiction
    rename sh q = some _ => hs
    have hm := mv_no999 hF hs ho
    rw [List.map_cons, List.map_cons, show mv_V ad (.inr (q, 0)) = .ref (mv_ra (ad q 0)) from mv_ref_of hF hm]
    obtain ⟨hn, hw, h3⟩ := hF.1 _ _ _ _ hs
    obtain ⟨hin, h⟩ := mv_ck_h h
    cases hro : Nat.ble 1000 q with
    | true => exact absurd hs (hro3 _ hro _ _)
    | false =>
    obtain ⟨q0, hq0, hg⟩ := mv_getcell hF hW hm hro
    simp only [mv_cel, hs] at hg
    have hm2 := ((h3 hro).2 rfl).2 x.toNat (by omega)
    have hlt : (Int32.ofInt x).toNatClampNeg < _ := Nat.not_le.mp fun q => mv_vpin hox hin (Or.inr q)
    refine W.aald (v := ad q (x.toNat + 1)) (ty := .array .int) hx hb (hW.1 q0 _ hg) ((hKn.2 3 _ (h3 hro).1).1 _ (fun j => va_rf (if j < _ then some (mv_ra (ad q (j + 1))) else none))) rfl (fun q => by cases q) (by show ¬ (_ < 0 ∨ (arrV _ _ _).slots.size ≤ _); rw [arrV_size]; exact mv_vpin hox hin) (by show (arrV _ _ _).slots[_]? = _; rw [arrV_read _ _ hlt]; simp only [hlt, if_true]; rw [mv_clamp hox hin.1]; exact congrArg some (mv_ref_of hF (List.mem_append_left _ hm2)).symm) rfl rfl hdg ?_
    exact go h H locs lsC hW hS hL (mv_oks (Or.inl (List.mem_append_left _ hm2)) hst)
  case ireturn =>
    dsimp only at h
    cases Nat.eq_of_beq_eq_true hi
    split at h <;> try contradiction
    · next v hb0 =>
      cases h
      exact (hfin H locs lsC pc hW hS).1 (mv_okc hst).1 (fun lo hi h => by rw [hb0] at h; cases h) (mv_lk_mem hlk) hdg
    · next v lo hi hb0 =>
      split at h <;> try contradiction
      next hv =>
      cases h
      exact (hfin H locs lsC pc hW hS).1 (mv_okc hst).1 (fun lo' hi' h => by rw [hb0] at h; cases h; exact hv) (mv_lk_mem hlk) hdg
  case return_ =>
    dsimp only at h
    cases Nat.eq_of_beq_eq_true hi
    split at h <;> try contradiction
    cases h
    exact (hfin H locs lsC pc hW hS).2 rfl (mv_lk_mem hlk) hdg
  case lookupswitch d ps =>
    dsimp only at h
    split at h <;> try contradiction
    next x r =>
    simp only [mv_iok, Bool.and_eq_true, decide_eq_true_eq] at hi
    obtain ⟨⟨i1, i2⟩, i3⟩ := hi
    obtain ⟨h1, h2⟩ := mv_lks_h h i1 i2
    exact lv_lookup hx hb hdg i3 (by rw [mv_toInt (mv_okc hst).1]) (mv_tg_of h2) (go h1 H locs lsC hW hS hL (mv_okc hst).2)
  case tableswitch d lo hi0 ofs =>
    dsimp only at h
    split at h <;> try contradiction
    next x r =>
    simp only [mv_iok, Bool.and_eq_true, decide_eq_true_eq] at hi
    obtain ⟨⟨i1, i2⟩, i3⟩ := hi
    by_cases hlo : x < lo
    · exact lv_tableOut hx hb hdg (Or.inl (by rw [mv_toInt (mv_okc hst).1]; exact hlo)) (mv_tg_of i1) (go (mv_tbs_lo hlo h) H locs lsC hW hS hL (mv_okc hst).2)
    · rcases mv_tbs_h h with (h1 | ⟨h1, h2⟩) | ⟨h1, t', h2, h3⟩
      · exact absurd h1 hlo
      · exact lv_tableOut hx hb hdg (Or.inr (by rw [mv_toInt (mv_okc hst).1]; omega)) (mv_tg_of i1) (go h2 H locs lsC hW hS hL (mv_okc hst).2)
      · have hl := (List.getElem?_eq_some_iff.mp h2).1
        have h0 := List.all_eq_true.mp i2 t' (List.mem_of_getElem? h2)
        exact lv_tableIn hx hb hdg (by rw [mv_toInt (mv_okc hst).1]; exact hlo) (by rw [mv_toInt (mv_okc hst).1]; omega) (by rw [mv_toInt (mv_okc hst).1, ← Array.getElem?_toList]; exact h2) (mv_tg_of (of_decide_eq_true h0)) (go h3 H locs lsC hW hS hL (mv_okc hst).2)
  case invokevirtual k =>
    dsimp only at h
    split at h <;> try contradiction
    next n ci vo f hf =>
    cases Nat.eq_of_beq_eq_true hi
    exact mv_call_snd hF hL hW hS hst (hCal _ (mv_lk_mem hf)) hdg h (fun H1 locs1 h1 h2 st' h3 h4 => go h4 H1 locs1 lsC h1 h2 hL h3)
  case invokestatic k =>
    dsimp only at h
    split at h <;> try contradiction
    next n vo f hf =>
    cases Nat.eq_of_beq_eq_true hi
    exact mv_call_snd hF hL hW hS hst (hCal _ (mv_lk_mem hf)) hdg h (fun H1 locs1 h1 h2 st' h3 h4 => go h4 H1 locs1 lsC h1 h2 hL h3)
  all_goals first
    | (simp [mv_op] at h; done)
    | (dsimp only at h
       split at h
       · next r hop => exact mv_op_snd hF hx hb hdg hi hop hst (fun hst' => go h H locs lsC hW hS hL hst')
       · contradiction)
end MV
end
section
/-! A method as a flat machine over its cuts; its contract. -/
def mv_go (rc : mv_G) (M : mv_M) (sh : Nat → Option mv_S) (N : Nat) : Nat → Nat → mv_L → mv_G → Option (Int × mv_G)
  | 0, _, _, _ => none
  | f + 1, pc, ls, G => match mv_rg rc M sh N pc ls [] G with
    | none => none
    | some (.inl r) => some r
    | some (.inr (pc', ls', G')) => mv_go rc M sh N f pc' ls' G'
def mv_Ev (rc : mv_G) (M : mv_M) (sh : Nat → Option mv_S) (N : Nat) (pc : Nat) (ls : mv_L) (G : mv_G) (x : Int × mv_G) : Prop := ∃ f, mv_go rc M sh N f pc ls G = some x
def mv_in0l (nL : Nat) (as : List mv_A) : mv_L := as.map some ++ List.replicate (nL - as.length) none
noncomputable def mv_fn (rc : mv_G) (M : mv_M) (sh : Nat → Option mv_S) (N nL : Nat) : mv_F := fun as G =>
  @dite _ (∃ x, mv_Ev rc M sh N 0 (mv_in0l nL as) G x) (Classical.propDecidable _) (fun h => some h.choose) (fun _ => none)
theorem mv_go_mono {rc : mv_G} {M : mv_M} {sh : Nat → Option mv_S} {N : Nat} {x : Int × mv_G} : ∀ {f g pc : Nat} {ls : mv_L} {G : mv_G}, f ≤ g → mv_go rc M sh N f pc ls G = some x → mv_go rc M sh N g pc ls G = some x
  | 0, _, _, _, _, _, h => by cases h
  | f + 1, 0, _, _, _, hle, _ => by omega
  | f + 1, g + 1, pc, ls, G, hle, h => by
    simp only [mv_go] at h ⊢
    split at h
    · cases h
    · exact h
    · exact mv_go_mono (by omega) h
theorem mv_Ev_det {rc : mv_G} {M : mv_M} {sh : Nat → Option mv_S} {N pc : Nat} {ls : mv_L} {G : mv_G} {x y : Int × mv_G} (h1 : mv_Ev rc M sh N pc ls G x) (h2 : mv_Ev rc M sh N pc ls G y) : x = y := by
  obtain ⟨f, h1⟩ := h1
  obtain ⟨g, h2⟩ := h2
  have a := mv_go_mono (Nat.le_max_left f g) h1
  have b := mv_go_mono (Nat.le_max_right f g) h2
  exact Option.some.inj (a.symm.trans b)
theorem mv_fn_of {rc : mv_G} {M : mv_M} {sh : Nat → Option mv_S} {N nL : Nat} {as : List mv_A} {G : mv_G} {x : Int × mv_G} (h : mv_Ev rc M sh N 0 (mv_in0l nL as) G x) : mv_fn rc M sh N nL as G = some x := by
  have h1 : ∃ x, mv_Ev rc M sh N 0 (mv_in0l nL as) G x := ⟨x, h⟩
  unfold mv_fn
  rw [dif_pos h1]
  exact congrArg some (mv_Ev_det h1.choose_spec h)
theorem mv_fn_to {rc : mv_G} {M : mv_M} {sh : Nat → Option mv_S} {N nL : Nat} {as : List mv_A} {G : mv_G} {x : Int × mv_G} (h : mv_fn rc M sh N nL as G = some x) : mv_Ev rc M sh N 0 (mv_in0l nL as) G x := by
  unfold mv_fn at h
  split at h
  · next h1 =>
    cases h
    exact h1.choose_spec
  · cases h
theorem mv_Ev.ret {rc : mv_G} {M : mv_M} {sh : Nat → Option mv_S} {N pc : Nat} {ls : mv_L} {G : mv_G} {x : Int × mv_G} (h : mv_rg rc M sh N pc ls [] G = some (.inl x)) : mv_Ev rc M sh N pc ls G x := ⟨1, by simp only [mv_go, h]⟩
theorem mv_Ev.cut {rc : mv_G} {M : mv_M} {sh : Nat → Option mv_S} {N pc pc' : Nat} {ls ls' : mv_L} {G G' : mv_G} {x : Int × mv_G} (h : mv_rg rc M sh N pc ls [] G = some (.inr (pc', ls', G'))) (k : mv_Ev rc M sh N pc' ls' G' x) : mv_Ev rc M sh N pc ls G x := by
  obtain ⟨f, k⟩ := k
  exact ⟨f + 1, by simp only [mv_go, h]; exact k⟩
section MV
variable {p : Program} {l : Launch} {e : Env} {R : Room} {s : State} {m : MethodId} {args : Array Value} {below : List Frame} {meth : Method} {c : Code} {cells slots : Nat} {Q : State → Prop}
variable {cc : ByteArray} {nL : Nat} {sh : Nat → Option mv_S} {ids ros : List (Nat × Nat)} {ad : Nat → Nat → Value} {cA : Nat → ClassId} {cl : List vw_C} {D : va_G} {tys : List (ClassId × FieldType)} {A : Nat → Prop} {rc : mv_G} {M : mv_M}
variable {H : Heap} {locs : List Loc} {lsC : Array Slot} {pc : Nat} {ls : mv_L} {st : List mv_A} {G : mv_G} {out : mv_O} {K : mv_K}
theorem mv_msk_len : ∀ (b : List Bool) (ls : mv_L), (mv_msk b ls).length = ls.length
  | [], _ => rfl
  | true :: b, v :: ls => by simp [mv_msk, mv_msk_len b ls]
  | false :: b, v :: ls => by simp [mv_msk, mv_msk_len b ls]
  | true :: _, [] => rfl
  | false :: _, [] => rfl
theorem mv_msk_get : ∀ {b : List Bool} {ls : mv_L} {i : Nat} {v : mv_A}, (mv_msk b ls)[i]? = some (some v) → ls[i]? = some (some v)
  | [], _, _, _, h => h
  | true :: b, w :: ls, 0, _, h => h
  | true :: b, w :: ls, i + 1, v, h => mv_msk_get (b := b) (ls := ls) (i := i) h
  | false :: b, w :: ls, 0, _, h => by simp [mv_msk] at h
  | false :: b, w :: ls, i + 1, v, h => mv_msk_get (b := b) (ls := ls) (i := i) h
  | true :: _, [], _, _, h => by simp [mv_msk] at h
  | false :: _, [], _, _, h => by simp [mv_msk] at h
theorem mv_LR_msk {b : List Bool} (h : mv_LR ids ros ad nL ls lsC) : mv_LR ids ros ad nL (mv_msk b ls) lsC := ⟨by rw [mv_msk_len]; exact h.1, h.2.1, h.2.2.1, fun i v hv => h.2.2.2 i v (mv_msk_get hv)⟩
theorem mv_nx_snd (hK : ∀ pc ls st G, mv_Snd p l e R s m args below meth c cells slots Q cc nL sh ids ros ad cA cl D A M pc ls st G (K pc ls st G)) : ∀ pc ls st G, mv_Snd p l e R s m args below meth c cells slots Q cc nL sh ids ros ad cA cl D A M pc ls st G (mv_nx M K pc ls st G) := by
  intro pc ls st G out h hfin H locs lsC hW hS hL hst
  unfold mv_nx at h
  split at h
  · exact hK pc ls st G out h hfin H locs lsC hW hS hL hst
  · split at h <;> try contradiction
    cases h
    exact hfin H locs lsC hW hS (mv_LR_msk hL)
/-- the world's fixed part, decided once -/
def mv_St (sh : Nat → Option mv_S) : Prop := (∀ k ci fs, sh k = some (.inr (ci, fs)) → Nat.ble 1000 k = true → Nat.ble 100 ci = true) ∧ (∀ k, Nat.ble 1000 k = true → ∀ n w, ¬ sh k = some (.inl (3, n, w))) ∧ (∀ k, Nat.ble 1000 k = false → ∀ n w, ¬ sh k = some (.inl (2, n, w))) ∧ (∀ k, Nat.ble 1000 k = true → ∀ n w, ¬ sh k = some (.inl (1, n, w))) ∧ (∀ k ci fs, sh k = some (.inr (ci, fs)) → Nat.ble 1000 k = false → Nat.ble 100 ci = false)
theorem mv_rg_snd {own : String} {Ts : List Cond} {cr : mv_R} (hX : mv_Ctx p s m args c cc nL sh cl D tys own Ts cr M) (hF : mv_Fix sh ids ros ad cA tys A rc) (hR : mv_RO sh ros ad A rc cr s) (hs : mv_St sh)
    (hC : mv_cst p l e R s m args below meth c cells slots Q cc ids ros ad A M) (hCal : ∀ x ∈ M.2.2.2.2.1, mv_Cal p l e R s m args below meth c cells slots Q cc nL sh ids ros ad cA cl D A x.1 x.2.1 x.2.2.1 x.2.2.2.1 x.2.2.2.2) :
    ∀ (n : Nat) pc ls st G, mv_Snd p l e R s m args below meth c cells slots Q cc nL sh ids ros ad cA cl D A M pc ls st G (mv_rg rc M sh n pc ls st G)
  | 0, _, _, _, _ => fun out h => by cases h
  | n + 1, pc, ls, st, G => mv_step_snd hX hF hR hs.1 hs.2.1 hs.2.2.1 hs.2.2.2.1 hs.2.2.2.2 hC hCal (mv_nx_snd (mv_rg_snd hX hF hR hs hC hCal n))
theorem mv_go_snd {own : String} {Ts : List Cond} {cr : mv_R} (hX : mv_Ctx p s m args c cc nL sh cl D tys own Ts cr M) (hF : mv_Fix sh ids ros ad cA tys A rc) (hR : mv_RO sh ros ad A rc cr s) (hs : mv_St sh)
    (hC : mv_cst p l e R s m args below meth c cells slots Q cc ids ros ad A M) (hCal : ∀ x ∈ M.2.2.2.2.1, mv_Cal p l e R s m args below meth c cells slots Q cc nL sh ids ros ad cA cl D A x.1 x.2.1 x.2.2.1 x.2.2.2.1 x.2.2.2.2) {N : Nat} {x : Int × mv_G} :
    ∀ {f pc : Nat} {ls : mv_L} {G : mv_G}, mv_go rc M sh N f pc ls G = some x → mv_Fin p l e R s m args below meth c cells slots Q cc nL sh ids ros ad cA cl D A M (.inl x) → ∀ (H : Heap) (locs : List Loc) (lsC : Array Slot), mv_Wd sh ids ad cA cl D A G H → va_S A s.heap H locs → mv_LR ids ros ad nL ls lsC → W p l e R s m args below meth c H locs cells slots Q (F0 m pc lsC [])
  | 0, _, _, _, h => by cases h
  | f + 1, pc, ls, G, h => by
    intro hfin H locs lsC hW hS hL
    simp only [mv_go] at h
    split at h
    · cases h
    · next r e =>
      cases h
      exact mv_rg_snd hX hF hR hs hC hCal N pc ls [] G _ e hfin H locs lsC hW hS hL (fun v hv => by cases hv)
    · next pc' ls' G' e =>
      exact mv_rg_snd hX hF hR hs hC hCal N pc ls [] G _ e (fun H1 locs1 lsC1 h1 h2 h3 => mv_go_snd hX hF hR hs hC hCal h hfin H1 locs1 lsC1 h1 h2 h3) H locs lsC hW hS hL (fun v hv => by cases hv)
/-- the world, as a contract has it -/
def mv_Wo (sh : Nat → Option mv_S) (ids ros : List (Nat × Nat)) (ad : Nat → Nat → Value) (cA : Nat → ClassId) (cl : List vw_C) (D : va_G) (tys : List (ClassId × FieldType)) (A : Nat → Prop) (rc : mv_G) (cr : mv_R) (EX : State → Prop) (G : mv_G) (U : State) : Prop :=
  mv_Wd sh ids ad cA cl D A G U.heap ∧ va_K D cl tys U ∧ mv_RO sh ros ad A rc cr U ∧ EX U
/-- the contract of a method -/
def mv_Met (l : Launch) (y : MethodName) (bytes : ByteArray) (maxL : Nat) (ret : Option FieldType) (Ts : List Cond) (rm : Room) (n : Nat) (vo : Bool) (sh : Nat → Option mv_S) (ids ros : List (Nat × Nat)) (ad : Nat → Nat → Value) (cA : Nat → ClassId) (cl : List vw_C) (D : va_G) (tys : List (ClassId × FieldType)) (A : Nat → Prop) (rc : mv_G) (cr : mv_R) (EX : State → Prop) (f : mv_F) : Prop :=
  ∀ (as : List mv_A) (G G' : mv_G) (r : Int), as.length = n → (∀ v ∈ as, mv_okV ids ros v) → f as G = some (r, G') →
    Met l y (.code y bytes maxL ret :: Ts) rm (va_Pc (as.map (mv_V ad)) (mv_Wo sh ids ros ad cA cl D tys A rc cr EX G))
      (match vo with | true => va_Qv (fun _ : Unit => True) (fun _ t => mv_Wd sh ids ad cA cl D A G' t.heap) A | false => va_Qi (fun (q : Int32) (_ : Unit) => q = Int32.ofInt r ∧ mv_in r) (fun _ t => mv_Wd sh ids ad cA cl D A G' t.heap) A) 0 0 A
theorem mv_sl {vs : List Value} (h : ∀ v ∈ vs, v.category = 1) : lg_sl vs = vs.map Slot.val := by
  induction vs with
  | nil => rfl
  | cons v vs ih =>
    have h1 := h v List.mem_cons_self
    have h2 := ih fun w hw => h w (List.mem_cons_of_mem _ hw)
    show (if v.category = 2 then [Slot.val v, .second] else [.val v]) ++ lg_sl vs = _
    rw [h1, h2]
    rfl
theorem mv_in0_get {as : List mv_A} {nL i : Nat} {v : mv_A} (h : (mv_in0l nL as)[i]? = some (some v)) : as[i]? = some v := by
  unfold mv_in0l at h
  by_cases hi : i < (as.map some).length
  · rw [List.getElem?_append_left hi, List.getElem?_map] at h
    cases hv : as[i]? with
    | none => rw [hv] at h; cases h
    | some w => rw [hv] at h; cases h; rfl
  · rw [List.getElem?_append_right (by omega), List.getElem?_replicate] at h
    split at h <;> cases h
/-- the narrowing that an answer bears -/
def mv_rz (vo : Bool) (ret : Option FieldType) (M : mv_M) : Prop := match vo with
  | true => ret = none ∧ ∀ x ∈ M.1, x.2.1 ≠ .ireturn
  | false => (∃ ty, ret = some ty ∧ ∀ v : Int, mv_in v → (∀ lo hi, M.2.2.2.2.2.2 = some (lo, hi) → lo ≤ v ∧ v ≤ hi) → narrow ty (.int (Int32.ofInt v)) = .int (Int32.ofInt v)) ∧ ∀ x ∈ M.1, x.2.1 ≠ .return_
/-- what is known where a method's body begins -/
def mv_Bg (p : Program) (s : State) (m : MethodId) (args : Array Value) (c : Code) (cc : ByteArray) (nL : Nat) (own : String) (Ts : List Cond) : Prop := p.tables.exec = Jvm.exec ∧ c.code = cc ∧ s.vm.findClass own = some m.cls ∧ (∀ w ∈ Ts, w.before args s = true) ∧ c.maxLocals = nL
theorem mv_met_of {y : MethodName} {ret : Option FieldType} {Ts : List Cond} {rm : Room} {n : Nat} {vo : Bool} {cr : mv_R} {EX : State → Prop} {N : Nat} (hy : plainName y.cls = true) (hn : n ≤ nL) (hF : mv_Fix sh ids ros ad cA tys A rc) (hs : mv_St sh) (hrz : mv_rz vo ret M)
    (hcls : ∀ (ci : Nat) (q : vw_C), cl[ci]? = some q → (∀ w ∈ u_ws q.1 q.2.1 q.2.2, w ∈ Ts) ∧ (∃ ty0 : Nat → FieldType, ∀ k, k < q.2.2 → parseFieldDescriptor (q.2.1 k).2.2.1 = some (ty0 k)) ∧ (∀ a, a < q.2.2 → ∀ b, b < q.2.2 → a ≠ b → (q.2.1 a).2.1 ≠ (q.2.1 b).2.1))
    (hcode : ∀ x ∈ M.1, decode cc x.1 = .ok (x.2.1, x.2.2) ∧ mv_iok x.1 x.2.1 x.2.2 = true)
    (hfld : ∀ x ∈ M.2.1, (Nat.ble 100 x.2.1 = true → Cond.fieldLink y.cls x.1 (cr x.2.1).1 ((cr x.2.1).2 x.2.2.1).1 ((cr x.2.1).2 x.2.2.1).2 ∈ Ts) ∧ (Nat.ble 100 x.2.1 = false → ∃ q : vw_C, cl[x.2.1]? = some q ∧ x.2.2.1 < q.2.2 ∧ Cond.fieldLink y.cls x.1 (q.2.1 x.2.2.1).1 (q.2.1 x.2.2.1).2.1 (q.2.1 x.2.2.1).2.2.1 ∈ Ts ∧
      (∀ k fs, sh k = some (.inr (x.2.1, fs)) → fs[x.2.2.1]? = some none → (q.2.1 x.2.2.1).2.2.2 = false ∧ parseFieldDescriptor (q.2.1 x.2.2.1).2.2.1 = some (bif x.2.2.2 then .boolean else .int))))
    (hC : ∀ (p : Program) (e : Env) (s : State) (m : MethodId) (args : Array Value) (below : List Frame) (meth : Method) (c : Code) (Q : State → Prop), mv_Bg p s m args c cc nL y.cls Ts → EX s → mv_RO sh ros ad A rc cr s → mv_cst p l e rm s m args below meth c 0 0 Q cc ids ros ad A M)
    (hCal : ∀ (p : Program) (e : Env) (s : State) (m : MethodId) (args : Array Value) (below : List Frame) (meth : Method) (c : Code) (Q : State → Prop), mv_Bg p s m args c cc nL y.cls Ts → EX s → mv_RO sh ros ad A rc cr s → va_K D cl tys s → ∀ x ∈ M.2.2.2.2.1, mv_Cal p l e rm s m args below meth c 0 0 Q cc nL sh ids ros ad cA cl D A x.1 x.2.1 x.2.2.1 x.2.2.2.1 x.2.2.2.2) :
    mv_Met l y cc nL ret Ts rm n vo sh ids ros ad cA cl D tys A rc cr EX (mv_fn rc M sh N nL) := by
  intro as G G' r hlen has hf
  obtain ⟨fu, hgo⟩ := mv_fn_to hf
  refine Met.ofW (cc := cc) (maxL := nL) (ret := ret) hy rfl ?_
  intro p e s m args below meth c s₁ B hml hv
  obtain ⟨rfl, hW, hK, hR, hE⟩ := hv
  have hx := B.exec
  have hb := B.bytes
  have hr := B.returns
  have hlocks := B.notSynchronized
  have hts0 := atoms_spec (ws := .code y cc nL ret :: Ts) B.pre
  have hts : ∀ w ∈ Ts, w.before (as.map (mv_V ad)).toArray s = true := fun w h => hts0 w (List.mem_cons_of_mem _ h)
  have hown : s.vm.findClass y.cls = some m.cls := findClass_of_methodNamed B.named
  have hcat : ∀ v ∈ as.map (mv_V ad), v.category = 1 := fun v hv => by
    obtain ⟨w, -, rfl⟩ := List.mem_map.mp hv
    exact mv_okcat hF
  have hlsl : (lg_sl (as.map (mv_V ad))).length = n := by rw [mv_sl hcat]; simp [hlen]
  have hl := lv_entry (as.map (mv_V ad)) (n := nL) (by rw [hlsl]; exact hn)
  have hL : mv_LR ids ros ad nL (mv_in0l nL as) ((lg_sl (as.map (mv_V ad)) ++ List.replicate (nL - (lg_sl (as.map (mv_V ad))).length) Slot.unset).toArray) := by
    refine ⟨by simp [mv_in0l]; omega, hl.1, hl.2.1, fun i v hi => ?_⟩
    have h1 := mv_in0_get hi
    refine ⟨?_, has v (List.mem_of_getElem? h1)⟩
    have h2 := (List.getElem?_eq_some_iff.mp h1).1
    rw [List.getElem?_toArray, mv_sl hcat, List.getElem?_append_left (by simp; omega)]
    simp [h1]
  rw [lg_entry_eq]
  have hBg : mv_Bg p s m (as.map (mv_V ad)).toArray c cc nL y.cls Ts := ⟨hx, hb, hown, hts, hml⟩
  refine mv_go_snd (own := y.cls) (Ts := Ts) (cr := cr) (M := M) ⟨hx, hb, hown, hts, hK, hml, hcls, hcode, fun x h => ⟨fun h1 => hts _ ((hfld x h).1 h1), fun h1 => ?_⟩⟩ hF hR hs (hC p e s m _ below meth c _ hBg hE hR) (hCal p e s m _ below meth c _ hBg hE hR hK) hgo ?_ s.heap [] _ hW va_S.rf hL
  · obtain ⟨q, e1, e2, e3, e4⟩ := (hfld x h).2 h1
    exact ⟨q, e1, e2, hts _ e3, e4⟩
  · intro H locs lsC pc hW1 hS1
    cases vo with
    | true =>
      obtain ⟨hret, hno⟩ := hrz
      refine ⟨fun _ _ hm _ => absurd rfl (hno _ hm), fun _ _ hdg => ?_⟩
      exact W.vret hx hb (hr.trans hret) (fun t ht hW => ⟨⟨(), rfl, trivial, by show mv_Wd sh ids ad cA cl D A G' t.heap; rw [ht]; exact hW1⟩, hS1.F ht⟩) hS1.2.2 hdg
    | false =>
      obtain ⟨⟨ty, hret, hnr⟩, hno⟩ := hrz
      refine ⟨fun hin hbd hm hdg => ?_, fun _ hm _ => absurd rfl (hno _ hm)⟩
      exact W.zret (ty := ty) hx hb (hr.trans hret) (hnr _ hin hbd) (fun t ht hW => ⟨⟨_, (), rfl, ⟨rfl, hin⟩, by show mv_Wd sh ids ad cA cl D A G' t.heap; rw [ht]; exact hW1⟩, hS1.F ht⟩) hS1.2.2 hdg
theorem mv_RO.go {s U : State} {cr : mv_R} (h : mv_RO sh ros ad A rc cr s) (hvm : s.vm.Alike U.vm) (hq : ∀ a : Nat, a < s.heap.size → ¬ A a → U.heap[a]? = s.heap[a]?) : mv_RO sh ros ad A rc cr U := by
  intro k hk
  have h1 := h k hk
  split at h1
  · exact (va_T.moved hvm h1).kept hq
  · exact (va_T.moved hvm h1).kept hq
  · exact ⟨(va_O.moved hvm h1.1).kept hq, fun j r hr => (va_OF.moved hvm (h1.2 j r hr)).kept hq⟩
  · trivial
/-- the outer conditions bear calls -/
def mv_EXok (A : Nat → Prop) (EX : State → Prop) : Prop := (∀ (U : State) (g : JFrame) (mk : MethodId) (a : Array Value), EX U → EX (U.calling g mk a)) ∧ ∀ s U : State, EX s → s.WarmedH U.vm → (∀ a : Nat, a < s.heap.size → ¬ A a → U.heap[a]? = s.heap[a]?) → EX U
theorem mv_Wo_blind {cr : mv_R} {EX : State → Prop} {av : List Value} (hE : mv_EXok A EX) : FrameBlind (va_Pc av (mv_Wo sh ids ros ad cA cl D tys A rc cr EX G)) := fun a U g mk q =>
  ⟨q.1, q.2.1, va_K.moved (u := U) (U := U.calling g mk a) (Vm.Alike.refl U.vm) q.2.2.1, mv_RO.go (s := U) (U := U.calling g mk a) q.2.2.2.1 (Vm.Alike.refl U.vm) (fun _ _ _ => rfl), hE.1 U g mk a q.2.2.2.2⟩
theorem mv_Wo_at {cr : mv_R} {EX : State → Prop} {U : State} (hE : mv_EXok A EX) (hK : va_K D cl tys s) (hR : mv_RO sh ros ad A rc cr s) (hX : EX s) (hW : mv_Wd sh ids ad cA cl D A G H) (hS : va_S A s.heap H locs) (hU : U.heap = H) (hW1 : s.WarmedH U.vm) : mv_Wo sh ids ros ad cA cl D tys A rc cr EX G U := by
  have hq : ∀ a : Nat, a < s.heap.size → ¬ A a → U.heap[a]? = s.heap[a]? := fun a h1 h2 => by rw [hU]; exact hS.2.1 a h1 h2
  exact ⟨by rw [hU]; exact hW, va_K.moved hW1.alike hK, mv_RO.go hR hW1.alike hq, hE.2 s U hX hW1 hq⟩
def mv_nat (p : Option Nat) : Bool := match p with | some _ => true | none => false
theorem mv_cal_of {y : MethodName} {by2 : ByteArray} {mL : Nat} {ret : Option FieldType} {Ts : List Cond} {rm : Room} {n idx : Nat} {rv : Option Nat} {vo : Bool} {cr : mv_R} {EX : State → Prop} {f : mv_F} {own : String} (hM : mv_Met l y by2 mL ret Ts rm n vo sh ids ros ad cA cl D tys A rc cr EX f)
    (hBg : mv_Bg p s m args c cc nL own Ts) (hX : EX s) (hR : mv_RO sh ros ad A rc cr s) (hK : va_K D cl tys s) (hE : mv_EXok A EX) (hF : mv_Fix sh ids ros ad cA tys A rc) (hgood : ∀ w ∈ Ts, goodWord w = true) (hs : mv_St sh)
    (hw : Cond.code y by2 mL ret ∈ Ts ∧ Cond.methodLink own idx y ∈ Ts ∧ Cond.initialized y.cls ∈ Ts ∧ (∀ ci, rv = some ci → Cond.instanceMethod y ∈ Ts ∧ Cond.selects y.cls y y ∈ Ts) ∧ (rv = none → Cond.static y ∈ Ts))
    (hy : y.cls ≠ "java/lang/invoke/MethodHandle" ∧ y.cls ≠ "java/lang/invoke/VarHandle" ∧ (parseMethodDescriptor y.desc).map (fun d => d.parameters.length) = some (match rv with | some _ => n - 1 | none => n))
    (hci : ∀ ci, rv = some ci → (Nat.ble 100 ci = true → (cr ci).1 = y.cls) ∧ (Nat.ble 100 ci = false → ∃ q : vw_C, cl[ci]? = some q ∧ q.1 = y.cls))
    (hrm : rm.cells = 0 ∧ rm.slots = 0 ∧ rm.frames + 1 ≤ R.frames ∧ 8 + (mL + 11) + rm.locals ≤ R.locals) (hro : cells ≤ R.cells ∧ slots ≤ R.slots) :
    mv_Cal p l e R s m args below meth c cells slots Q cc nL sh ids ros ad cA cl D A idx n rv vo f := by
  intro pc lsC as rest G G' r H locs hsz hdg hlen has hrv hrl hrc hf hW hS kk
  have hMet := hM as G G' r hlen has hf
  obtain ⟨hx, hb, hown, hts, hml⟩ := hBg
  obtain ⟨w1, w2, w3, w4, w5⟩ := hw
  obtain ⟨r1, r2, r3, r4⟩ := hrm
  have hgi : GoodIn Ts (.code y by2 mL ret :: Ts) := fun w h => by
    rcases List.mem_cons.mp h with rfl | h
    · exact ⟨w1, good_of_word (hgood _ w1)⟩
    · exact ⟨h, good_of_word (hgood _ h)⟩
  have hroom : 2 * (F0 m pc lsC ((as.map (mv_V ad)).reverse ++ rest)).monitorRoom + (rest.map fun v => v.category).sum ≤ 8 := by
    refine lv_room ?_
    have : ∀ r : List Value, (∀ v ∈ r, v.category = 1) → (r.map fun v => v.category).sum = r.length := by
      intro r
      induction r with
      | nil => intro _; rfl
      | cons v r ih =>
        intro h
        simp only [List.map_cons, List.sum_cons, List.length_cons]
        rw [h v List.mem_cons_self, ih fun w hw => h w (List.mem_cons_of_mem _ hw)]
        omega
    rw [this rest hrc]
    exact hrl
  have hA : ∀ q, q < H.size → A q → A q := fun _ _ h => h
  have run : va_Run p l e R s m args below meth c H locs cells slots 0 0 (F0 m pc lsC ((as.map (mv_V ad)).reverse ++ rest)) rest ((match vo with | true => va_Qv (fun _ : Unit => True) (fun _ t => mv_Wd sh ids ad cA cl D A G' t.heap) A | false => va_Qi (fun (q : Int32) (_ : Unit) => q = Int32.ofInt r ∧ mv_in r) (fun _ t => mv_Wd sh ids ad cA cl D A G' t.heap) A) (as.map (mv_V ad)).toArray) A := by
    cases rv with
    | none =>
      refine va_runS (As := as.map (mv_V ad)) (own := own) (Ts := Ts) (n := n) ⟨hx, hb, hml, hown, hts⟩ hMet ⟨callB_of n hts hgi rfl r1 r2 (hts _ w3) (hts _ w2) hy ⟨r3, r4⟩, hts _ (w5 rfl)⟩ ⟨mv_Wo_blind hE, fun U hU hW1 => ⟨rfl, mv_Wo_at hE hK hR hX hW hS hU hW1⟩⟩ rfl (by simp [hlen]) hsz rfl hroom hdg ⟨by omega, by omega⟩
    | some ci =>
      obtain ⟨k, as', fs, rfl, hk, hsh⟩ := hrv ci rfl
      have eV : mv_V ad (.inr (k, 0)) = .ref (mv_ra (ad k 0)) := mv_ref_of hF hk
      have hcell : ∃ cellB : Cell, H[mv_ra (ad k 0)]? = some cellB ∧ cellB.vm.isStatics = false ∧ s.vm.findClass y.cls = some cellB.cls := by
        cases hb1 : Nat.ble 1000 k with
        | true =>
          have hR1 := hR k (mv_getro hF hk hb1).1
          simp only [hsh] at hR1
          obtain ⟨cell, g1, g2, g3, -⟩ := hR1.1.kept hS.2.1
          exact ⟨cell, g1, g2, by rw [← (hci ci rfl).1 (hs.1 _ _ _ hsh hb1)]; exact g3⟩
        | false =>
          obtain ⟨q, q1, q2⟩ := (hci ci rfl).2 (hs.2.2.2.2 _ _ _ hsh hb1)
          obtain ⟨q0, hq0, hg⟩ := mv_getcell hF hW hk hb1
          simp only [mv_cel, hsh] at hg
          have := va_recv hK hW.1 q1 hg
          rw [q2] at this
          exact this
      obtain ⟨w6, w7⟩ := w4 ci rfl
      rw [List.map_cons, eV] at hMet ⊢
      refine va_runV (As := as'.map (mv_V ad)) (own := own) (Ts := Ts) (C := y.cls) (b := mv_ra (ad k 0)) (n := n - 1) ⟨hx, hb, hml, hown, hts⟩ hMet ⟨callB_of (n - 1) hts hgi rfl r1 r2 (hts _ w3) (hts _ w2) hy ⟨r3, r4⟩, hts _ w6, hts _ w7⟩ ⟨mv_Wo_blind hE, hcell, fun U hU hW1 => ⟨rfl, mv_Wo_at hE hK hR hX hW hS hU hW1⟩⟩ rfl (by simp only [List.length_map]; simp only [List.length_cons] at hlen; omega) hsz (by simp) (by simpa using hroom) hdg ⟨by omega, by omega⟩
  cases vo with
  | true => exact va_callv run hS hA (fun _ h => h) fun u t H1 locs1 ht hvm hp hB hz hk hS1 => kk H1 locs1 (by rw [← ht]; exact hB) hS1 (fun h => by cases h)
  | false =>
    refine va_calli run hS hA (fun _ h => h) fun q u t H1 locs1 ht hvm hp hB hz hk hS1 => ?_
    obtain ⟨rfl, hin⟩ := hp
    exact kk H1 locs1 (by rw [← ht]; exact hB) hS1 (fun _ => hin)
end MV
end
