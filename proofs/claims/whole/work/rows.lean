section
/-! Read over the whole library: what is wanted of it for grids. -/
theorem mv_wide : True := by
  have := @Jvm.Stand.multianewarray2F
  trivial
end
section
/-! An interpreter of the methods' bytecode over a fixed world of cells, in Int: its answers are shown once to be the machine's (part 02). -/
abbrev mv_A : Type := Int ⊕ (Nat × Nat)
abbrev mv_G : Type := Nat → Nat → Nat → Int
/-- a cell: an array (kind: 0 int, 1 boolean, 2 byte, 3 rows of ints; length; length of a row), or an object (class, its fields: none a number, some k the cell k) -/
abbrev mv_S : Type := (Nat × Nat × Nat) ⊕ (Nat × List (Option Nat))
abbrev mv_L : Type := List (Option mv_A)
abbrev mv_F : Type := List mv_A → mv_G → Option (Int × mv_G)
abbrev mv_O : Type := (Int × mv_G) ⊕ (Nat × mv_L × mv_G)
/-- code; fields (class, slot; 0 a number, 1 a boolean, 2 never written); constants; statics; calls (how many arguments, receiver's class, no answer, what it does); cuts (which locals are kept); the bounds of the answer -/
abbrev mv_M : Type := List (Nat × Instr × Nat) × List (Nat × Nat × Nat × Nat) × List (Nat × mv_A) × List (Nat × mv_A) × List (Nat × Nat × Option Nat × Bool × mv_F) × List (Nat × List Bool) × Option (Int × Int)
def mv_lk {α : Type} : List (Nat × α) → Nat → Option α
  | [], _ => none
  | (k, v) :: l, x => bif Nat.beq k x then some v else mv_lk l x
def mv_w (x : Int) : Int := Int.bmod x 4294967296
def mv_and (x y : Int) : Int := (Int32.ofInt x &&& Int32.ofInt y).toInt
def mv_or (x y : Int) : Int := (Int32.ofInt x ||| Int32.ofInt y).toInt
def mv_xor (x y : Int) : Int := (Int32.ofInt x ^^^ Int32.ofInt y).toInt
def mv_shl (x y : Int) : Int := (Int32.ofInt x <<< (Int32.ofInt y &&& 31)).toInt
def mv_shr (x y : Int) : Int := (Int32.ofInt x >>> (Int32.ofInt y &&& 31)).toInt
def mv_ushr (x y : Int) : Int := (((Int32.ofInt x).toUInt32 >>> ((Int32.ofInt y).toUInt32 &&& Int32.toUInt32 31)).toInt32).toInt
def mv_i2c (x : Int) : Int := (((Int32.ofInt x).toUInt32 % 65536).toInt32).toInt
def mv_i2b (x : Int) : Int := ((Int32.ofInt x).toInt8.toInt32).toInt
def mv_up (G : mv_G) (k i j : Nat) (v : Int) : mv_G := fun a b c => if a = k ∧ b = i ∧ c = j then v else G a b c
def mv_cmp (c : ClassFile.Cond) (x y : Int) : Bool := match c with
  | .eq => decide (x = y)
  | .ne => decide (¬ x = y)
  | .lt => decide (x < y)
  | .ge => decide (¬ x < y)
  | .gt => decide (y < x)
  | .le => decide (¬ y < x)
def mv_if (c : ClassFile.Cond) (x y : Int) (a b : Option mv_O) : Option mv_O := match c with
  | .eq => if x = y then a else b
  | .ne => if x = y then b else a
  | .lt => if x < y then a else b
  | .ge => if x < y then b else a
  | .gt => if y < x then a else b
  | .le => if y < x then b else a
def mv_op (i : Instr) (st : List mv_A) : Option (List mv_A) := match i with
  | .iconst n => some (.inl n :: st)
  | .bipush n => some (.inl n :: st)
  | .sipush n => some (.inl n :: st)
  | .iadd => match st with | .inl y :: .inl x :: r => some (.inl (mv_w (x + y)) :: r) | _ => none
  | .isub => match st with | .inl y :: .inl x :: r => some (.inl (mv_w (x - y)) :: r) | _ => none
  | .imul => match st with | .inl y :: .inl x :: r => some (.inl (mv_w (x * y)) :: r) | _ => none
  | .iand => match st with | .inl y :: .inl x :: r => some (.inl (mv_and x y) :: r) | _ => none
  | .ior => match st with | .inl y :: .inl x :: r => some (.inl (mv_or x y) :: r) | _ => none
  | .ixor => match st with | .inl y :: .inl x :: r => some (.inl (mv_xor x y) :: r) | _ => none
  | .ishl => match st with | .inl y :: .inl x :: r => some (.inl (mv_shl x y) :: r) | _ => none
  | .ishr => match st with | .inl y :: .inl x :: r => some (.inl (mv_shr x y) :: r) | _ => none
  | .iushr => match st with | .inl y :: .inl x :: r => some (.inl (mv_ushr x y) :: r) | _ => none
  | .ineg => match st with | .inl x :: r => some (.inl (mv_w (-x)) :: r) | _ => none
  | .i2c => match st with | .inl x :: r => some (.inl (mv_i2c x) :: r) | _ => none
  | .i2b => match st with | .inl x :: r => some (.inl (mv_i2b x) :: r) | _ => none
  | .dup => match st with | v :: r => some (v :: v :: r) | _ => none
  | .dup2 => match st with | v :: w :: r => some (v :: w :: v :: w :: r) | _ => none
  | .pop => match st with | _ :: r => some r | _ => none
  | _ => none
abbrev mv_K : Type := Nat → mv_L → List mv_A → mv_G → Option mv_O
def mv_tg (pc : Nat) (off : Int) : Nat := ((pc : Int) + off).toNat
def mv_ldi (K : mv_K) (ls : mv_L) (k : Nat) (pc : Nat) (st : List mv_A) (G : mv_G) : Option mv_O := match ls[k]? with
  | some (some (.inl x)) => K pc ls (.inl x :: st) G
  | _ => none
def mv_lda (K : mv_K) (ls : mv_L) (k : Nat) (pc : Nat) (st : List mv_A) (G : mv_G) : Option mv_O := match ls[k]? with
  | some (some (.inr q)) => bif Nat.ble 990 q.1 then none else K pc ls (.inr q :: st) G
  | _ => none
def mv_sti (K : mv_K) (ls : mv_L) (k : Nat) (pc : Nat) (st : List mv_A) (G : mv_G) : Option mv_O := match ls[k]?, st with
  | some _, .inl x :: r => K pc (ls.set k (some (.inl x))) r G
  | _, _ => none
def mv_sta (K : mv_K) (ls : mv_L) (k : Nat) (pc : Nat) (st : List mv_A) (G : mv_G) : Option mv_O := match ls[k]?, st with
  | some _, .inr q :: r => bif Nat.ble 990 q.1 then none else K pc (ls.set k (some (.inr q))) r G
  | _, _ => none
def mv_lks (K : Nat → Option mv_O) (pc : Nat) (x dflt : Int) : List (Int × Int) → Option mv_O
  | [] => K (mv_tg pc dflt)
  | (a, t) :: l => if x = a then K (mv_tg pc t) else mv_lks K pc x dflt l
def mv_tbs (K : Nat → Option mv_O) (pc : Nat) (x dflt : Int) : Int → List Int → Option mv_O
  | _, [] => K (mv_tg pc dflt)
  | a, t :: l => if x = a then K (mv_tg pc t) else mv_tbs K pc x dflt (a + 1) l
def mv_inb (x : Int) (n : Nat) : Prop := 0 ≤ x ∧ x < n
def mv_ck (x : Int) (n : Nat) (a : Option mv_O) : Option mv_O := if 0 ≤ x ∧ x < n then a else none
def mv_cn (o : Option (Int × mv_G)) (k : Int → mv_G → Option mv_O) : Option mv_O := match o with
  | some (r, G) => k r G
  | none => none
def mv_call (K : mv_K) (n : Nat) (rc : Option Nat) (vo : Bool) (f : mv_F) (sh : Nat → Option mv_S) (pc : Nat) (ls : mv_L) (st : List mv_A) (G : mv_G) : Option mv_O :=
  bif Nat.ble n st.length && Nat.ble (st.length - n) 8 && (match rc, (st.take n).reverse with
    | none, _ => true
    | some ci, .inr (k, 0) :: _ => (match sh k with | some (.inr (ci', _)) => Nat.beq ci ci' | _ => false)
    | _, _ => false) then
    mv_cn (f (st.take n).reverse G) fun r G' => K (pc + 3) ls (bif vo then st.drop n else .inl r :: st.drop n) G'
  else none
def mv_rd (rc : mv_G) (G : mv_G) : mv_G := fun k i j => bif Nat.ble 1000 k then rc k i j else G k i j
def mv_step (rc : mv_G) (M : mv_M) (sh : Nat → Option mv_S) (K : mv_K) (pc : Nat) (ls : mv_L) (st : List mv_A) (G : mv_G) : Option mv_O :=
  match mv_lk M.1 pc with
  | none => none
  | some (i, len) => match i with
    | .iload k => mv_ldi K ls k (pc + len) st G
    | .aload k => mv_lda K ls k (pc + len) st G
    | .iload_n k => mv_ldi K ls k.val (pc + len) st G
    | .aload_n k => mv_lda K ls k.val (pc + len) st G
    | .istore k => mv_sti K ls k (pc + len) st G
    | .astore k => mv_sta K ls k (pc + len) st G
    | .istore_n k => mv_sti K ls k.val (pc + len) st G
    | .astore_n k => mv_sta K ls k.val (pc + len) st G
    | .iinc k n => match ls[k]? with
      | some (some (.inl x)) => K (pc + len) (ls.set k (some (.inl (mv_w (x + n))))) st G
      | _ => none
    | .ldc x => match mv_lk M.2.2.1 x with | some v => K (pc + len) ls (v :: st) G | none => none
    | .ldc_w x => match mv_lk M.2.2.1 x with | some v => K (pc + len) ls (v :: st) G | none => none
    | .getstatic x => match mv_lk M.2.2.2.1 x with | some v => K (pc + len) ls (v :: st) G | none => none
    | .idiv => match st with | .inl y :: .inl x :: r => if y = 0 then none else K (pc + len) ls (.inl (mv_w (Int.tdiv x y)) :: r) G | _ => none
    | .irem => match st with | .inl y :: .inl x :: r => if y = 0 then none else K (pc + len) ls (.inl (mv_w (Int.tmod x y)) :: r) G | _ => none
    | .getfield x => match st with
      | .inr (k, 0) :: r => match sh k, mv_lk M.2.1 x with
        | some (.inr (ci, fs)), some (ci', j, _) => bif Nat.beq ci ci' then (match fs[j]? with
          | some none => K (pc + len) ls (.inl (mv_rd rc G k 0 j) :: r) G
          | some (some t) => K (pc + len) ls (.inr (t, 0) :: r) G
          | none => none) else none
        | _, _ => none
      | _ => none
    | .putfield x => match st with
      | .inl v :: .inr (k, 0) :: r => match sh k, mv_lk M.2.1 x with
        | some (.inr (ci, fs)), some (ci', j, z) => bif Nat.beq ci ci' then (match fs[j]? with
          | some none => bif Nat.ble 1000 k then none else (match z with | 0 => K (pc + len) ls r (mv_up G k 0 j v) | 1 => mv_ck v 2 (K (pc + len) ls r (mv_up G k 0 j v)) | _ => none)
          | _ => none) else none
        | _, _ => none
      | _ => none
    | .arraylength => match st with
      | .inr (k, i) :: r => match sh k, i with
        | some (.inl (0, n, _)), 0 => K (pc + len) ls (.inl (n : Int) :: r) G
        | some (.inl (2, n, _)), 0 => K (pc + len) ls (.inl (n : Int) :: r) G
        | some (.inl (3, n, _)), 0 => K (pc + len) ls (.inl (n : Int) :: r) G
        | some (.inl (3, _, m)), _ + 1 => K (pc + len) ls (.inl (m : Int) :: r) G
        | _, _ => none
      | _ => none
    | .iaload => match st with
      | .inl x :: .inr (k, i) :: r => match sh k, i with
        | some (.inl (0, n, _)), 0 => mv_ck x n (K (pc + len) ls (.inl (mv_rd rc G k 0 x.toNat) :: r) G)
        | some (.inl (3, _, m)), i + 1 => mv_ck x m (K (pc + len) ls (.inl (mv_rd rc G k (i + 1) x.toNat) :: r) G)
        | _, _ => none
      | _ => none
    | .iastore => match st with
      | .inl v :: .inl x :: .inr (k, i) :: r => match sh k, i with
        | some (.inl (0, n, _)), 0 => bif Nat.ble 1000 k then none else mv_ck x n (K (pc + len) ls r (mv_up G k 0 x.toNat v))
        | some (.inl (3, _, m)), i + 1 => bif Nat.ble 1000 k then none else mv_ck x m (K (pc + len) ls r (mv_up G k (i + 1) x.toNat v))
        | _, _ => none
      | _ => none
    | .baload => match st with
      | .inl x :: .inr (k, 0) :: r => match sh k with
        | some (.inl (1, n, _)) => mv_ck x n (K (pc + len) ls (.inl (mv_rd rc G k 0 x.toNat) :: r) G)
        | some (.inl (2, n, _)) => mv_ck x n (K (pc + len) ls (.inl (mv_rd rc G k 0 x.toNat) :: r) G)
        | _ => none
      | _ => none
    | .bastore => match st with
      | .inl v :: .inl x :: .inr (k, 0) :: r => match sh k with
        | some (.inl (1, n, _)) => bif Nat.ble 1000 k then none else mv_ck x n (mv_ck v 2 (K (pc + len) ls r (mv_up G k 0 x.toNat v)))
        | _ => none
      | _ => none
    | .aaload => match st with
      | .inl x :: .inr (k, 0) :: r => match sh k with
        | some (.inl (3, n, _)) => mv_ck x n (K (pc + len) ls (.inr (k, x.toNat + 1) :: r) G)
        | _ => none
      | _ => none
    | .goto off => K (mv_tg pc off) ls st G
    | .ifCond c off => match st with
      | .inl x :: r => mv_if c x 0 (K (mv_tg pc off) ls r G) (K (pc + len) ls r G)
      | _ => none
    | .if_icmp c off => match st with
      | .inl y :: .inl x :: r => mv_if c x y (K (mv_tg pc off) ls r G) (K (pc + len) ls r G)
      | _ => none
    | .lookupswitch d ps => match st with
      | .inl x :: r => mv_lks (fun t => K t ls r G) pc x d ps.toList
      | _ => none
    | .tableswitch d lo _ ofs => match st with
      | .inl x :: r => mv_tbs (fun t => K t ls r G) pc x d lo ofs.toList
      | _ => none
    | .invokevirtual x => match mv_lk M.2.2.2.2.1 x with
      | some (n, some ci, vo, f) => mv_call K n (some ci) vo f sh pc ls st G
      | _ => none
    | .invokestatic x => match mv_lk M.2.2.2.2.1 x with
      | some (n, none, vo, f) => mv_call K n none vo f sh pc ls st G
      | _ => none
    | .ireturn => match st, M.2.2.2.2.2.2 with
      | [.inl v], none => some (.inl (v, G))
      | [.inl v], some (lo, hi) => if lo ≤ v ∧ v ≤ hi then some (.inl (v, G)) else none
      | _, _ => none
    | .return_ => match st with
      | [] => some (.inl (0, G))
      | _ => none
    | i => match mv_op i st with
      | some r => K (pc + len) ls r G
      | none => none
def mv_msk : List Bool → mv_L → mv_L
  | true :: b, v :: l => v :: mv_msk b l
  | false :: b, _ :: l => none :: mv_msk b l
  | [], ls => ls
  | _, [] => []
def mv_nx (M : mv_M) (K : mv_K) : mv_K := fun pc ls st G => match mv_lk M.2.2.2.2.2.1 pc with
  | none => K pc ls st G
  | some mq => match st with
    | [] => some (.inr (pc, mv_msk mq ls, G))
    | _ => none
def mv_rg (rc : mv_G) (M : mv_M) (sh : Nat → Option mv_S) : Nat → mv_K
  | 0 => fun _ _ _ _ => none
  | n + 1 => fun pc ls st G => mv_step rc M sh (mv_nx M (mv_rg rc M sh n)) pc ls st G
end
section
/-! The interpreter's answers are the machine's. -/
def mv_in (x : Int) : Prop := -2147483648 ≤ x ∧ x < 2147483648
def mv_ra (v : Value) : Nat := match v with | .ref a => a | _ => 0
def mv_V (ad : Nat → Nat → Value) (v : mv_A) : Value := match v with | .inl x => .int (Int32.ofInt x) | .inr q => ad q.1 q.2
def mv_fv (ad : Nat → Nat → Value) (g : Nat → Int) (j : Nat) (r : Option Nat) : Value := match r with | none => .int (Int32.ofInt (g j)) | some t => ad t 0
def mv_fs (ad : Nat → Nat → Value) (g : Nat → Int) (fs : List (Option Nat)) : List Value := (List.range fs.length).map fun j => mv_fv ad g j (fs.getD j none)
def mv_cel (sh : Nat → Option mv_S) (ad : Nat → Nat → Value) (cA : Nat → ClassId) (G : mv_G) (k i : Nat) : Nat × va_E := (mv_ra (ad k i), match sh k, i with
  | some (.inl (0, n, _)), 0 => .inl (cA 0, n, .inl (fun j => Int32.ofInt (G k 0 j)))
  | some (.inl (1, n, _)), 0 => .inl (cA 1, n, .inl (fun j => Int32.ofInt (G k 0 j)))
  | some (.inl (2, n, _)), 0 => .inl (cA 2, n, .inl (fun j => Int32.ofInt (G k 0 j)))
  | some (.inl (3, n, _)), 0 => .inl (cA 3, n, .inr (.inr (.inr (.inr (fun j => if j < n then some (mv_ra (ad k (j + 1))) else none)))))
  | some (.inl (3, _, m)), i + 1 => .inl (cA 0, m, .inl (fun j => Int32.ofInt (G k (i + 1) j)))
  | some (.inr (ci, fs)), 0 => .inr (ci, mv_fs ad (G k 0) fs)
  | _, _ => .inr (0, []))
def mv_wd (sh : Nat → Option mv_S) (ad : Nat → Nat → Value) (cA : Nat → ClassId) (ids : List (Nat × Nat)) (G : mv_G) : va_W := ids.map fun q => mv_cel sh ad cA G q.1 q.2
theorem mv_cel_ne {sh : Nat → Option mv_S} {ad : Nat → Nat → Value} {cA : Nat → ClassId} {G : mv_G} {k i j : Nat} {v : Int} {a b : Nat} (h : ¬ (a, b) = (k, i)) : mv_cel sh ad cA (mv_up G k i j v) a b = mv_cel sh ad cA G a b := by
  have e : ∀ c, mv_up G k i j v a b c = G a b c := fun c => by
    unfold mv_up
    rw [if_neg]
    rintro ⟨h1, h2, -⟩
    exact h (by rw [h1, h2])
  have e0 : mv_up G k i j v a b = G a b := funext e
  unfold mv_cel
  split <;> simp_all
theorem mv_wd_get {sh : Nat → Option mv_S} {ad : Nat → Nat → Value} {cA : Nat → ClassId} {ids : List (Nat × Nat)} {G : mv_G} {k i : Nat} (h : (k, i) ∈ ids) : ∃ q0 : Nat, ids[q0]? = some (k, i) ∧ (mv_wd sh ad cA ids G)[q0]? = some (mv_cel sh ad cA G k i) := by
  obtain ⟨q0, hq⟩ := List.getElem?_of_mem h
  exact ⟨q0, hq, by simp [mv_wd, hq]⟩
theorem mv_wd_set {sh : Nat → Option mv_S} {ad : Nat → Nat → Value} {cA : Nat → ClassId} {ids : List (Nat × Nat)} {G : mv_G} {k i j q0 : Nat} {v : Int} (hn : ids.Nodup) (hq : ids[q0]? = some (k, i)) {x : Nat × va_E} (hx : x = mv_cel sh ad cA (mv_up G k i j v) k i) :
    (mv_wd sh ad cA ids G).set q0 x = mv_wd sh ad cA ids (mv_up G k i j v) := by
  subst hx
  refine List.ext_getElem? fun n => ?_
  by_cases e : n = q0
  · subst e
    obtain ⟨hl, hv⟩ := List.getElem?_eq_some_iff.mp hq
    simp [mv_wd, hl, hv]
  · rw [List.getElem?_set_ne (fun h => e h.symm)]
    simp only [mv_wd, List.getElem?_map]
    cases hm : ids[n]? with
    | none => rfl
    | some q =>
      obtain ⟨a, b⟩ := q
      show some (mv_cel sh ad cA G a b) = some (mv_cel sh ad cA (mv_up G k i j v) a b)
      rw [mv_cel_ne]
      rintro hab
      rw [hab] at hm
      exact e ((List.getElem?_inj (List.getElem?_eq_some_iff.mp hm).1 hn).mp (hm.trans hq.symm))
theorem mv_fs_len {ad : Nat → Nat → Value} {g : Nat → Int} {fs : List (Option Nat)} : (mv_fs ad g fs).length = fs.length := by simp [mv_fs]
theorem mv_fs_get {ad : Nat → Nat → Value} {g : Nat → Int} {fs : List (Option Nat)} {j : Nat} {r : Option Nat} (h : fs[j]? = some r) : (mv_fs ad g fs)[j]? = some (mv_fv ad g j r) := by
  obtain ⟨hl, hv⟩ := List.getElem?_eq_some_iff.mp h
  simp [mv_fs, hl, hv]
theorem mv_fs_set {ad : Nat → Nat → Value} {G : mv_G} {k : Nat} {fs : List (Option Nat)} {j : Nat} {v : Int} (h : fs[j]? = some none) : (mv_fs ad (G k 0) fs).set j (.int (Int32.ofInt v)) = mv_fs ad (mv_up G k 0 j v k 0) fs := by
  refine List.ext_getElem? fun n => ?_
  by_cases e : n = j
  · subst e
    obtain ⟨hl, hv⟩ := List.getElem?_eq_some_iff.mp h
    rw [List.getElem?_set_self (by rw [mv_fs_len]; exact hl), mv_fs_get h]
    simp [mv_fv, mv_up]
  · rw [List.getElem?_set_ne (fun h => e h.symm)]
    cases hm : fs[n]? with
    | none =>
      rw [List.getElem?_eq_none (by rw [mv_fs_len]; exact List.getElem?_eq_none_iff.mp hm), List.getElem?_eq_none (by rw [mv_fs_len]; exact List.getElem?_eq_none_iff.mp hm)]
    | some r =>
      rw [mv_fs_get hm, mv_fs_get hm]
      cases r <;> simp [mv_fv, mv_up, e]
theorem mv_toInt {x : Int} (h : mv_in x) : (Int32.ofInt x).toInt = x := Int32.toInt_ofInt_of_le h.1 h.2
theorem mv_clamp {x : Int} (h : mv_in x) (h0 : 0 ≤ x) : (Int32.ofInt x).toNatClampNeg = x.toNat := by
  rw [← Int32.toNat_toInt, mv_toInt h]
theorem mv_vpin {x : Int} {n : Nat} (h : mv_in x) (h0 : 0 ≤ x ∧ x < n) : vp_in (Int32.ofInt x) n := by
  rw [vp_in_iff, mv_toInt h]
  exact h0
theorem mv_w_in (x : Int) : mv_in (mv_w x) := by
  have h1 := Int.le_bmod (x := x) (m := 4294967296) (by decide)
  have h2 := Int.bmod_lt (x := x) (m := 4294967296) (by decide)
  unfold mv_w mv_in
  omega
theorem mv_w_of (x : Int) : Int32.ofInt (mv_w x) = Int32.ofInt x := by
  apply Int32.toInt_inj.mp
  simp [mv_w, Int32.toInt_ofInt, Int.bmod_bmod]
theorem mv_lt {x y : Int} (hx : mv_in x) (hy : mv_in y) : Int32.ofInt x < Int32.ofInt y ↔ x < y := by
  rw [Int32.lt_iff_toInt_lt, mv_toInt hx, mv_toInt hy]
theorem mv_eq {x y : Int} (hx : mv_in x) (hy : mv_in y) : Int32.ofInt x = Int32.ofInt y ↔ x = y := by
  rw [← Int32.toInt_inj, mv_toInt hx, mv_toInt hy]
theorem mv_ii (x : Int32) : mv_in x.toInt := ⟨Int32.le_toInt x, Int32.toInt_lt x⟩

section MV
variable {p : Program} {l : Launch} {e : Env} {R : Room} {s : State} {m : MethodId} {args : Array Value} {below : List Frame} {meth : Method} {c : Code} {cells slots : Nat} {Q : State → Prop}
variable {cc : ByteArray} {nL : Nat} {sh : Nat → Option mv_S} {ids ros : List (Nat × Nat)} {ad : Nat → Nat → Value} {cA : Nat → ClassId} {cl : List vw_C} {D : va_G} {tys : List (ClassId × FieldType)} {A : Nat → Prop} {rc : mv_G} {M : mv_M}
def mv_ty (t : Nat) : FieldType := match t with | 0 => .int | 1 => .boolean | 2 => .byte | _ => .array .int
/-- what is fixed of a world: kinds of arrays, addresses; cells from 1000 on are only read; 990 .. 999 are references that nobody follows -/
def mv_Fix (sh : Nat → Option mv_S) (ids ros : List (Nat × Nat)) (ad : Nat → Nat → Value) (cA : Nat → ClassId) (tys : List (ClassId × FieldType)) (A : Nat → Prop) (rc : mv_G) : Prop :=
  (∀ k i t n w, (k, i) ∈ ids ++ ros → sh k = some (.inl (t, n, w)) → n < 2147483648 ∧ w < 2147483648 ∧ (Nat.ble 1000 k = false → tys[t]? = some (cA t, mv_ty t) ∧ (t = 3 → tys[0]? = some (cA 0, .int) ∧ ∀ i, i < n → (k, i + 1) ∈ ids))) ∧
  (∀ k ci fs, (k, 0) ∈ ids ++ ros → sh k = some (.inr (ci, fs)) → ∀ (j t : Nat), fs[j]? = some (some t) → (t, 0) ∈ ids ++ ros) ∧
  (∀ q ∈ ids ++ ros, ∃ a, ad q.1 q.2 = .ref a) ∧ (∀ k i, (ad k i).category = 1) ∧ ids.Nodup ∧ (∀ q ∈ ids, A (mv_ra (ad q.1 q.2)) ∧ Nat.ble 1000 q.1 = false) ∧ (∀ q ∈ ros, Nat.ble 1000 q.1 = true ∧ q.2 = 0) ∧ (∀ k i j, mv_in (rc k i j)) ∧ (∀ k, Nat.ble 990 k = true → Nat.ble 1000 k = false → sh k = none)
def mv_okV (ids ros : List (Nat × Nat)) (v : mv_A) : Prop := match v with | .inl x => mv_in x | .inr q => q ∈ ids ++ ros ∨ (Nat.ble 990 q.1 = true ∧ Nat.ble 1000 q.1 = false)
/-- the names of a class of cells that are only read: its own, its fields' and their types' -/
abbrev mv_R : Type := Nat → String × (Nat → String × String)
/-- the cells that are only read -/
def mv_RO (sh : Nat → Option mv_S) (ros : List (Nat × Nat)) (ad : Nat → Nat → Value) (A : Nat → Prop) (rc : mv_G) (cr : mv_R) (s : State) : Prop := ∀ k, (k, 0) ∈ ros → match sh k with
  | some (.inl (0, n, _)) => va_T .int (mv_ra (ad k 0)) n (fun j => .int (Int32.ofInt (rc k 0 j))) A s s.heap
  | some (.inl (2, n, _)) => va_T .byte (mv_ra (ad k 0)) n (fun j => .int (Int32.ofInt (rc k 0 j))) A s s.heap
  | some (.inr (ci, fs)) => va_O (cr ci).1 (mv_ra (ad k 0)) A s s.heap ∧ ∀ (j : Nat) (r : Option Nat), fs[j]? = some r → va_OF (cr ci).1 ((cr ci).2 j).1 ((cr ci).2 j).2 (mv_fv ad (rc k 0) j r) (mv_ra (ad k 0)) A s s.heap
  | _ => True
/-- the world, with the contents G -/
def mv_Wd (sh : Nat → Option mv_S) (ids : List (Nat × Nat)) (ad : Nat → Nat → Value) (cA : Nat → ClassId) (cl : List vw_C) (D : va_G) (A : Nat → Prop) (G : mv_G) (H : Heap) : Prop :=
  va_P D cl (mv_wd sh ad cA ids G) H ∧ va_D A (mv_wd sh ad cA ids G) ∧ ∀ k i j, mv_in (G k i j)
/-- the locals -/
def mv_LR (ids ros : List (Nat × Nat)) (ad : Nat → Nat → Value) (nL : Nat) (ls : mv_L) (lsC : Array Slot) : Prop :=
  ls.length = nL ∧ lsC.size = nL ∧ lv_wf lsC ∧ ∀ (i : Nat) (v : mv_A), ls[i]? = some (some v) → lsC[i]? = some (.val (mv_V ad v)) ∧ mv_okV ids ros v
theorem mv_okcat {v : mv_A} (hF : mv_Fix sh ids ros ad cA tys A rc) : (mv_V ad v).category = 1 := by
  cases v with
  | inl x => rfl
  | inr q => exact hF.2.2.2.1 _ _
theorem mv_getcell {G : mv_G} {H : Heap} {k i : Nat} (hF : mv_Fix sh ids ros ad cA tys A rc) (hW : mv_Wd sh ids ad cA cl D A G H) (h : (k, i) ∈ ids ++ ros) (hb : Nat.ble 1000 k = false) :
    ∃ q0 : Nat, ids[q0]? = some (k, i) ∧ (mv_wd sh ad cA ids G)[q0]? = some (mv_cel sh ad cA G k i) := by
  rcases List.mem_append.mp h with h | h
  · exact mv_wd_get h
  · exact absurd ((hF.2.2.2.2.2.2.1 _ h).1.symm.trans hb) (by decide)
theorem mv_getro {k i : Nat} (hF : mv_Fix sh ids ros ad cA tys A rc) (h : (k, i) ∈ ids ++ ros) (hb : Nat.ble 1000 k = true) : (k, 0) ∈ ros ∧ i = 0 := by
  rcases List.mem_append.mp h with h | h
  · exact absurd ((hF.2.2.2.2.2.1 _ h).2.symm.trans hb) (by decide)
  · have := (hF.2.2.2.2.2.2.1 _ h).2
    dsimp only at this
    subst this
    exact ⟨h, rfl⟩
theorem mv_rd_rw {G : mv_G} {k : Nat} (hb : Nat.ble 1000 k = false) : mv_rd rc G k = G k := by funext a b; simp [mv_rd, hb]
theorem mv_rd_ro {G : mv_G} {k : Nat} (hb : Nat.ble 1000 k = true) : mv_rd rc G k = rc k := by funext a b; simp [mv_rd, hb]
theorem mv_LR_set {ls : mv_L} {lsC ls' : Array Slot} {k : Nat} {v : mv_A} {lv : List (Nat × Value)} (hF : mv_Fix sh ids ros ad cA tys A rc) (h : mv_LR ids ros ad nL ls lsC) (hv : mv_okV ids ros v) (hlv : ∀ i w, ls[i]? = some (some w) → (i, mv_V ad w) ∈ lv)
    (h' : lv_has ls' nL ((k, mv_V ad v) :: lv.filter (fun q => !(q.1 == k) && !(q.1 + 1 == k && q.2.category == 2)))) : mv_LR ids ros ad nL (ls.set k (some v)) ls' := by
  refine ⟨by rw [List.length_set]; exact h.1, h'.1, h'.2.1, fun i w hi => ?_⟩
  by_cases e : i = k
  · subst e
    have hl : i < ls.length := by
      have := (List.getElem?_eq_some_iff.mp hi).1
      rwa [List.length_set] at this
    rw [List.getElem?_set_self hl] at hi
    cases hi
    exact ⟨h'.2.2 _ List.mem_cons_self, hv⟩
  · rw [List.getElem?_set_ne (fun q => e q.symm)] at hi
    refine ⟨h'.2.2 (i, mv_V ad w) (List.mem_cons_of_mem _ (List.mem_filter.mpr ⟨hlv i w hi, ?_⟩)), (h.2.2.2 i w hi).2⟩
    simp [e, mv_okcat hF]
def mv_ll (ad : Nat → Nat → Value) (ls : mv_L) : List (Nat × Value) := (List.range ls.length).filterMap fun i => match ls[i]? with | some (some v) => some (i, mv_V ad v) | _ => none
theorem mv_ll_mem {ls : mv_L} {i : Nat} {w : mv_A} (h : ls[i]? = some (some w)) : (i, mv_V ad w) ∈ mv_ll ad ls := by
  refine List.mem_filterMap.mpr ⟨i, List.mem_range.mpr (List.getElem?_eq_some_iff.mp h).1, ?_⟩
  rw [h]
theorem mv_ll_has {ls : mv_L} {lsC : Array Slot} (h : mv_LR ids ros ad nL ls lsC) : lv_has lsC nL (mv_ll ad ls) := by
  refine ⟨h.2.1, h.2.2.1, fun q hq => ?_⟩
  obtain ⟨i, -, hi⟩ := List.mem_filterMap.mp hq
  split at hi
  · next v hv =>
    cases hi
    exact (h.2.2.2 i v hv).1
  · cases hi
end MV
end
section
/-! One step of the interpreter is one of the machine. -/
section MV
variable {p : Program} {l : Launch} {e : Env} {R : Room} {s : State} {m : MethodId} {args : Array Value} {below : List Frame} {meth : Method} {c : Code} {cells slots : Nat} {Q : State → Prop}
variable {cc : ByteArray} {nL : Nat} {sh : Nat → Option mv_S} {ids ros : List (Nat × Nat)} {ad : Nat → Nat → Value} {cA : Nat → ClassId} {cl : List vw_C} {D : va_G} {tys : List (ClassId × FieldType)} {A : Nat → Prop} {rc : mv_G} {M : mv_M}
/-- what an outcome leaves to be shown -/
def mv_Fin (p : Program) (l : Launch) (e : Env) (R : Room) (s : State) (m : MethodId) (args : Array Value) (below : List Frame) (meth : Method) (c : Code) (cells slots : Nat) (Q : State → Prop) (cc : ByteArray) (nL : Nat) (sh : Nat → Option mv_S) (ids ros : List (Nat × Nat)) (ad : Nat → Nat → Value) (cA : Nat → ClassId) (cl : List vw_C) (D : va_G) (A : Nat → Prop) (M : mv_M) (out : mv_O) : Prop := match out with
  | .inl (v, G) => ∀ (H : Heap) (locs : List Loc) (lsC : Array Slot) (pc : Nat), mv_Wd sh ids ad cA cl D A G H → va_S A s.heap H locs →
      (mv_in v → (∀ lo hi, M.2.2.2.2.2.2 = some (lo, hi) → lo ≤ v ∧ v ≤ hi) → (pc, Instr.ireturn, 1) ∈ M.1 → decode cc pc = .ok (.ireturn, 1) → W p l e R s m args below meth c H locs cells slots Q (F0 m pc lsC [.int (Int32.ofInt v)])) ∧ (v = 0 → (pc, Instr.return_, 1) ∈ M.1 → decode cc pc = .ok (.return_, 1) → W p l e R s m args below meth c H locs cells slots Q (F0 m pc lsC []))
  | .inr (pc, ls, G) => ∀ (H : Heap) (locs : List Loc) (lsC : Array Slot), mv_Wd sh ids ad cA cl D A G H → va_S A s.heap H locs → mv_LR ids ros ad nL ls lsC → W p l e R s m args below meth c H locs cells slots Q (F0 m pc lsC [])
/-- from this state of the interpreter on -/
def mv_Snd (p : Program) (l : Launch) (e : Env) (R : Room) (s : State) (m : MethodId) (args : Array Value) (below : List Frame) (meth : Method) (c : Code) (cells slots : Nat) (Q : State → Prop) (cc : ByteArray) (nL : Nat) (sh : Nat → Option mv_S) (ids ros : List (Nat × Nat)) (ad : Nat → Nat → Value) (cA : Nat → ClassId) (cl : List vw_C) (D : va_G) (A : Nat → Prop) (M : mv_M) (pc : Nat) (ls : mv_L) (st : List mv_A) (G : mv_G) (o : Option mv_O) : Prop :=
  ∀ out, o = some out → mv_Fin p l e R s m args below meth c cells slots Q cc nL sh ids ros ad cA cl D A M out → ∀ (H : Heap) (locs : List Loc) (lsC : Array Slot), mv_Wd sh ids ad cA cl D A G H → va_S A s.heap H locs → mv_LR ids ros ad nL ls lsC → (∀ v ∈ st, mv_okV ids ros v) → W p l e R s m args below meth c H locs cells slots Q (F0 m pc lsC (st.map (mv_V ad)))
def mv_len (i : Instr) : Nat := match i with
  | .iload _ | .aload _ | .istore _ | .astore _ | .bipush _ | .ldc _ => 2
  | .sipush _ | .iinc _ _ | .ldc_w _ | .getstatic _ | .getfield _ | .putfield _ | .goto _ | .ifCond _ _ | .if_icmp _ _ | .invokevirtual _ | .invokestatic _ => 3
  | _ => 1
/-- what a program decides of a row of code -/
def mv_iok (pc : Nat) (i : Instr) (len : Nat) : Bool := match i with
  | .bipush n => decide (-128 ≤ n ∧ n < 128) && Nat.beq len 2
  | .sipush n => decide (-32768 ≤ n ∧ n < 32768) && Nat.beq len 3
  | .iconst n => decide (-128 ≤ n ∧ n < 128) && Nat.beq len 1
  | .iinc _ n => decide (-32768 ≤ n ∧ n < 32768) && Nat.beq len 3
  | .goto off | .ifCond _ off | .if_icmp _ off => decide (0 ≤ (pc : Int) + off) && Nat.beq len 3
  | .lookupswitch d ps => decide (0 ≤ (pc : Int) + d) && ps.toList.all (fun q => decide (0 ≤ (pc : Int) + q.2)) && (ps.toList.zip (ps.toList.drop 1)).all (fun (a, next) => a.1 < next.1)
  | .tableswitch d lo hi ofs => decide (0 ≤ (pc : Int) + d) && ofs.toList.all (fun q => decide (0 ≤ (pc : Int) + q)) && decide (hi = lo + ofs.toList.length - 1)
  | i => Nat.beq len (mv_len i)
def mv_inv (rv : Option Nat) (idx : Nat) : Instr := match rv with | some _ => .invokevirtual idx | none => .invokestatic idx
/-- a call's contract, as a rule of the walk -/
def mv_Cal (p : Program) (l : Launch) (e : Env) (R : Room) (s : State) (m : MethodId) (args : Array Value) (below : List Frame) (meth : Method) (c : Code) (cells slots : Nat) (Q : State → Prop) (cc : ByteArray) (nL : Nat) (sh : Nat → Option mv_S) (ids ros : List (Nat × Nat)) (ad : Nat → Nat → Value) (cA : Nat → ClassId) (cl : List vw_C) (D : va_G) (A : Nat → Prop) (idx n : Nat) (rv : Option Nat) (vo : Bool) (f : mv_F) : Prop :=
  ∀ (pc : Nat) (lsC : Array Slot) (as : List mv_A) (rest : List Value) (G G' : mv_G) (r : Int) (H : Heap) (locs : List Loc), lsC.size = nL →
    decode cc pc = .ok (mv_inv rv idx, 3) → as.length = n → (∀ v ∈ as, mv_okV ids ros v) → (∀ ci, rv = some ci → ∃ k as' fs, as = .inr (k, 0) :: as' ∧ (k, 0) ∈ ids ++ ros ∧ sh k = some (.inr (ci, fs))) →
    rest.length ≤ 8 → (∀ v ∈ rest, v.category = 1) → f as G = some (r, G') → mv_Wd sh ids ad cA cl D A G H → va_S A s.heap H locs →
    (∀ (H1 : Heap) (locs1 : List Loc), mv_Wd sh ids ad cA cl D A G' H1 → va_S A s.heap H1 locs1 → (vo = false → mv_in r) → W p l e R s m args below meth c H1 locs1 cells slots Q (F0 m (pc + 3) lsC ((bif vo then [] else [.int (Int32.ofInt r)]) ++ rest))) →
    W p l e R s m args below meth c H locs cells slots Q (F0 m pc lsC ((as.map (mv_V ad)).reverse ++ rest))
/-- the fixed part of a walk -/
def mv_Ctx (p : Program) (s : State) (m : MethodId) (args : Array Value) (c : Code) (cc : ByteArray) (nL : Nat) (sh : Nat → Option mv_S) (cl : List vw_C) (D : va_G) (tys : List (ClassId × FieldType)) (own : String) (Ts : List Cond) (cr : mv_R) (M : mv_M) : Prop :=
  p.tables.exec = Jvm.exec ∧ c.code = cc ∧ s.vm.findClass own = some m.cls ∧ (∀ w ∈ Ts, w.before args s = true) ∧ va_K D cl tys s ∧ c.maxLocals = nL ∧
  (∀ (ci : Nat) (q : vw_C), cl[ci]? = some q → (∀ w ∈ u_ws q.1 q.2.1 q.2.2, w ∈ Ts) ∧ (∃ ty0 : Nat → FieldType, ∀ k, k < q.2.2 → parseFieldDescriptor (q.2.1 k).2.2.1 = some (ty0 k)) ∧ (∀ a, a < q.2.2 → ∀ b, b < q.2.2 → a ≠ b → (q.2.1 a).2.1 ≠ (q.2.1 b).2.1)) ∧
  (∀ x ∈ M.1, decode cc x.1 = .ok (x.2.1, x.2.2) ∧ mv_iok x.1 x.2.1 x.2.2 = true) ∧
  (∀ x ∈ M.2.1, (Nat.ble 100 x.2.1 = true → (Cond.fieldLink own x.1 (cr x.2.1).1 ((cr x.2.1).2 x.2.2.1).1 ((cr x.2.1).2 x.2.2.1).2).before args s = true) ∧ (Nat.ble 100 x.2.1 = false → ∃ q : vw_C, cl[x.2.1]? = some q ∧ x.2.2.1 < q.2.2 ∧ (Cond.fieldLink own x.1 (q.2.1 x.2.2.1).1 (q.2.1 x.2.2.1).2.1 (q.2.1 x.2.2.1).2.2.1).before args s = true ∧
    (x.2.2.2 = 0 ∨ x.2.2.2 = 1 → (q.2.1 x.2.2.1).2.2.2 = false ∧ parseFieldDescriptor (q.2.1 x.2.2.1).2.2.1 = some (if x.2.2.2 = 1 then .boolean else .int))))
theorem mv_lk_mem {α : Type} {l : List (Nat × α)} {k : Nat} {v : α} (h : mv_lk l k = some v) : (k, v) ∈ l := by
  induction l with
  | nil => cases h
  | cons q l ih =>
    obtain ⟨a, b⟩ := q
    simp only [mv_lk] at h
    cases hb : Nat.beq a k with
    | true =>
      rw [hb] at h
      cases h
      cases Nat.eq_of_beq_eq_true hb
      exact List.mem_cons_self
    | false =>
      rw [hb] at h
      exact List.mem_cons_of_mem _ (ih h)
theorem mv_tg_of {pc : Nat} {off : Int} (h : 0 ≤ (pc : Int) + off) : (pc : Int) + off = (mv_tg pc off : Int) := (Int.toNat_of_nonneg h).symm
theorem mv_if_snd {x y : Int} {cnd : ClassFile.Cond} {a b : Option mv_O} {out : mv_O} {P : Prop} (hx : mv_in x) (hy : mv_in y) (h : mv_if cnd x y a b = some out) (ht : ∀ h1 : a = some out, Op.if_icmp.holds cnd (Int32.ofInt x) (Int32.ofInt y) = true → P) (hf : ∀ h1 : b = some out, Op.if_icmp.holds cnd (Int32.ofInt x) (Int32.ofInt y) = false → P) : P := by
  have h1 := mv_lt hx hy
  have h2 := mv_lt hy hx
  have h3 := mv_eq hx hy
  have h4 : Int32.ofInt x ≤ Int32.ofInt y ↔ ¬ y < x := by rw [← h2, Int32.not_lt]
  have h5 : Int32.ofInt y ≤ Int32.ofInt x ↔ ¬ x < y := by rw [← h1, Int32.not_lt]
  cases cnd <;> simp only [mv_if] at h <;> split at h <;> first
    | exact ht h (by simp_all [Op.if_icmp.holds])
    | exact hf h (by simp_all [Op.if_icmp.holds])
    | skip
theorem mv_icmp {H : Heap} {locs : List Loc} {pc tgt : Nat} {ls : Array Slot} {rest : List Value} {x y : Int32} {off : Int} {cnd : ClassFile.Cond} (hx : p.tables.exec = Jvm.exec) (hb : c.code = cc) (hdg : decode cc pc = .ok (.if_icmp cnd off, 3)) (ht : (pc : Int) + off = (tgt : Int))
    (kt : Op.if_icmp.holds cnd x y = true → W p l e R s m args below meth c H locs cells slots Q (F0 m tgt ls rest)) (kf : Op.if_icmp.holds cnd x y = false → W p l e R s m args below meth c H locs cells slots Q (F0 m (pc + 3) ls rest)) : W p l e R s m args below meth c H locs cells slots Q (F0 m pc ls (.int y :: .int x :: rest)) := by
  cases cnd
  · exact lv_icmp_eq hx hb hdg ht (fun h => kt (by simp [Op.if_icmp.holds, h])) (fun h => kf (by simp [Op.if_icmp.holds, h]))
  · exact lv_icmp_ne hx hb hdg ht (fun h => kt (by simp [Op.if_icmp.holds, h])) (fun h => kf (by simpa [Op.if_icmp.holds] using h))
  · exact lv_icmp_lt hx hb hdg ht (fun h => kt (by simp [Op.if_icmp.holds, h])) (fun h => kf (by simpa [Op.if_icmp.holds] using h))
  · exact lv_icmp_ge hx hb hdg ht (fun h => kt (by simpa [Op.if_icmp.holds] using h)) (fun h => kf (by simpa [Op.if_icmp.holds] using h))
  · exact lv_icmp_gt hx hb hdg ht (fun h => kt (by simpa [Op.if_icmp.holds] using h)) (fun h => kf (by simpa [Op.if_icmp.holds] using h))
  · exact lv_icmp_le hx hb hdg ht (fun h => kt (by simpa [Op.if_icmp.holds] using h)) (fun h => kf (by simpa [Op.if_icmp.holds] using h))
theorem mv_ifc {H : Heap} {locs : List Loc} {pc tgt : Nat} {ls : Array Slot} {rest : List Value} {x : Int32} {off : Int} {cnd : ClassFile.Cond} (hx : p.tables.exec = Jvm.exec) (hb : c.code = cc) (hdg : decode cc pc = .ok (.ifCond cnd off, 3)) (ht : (pc : Int) + off = (tgt : Int))
    (kt : Op.if_icmp.holds cnd x 0 = true → W p l e R s m args below meth c H locs cells slots Q (F0 m tgt ls rest)) (kf : Op.if_icmp.holds cnd x 0 = false → W p l e R s m args below meth c H locs cells slots Q (F0 m (pc + 3) ls rest)) : W p l e R s m args below meth c H locs cells slots Q (F0 m pc ls (.int x :: rest)) := by
  cases cnd
  · exact lv_if_eq hx hb hdg ht (fun h => kt (by simp [Op.if_icmp.holds, h])) (fun h => kf (by simp [Op.if_icmp.holds, h]))
  · exact lv_if_ne hx hb hdg ht (fun h => kt (by simp [Op.if_icmp.holds, h])) (fun h => kf (by simpa [Op.if_icmp.holds] using h))
  · exact lv_if_lt hx hb hdg ht (fun h => kt (by simpa [Op.if_icmp.holds] using h)) (fun h => kf (by simpa [Op.if_icmp.holds] using h))
  · exact lv_if_ge hx hb hdg ht (fun h => kt (by simpa [Op.if_icmp.holds] using h)) (fun h => kf (by simpa [Op.if_icmp.holds] using h))
  · exact lv_if_gt hx hb hdg ht (fun h => kt (by simpa [Op.if_icmp.holds] using h)) (fun h => kf (by simpa [Op.if_icmp.holds] using h))
  · exact lv_if_le hx hb hdg ht (fun h => kt (by simpa [Op.if_icmp.holds] using h)) (fun h => kf (by simpa [Op.if_icmp.holds] using h))
theorem mv_okc {v : mv_A} {r : List mv_A} (h : ∀ w ∈ v :: r, mv_okV ids ros w) : mv_okV ids ros v ∧ ∀ w ∈ r, mv_okV ids ros w := ⟨h v List.mem_cons_self, fun w hw => h w (List.mem_cons_of_mem _ hw)⟩
theorem mv_oks {v : mv_A} {r : List mv_A} (h : mv_okV ids ros v) (hr : ∀ w ∈ r, mv_okV ids ros w) : ∀ w ∈ v :: r, mv_okV ids ros w := fun w hw => by
  rcases List.mem_cons.mp hw with rfl | hw
  · exact h
  · exact hr w hw
/-- instructions that touch the stack alone -/
theorem mv_op_snd {H : Heap} {locs : List Loc} {pc : Nat} {lsC : Array Slot} {i : Instr} {len : Nat} {st st' : List mv_A} (hF : mv_Fix sh ids ros ad cA tys A rc) (hx : p.tables.exec = Jvm.exec) (hb : c.code = cc) (hdg : decode cc pc = .ok (i, len)) (hi : mv_iok pc i len = true) (h : mv_op i st = some st') (hst : ∀ v ∈ st, mv_okV ids ros v)
    (kk : (∀ v ∈ st', mv_okV ids ros v) → W p l e R s m args below meth c H locs cells slots Q (F0 m (pc + len) lsC (st'.map (mv_V ad)))) : W p l e R s m args below meth c H locs cells slots Q (F0 m pc lsC (st.map (mv_V ad))) := by
  cases i <;> simp only [mv_op, reduceCtorEq] at h
  case iconst n =>
    cases h
    simp only [mv_iok, Bool.and_eq_true, decide_eq_true_eq] at hi
    cases Nat.eq_of_beq_eq_true hi.2
    exact lv_iconst hx hb hdg rfl (kk (mv_oks (by show mv_in n; unfold mv_in; omega) hst))
  case bipush n =>
    cases h
    simp only [mv_iok, Bool.and_eq_true, decide_eq_true_eq] at hi
    cases Nat.eq_of_beq_eq_true hi.2
    refine lv_bipush (v := Int32.ofInt n) hx hb hdg ?_ (kk (mv_oks (by show mv_in n; unfold mv_in; omega) hst))
    apply Int32.toInt_inj.mp
    rw [mv_toInt (by unfold mv_in; omega), Int8.toInt_toInt32, Int8.toInt_ofInt_of_le (by omega) (by omega)]
  case sipush n =>
    cases h
    simp only [mv_iok, Bool.and_eq_true, decide_eq_true_eq] at hi
    cases Nat.eq_of_beq_eq_true hi.2
    refine lv_sipush (v := Int32.ofInt n) hx hb hdg ?_ (kk (mv_oks (by show mv_in n; unfold mv_in; omega) hst))
    apply Int32.toInt_inj.mp
    rw [mv_toInt (by unfold mv_in; omega), Int16.toInt_toInt32, Int16.toInt_ofInt_of_le (by omega) (by omega)]
  all_goals (simp only [mv_iok, mv_len] at hi; cases Nat.eq_of_beq_eq_true hi; split at h <;> try contradiction)
  all_goals (cases h)
  all_goals (first | obtain ⟨h1, h2⟩ := mv_okc hst)
  all_goals first
    | (refine lv_iadd hx hb hdg ?_; simpa only [List.map_cons, mv_V, mv_w_of, Int32.ofInt_add] using kk (mv_oks (mv_w_in _) (mv_okc h2).2); done)
    | (refine lv_isub hx hb hdg ?_; simpa only [List.map_cons, mv_V, mv_w_of, Int32.ofInt_sub] using kk (mv_oks (mv_w_in _) (mv_okc h2).2); done)
    | (refine lv_imul hx hb hdg ?_; simpa only [List.map_cons, mv_V, mv_w_of, Int32.ofInt_mul] using kk (mv_oks (mv_w_in _) (mv_okc h2).2); done)
    | (refine lv_ineg hx hb hdg ?_; simpa only [List.map_cons, mv_V, mv_w_of, Int32.ofInt_neg] using kk (mv_oks (mv_w_in _) h2); done)
    | (refine lv_iand hx hb hdg ?_; simpa only [List.map_cons, mv_V, mv_and, Int32.ofInt_toInt] using kk (mv_oks (mv_ii _) (mv_okc h2).2); done)
    | (refine lv_ior hx hb hdg ?_; simpa only [List.map_cons, mv_V, mv_or, Int32.ofInt_toInt] using kk (mv_oks (mv_ii _) (mv_okc h2).2); done)
    | (refine lv_ixor hx hb hdg ?_; simpa only [List.map_cons, mv_V, mv_xor, Int32.ofInt_toInt] using kk (mv_oks (mv_ii _) (mv_okc h2).2); done)
    | (refine lv_ishl hx hb hdg ?_; simpa only [List.map_cons, mv_V, mv_shl, Int32.ofInt_toInt] using kk (mv_oks (mv_ii _) (mv_okc h2).2); done)
    | (refine lv_ishr hx hb hdg ?_; simpa only [List.map_cons, mv_V, mv_shr, Int32.ofInt_toInt] using kk (mv_oks (mv_ii _) (mv_okc h2).2); done)
    | (refine lv_iushr hx hb hdg rfl ?_; simpa only [List.map_cons, mv_V, mv_ushr, Int32.ofInt_toInt] using kk (mv_oks (mv_ii _) (mv_okc h2).2); done)
    | (refine lv_i2c hx hb hdg rfl ?_; simpa only [List.map_cons, mv_V, mv_i2c, Int32.ofInt_toInt] using kk (mv_oks (mv_ii _) h2); done)
    | (refine lv_i2b hx hb hdg rfl ?_; simpa only [List.map_cons, mv_V, mv_i2b, Int32.ofInt_toInt] using kk (mv_oks (mv_ii _) h2); done)
    | (exact lv_dup hx hb hdg (mv_okcat hF) (kk (mv_oks h1 hst)))
    | (exact lv_pop hx hb hdg (mv_okcat hF) (kk h2))
    | (exact lv_dup2_11 hx hb hdg (mv_okcat hF) (mv_okcat hF) (kk (mv_oks h1 (mv_oks (mv_okc h2).1 hst))))
end MV
end
section
section MV
variable {p : Program} {l : Launch} {e : Env} {R : Room} {s : State} {m : MethodId} {args : Array Value} {below : List Frame} {meth : Method} {c : Code} {cells slots : Nat} {Q : State → Prop}
variable {cc : ByteArray} {nL : Nat} {sh : Nat → Option mv_S} {ids ros : List (Nat × Nat)} {ad : Nat → Nat → Value} {cA : Nat → ClassId} {cl : List vw_C} {D : va_G} {tys : List (ClassId × FieldType)} {A : Nat → Prop} {rc : mv_G} {M : mv_M}
variable {H : Heap} {locs : List Loc} {lsC : Array Slot} {pc : Nat} {ls : mv_L} {st : List mv_A} {G : mv_G} {out : mv_O} {K : mv_K}
theorem mv_ref_of {q : Nat × Nat} (hF : mv_Fix sh ids ros ad cA tys A rc) (h : q ∈ ids ++ ros) : ad q.1 q.2 = .ref (mv_ra (ad q.1 q.2)) := by
  obtain ⟨a, ha⟩ := hF.2.2.1 q h
  rw [ha]
  rfl
theorem mv_ild {k : Nat} {i : Instr} {len : Nat} (hx : p.tables.exec = Jvm.exec) (hb : c.code = cc) (hF : mv_Fix sh ids ros ad cA tys A rc) (hL : mv_LR ids ros ad nL ls lsC) (hi : mv_iok pc i len = true)
    (hd : (i = .iload k ∨ ∃ q : Fin 4, i = .iload_n q ∧ q.val = k)) (hdg : decode cc pc = .ok (i, len)) {x : Int} (hv : ls[k]? = some (some (.inl x)))
    (kk : mv_okV ids ros (.inl x) → W p l e R s m args below meth c H locs cells slots Q (F0 m (pc + len) lsC (mv_V ad (.inl x) :: st.map (mv_V ad)))) : W p l e R s m args below meth c H locs cells slots Q (F0 m pc lsC (st.map (mv_V ad))) := by
  obtain ⟨h1, h2⟩ := hL.2.2.2 k _ hv
  rcases hd with rfl | ⟨q, rfl, rfl⟩
  · cases Nat.eq_of_beq_eq_true hi
    exact lv_iload hx hb hdg h1 (kk h2)
  · cases Nat.eq_of_beq_eq_true hi
    exact lv_iload_n hx hb hdg rfl h1 (kk h2)
theorem mv_ald {k : Nat} {i : Instr} {len : Nat} (hx : p.tables.exec = Jvm.exec) (hb : c.code = cc) (hF : mv_Fix sh ids ros ad cA tys A rc) (hL : mv_LR ids ros ad nL ls lsC) (hi : mv_iok pc i len = true)
    (hd : (i = .aload k ∨ ∃ q : Fin 4, i = .aload_n q ∧ q.val = k)) (hdg : decode cc pc = .ok (i, len)) {x : Nat × Nat} (hv : ls[k]? = some (some (.inr x))) (h9 : Nat.ble 990 x.1 = false)
    (kk : mv_okV ids ros (.inr x) → W p l e R s m args below meth c H locs cells slots Q (F0 m (pc + len) lsC (mv_V ad (.inr x) :: st.map (mv_V ad)))) : W p l e R s m args below meth c H locs cells slots Q (F0 m pc lsC (st.map (mv_V ad))) := by
  obtain ⟨h1, h2⟩ := hL.2.2.2 k _ hv
  have hr := mv_ref_of hF (h2.resolve_right (fun q => absurd (q.1.symm.trans h9) (by decide)))
  have h3 : lsC[k]? = some (.val (.ref (mv_ra (ad x.1 x.2)))) := by rw [h1]; show some (Slot.val (ad x.1 x.2)) = _; rw [← hr]
  have kk' := kk h2
  have e : mv_V ad (.inr x) = .ref (mv_ra (ad x.1 x.2)) := hr
  rw [e] at kk'
  rcases hd with rfl | ⟨q, rfl, rfl⟩
  · cases Nat.eq_of_beq_eq_true hi
    exact lv_aload hx hb hdg h3 kk'
  · cases Nat.eq_of_beq_eq_true hi
    exact lv_aload_n hx hb hdg rfl h3 kk'
theorem mv_ist {k : Nat} {i : Instr} {len : Nat} (hx : p.tables.exec = Jvm.exec) (hb : c.code = cc) (hF : mv_Fix sh ids ros ad cA tys A rc) (hL : mv_LR ids ros ad nL ls lsC) (hi : mv_iok pc i len = true)
    (hd : (i = .istore k ∨ ∃ q : Fin 4, i = .istore_n q ∧ q.val = k)) (hdg : decode cc pc = .ok (i, len)) {x : Int} {r : List mv_A} (hk : k < ls.length) (hv : mv_okV ids ros (.inl x))
    (kk : ∀ lsC', mv_LR ids ros ad nL (ls.set k (some (.inl x))) lsC' → W p l e R s m args below meth c H locs cells slots Q (F0 m (pc + len) lsC' (r.map (mv_V ad)))) : W p l e R s m args below meth c H locs cells slots Q (F0 m pc lsC (mv_V ad (.inl x) :: r.map (mv_V ad))) := by
  have hn : k < nL := by rw [← hL.1]; exact hk
  rcases hd with rfl | ⟨q, rfl, rfl⟩
  · cases Nat.eq_of_beq_eq_true hi
    exact lv_istore hx hb hdg (mv_ll_has hL) hn rfl fun lsC' h' => kk lsC' (mv_LR_set hF hL hv (fun i w hw => mv_ll_mem hw) h')
  · cases Nat.eq_of_beq_eq_true hi
    exact lv_istore_n hx hb hdg rfl (mv_ll_has hL) hn rfl fun lsC' h' => kk lsC' (mv_LR_set hF hL hv (fun i w hw => mv_ll_mem hw) h')
theorem mv_ast {k : Nat} {i : Instr} {len : Nat} (hx : p.tables.exec = Jvm.exec) (hb : c.code = cc) (hF : mv_Fix sh ids ros ad cA tys A rc) (hL : mv_LR ids ros ad nL ls lsC) (hi : mv_iok pc i len = true)
    (hd : (i = .astore k ∨ ∃ q : Fin 4, i = .astore_n q ∧ q.val = k)) (hdg : decode cc pc = .ok (i, len)) {x : Nat × Nat} {r : List mv_A} (hk : k < ls.length) (hv : mv_okV ids ros (.inr x)) (h9 : Nat.ble 990 x.1 = false)
    (kk : ∀ lsC', mv_LR ids ros ad nL (ls.set k (some (.inr x))) lsC' → W p l e R s m args below meth c H locs cells slots Q (F0 m (pc + len) lsC' (r.map (mv_V ad)))) : W p l e R s m args below meth c H locs cells slots Q (F0 m pc lsC (mv_V ad (.inr x) :: r.map (mv_V ad))) := by
  have hn : k < nL := by rw [← hL.1]; exact hk
  have hr := mv_ref_of hF (hv.resolve_right (fun q => absurd (q.1.symm.trans h9) (by decide)))
  have e : mv_V ad (.inr x) = .ref (mv_ra (ad x.1 x.2)) := hr
  rw [e]
  rcases hd with rfl | ⟨q, rfl, rfl⟩
  · cases Nat.eq_of_beq_eq_true hi
    exact lv_astore hx hb hdg (mv_ll_has hL) hn rfl fun lsC' h' => kk lsC' (mv_LR_set hF hL hv (fun i w hw => mv_ll_mem hw) (by rw [e]; exact h'))
  · cases Nat.eq_of_beq_eq_true hi
    exact lv_astore_n hx hb hdg rfl (mv_ll_has hL) hn rfl fun lsC' h' => kk lsC' (mv_LR_set hF hL hv (fun i w hw => mv_ll_mem hw) (by rw [e]; exact h'))
theorem mv_iin {k : Nat} {n : Int} (hx : p.tables.exec = Jvm.exec) (hb : c.code = cc) (hF : mv_Fix sh ids ros ad cA tys A rc) (hL : mv_LR ids ros ad nL ls lsC) (hdg : decode cc pc = .ok (.iinc k n, 3)) {x : Int} {rest : List Value} (hv : ls[k]? = some (some (.inl x)))
    (kk : ∀ lsC', mv_LR ids ros ad nL (ls.set k (some (.inl (mv_w (x + n))))) lsC' → W p l e R s m args below meth c H locs cells slots Q (F0 m (pc + 3) lsC' rest)) : W p l e R s m args below meth c H locs cells slots Q (F0 m pc lsC rest) := by
  have hn : k < nL := by rw [← hL.1]; exact (List.getElem?_eq_some_iff.mp hv).1
  have h0 := mv_ll_has hL
  have h1 : lv_has lsC nL ((k, .int (Int32.ofInt x)) :: mv_ll ad ls) := ⟨h0.1, h0.2.1, fun q hq => by
    rcases List.mem_cons.mp hq with rfl | hq
    · exact (hL.2.2.2 k _ hv).1
    · exact h0.2.2 q hq⟩
  exact lv_iinc (v := Int32.ofInt (mv_w (x + n))) hx hb hdg h1 (k := 0) rfl (by rw [mv_w_of, Int32.ofInt_add]) hn rfl fun lsC' h' => kk lsC' (mv_LR_set hF hL (mv_w_in _) (fun i w hw => List.mem_cons_of_mem _ (mv_ll_mem hw)) h')
theorem mv_rd_in (hF : mv_Fix sh ids ros ad cA tys A rc) (hW : mv_Wd sh ids ad cA cl D A G H) (k i j : Nat) : mv_in (mv_rd rc G k i j) := by
  unfold mv_rd
  cases Nat.ble 1000 k
  · exact hW.2.2 _ _ _
  · exact hF.2.2.2.2.2.2.2.1 _ _ _
/-- a written cell -/
theorem mv_Wd_put {k i j q0 : Nat} {v : Int} {H1 : Heap} {x : Nat × va_E} (hF : mv_Fix sh ids ros ad cA tys A rc) (hW : mv_Wd sh ids ad cA cl D A G H) (hv : mv_in v) (hq : ids[q0]? = some (k, i)) (hx : x = mv_cel sh ad cA (mv_up G k i j v) k i)
    (hP1 : va_P D cl ((mv_wd sh ad cA ids G).set q0 x) H1) (hD1 : va_D A ((mv_wd sh ad cA ids G).set q0 x)) : mv_Wd sh ids ad cA cl D A (mv_up G k i j v) H1 := by
  rw [mv_wd_set hF.2.2.2.2.1 hq hx] at hP1 hD1
  refine ⟨hP1, hD1, fun a b c => ?_⟩
  unfold mv_up
  split
  · exact hv
  · exact hW.2.2 _ _ _
theorem mv_in0 : mv_in 0 := by unfold mv_in; decide
theorem mv_if_h {x y : Int} {cnd : ClassFile.Cond} {a b : Option mv_O} (hx : mv_in x) (hy : mv_in y) (h : mv_if cnd x y a b = some out) : (Op.if_icmp.holds cnd (Int32.ofInt x) (Int32.ofInt y) = true ∧ a = some out) ∨ (Op.if_icmp.holds cnd (Int32.ofInt x) (Int32.ofInt y) = false ∧ b = some out) :=
  mv_if_snd hx hy h (fun h1 h2 => Or.inl ⟨h2, h1⟩) (fun h1 h2 => Or.inr ⟨h2, h1⟩)
/-- a call's answer: none, or the callee's -/
def mv_cst (p : Program) (l : Launch) (e : Env) (R : Room) (s : State) (m : MethodId) (args : Array Value) (below : List Frame) (meth : Method) (c : Code) (cells slots : Nat) (Q : State → Prop) (cc : ByteArray) (ids ros : List (Nat × Nat)) (ad : Nat → Nat → Value) (A : Nat → Prop) (M : mv_M) : Prop :=
  (∀ x ∈ M.2.2.1, mv_okV ids ros x.2 ∧ ∀ (pc : Nat) (H : Heap) (locs : List Loc) (lsC : Array Slot) (rest : List Value), va_S A s.heap H locs →
    ((pc, Instr.ldc x.1, 2) ∈ M.1 → decode cc pc = .ok (.ldc x.1, 2) → W p l e R s m args below meth c H locs cells slots Q (F0 m (pc + 2) lsC (mv_V ad x.2 :: rest)) → W p l e R s m args below meth c H locs cells slots Q (F0 m pc lsC rest)) ∧
    ((pc, Instr.ldc_w x.1, 3) ∈ M.1 → decode cc pc = .ok (.ldc_w x.1, 3) → W p l e R s m args below meth c H locs cells slots Q (F0 m (pc + 3) lsC (mv_V ad x.2 :: rest)) → W p l e R s m args below meth c H locs cells slots Q (F0 m pc lsC rest))) ∧
  (∀ x ∈ M.2.2.2.1, mv_okV ids ros x.2 ∧ ∀ (pc : Nat) (H : Heap) (locs : List Loc) (lsC : Array Slot) (rest : List Value), va_S A s.heap H locs →
    (decode cc pc = .ok (.getstatic x.1, 3) → W p l e R s m args below meth c H locs cells slots Q (F0 m (pc + 3) lsC (mv_V ad x.2 :: rest)) → W p l e R s m args below meth c H locs cells slots Q (F0 m pc lsC rest)))
theorem mv_upd {G : mv_G} {k i j : Nat} {v : Int} : (fun a => Int32.ofInt (mv_up G k i j v k i a)) = upd (fun a => Int32.ofInt (G k i a)) j (Int32.ofInt v) := by
  funext a
  simp only [upd, mv_up, true_and]
  split <;> rfl
theorem mv_lks_h {KK : Nat → Option mv_O} {x d : Int} : ∀ {l : List (Int × Int)}, mv_lks KK pc x d l = some out → 0 ≤ (pc : Int) + d → l.all (fun q => decide (0 ≤ (pc : Int) + q.2)) = true → KK (mv_tg pc (Op.lookupswitch.offset l d x)) = some out ∧ 0 ≤ (pc : Int) + Op.lookupswitch.offset l d x
  | [], h, hd, _ => ⟨h, hd⟩
  | (a, t) :: l, h, hd, hl => by
    simp only [List.all_cons, Bool.and_eq_true, decide_eq_true_eq] at hl
    simp only [mv_lks] at h
    rw [Op.lookupswitch.offset_cons]
    split at h
    · next e =>
      subst e
      rw [if_pos rfl]
      exact ⟨h, hl.1⟩
    · next e =>
      rw [if_neg (fun q => e q.symm)]
      exact mv_lks_h h hd hl.2
theorem mv_tbs_h {KK : Nat → Option mv_O} {x d : Int} : ∀ {l : List Int} {lo : Int}, mv_tbs KK pc x d lo l = some out → (x < lo ∨ lo + l.length ≤ x ∧ KK (mv_tg pc d) = some out) ∨ (lo ≤ x ∧ ∃ t, l[(x - lo).toNat]? = some t ∧ KK (mv_tg pc t) = some out)
  | [], lo, h => by
    by_cases e : x < lo
    · exact Or.inl (Or.inl e)
    · exact Or.inl (Or.inr ⟨by simp; omega, h⟩)
  | t :: l, lo, h => by
    simp only [mv_tbs] at h
    split at h
    · next e =>
      exact Or.inr ⟨by omega, t, by rw [e, Int.sub_self]; rfl, h⟩
    · next e =>
      rcases mv_tbs_h h with (h1 | ⟨h1, h2⟩) | ⟨h1, t', h2, h3⟩
      · exact Or.inl (Or.inl (by omega))
      · exact Or.inl (Or.inr ⟨by simp only [List.length_cons]; omega, h2⟩)
      · refine Or.inr ⟨by omega, t', ?_, h3⟩
        rw [show (x - lo).toNat = (x - (lo + 1)).toNat + 1 by omega]
        exact h2
theorem mv_tbs_lo {KK : Nat → Option mv_O} {x d : Int} : ∀ {l : List Int} {lo : Int}, x < lo → mv_tbs KK pc x d lo l = some out → KK (mv_tg pc d) = some out
  | [], lo, _, h => h
  | t :: l, lo, h0, h => by
    simp only [mv_tbs] at h
    rw [if_neg (by omega)] at h
    exact mv_tbs_lo (by omega) h
theorem mv_ck_h {x : Int} {n : Nat} {a : Option mv_O} (h : mv_ck x n a = some out) : (0 ≤ x ∧ x < n) ∧ a = some out := by
  unfold mv_ck at h
  split at h
  · next h1 => exact ⟨h1, h⟩
  · cases h
theorem mv_no999 (hF : mv_Fix sh ids ros ad cA tys A rc) {k i : Nat} {q : mv_S} (h : sh k = some q) (ho : mv_okV ids ros (.inr (k, i))) : (k, i) ∈ ids ++ ros := by
  refine ho.resolve_right fun e => ?_
  have := hF.2.2.2.2.2.2.2.2 _ e.1 e.2
  dsimp only at this
  rw [h] at this
  cases this
theorem mv_call_snd {n idx : Nat} {rv : Option Nat} {vo : Bool} {f : mv_F} (hF : mv_Fix sh ids ros ad cA tys A rc) (hL : mv_LR ids ros ad nL ls lsC) (hW : mv_Wd sh ids ad cA cl D A G H) (hS : va_S A s.heap H locs) (hst : ∀ v ∈ st, mv_okV ids ros v)
    (hc : mv_Cal p l e R s m args below meth c cells slots Q cc nL sh ids ros ad cA cl D A idx n rv vo f) (hdg : decode cc pc = .ok (mv_inv rv idx, 3)) (h : mv_call K n rv vo f sh pc ls st G = some out)
    (kk : ∀ {G' : mv_G} (H1 : Heap) (locs1 : List Loc), mv_Wd sh ids ad cA cl D A G' H1 → va_S A s.heap H1 locs1 → ∀ st' : List mv_A, (∀ v ∈ st', mv_okV ids ros v) → K (pc + 3) ls st' G' = some out → W p l e R s m args below meth c H1 locs1 cells slots Q (F0 m (pc + 3) lsC (st'.map (mv_V ad)))) :
    W p l e R s m args below meth c H locs cells slots Q (F0 m pc lsC (st.map (mv_V ad))) := by
  unfold mv_call at h
  generalize hg : (Nat.ble n st.length && Nat.ble (st.length - n) 8 && _) = g at h
  cases g with
  | false => cases h
  | true =>
    simp only [Bool.and_eq_true] at hg
    obtain ⟨⟨g1, g2⟩, g3⟩ := hg
    have g1 := Nat.le_of_ble_eq_true g1
    have g2 := Nat.le_of_ble_eq_true g2
    dsimp only [cond] at h
    unfold mv_cn at h
    split at h <;> try contradiction
    next r G' hf =>
    have est : st.map (mv_V ad) = (((st.take n).reverse).map (mv_V ad)).reverse ++ (st.drop n).map (mv_V ad) := by
      rw [List.map_reverse, List.reverse_reverse, ← List.map_append, List.take_append_drop]
    rw [est]
    refine hc pc lsC (st.take n).reverse ((st.drop n).map (mv_V ad)) G G' r H locs hL.2.1 hdg (by simp; omega) (fun v hv => hst v (List.mem_of_mem_take (List.mem_reverse.mp hv))) (fun ci hci => ?_) (by simp; omega) (fun v hv => ?_) hf hW hS (fun H1 locs1 h1 h2 h3 => ?_)
    · subst hci
      generalize hta : (st.take n).reverse = ta at g3
      split at g3 <;> try contradiction
      next ci2 k as' hci2 =>
      cases hci2
      split at g3 <;> try contradiction
      next ci' fs hs =>
      cases Nat.eq_of_beq_eq_true g3
      exact ⟨k, as', fs, rfl, mv_no999 hF hs (hst _ (List.mem_of_mem_take (List.mem_reverse.mp (by rw [hta]; exact List.mem_cons_self)))), hs⟩
    · obtain ⟨w, -, rfl⟩ := List.mem_map.mp hv
      exact mv_okcat hF
    · cases vo with
      | true => exact kk H1 locs1 h1 h2 _ (fun v hv => hst v (List.mem_of_mem_drop hv)) h
      | false => exact kk H1 locs1 h1 h2 _ (mv_oks (show mv_okV ids ros (.inl r) from h3 rfl) (fun v hv => hst v (List.mem_of_mem_drop hv))) h
theorem mv_step_snd {own : String} {Ts : List Cond} {cr : mv_R} (hX : mv_Ctx p s m args c cc nL sh cl D tys own Ts cr M) (hF : mv_Fix sh ids ros ad cA tys A rc) (hR : mv_RO sh ros ad A rc cr s) (hro100 : ∀ k ci fs, sh k = some (.inr (ci, fs)) → Nat.ble 1000 k = true → Nat.ble 100 ci = true) (hro3 : ∀ k, Nat.ble 1000 k = true → ∀ n w, ¬ sh k = some (.inl (3, n, w))) (hrw2 : ∀ k, Nat.ble 1000 k = false → ∀ n w, ¬ sh k = some (.inl (2, n, w))) (hro1 : ∀ k, Nat.ble 1000 k = true → ∀ n w, ¬ sh k = some (.inl (1, n, w))) (hrw100 : ∀ k ci fs, sh k = some (.inr (ci, fs)) → Nat.ble 1000 k = false → Nat.ble 100 ci = false)
    (hC : mv_cst p l e R s m args below meth c cells slots Q cc ids ros ad A M) (hCal : ∀ x ∈ M.2.2.2.2.1, mv_Cal p l e R s m args below meth c cells slots Q cc nL sh ids ros ad cA cl D A x.1 x.2.1 x.2.2.1 x.2.2.2.1 x.2.2.2.2)
    (hK : ∀ pc ls st G, mv_Snd p l e R s m args below meth c cells slots Q cc nL sh ids ros ad cA cl D A M pc ls st G (K pc ls st G)) :
    mv_Snd p l e R s m args below meth c cells slots Q cc nL sh ids ros ad cA cl D A M pc ls st G (mv_step rc M sh K pc ls st G) := by
  obtain ⟨hx, hb, hown, hts, hKn, hml, hcls, hcode, hfld⟩ := hX
  intro out h hfin H locs lsC hW hS hL hst
  unfold mv_step at h
  split at h
  · cases h
  next i len hlk =>
  obtain ⟨hdg, hi⟩ := hcode _ (mv_lk_mem hlk)
  dsimp only at hdg hi
  have go : ∀ {pc' : Nat} {ls' : mv_L} {st' : List mv_A} {G' : mv_G}, K pc' ls' st' G' = some out → ∀ (H : Heap) (locs : List Loc) (lsC : Array Slot), mv_Wd sh ids ad cA cl D A G' H → va_S A s.heap H locs → mv_LR ids ros ad nL ls' lsC → (∀ v ∈ st', mv_okV ids ros v) → W p l e R s m args below meth c H locs cells slots Q (F0 m pc' lsC (st'.map (mv_V ad))) := fun h => hK _ _ _ _ out h hfin
  cases i
  case iload k =>
    dsimp only [mv_ldi] at h
    split at h <;> try contradiction
    next x hv => exact mv_ild hx hb hF hL hi (Or.inl rfl) hdg hv (fun ho => go h H locs lsC hW hS hL (mv_oks ho hst))
  case iload_n k =>
    dsimp only [mv_ldi] at h
    split at h <;> try contradiction
    next x hv => exact mv_ild hx hb hF hL hi (Or.inr ⟨k, rfl, rfl⟩) hdg hv (fun ho => go h H locs lsC hW hS hL (mv_oks ho hst))
  case aload k =>
    dsimp only [mv_lda] at h
    split at h <;> try contradiction
    next q hv =>
    cases h9 : Nat.ble 990 q.1 with
    | true => rw [h9] at h; cases h
    | false =>
      rw [h9] at h
      exact mv_ald hx hb hF hL hi (Or.inl rfl) hdg hv h9 (fun ho => go h H locs lsC hW hS hL (mv_oks ho hst))
  case aload_n k =>
    dsimp only [mv_lda] at h
    split at h <;> try contradiction
    next q hv =>
    cases h9 : Nat.ble 990 q.1 with
    | true => rw [h9] at h; cases h
    | false =>
      rw [h9] at h
      exact mv_ald hx hb hF hL hi (Or.inr ⟨k, rfl, rfl⟩) hdg hv h9 (fun ho => go h H locs lsC hW hS hL (mv_oks ho hst))
  case istore k =>
    dsimp only [mv_sti] at h
    split at h <;> try contradiction
    next x r hv => exact mv_ist hx hb hF hL hi (Or.inl rfl) hdg (List.getElem?_eq_some_iff.mp hv).1 (mv_okc hst).1 (fun lsC' hL' => go h H locs lsC' hW hS hL' (mv_okc hst).2)
  case istore_n k =>
    dsimp only [mv_sti] at h
    split at h <;> try contradiction
    next x r hv => exact mv_ist hx hb hF hL hi (Or.inr ⟨k, rfl, rfl⟩) hdg (List.getElem?_eq_some_iff.mp hv).1 (mv_okc hst).1 (fun lsC' hL' => go h H locs lsC' hW hS hL' (mv_okc hst).2)
  case astore k =>
    dsimp only [mv_sta] at h
    split at h <;> try contradiction
    next q r hv =>
    cases h9 : Nat.ble 990 q.1 with
    | true => rw [h9] at h; cases h
    | false =>
      rw [h9] at h
      exact mv_ast hx hb hF hL hi (Or.inl rfl) hdg (List.getElem?_eq_some_iff.mp hv).1 (mv_okc hst).1 h9 (fun lsC' hL' => go h H locs lsC' hW hS hL' (mv_okc hst).2)
  case astore_n k =>
    dsimp only [mv_sta] at h
    split at h <;> try contradiction
    next q r hv =>
    cases h9 : Nat.ble 990 q.1 with
    | true => rw [h9] at h; cases h
    | false =>
      rw [h9] at h
      exact mv_ast hx hb hF hL hi (Or.inr ⟨k, rfl, rfl⟩) hdg (List.getElem?_eq_some_iff.mp hv).1 (mv_okc hst).1 h9 (fun lsC' hL' => go h H locs lsC' hW hS hL' (mv_okc hst).2)
  case iinc k n =>
    dsimp only at h
    split at h <;> try contradiction
    next x hv =>
    simp only [mv_iok, Bool.and_eq_true] at hi
    cases Nat.eq_of_beq_eq_true hi.2
    exact mv_iin hx hb hF hL hdg hv (fun lsC' hL' => go h H locs lsC' hW hS hL' hst)
  case ldc k =>
    dsimp only at h
    split at h <;> try contradiction
    next v hv =>
    cases Nat.eq_of_beq_eq_true hi
    obtain ⟨ho, hc⟩ := hC.1 _ (mv_lk_mem hv)
    exact (hc pc H locs lsC _ hS).1 (mv_lk_mem hlk) hdg (go h H locs lsC hW hS hL (mv_oks ho hst))
  case ldc_w k =>
    dsimp only at h
    split at h <;> try contradiction
    next v hv =>
    cases Nat.eq_of_beq_eq_true hi
    obtain ⟨ho, hc⟩ := hC.1 _ (mv_lk_mem hv)
    exact (hc pc H locs lsC _ hS).2 (mv_lk_mem hlk) hdg (go h H locs lsC hW hS hL (mv_oks ho hst))
  case getstatic k =>
    dsimp only at h
    split at h <;> try contradiction
    next v hv =>
    cases Nat.eq_of_beq_eq_true hi
    obtain ⟨ho, hc⟩ := hC.2 _ (mv_lk_mem hv)
    exact (hc pc H locs lsC _ hS) hdg (go h H locs lsC hW hS hL (mv_oks ho hst))
  case goto off =>
    simp only [mv_iok, Bool.and_eq_true, decide_eq_true_eq] at hi
    cases Nat.eq_of_beq_eq_true hi.2
    exact lv_goto hx hb hdg (mv_tg_of hi.1) (go h H locs lsC hW hS hL hst)
  case ifCond cnd off =>
    dsimp only at h
    split at h <;> try contradiction
    next x r =>
    simp only [mv_iok, Bool.and_eq_true, decide_eq_true_eq] at hi
    cases Nat.eq_of_beq_eq_true hi.2
    rcases mv_if_h (mv_okc hst).1 mv_in0 h with ⟨h1, h2⟩ | ⟨h1, h2⟩
    · exact mv_ifc hx hb hdg (mv_tg_of hi.1) (fun _ => go h2 H locs lsC hW hS hL (mv_okc hst).2) (fun h3 => absurd (h3.symm.trans h1) (by decide))
    · exact mv_ifc hx hb hdg (mv_tg_of hi.1) (fun h3 => absurd (h3.symm.trans h1) (by decide)) (fun _ => go h2 H locs lsC hW hS hL (mv_okc hst).2)
  case if_icmp cnd off =>
    dsimp only at h
    split at h <;> try contradiction
    next y x r =>
    simp only [mv_iok, Bool.and_eq_true, decide_eq_true_eq] at hi
    cases Nat.eq_of_beq_eq_true hi.2
    obtain ⟨hy, hst⟩ := mv_okc hst
    rcases mv_if_h (mv_okc hst).1 hy h with ⟨h1, h2⟩ | ⟨h1, h2⟩
    · exact mv_icmp hx hb hdg (mv_tg_of hi.1) (fun _ => go h2 H locs lsC hW hS hL (mv_okc hst).2) (fun h3 => absurd (h3.symm.trans h1) (by decide))
    · exact mv_icmp hx hb hdg (mv_tg_of hi.1) (fun h3 => absurd (h3.symm.trans h1) (by decide)) (fun _ => go h2 H locs lsC hW hS hL (mv_okc hst).2)
  case idiv =>
    dsimp only at h
    split at h <;> try contradiction
    next y x r =>
    split at h <;> try contradiction
    next hy =>
    obtain ⟨ho1, hst⟩ := mv_okc hst
    obtain ⟨ho2, hst⟩ := mv_okc hst
    cases Nat.eq_of_beq_eq_true hi
    refine lv_idiv hx hb hdg (fun e => hy ((mv_eq ho1 mv_in0).mp e)) ?_
    have := go h H locs lsC hW hS hL (mv_oks (mv_w_in _) hst)
    rw [List.map_cons, mv_V, mv_w_of] at this
    have e : Int32.ofInt x / Int32.ofInt y = Int32.ofInt (x.tdiv y) := by
      apply Int32.toInt_inj.mp
      rw [Int32.toInt_div, mv_toInt ho2, mv_toInt ho1, Int32.toInt_ofInt]
    rw [e]
    exact this
  case irem =>
    dsimp only at h
    split at h <;> try contradiction
    next y x r =>
    split at h <;> try contradiction
    next hy =>
    obtain ⟨ho1, hst⟩ := mv_okc hst
    obtain ⟨ho2, hst⟩ := mv_okc hst
    cases Nat.eq_of_beq_eq_true hi
    refine lv_irem hx hb hdg (fun e => hy ((mv_eq ho1 mv_in0).mp e)) ?_
    have := go h H locs lsC hW hS hL (mv_oks (mv_w_in _) hst)
    rw [List.map_cons, mv_V, mv_w_of] at this
    have e0 : Int32.ofInt x / Int32.ofInt y = Int32.ofInt (x.tdiv y) := by
      apply Int32.toInt_inj.mp
      rw [Int32.toInt_div, mv_toInt ho2, mv_toInt ho1, Int32.toInt_ofInt]
    have e : Int32.ofInt x - Int32.ofInt x / Int32.ofInt y * Int32.ofInt y = Int32.ofInt (x.tmod y) := by
      rw [e0, ← Int32.ofInt_mul, ← Int32.ofInt_sub, Int.tmod_def, Int.mul_comm]
    rw [e]
    exact this
  case getfield k =>
    dsimp only at h
    split at h <;> try contradiction
    next q r =>
    split at h <;> try contradiction
    next ci fs ci' j z hs hf =>
    cases Nat.eq_of_beq_eq_true hi
    obtain ⟨ho, hst⟩ := mv_okc hst
    cases hc : Nat.beq ci ci' with
    | false => rw [hc] at h; cases h
    | true =>
      rw [hc] at h
      cases Nat.eq_of_beq_eq_true hc
      have hm := mv_no999 hF hs ho
      rw [List.map_cons, show mv_V ad (.inr (q, 0)) = .ref (mv_ra (ad q 0)) from mv_ref_of hF hm]
      dsimp only [cond] at h
      cases hro : Nat.ble 1000 q with
      | true =>
        have hR1 := hR q (mv_getro hF hm hro).1
        simp only [hs] at hR1
        rw [mv_rd_ro hro] at h
        have hlk2 : Nat.ble 100 ci = true := hro100 _ _ _ hs hro
        have e3 := (hfld _ (mv_lk_mem hf)).1 hlk2
        split at h <;> try contradiction
        · next hj => exact vk_getf hx hb (hR1.2 j _ hj) hS hown e3 (fun _ h => h) hdg (go h H locs lsC hW hS hL (mv_oks (hF.2.2.2.2.2.2.2.1 _ _ _) hst))
        · next t hj => exact vk_getf hx hb (hR1.2 j _ hj) hS hown e3 (fun _ h => h) hdg (go h H locs lsC hW hS hL (mv_oks (Or.inl (hF.2.1 _ _ _ hm hs _ _ hj)) hst))
      | false =>
        have hlk2 : Nat.ble 100 ci = false := hrw100 _ _ _ hs hro
        obtain ⟨q1, e1, e2, e3, -⟩ := (hfld _ (mv_lk_mem hf)).2 hlk2
        obtain ⟨q0, hq0, hg⟩ := mv_getcell hF hW hm hro
        simp only [mv_cel, hs] at hg
        rw [mv_rd_rw hro] at h
        split at h <;> try contradiction
        · next hj => exact va_get (C := q1.1) (T := q1.2.1) (N := q1.2.2) hx hb hts (hcls _ _ e1).1 hown hKn hW.1 q0 hg e1 j e2 e3 (fun _ h => h) (mv_fs_get hj) hdg (go h H locs lsC hW hS hL (mv_oks (hW.2.2 _ _ _) hst))
        · next t hj => exact va_get (C := q1.1) (T := q1.2.1) (N := q1.2.2) hx hb hts (hcls _ _ e1).1 hown hKn hW.1 q0 hg e1 j e2 e3 (fun _ h => h) (mv_fs_get hj) hdg (go h H locs lsC hW hS hL (mv_oks (Or.inl (hF.2.1 _ _ _ hm hs _ _ hj)) hst))
  case putfield k =>
    dsimp only at h
    split at h <;> try contradiction
    next v q r =>
    split at h <;> try contradiction
    next ci fs ci' j z hs hf =>
    cases Nat.eq_of_beq_eq_true hi
    obtain ⟨hov, hst⟩ := mv_okc hst
    obtain ⟨ho, hst⟩ := mv_okc hst
    cases hc : Nat.beq ci ci' with
    | false => rw [hc] at h; cases h
    | true =>
      rw [hc] at h
      cases Nat.eq_of_beq_eq_true hc
      have hm := mv_no999 hF hs ho
      have eV : mv_V ad (.inr (q, 0)) = .ref (mv_ra (ad q 0)) := mv_ref_of hF hm
      rw [List.map_cons, List.map_cons, eV]
      dsimp only [cond] at h
      split at h <;> try contradiction
      next hj =>
      cases hro : Nat.ble 1000 q with
      | true => rw [hro] at h; cases h
      | false =>
        rw [hro] at h
        obtain ⟨q1, e1, e2, e3, e4⟩ := (hfld _ (mv_lk_mem hf)).2 (hrw100 _ _ _ hs hro)
        obtain ⟨q0, hq0, hg⟩ := mv_getcell hF hW hm hro
        have hg' : (mv_wd sh ad cA ids G)[q0]? = some (mv_ra (ad q 0), .inr (ci, mv_fs ad (G q 0) fs)) := by rw [hg]; simp only [mv_cel, hs]
        obtain ⟨c1, ⟨ty0, c2⟩, c3⟩ := hcls _ _ e1
        have hxe : (mv_ra (ad q 0), (.inr (ci, (mv_fs ad (G q 0) fs).set j (.int (Int32.ofInt v))) : va_E)) = mv_cel sh ad cA (mv_up G q 0 j v) q 0 := by
          simp only [mv_cel, hs]
          rw [mv_fs_set hj]
        have key : K (pc + 3) ls r (mv_up G q 0 j v) = some out → (z = 0 ∨ z = 1) → (z = 1 → 0 ≤ v ∧ v < 2) → W p l e R s m args below meth c H locs cells slots Q (F0 m pc lsC (mv_V ad (.inl v) :: .ref (mv_ra (ad q 0)) :: r.map (mv_V ad))) := by
          intro h hz0 hz
          obtain ⟨f1, f2⟩ := e4 hz0
          refine va_put (C := q1.1) (T := q1.2.1) (N := q1.2.2) (ty := if z = 1 then .boolean else .int) hx hb hts c1 ty0 c2 c3 hown hKn hW.1 hW.2.1 hS q0 hg' e1 j e2 e3 (fun _ h => h) f1 f2 ?_ ?_ (by rw [mv_fs_len]; exact (List.getElem?_eq_some_iff.mp hj).1) hdg (fun H1 locs1 hP1 hD1 hS1 => ?_)
          · rcases hz0 with rfl | rfl
            · rfl
            · obtain ⟨z1, z2⟩ := hz rfl
              rcases (show v = 0 ∨ v = 1 by omega) with rfl | rfl <;> rfl
          · rcases hz0 with rfl | rfl
            · rfl
            · obtain ⟨z1, z2⟩ := hz rfl
              rcases (show v = 0 ∨ v = 1 by omega) with rfl | rfl <;> rfl
          · exact go h H1 locs1 lsC (mv_Wd_put hF hW hov hq0 hxe hP1 hD1) hS1 hL hst
        dsimp only [cond] at h
        split at h <;> try contradiction
        · exact key h (Or.inl rfl) (fun h => by cases h)
        · obtain ⟨z1, z2⟩ := mv_ck_h h
          exact key z2 (Or.inr rfl) (fun _ => z1)
  case arraylength =>
    dsimp only at h
    split at h <;> try contradiction
    next q i r =>
    have ho := (mv_okc hst).1
    cases Nat.eq_of_beq_eq_true hi
    split at h <;> try contradiction
    · rename sh q = some _ => hs
      have hm := mv_no999 hF hs ho
      rw [List.map_cons, show mv_V ad (.inr (q, 0)) = .ref (mv_ra (ad q 0)) from mv_ref_of hF hm]
      obtain ⟨hn, hw, h3⟩ := hF.1 _ _ _ _ _ hm hs
      cases hro : Nat.ble 1000 q with
      | true =>
        have hR1 := hR q (mv_getro hF hm hro).1
        simp only [hs] at hR1
        exact va_tlen hx hb hR1 hS rfl hdg (go h H locs lsC hW hS hL (mv_oks (by show mv_in _; unfold mv_in; omega) (mv_okc hst).2))
      | false =>
        obtain ⟨q0, hq0, hg⟩ := mv_getcell hF hW hm hro
        simp only [mv_cel, hs] at hg
        exact va_alen hx hb hKn hW.1 q0 _ hg (h3 hro).1 rfl hdg (go h H locs lsC hW hS hL (mv_oks (by show mv_in _; unfold mv_in; omega) (mv_okc hst).2))
    · rename sh q = some _ => hs
      have hm := mv_no999 hF hs ho
      rw [List.map_cons, show mv_V ad (.inr (q, 0)) = .ref (mv_ra (ad q 0)) from mv_ref_of hF hm]
      obtain ⟨hn, hw, h3⟩ := hF.1 _ _ _ _ _ hm hs
      cases hro : Nat.ble 1000 q with
      | true =>
        have hR1 := hR q (mv_getro hF hm hro).1
        simp only [hs] at hR1
        exact va_tlen hx hb hR1 hS rfl hdg (go h H locs lsC hW hS hL (mv_oks (by show mv_in _; unfold mv_in; omega) (mv_okc hst).2))
      | false =>
        obtain ⟨q0, hq0, hg⟩ := mv_getcell hF hW hm hro
        simp only [mv_cel, hs] at hg
        exact va_alen hx hb hKn hW.1 q0 _ hg (h3 hro).1 rfl hdg (go h H locs lsC hW hS hL (mv_oks (by show mv_in _; unfold mv_in; omega) (mv_okc hst).2))
    · rename sh q = some _ => hs
      have hm := mv_no999 hF hs ho
      rw [List.map_cons, show mv_V ad (.inr (q, 0)) = .ref (mv_ra (ad q 0)) from mv_ref_of hF hm]
      obtain ⟨hn, hw, h3⟩ := hF.1 _ _ _ _ _ hm hs
      cases hro : Nat.ble 1000 q with
      | true =>
        exact absurd hs (hro3 _ hro _ _)
      | false =>
        obtain ⟨q0, hq0, hg⟩ := mv_getcell hF hW hm hro
        simp only [mv_cel, hs] at hg
        exact va_alen hx hb hKn hW.1 q0 _ hg (h3 hro).1 rfl hdg (go h H locs lsC hW hS hL (mv_oks (by show mv_in _; unfold mv_in; omega) (mv_okc hst).2))
    · rename sh q = some _ => hs
      have hm := mv_no999 hF hs ho
      rw [List.map_cons, show ∀ i', (q, i') ∈ ids ++ ros → mv_V ad (.inr (q, i')) = .ref (mv_ra (ad q i')) from fun i' h => mv_ref_of hF h]
      · obtain ⟨hn, hw, h3⟩ := hF.1 _ _ _ _ _ hm hs
        cases hro : Nat.ble 1000 q with
        | true => exact absurd hs (hro3 _ hro _ _)
        | false =>
          obtain ⟨q0, hq0, hg⟩ := mv_getcell hF hW hm hro
          simp only [mv_cel, hs] at hg
          exact va_alen hx hb hKn hW.1 q0 0 hg ((h3 hro).2 rfl).1 rfl hdg (go h H locs lsC hW hS hL (mv_oks (by show mv_in _; unfold mv_in; omega) (mv_okc hst).2))
      · exact hm
  case iaload =>
    dsimp only at h
    split at h <;> try contradiction
    next x q i r =>
    have hox := (mv_okc hst).1
    have ho := (mv_okc (mv_okc hst).2).1
    have hst' := (mv_okc (mv_okc hst).2).2
    cases Nat.eq_of_beq_eq_true hi
    split at h <;> try contradiction
    · rename sh q = some _ => hs
      have hm := mv_no999 hF hs ho
      rw [List.map_cons, List.map_cons, show mv_V ad (.inr (q, 0)) = .ref (mv_ra (ad q 0)) from mv_ref_of hF hm]
      obtain ⟨hn, hw, h3⟩ := hF.1 _ _ _ _ _ hm hs
      obtain ⟨hin, h⟩ := mv_ck_h h
      cases hro : Nat.ble 1000 q with
      | true =>
        have hR1 := hR q (mv_getro hF hm hro).1
        simp only [hs] at hR1
        rw [mv_rd_ro hro] at h
        exact va_ti hx hb hR1 hS (mv_vpin hox hin) (by rw [mv_clamp hox hin.1]; rfl) hdg (go h H locs lsC hW hS hL (mv_oks (hF.2.2.2.2.2.2.2.1 _ _ _) hst'))
      | false =>
        obtain ⟨q0, hq0, hg⟩ := mv_getcell hF hW hm hro
        simp only [mv_cel, hs] at hg
        rw [mv_rd_rw hro] at h
        refine va_iald hx hb hKn hW.1 q0 0 hg (h3 hro).1 (mv_vpin hox hin) hdg ?_
        rw [mv_clamp hox hin.1]
        exact go h H locs lsC hW hS hL (mv_oks (hW.2.2 _ _ _) hst')
    · rename sh q = some _ => hs
      have hm := mv_no999 hF hs ho
      rw [List.map_cons, List.map_cons, show ∀ i', (q, i') ∈ ids ++ ros → mv_V ad (.inr (q, i')) = .ref (mv_ra (ad q i')) from fun i' h => mv_ref_of hF h]
      · obtain ⟨hn, hw, h3⟩ := hF.1 _ _ _ _ _ hm hs
        obtain ⟨hin, h⟩ := mv_ck_h h
        cases hro : Nat.ble 1000 q with
        | true => exact absurd hs (hro3 _ hro _ _)
        | false =>
          obtain ⟨q0, hq0, hg⟩ := mv_getcell hF hW hm hro
          simp only [mv_cel, hs] at hg
          rw [mv_rd_rw hro] at h
          refine va_iald hx hb hKn hW.1 q0 0 hg ((h3 hro).2 rfl).1 (mv_vpin hox hin) hdg ?_
          rw [mv_clamp hox hin.1]
          exact go h H locs lsC hW hS hL (mv_oks (hW.2.2 _ _ _) hst')
      · exact hm
  case iastore =>
    dsimp only at h
    split at h <;> try contradiction
    next v x q i r =>
    obtain ⟨hov, hst⟩ := mv_okc hst
    obtain ⟨hox, hst⟩ := mv_okc hst
    obtain ⟨ho, hst⟩ := mv_okc hst
    cases Nat.eq_of_beq_eq_true hi
    split at h <;> try contradiction
    · rename sh q = some _ => hs
      have hm := mv_no999 hF hs ho
      rw [List.map_cons, List.map_cons, List.map_cons, show mv_V ad (.inr (q, 0)) = .ref (mv_ra (ad q 0)) from mv_ref_of hF hm]
      obtain ⟨hn, hw, h3⟩ := hF.1 _ _ _ _ _ hm hs
      cases hro : Nat.ble 1000 q with
      | true => rw [hro] at h; cases h
      | false =>
        rw [hro] at h
        obtain ⟨hin, h⟩ := mv_ck_h h
        obtain ⟨q0, hq0, hg⟩ := mv_getcell hF hW hm hro
        simp only [mv_cel, hs] at hg
        refine va_iast hx hb hKn hW.1 hW.2.1 hS q0 0 hg (h3 hro).1 (mv_vpin hox hin) hdg (fun H1 locs1 hP1 hD1 hS1 => ?_)
        rw [mv_clamp hox hin.1] at hP1 hD1
        refine go h H1 locs1 lsC (mv_Wd_put hF hW hov hq0 ?_ hP1 hD1) hS1 hL (mv_okc hst).2
        simp only [mv_cel, hs, mv_upd]
    · rename sh q = some _ => hs
      have hm := mv_no999 hF hs ho
      rw [List.map_cons, List.map_cons, List.map_cons, show ∀ i', (q, i') ∈ ids ++ ros → mv_V ad (.inr (q, i')) = .ref (mv_ra (ad q i')) from fun i' h => mv_ref_of hF h]
      · obtain ⟨hn, hw, h3⟩ := hF.1 _ _ _ _ _ hm hs
        cases hro : Nat.ble 1000 q with
        | true => rw [hro] at h; cases h
        | false =>
          rw [hro] at h
          obtain ⟨hin, h⟩ := mv_ck_h h
          obtain ⟨q0, hq0, hg⟩ := mv_getcell hF hW hm hro
          simp only [mv_cel, hs] at hg
          refine va_iast hx hb hKn hW.1 hW.2.1 hS q0 0 hg ((h3 hro).2 rfl).1 (mv_vpin hox hin) hdg (fun H1 locs1 hP1 hD1 hS1 => ?_)
          rw [mv_clamp hox hin.1] at hP1 hD1
          refine go h H1 locs1 lsC (mv_Wd_put hF hW hov hq0 ?_ hP1 hD1) hS1 hL (mv_okc hst).2
          simp only [mv_cel, hs, mv_upd]
      · exact hm
  case baload =>
    dsimp only at h
    split at h <;> try contradiction
    next x q r =>
    obtain ⟨hox, hst⟩ := mv_okc hst
    obtain ⟨ho, hst⟩ := mv_okc hst
    cases Nat.eq_of_beq_eq_true hi
    split at h <;> try contradiction
    · rename sh q = some _ => hs
      have hm := mv_no999 hF hs ho
      rw [List.map_cons, List.map_cons, show mv_V ad (.inr (q, 0)) = .ref (mv_ra (ad q 0)) from mv_ref_of hF hm]
      obtain ⟨hn, hw, h3⟩ := hF.1 _ _ _ _ _ hm hs
      obtain ⟨hin, h⟩ := mv_ck_h h
      cases hro : Nat.ble 1000 q with
      | true => exact absurd hs (hro1 _ hro _ _)
      | false =>
        obtain ⟨q0, hq0, hg⟩ := mv_getcell hF hW hm hro
        simp only [mv_cel, hs] at hg
        rw [mv_rd_rw hro] at h
        refine va_zald hx hb hKn hW.1 q0 1 hg (h3 hro).1 (mv_vpin hox hin) hdg ?_
        rw [mv_clamp hox hin.1]
        exact go h H locs lsC hW hS hL (mv_oks (hW.2.2 _ _ _) hst)
    · rename sh q = some _ => hs
      have hm := mv_no999 hF hs ho
      rw [List.map_cons, List.map_cons, show mv_V ad (.inr (q, 0)) = .ref (mv_ra (ad q 0)) from mv_ref_of hF hm]
      obtain ⟨hn, hw, h3⟩ := hF.1 _ _ _ _ _ hm hs
      obtain ⟨hin, h⟩ := mv_ck_h h
      cases hro : Nat.ble 1000 q with
      | false => exact absurd hs (hrw2 _ hro _ _)
      | true =>
        have hR1 := hR q (mv_getro hF hm hro).1
        simp only [hs] at hR1
        rw [mv_rd_ro hro] at h
        exact va_tb hx hb hR1 hS (mv_vpin hox hin) (by rw [mv_clamp hox hin.1]; rfl) hdg (go h H locs lsC hW hS hL (mv_oks (hF.2.2.2.2.2.2.2.1 _ _ _) hst))
  case bastore =>
    dsimp only at h
    split at h <;> try contradiction
    next v x q r =>
    obtain ⟨hov, hst⟩ := mv_okc hst
    obtain ⟨hox, hst⟩ := mv_okc hst
    obtain ⟨ho, hst⟩ := mv_okc hst
    cases Nat.eq_of_beq_eq_true hi
    split at h <;> try contradiction
    rename sh q = some _ => hs
    have hm := mv_no999 hF hs ho
    rw [List.map_cons, List.map_cons, List.map_cons, show mv_V ad (.inr (q, 0)) = .ref (mv_ra (ad q 0)) from mv_ref_of hF hm]
    obtain ⟨hn, hw, h3⟩ := hF.1 _ _ _ _ _ hm hs
    cases hro : Nat.ble 1000 q with
    | true => rw [hro] at h; cases h
    | false =>
      rw [hro] at h
      obtain ⟨hin, h⟩ := mv_ck_h h
      obtain ⟨hin2, h⟩ := mv_ck_h h
      obtain ⟨q0, hq0, hg⟩ := mv_getcell hF hW hm hro
      simp only [mv_cel, hs] at hg
      refine va_zast hx hb hKn hW.1 hW.2.1 hS q0 1 hg (h3 hro).1 (mv_vpin hox hin) hdg (fun H1 locs1 hP1 hD1 hS1 => ?_)
      have e1 : vp_nar .boolean (Int32.ofInt v) = Int32.ofInt v := by
        rcases (show v = 0 ∨ v = 1 by omega) with rfl | rfl <;> rfl
      rw [mv_clamp hox hin.1, e1] at hP1 hD1
      refine go h H1 locs1 lsC (mv_Wd_put hF hW hov hq0 ?_ hP1 hD1) hS1 hL hst
      simp only [mv_cel, hs, mv_upd]
  case aaload =>
    dsimp only at h
    split at h <;> try contradiction
    next x q r =>
    obtain ⟨hox, hst⟩ := mv_okc hst
    obtain ⟨ho, hst⟩ := mv_okc hst
    cases Nat.eq_of_beq_eq_true hi
    split at h <;> try contradiction
    rename sh q = some _ => hs
    have hm := mv_no999 hF hs ho
    rw [List.map_cons, List.map_cons, show mv_V ad (.inr (q, 0)) = .ref (mv_ra (ad q 0)) from mv_ref_of hF hm]
    obtain ⟨hn, hw, h3⟩ := hF.1 _ _ _ _ _ hm hs
    obtain ⟨hin, h⟩ := mv_ck_h h
    cases hro : Nat.ble 1000 q with
    | true => exact absurd hs (hro3 _ hro _ _)
    | false =>
    obtain ⟨q0, hq0, hg⟩ := mv_getcell hF hW hm hro
    simp only [mv_cel, hs] at hg
    have hm2 := ((h3 hro).2 rfl).2 x.toNat (by omega)
    have hlt : (Int32.ofInt x).toNatClampNeg < _ := Nat.not_le.mp fun q => mv_vpin hox hin (Or.inr q)
    refine W.aald (v := ad q (x.toNat + 1)) (ty := .array .int) hx hb (hW.1 q0 _ hg) ((hKn.2 3 _ (h3 hro).1).1 _ (fun j => va_rf (if j < _ then some (mv_ra (ad q (j + 1))) else none))) rfl (fun q => by cases q) (by show ¬ (_ < 0 ∨ (arrV _ _ _).slots.size ≤ _); rw [arrV_size]; exact mv_vpin hox hin) (by show (arrV _ _ _).slots[_]? = _; rw [arrV_read _ _ hlt]; simp only [hlt, if_true]; rw [mv_clamp hox hin.1]; exact congrArg some (mv_ref_of hF (List.mem_append_left _ hm2)).symm) rfl rfl hdg ?_
    exact go h H locs lsC hW hS hL (mv_oks (Or.inl (List.mem_append_left _ hm2)) hst)
  case ireturn =>
    dsimp only at h
    cases Nat.eq_of_beq_eq_true hi
    split at h <;> try contradiction
    · next v hb0 =>
      cases h
      exact (hfin H locs lsC pc hW hS).1 (mv_okc hst).1 (fun lo hi h => by rw [hb0] at h; cases h) (mv_lk_mem hlk) hdg
    · next v lo hi hb0 =>
      split at h <;> try contradiction
      next hv =>
      cases h
      exact (hfin H locs lsC pc hW hS).1 (mv_okc hst).1 (fun lo' hi' h => by rw [hb0] at h; cases h; exact hv) (mv_lk_mem hlk) hdg
  case return_ =>
    dsimp only at h
    cases Nat.eq_of_beq_eq_true hi
    split at h <;> try contradiction
    cases h
    exact (hfin H locs lsC pc hW hS).2 rfl (mv_lk_mem hlk) hdg
  case lookupswitch d ps =>
    dsimp only at h
    split at h <;> try contradiction
    next x r =>
    simp only [mv_iok, Bool.and_eq_true, decide_eq_true_eq] at hi
    obtain ⟨⟨i1, i2⟩, i3⟩ := hi
    obtain ⟨h1, h2⟩ := mv_lks_h h i1 i2
    exact lv_lookup hx hb hdg i3 (by rw [mv_toInt (mv_okc hst).1]) (mv_tg_of h2) (go h1 H locs lsC hW hS hL (mv_okc hst).2)
  case tableswitch d lo hi0 ofs =>
    dsimp only at h
    split at h <;> try contradiction
    next x r =>
    simp only [mv_iok, Bool.and_eq_true, decide_eq_true_eq] at hi
    obtain ⟨⟨i1, i2⟩, i3⟩ := hi
    by_cases hlo : x < lo
    · exact lv_tableOut hx hb hdg (Or.inl (by rw [mv_toInt (mv_okc hst).1]; exact hlo)) (mv_tg_of i1) (go (mv_tbs_lo hlo h) H locs lsC hW hS hL (mv_okc hst).2)
    · rcases mv_tbs_h h with (h1 | ⟨h1, h2⟩) | ⟨h1, t', h2, h3⟩
      · exact absurd h1 hlo
      · exact lv_tableOut hx hb hdg (Or.inr (by rw [mv_toInt (mv_okc hst).1]; omega)) (mv_tg_of i1) (go h2 H locs lsC hW hS hL (mv_okc hst).2)
      · have hl := (List.getElem?_eq_some_iff.mp h2).1
        have h0 := List.all_eq_true.mp i2 t' (List.mem_of_getElem? h2)
        exact lv_tableIn hx hb hdg (by rw [mv_toInt (mv_okc hst).1]; exact hlo) (by rw [mv_toInt (mv_okc hst).1]; omega) (by rw [mv_toInt (mv_okc hst).1, ← Array.getElem?_toList]; exact h2) (mv_tg_of (of_decide_eq_true h0)) (go h3 H locs lsC hW hS hL (mv_okc hst).2)
  case invokevirtual k =>
    dsimp only at h
    split at h <;> try contradiction
    next n ci vo f hf =>
    cases Nat.eq_of_beq_eq_true hi
    exact mv_call_snd hF hL hW hS hst (hCal _ (mv_lk_mem hf)) hdg h (fun H1 locs1 h1 h2 st' h3 h4 => go h4 H1 locs1 lsC h1 h2 hL h3)
  case invokestatic k =>
    dsimp only at h
    split at h <;> try contradiction
    next n vo f hf =>
    cases Nat.eq_of_beq_eq_true hi
    exact mv_call_snd hF hL hW hS hst (hCal _ (mv_lk_mem hf)) hdg h (fun H1 locs1 h1 h2 st' h3 h4 => go h4 H1 locs1 lsC h1 h2 hL h3)
  all_goals first
    | (simp [mv_op] at h; done)
    | (dsimp only at h
       split at h
       · next r hop => exact mv_op_snd hF hx hb hdg hi hop hst (fun hst' => go h H locs lsC hW hS hL hst')
       · contradiction)
end MV
end
section
/-! A method as a flat machine over its cuts; its contract. -/
def mv_go (rc : mv_G) (M : mv_M) (sh : Nat → Option mv_S) (N : Nat) : Nat → Nat → mv_L → mv_G → Option (Int × mv_G)
  | 0, _, _, _ => none
  | f + 1, pc, ls, G => match mv_rg rc M sh N pc ls [] G with
    | none => none
    | some (.inl r) => some r
    | some (.inr (pc', ls', G')) => mv_go rc M sh N f pc' ls' G'
def mv_Ev (rc : mv_G) (M : mv_M) (sh : Nat → Option mv_S) (N : Nat) (pc : Nat) (ls : mv_L) (G : mv_G) (x : Int × mv_G) : Prop := ∃ f, mv_go rc M sh N f pc ls G = some x
def mv_in0l (nL : Nat) (as : List mv_A) : mv_L := as.map some ++ List.replicate (nL - as.length) none
noncomputable def mv_fn (rc : mv_G) (M : mv_M) (sh : Nat → Option mv_S) (N nL : Nat) : mv_F := fun as G =>
  @dite _ (∃ x, mv_Ev rc M sh N 0 (mv_in0l nL as) G x) (Classical.propDecidable _) (fun h => some h.choose) (fun _ => none)
theorem mv_go_mono {rc : mv_G} {M : mv_M} {sh : Nat → Option mv_S} {N : Nat} {x : Int × mv_G} : ∀ {f g pc : Nat} {ls : mv_L} {G : mv_G}, f ≤ g → mv_go rc M sh N f pc ls G = some x → mv_go rc M sh N g pc ls G = some x
  | 0, _, _, _, _, _, h => by cases h
  | f + 1, 0, _, _, _, hle, _ => by omega
  | f + 1, g + 1, pc, ls, G, hle, h => by
    simp only [mv_go] at h ⊢
    split at h
    · cases h
    · exact h
    · exact mv_go_mono (by omega) h
theorem mv_Ev_det {rc : mv_G} {M : mv_M} {sh : Nat → Option mv_S} {N pc : Nat} {ls : mv_L} {G : mv_G} {x y : Int × mv_G} (h1 : mv_Ev rc M sh N pc ls G x) (h2 : mv_Ev rc M sh N pc ls G y) : x = y := by
  obtain ⟨f, h1⟩ := h1
  obtain ⟨g, h2⟩ := h2
  have a := mv_go_mono (Nat.le_max_left f g) h1
  have b := mv_go_mono (Nat.le_max_right f g) h2
  exact Option.some.inj (a.symm.trans b)
theorem mv_fn_of {rc : mv_G} {M : mv_M} {sh : Nat → Option mv_S} {N nL : Nat} {as : List mv_A} {G : mv_G} {x : Int × mv_G} (h : mv_Ev rc M sh N 0 (mv_in0l nL as) G x) : mv_fn rc M sh N nL as G = some x := by
  have h1 : ∃ x, mv_Ev rc M sh N 0 (mv_in0l nL as) G x := ⟨x, h⟩
  unfold mv_fn
  rw [dif_pos h1]
  exact congrArg some (mv_Ev_det h1.choose_spec h)
theorem mv_fn_to {rc : mv_G} {M : mv_M} {sh : Nat → Option mv_S} {N nL : Nat} {as : List mv_A} {G : mv_G} {x : Int × mv_G} (h : mv_fn rc M sh N nL as G = some x) : mv_Ev rc M sh N 0 (mv_in0l nL as) G x := by
  unfold mv_fn at h
  split at h
  · next h1 =>
    cases h
    exact h1.choose_spec
  · cases h
theorem mv_Ev.ret {rc : mv_G} {M : mv_M} {sh : Nat → Option mv_S} {N pc : Nat} {ls : mv_L} {G : mv_G} {x : Int × mv_G} (h : mv_rg rc M sh N pc ls [] G = some (.inl x)) : mv_Ev rc M sh N pc ls G x := ⟨1, by simp only [mv_go, h]⟩
theorem mv_Ev.cut {rc : mv_G} {M : mv_M} {sh : Nat → Option mv_S} {N pc pc' : Nat} {ls ls' : mv_L} {G G' : mv_G} {x : Int × mv_G} (h : mv_rg rc M sh N pc ls [] G = some (.inr (pc', ls', G'))) (k : mv_Ev rc M sh N pc' ls' G' x) : mv_Ev rc M sh N pc ls G x := by
  obtain ⟨f, k⟩ := k
  exact ⟨f + 1, by simp only [mv_go, h]; exact k⟩
section MV
variable {p : Program} {l : Launch} {e : Env} {R : Room} {s : State} {m : MethodId} {args : Array Value} {below : List Frame} {meth : Method} {c : Code} {cells slots : Nat} {Q : State → Prop}
variable {cc : ByteArray} {nL : Nat} {sh : Nat → Option mv_S} {ids ros : List (Nat × Nat)} {ad : Nat → Nat → Value} {cA : Nat → ClassId} {cl : List vw_C} {D : va_G} {tys : List (ClassId × FieldType)} {A : Nat → Prop} {rc : mv_G} {M : mv_M}
variable {H : Heap} {locs : List Loc} {lsC : Array Slot} {pc : Nat} {ls : mv_L} {st : List mv_A} {G : mv_G} {out : mv_O} {K : mv_K}
theorem mv_msk_len : ∀ (b : List Bool) (ls : mv_L), (mv_msk b ls).length = ls.length
  | [], _ => rfl
  | true :: b, v :: ls => by simp [mv_msk, mv_msk_len b ls]
  | false :: b, v :: ls => by simp [mv_msk, mv_msk_len b ls]
  | true :: _, [] => rfl
  | false :: _, [] => rfl
theorem mv_msk_get : ∀ {b : List Bool} {ls : mv_L} {i : Nat} {v : mv_A}, (mv_msk b ls)[i]? = some (some v) → ls[i]? = some (some v)
  | [], _, _, _, h => h
  | true :: b, w :: ls, 0, _, h => h
  | true :: b, w :: ls, i + 1, v, h => mv_msk_get (b := b) (ls := ls) (i := i) h
  | false :: b, w :: ls, 0, _, h => by simp [mv_msk] at h
  | false :: b, w :: ls, i + 1, v, h => mv_msk_get (b := b) (ls := ls) (i := i) h
  | true :: _, [], _, _, h => by simp [mv_msk] at h
  | false :: _, [], _, _, h => by simp [mv_msk] at h
theorem mv_LR_msk {b : List Bool} (h : mv_LR ids ros ad nL ls lsC) : mv_LR ids ros ad nL (mv_msk b ls) lsC := ⟨by rw [mv_msk_len]; exact h.1, h.2.1, h.2.2.1, fun i v hv => h.2.2.2 i v (mv_msk_get hv)⟩
theorem mv_nx_snd (hK : ∀ pc ls st G, mv_Snd p l e R s m args below meth c cells slots Q cc nL sh ids ros ad cA cl D A M pc ls st G (K pc ls st G)) : ∀ pc ls st G, mv_Snd p l e R s m args below meth c cells slots Q cc nL sh ids ros ad cA cl D A M pc ls st G (mv_nx M K pc ls st G) := by
  intro pc ls st G out h hfin H locs lsC hW hS hL hst
  unfold mv_nx at h
  split at h
  · exact hK pc ls st G out h hfin H locs lsC hW hS hL hst
  · split at h <;> try contradiction
    cases h
    exact hfin H locs lsC hW hS (mv_LR_msk hL)
/-- the world's fixed part, decided once -/
def mv_St (sh : Nat → Option mv_S) : Prop := (∀ k ci fs, sh k = some (.inr (ci, fs)) → Nat.ble 1000 k = true → Nat.ble 100 ci = true) ∧ (∀ k, Nat.ble 1000 k = true → ∀ n w, ¬ sh k = some (.inl (3, n, w))) ∧ (∀ k, Nat.ble 1000 k = false → ∀ n w, ¬ sh k = some (.inl (2, n, w))) ∧ (∀ k, Nat.ble 1000 k = true → ∀ n w, ¬ sh k = some (.inl (1, n, w))) ∧ (∀ k ci fs, sh k = some (.inr (ci, fs)) → Nat.ble 1000 k = false → Nat.ble 100 ci = false)
theorem mv_rg_snd {own : String} {Ts : List Cond} {cr : mv_R} (hX : mv_Ctx p s m args c cc nL sh cl D tys own Ts cr M) (hF : mv_Fix sh ids ros ad cA tys A rc) (hR : mv_RO sh ros ad A rc cr s) (hs : mv_St sh)
    (hC : mv_cst p l e R s m args below meth c cells slots Q cc ids ros ad A M) (hCal : ∀ x ∈ M.2.2.2.2.1, mv_Cal p l e R s m args below meth c cells slots Q cc nL sh ids ros ad cA cl D A x.1 x.2.1 x.2.2.1 x.2.2.2.1 x.2.2.2.2) :
    ∀ (n : Nat) pc ls st G, mv_Snd p l e R s m args below meth c cells slots Q cc nL sh ids ros ad cA cl D A M pc ls st G (mv_rg rc M sh n pc ls st G)
  | 0, _, _, _, _ => fun out h => by cases h
  | n + 1, pc, ls, st, G => mv_step_snd hX hF hR hs.1 hs.2.1 hs.2.2.1 hs.2.2.2.1 hs.2.2.2.2 hC hCal (mv_nx_snd (mv_rg_snd hX hF hR hs hC hCal n))
theorem mv_go_snd {own : String} {Ts : List Cond} {cr : mv_R} (hX : mv_Ctx p s m args c cc nL sh cl D tys own Ts cr M) (hF : mv_Fix sh ids ros ad cA tys A rc) (hR : mv_RO sh ros ad A rc cr s) (hs : mv_St sh)
    (hC : mv_cst p l e R s m args below meth c cells slots Q cc ids ros ad A M) (hCal : ∀ x ∈ M.2.2.2.2.1, mv_Cal p l e R s m args below meth c cells slots Q cc nL sh ids ros ad cA cl D A x.1 x.2.1 x.2.2.1 x.2.2.2.1 x.2.2.2.2) {N : Nat} {x : Int × mv_G} :
    ∀ {f pc : Nat} {ls : mv_L} {G : mv_G}, mv_go rc M sh N f pc ls G = some x → mv_Fin p l e R s m args below meth c cells slots Q cc nL sh ids ros ad cA cl D A M (.inl x) → ∀ (H : Heap) (locs : List Loc) (lsC : Array Slot), mv_Wd sh ids ad cA cl D A G H → va_S A s.heap H locs → mv_LR ids ros ad nL ls lsC → W p l e R s m args below meth c H locs cells slots Q (F0 m pc lsC [])
  | 0, _, _, _, h => by cases h
  | f + 1, pc, ls, G, h => by
    intro hfin H locs lsC hW hS hL
    simp only [mv_go] at h
    split at h
    · cases h
    · next r e =>
      cases h
      exact mv_rg_snd hX hF hR hs hC hCal N pc ls [] G _ e hfin H locs lsC hW hS hL (fun v hv => by cases hv)
    · next pc' ls' G' e =>
      exact mv_rg_snd hX hF hR hs hC hCal N pc ls [] G _ e (fun H1 locs1 lsC1 h1 h2 h3 => mv_go_snd hX hF hR hs hC hCal h hfin H1 locs1 lsC1 h1 h2 h3) H locs lsC hW hS hL (fun v hv => by cases hv)
/-- the world, as a contract has it -/
def mv_Wo (sh : Nat → Option mv_S) (ids ros : List (Nat × Nat)) (ad : Nat → Nat → Value) (cA : Nat → ClassId) (cl : List vw_C) (D : va_G) (tys : List (ClassId × FieldType)) (A : Nat → Prop) (rc : mv_G) (cr : mv_R) (EX : State → Prop) (G : mv_G) (U : State) : Prop :=
  mv_Wd sh ids ad cA cl D A G U.heap ∧ va_K D cl tys U ∧ mv_RO sh ros ad A rc cr U ∧ EX U
/-- the contract of a method -/
def mv_Met (l : Launch) (y : MethodName) (bytes : ByteArray) (maxL : Nat) (ret : Option FieldType) (Ts : List Cond) (rm : Room) (n : Nat) (vo : Bool) (sh : Nat → Option mv_S) (ids ros : List (Nat × Nat)) (ad : Nat → Nat → Value) (cA : Nat → ClassId) (cl : List vw_C) (D : va_G) (tys : List (ClassId × FieldType)) (A : Nat → Prop) (rc : mv_G) (cr : mv_R) (EX : State → Prop) (f : mv_F) : Prop :=
  ∀ (as : List mv_A) (G G' : mv_G) (r : Int), as.length = n → (∀ v ∈ as, mv_okV ids ros v) → f as G = some (r, G') →
    Met l y (.code y bytes maxL ret :: Ts) rm (va_Pc (as.map (mv_V ad)) (mv_Wo sh ids ros ad cA cl D tys A rc cr EX G))
      (match vo with | true => va_Qv (fun _ : Unit => True) (fun _ t => mv_Wd sh ids ad cA cl D A G' t.heap) A | false => va_Qi (fun (q : Int32) (_ : Unit) => q = Int32.ofInt r ∧ mv_in r) (fun _ t => mv_Wd sh ids ad cA cl D A G' t.heap) A) 0 0 A
theorem mv_sl {vs : List Value} (h : ∀ v ∈ vs, v.category = 1) : lg_sl vs = vs.map Slot.val := by
  induction vs with
  | nil => rfl
  | cons v vs ih =>
    have h1 := h v List.mem_cons_self
    have h2 := ih fun w hw => h w (List.mem_cons_of_mem _ hw)
    show (if v.category = 2 then [Slot.val v, .second] else [.val v]) ++ lg_sl vs = _
    rw [h1, h2]
    rfl
theorem mv_in0_get {as : List mv_A} {nL i : Nat} {v : mv_A} (h : (mv_in0l nL as)[i]? = some (some v)) : as[i]? = some v := by
  unfold mv_in0l at h
  by_cases hi : i < (as.map some).length
  · rw [List.getElem?_append_left hi, List.getElem?_map] at h
    cases hv : as[i]? with
    | none => rw [hv] at h; cases h
    | some w => rw [hv] at h; cases h; rfl
  · rw [List.getElem?_append_right (by omega), List.getElem?_replicate] at h
    split at h <;> cases h
/-- the narrowing that an answer bears -/
def mv_rz (vo : Bool) (ret : Option FieldType) (M : mv_M) : Prop := match vo with
  | true => ret = none ∧ ∀ x ∈ M.1, x.2.1 ≠ .ireturn
  | false => (∃ ty, ret = some ty ∧ ∀ v : Int, mv_in v → (∀ lo hi, M.2.2.2.2.2.2 = some (lo, hi) → lo ≤ v ∧ v ≤ hi) → narrow ty (.int (Int32.ofInt v)) = .int (Int32.ofInt v)) ∧ ∀ x ∈ M.1, x.2.1 ≠ .return_
/-- what is known where a method's body begins -/
def mv_Bg (p : Program) (s : State) (m : MethodId) (args : Array Value) (c : Code) (cc : ByteArray) (nL : Nat) (own : String) (Ts : List Cond) : Prop := p.tables.exec = Jvm.exec ∧ c.code = cc ∧ s.vm.findClass own = some m.cls ∧ (∀ w ∈ Ts, w.before args s = true) ∧ c.maxLocals = nL
theorem mv_met_of {y : MethodName} {ret : Option FieldType} {Ts : List Cond} {rm : Room} {n : Nat} {vo : Bool} {cr : mv_R} {EX : State → Prop} {N : Nat} (hy : plainName y.cls = true) (hn : n ≤ nL) (hF : mv_Fix sh ids ros ad cA tys A rc) (hs : mv_St sh) (hrz : mv_rz vo ret M)
    (hcls : ∀ (ci : Nat) (q : vw_C), cl[ci]? = some q → (∀ w ∈ u_ws q.1 q.2.1 q.2.2, w ∈ Ts) ∧ (∃ ty0 : Nat → FieldType, ∀ k, k < q.2.2 → parseFieldDescriptor (q.2.1 k).2.2.1 = some (ty0 k)) ∧ (∀ a, a < q.2.2 → ∀ b, b < q.2.2 → a ≠ b → (q.2.1 a).2.1 ≠ (q.2.1 b).2.1))
    (hcode : ∀ x ∈ M.1, decode cc x.1 = .ok (x.2.1, x.2.2) ∧ mv_iok x.1 x.2.1 x.2.2 = true)
    (hfld : ∀ x ∈ M.2.1, (Nat.ble 100 x.2.1 = true → Cond.fieldLink y.cls x.1 (cr x.2.1).1 ((cr x.2.1).2 x.2.2.1).1 ((cr x.2.1).2 x.2.2.1).2 ∈ Ts) ∧ (Nat.ble 100 x.2.1 = false → ∃ q : vw_C, cl[x.2.1]? = some q ∧ x.2.2.1 < q.2.2 ∧ Cond.fieldLink y.cls x.1 (q.2.1 x.2.2.1).1 (q.2.1 x.2.2.1).2.1 (q.2.1 x.2.2.1).2.2.1 ∈ Ts ∧
      (x.2.2.2 = 0 ∨ x.2.2.2 = 1 → (q.2.1 x.2.2.1).2.2.2 = false ∧ parseFieldDescriptor (q.2.1 x.2.2.1).2.2.1 = some (if x.2.2.2 = 1 then .boolean else .int))))
    (hC : ∀ (p : Program) (e : Env) (s : State) (m : MethodId) (args : Array Value) (below : List Frame) (meth : Method) (c : Code) (Q : State → Prop), mv_Bg p s m args c cc nL y.cls Ts → EX s → mv_RO sh ros ad A rc cr s → mv_cst p l e rm s m args below meth c 0 0 Q cc ids ros ad A M)
    (hCal : ∀ (p : Program) (e : Env) (s : State) (m : MethodId) (args : Array Value) (below : List Frame) (meth : Method) (c : Code) (Q : State → Prop), mv_Bg p s m args c cc nL y.cls Ts → EX s → mv_RO sh ros ad A rc cr s → va_K D cl tys s → ∀ x ∈ M.2.2.2.2.1, mv_Cal p l e rm s m args below meth c 0 0 Q cc nL sh ids ros ad cA cl D A x.1 x.2.1 x.2.2.1 x.2.2.2.1 x.2.2.2.2) :
    mv_Met l y cc nL ret Ts rm n vo sh ids ros ad cA cl D tys A rc cr EX (mv_fn rc M sh N nL) := by
  intro as G G' r hlen has hf
  obtain ⟨fu, hgo⟩ := mv_fn_to hf
  refine Met.ofW (cc := cc) (maxL := nL) (ret := ret) hy rfl ?_
  intro p e s m args below meth c s₁ B hml hv
  obtain ⟨rfl, hW, hK, hR, hE⟩ := hv
  have hx := B.exec
  have hb := B.bytes
  have hr := B.returns
  have hlocks := B.notSynchronized
  have hts0 := atoms_spec (ws := .code y cc nL ret :: Ts) B.pre
  have hts : ∀ w ∈ Ts, w.before (as.map (mv_V ad)).toArray s = true := fun w h => hts0 w (List.mem_cons_of_mem _ h)
  have hown : s.vm.findClass y.cls = some m.cls := findClass_of_methodNamed B.named
  have hcat : ∀ v ∈ as.map (mv_V ad), v.category = 1 := fun v hv => by
    obtain ⟨w, -, rfl⟩ := List.mem_map.mp hv
    exact mv_okcat hF
  have hlsl : (lg_sl (as.map (mv_V ad))).length = n := by rw [mv_sl hcat]; simp [hlen]
  have hl := lv_entry (as.map (mv_V ad)) (n := nL) (by rw [hlsl]; exact hn)
  have hL : mv_LR ids ros ad nL (mv_in0l nL as) ((lg_sl (as.map (mv_V ad)) ++ List.replicate (nL - (lg_sl (as.map (mv_V ad))).length) Slot.unset).toArray) := by
    refine ⟨by simp [mv_in0l]; omega, hl.1, hl.2.1, fun i v hi => ?_⟩
    have h1 := mv_in0_get hi
    refine ⟨?_, has v (List.mem_of_getElem? h1)⟩
    have h2 := (List.getElem?_eq_some_iff.mp h1).1
    rw [List.getElem?_toArray, mv_sl hcat, List.getElem?_append_left (by simp; omega)]
    simp [h1]
  rw [lg_entry_eq]
  have hBg : mv_Bg p s m (as.map (mv_V ad)).toArray c cc nL y.cls Ts := ⟨hx, hb, hown, hts, hml⟩
  refine mv_go_snd (own := y.cls) (Ts := Ts) (cr := cr) (M := M) ⟨hx, hb, hown, hts, hK, hml, hcls, hcode, fun x h => ⟨fun h1 => hts _ ((hfld x h).1 h1), fun h1 => ?_⟩⟩ hF hR hs (hC p e s m _ below meth c _ hBg hE hR) (hCal p e s m _ below meth c _ hBg hE hR hK) hgo ?_ s.heap [] _ hW va_S.rf hL
  · obtain ⟨q, e1, e2, e3, e4⟩ := (hfld x h).2 h1
    exact ⟨q, e1, e2, hts _ e3, e4⟩
  · intro H locs lsC pc hW1 hS1
    cases vo with
    | true =>
      obtain ⟨hret, hno⟩ := hrz
      refine ⟨fun _ _ hm _ => absurd rfl (hno _ hm), fun _ _ hdg => ?_⟩
      exact W.vret hx hb (hr.trans hret) (fun t ht hW => ⟨⟨(), rfl, trivial, by show mv_Wd sh ids ad cA cl D A G' t.heap; rw [ht]; exact hW1⟩, hS1.F ht⟩) hS1.2.2 hdg
    | false =>
      obtain ⟨⟨ty, hret, hnr⟩, hno⟩ := hrz
      refine ⟨fun hin hbd hm hdg => ?_, fun _ hm _ => absurd rfl (hno _ hm)⟩
      exact W.zret (ty := ty) hx hb (hr.trans hret) (hnr _ hin hbd) (fun t ht hW => ⟨⟨_, (), rfl, ⟨rfl, hin⟩, by show mv_Wd sh ids ad cA cl D A G' t.heap; rw [ht]; exact hW1⟩, hS1.F ht⟩) hS1.2.2 hdg
theorem mv_RO.go {s U : State} {cr : mv_R} (h : mv_RO sh ros ad A rc cr s) (hvm : s.vm.Alike U.vm) (hq : ∀ a : Nat, a < s.heap.size → ¬ A a → U.heap[a]? = s.heap[a]?) : mv_RO sh ros ad A rc cr U := by
  intro k hk
  have h1 := h k hk
  split at h1
  · exact (va_T.moved hvm h1).kept hq
  · exact (va_T.moved hvm h1).kept hq
  · exact ⟨(va_O.moved hvm h1.1).kept hq, fun j r hr => (va_OF.moved hvm (h1.2 j r hr)).kept hq⟩
  · trivial
/-- the outer conditions bear calls -/
def mv_EXok (A : Nat → Prop) (EX : State → Prop) : Prop := (∀ (U : State) (g : JFrame) (mk : MethodId) (a : Array Value), EX U → EX (U.calling g mk a)) ∧ ∀ s U : State, EX s → s.WarmedH U.vm → (∀ a : Nat, a < s.heap.size → ¬ A a → U.heap[a]? = s.heap[a]?) → EX U
theorem mv_Wo_blind {cr : mv_R} {EX : State → Prop} {av : List Value} (hE : mv_EXok A EX) : FrameBlind (va_Pc av (mv_Wo sh ids ros ad cA cl D tys A rc cr EX G)) := fun a U g mk q =>
  ⟨q.1, q.2.1, va_K.moved (u := U) (U := U.calling g mk a) (Vm.Alike.refl U.vm) q.2.2.1, mv_RO.go (s := U) (U := U.calling g mk a) q.2.2.2.1 (Vm.Alike.refl U.vm) (fun _ _ _ => rfl), hE.1 U g mk a q.2.2.2.2⟩
theorem mv_Wo_at {cr : mv_R} {EX : State → Prop} {U : State} (hE : mv_EXok A EX) (hK : va_K D cl tys s) (hR : mv_RO sh ros ad A rc cr s) (hX : EX s) (hW : mv_Wd sh ids ad cA cl D A G H) (hS : va_S A s.heap H locs) (hU : U.heap = H) (hW1 : s.WarmedH U.vm) : mv_Wo sh ids ros ad cA cl D tys A rc cr EX G U := by
  have hq : ∀ a : Nat, a < s.heap.size → ¬ A a → U.heap[a]? = s.heap[a]? := fun a h1 h2 => by rw [hU]; exact hS.2.1 a h1 h2
  exact ⟨by rw [hU]; exact hW, va_K.moved hW1.alike hK, mv_RO.go hR hW1.alike hq, hE.2 s U hX hW1 hq⟩
def mv_nat (p : Option Nat) : Bool := match p with | some _ => true | none => false
theorem mv_cal_of {y : MethodName} {by2 : ByteArray} {mL : Nat} {ret : Option FieldType} {Ts : List Cond} {rm : Room} {n idx : Nat} {rv : Option Nat} {vo : Bool} {cr : mv_R} {EX : State → Prop} {f : mv_F} {own : String} (hM : mv_Met l y by2 mL ret Ts rm n vo sh ids ros ad cA cl D tys A rc cr EX f)
    (hBg : mv_Bg p s m args c cc nL own Ts) (hX : EX s) (hR : mv_RO sh ros ad A rc cr s) (hK : va_K D cl tys s) (hE : mv_EXok A EX) (hF : mv_Fix sh ids ros ad cA tys A rc) (hgood : ∀ w ∈ Ts, goodWord w = true) (hs : mv_St sh)
    (hw : Cond.code y by2 mL ret ∈ Ts ∧ Cond.methodLink own idx y ∈ Ts ∧ Cond.initialized y.cls ∈ Ts ∧ (∀ ci, rv = some ci → Cond.instanceMethod y ∈ Ts ∧ Cond.selects y.cls y y ∈ Ts) ∧ (rv = none → Cond.static y ∈ Ts))
    (hy : y.cls ≠ "java/lang/invoke/MethodHandle" ∧ y.cls ≠ "java/lang/invoke/VarHandle" ∧ (parseMethodDescriptor y.desc).map (fun d => d.parameters.length) = some (match rv with | some _ => n - 1 | none => n))
    (hci : ∀ ci, rv = some ci → (Nat.ble 100 ci = true → (cr ci).1 = y.cls) ∧ (Nat.ble 100 ci = false → ∃ q : vw_C, cl[ci]? = some q ∧ q.1 = y.cls))
    (hrm : rm.cells = 0 ∧ rm.slots = 0 ∧ rm.frames + 1 ≤ R.frames ∧ 8 + (mL + 11) + rm.locals ≤ R.locals) (hro : cells ≤ R.cells ∧ slots ≤ R.slots) :
    mv_Cal p l e R s m args below meth c cells slots Q cc nL sh ids ros ad cA cl D A idx n rv vo f := by
  intro pc lsC as rest G G' r H locs hsz hdg hlen has hrv hrl hrc hf hW hS kk
  have hMet := hM as G G' r hlen has hf
  obtain ⟨hx, hb, hown, hts, hml⟩ := hBg
  obtain ⟨w1, w2, w3, w4, w5⟩ := hw
  obtain ⟨r1, r2, r3, r4⟩ := hrm
  have hgi : GoodIn Ts (.code y by2 mL ret :: Ts) := fun w h => by
    rcases List.mem_cons.mp h with rfl | h
    · exact ⟨w1, good_of_word (hgood _ w1)⟩
    · exact ⟨h, good_of_word (hgood _ h)⟩
  have hroom : 2 * (F0 m pc lsC ((as.map (mv_V ad)).reverse ++ rest)).monitorRoom + (rest.map fun v => v.category).sum ≤ 8 := by
    refine lv_room ?_
    have : ∀ r : List Value, (∀ v ∈ r, v.category = 1) → (r.map fun v => v.category).sum = r.length := by
      intro r
      induction r with
      | nil => intro _; rfl
      | cons v r ih =>
        intro h
        simp only [List.map_cons, List.sum_cons, List.length_cons]
        rw [h v List.mem_cons_self, ih fun w hw => h w (List.mem_cons_of_mem _ hw)]
        omega
    rw [this rest hrc]
    exact hrl
  have hA : ∀ q, q < H.size → A q → A q := fun _ _ h => h
  have run : va_Run p l e R s m args below meth c H locs cells slots 0 0 (F0 m pc lsC ((as.map (mv_V ad)).reverse ++ rest)) rest ((match vo with | true => va_Qv (fun _ : Unit => True) (fun _ t => mv_Wd sh ids ad cA cl D A G' t.heap) A | false => va_Qi (fun (q : Int32) (_ : Unit) => q = Int32.ofInt r ∧ mv_in r) (fun _ t => mv_Wd sh ids ad cA cl D A G' t.heap) A) (as.map (mv_V ad)).toArray) A := by
    cases rv with
    | none =>
      refine va_runS (As := as.map (mv_V ad)) (own := own) (Ts := Ts) (n := n) ⟨hx, hb, hml, hown, hts⟩ hMet ⟨callB_of n hts hgi rfl r1 r2 (hts _ w3) (hts _ w2) hy ⟨r3, r4⟩, hts _ (w5 rfl)⟩ ⟨mv_Wo_blind hE, fun U hU hW1 => ⟨rfl, mv_Wo_at hE hK hR hX hW hS hU hW1⟩⟩ rfl (by simp [hlen]) hsz rfl hroom hdg ⟨by omega, by omega⟩
    | some ci =>
      obtain ⟨k, as', fs, rfl, hk, hsh⟩ := hrv ci rfl
      have eV : mv_V ad (.inr (k, 0)) = .ref (mv_ra (ad k 0)) := mv_ref_of hF hk
      have hcell : ∃ cellB : Cell, H[mv_ra (ad k 0)]? = some cellB ∧ cellB.vm.isStatics = false ∧ s.vm.findClass y.cls = some cellB.cls := by
        cases hb1 : Nat.ble 1000 k with
        | true =>
          have hR1 := hR k (mv_getro hF hk hb1).1
          simp only [hsh] at hR1
          obtain ⟨cell, g1, g2, g3, -⟩ := hR1.1.kept hS.2.1
          exact ⟨cell, g1, g2, by rw [← (hci ci rfl).1 (hs.1 _ _ _ hsh hb1)]; exact g3⟩
        | false =>
          obtain ⟨q, q1, q2⟩ := (hci ci rfl).2 (hs.2.2.2.2 _ _ _ hsh hb1)
          obtain ⟨q0, hq0, hg⟩ := mv_getcell hF hW hk hb1
          simp only [mv_cel, hsh] at hg
          have := va_recv hK hW.1 q1 hg
          rw [q2] at this
          exact this
      obtain ⟨w6, w7⟩ := w4 ci rfl
      rw [List.map_cons, eV] at hMet ⊢
      refine va_runV (As := as'.map (mv_V ad)) (own := own) (Ts := Ts) (C := y.cls) (b := mv_ra (ad k 0)) (n := n - 1) ⟨hx, hb, hml, hown, hts⟩ hMet ⟨callB_of (n - 1) hts hgi rfl r1 r2 (hts _ w3) (hts _ w2) hy ⟨r3, r4⟩, hts _ w6, hts _ w7⟩ ⟨mv_Wo_blind hE, hcell, fun U hU hW1 => ⟨rfl, mv_Wo_at hE hK hR hX hW hS hU hW1⟩⟩ rfl (by simp only [List.length_map]; simp only [List.length_cons] at hlen; omega) hsz (by simp) (by simpa using hroom) hdg ⟨by omega, by omega⟩
  cases vo with
  | true => exact va_callv run hS hA (fun _ h => h) fun u t H1 locs1 ht hvm hp hB hz hk hS1 => kk H1 locs1 (by rw [← ht]; exact hB) hS1 (fun h => by cases h)
  | false =>
    refine va_calli run hS hA (fun _ h => h) fun q u t H1 locs1 ht hvm hp hB hz hk hS1 => ?_
    obtain ⟨rfl, hin⟩ := hp
    exact kk H1 locs1 (by rw [← ht]; exact hB) hS1 (fun _ => hin)
end MV
end
section
-- ===== PART A: goes FIRST, ahead of the names: the tables' words, and 'selects' of the private methods out of them =====
/-- a private method of a class that the tables say can be made, by its rows of tables_1 -/
def lw_okq (q : MethodName × Nat) : Prop := (q.1.cls ≠ "java/lang/invoke/MethodHandle" ∧ q.1.cls ≠ "java/lang/invoke/VarHandle") ∧ Cond.instantiable q.1.cls q.2 ∈ tables_1 ∧ Cond.privateMethod q.1 ∈ tables_1 ∧ Cond.instanceMethod q.1 ∈ tables_1
theorem lw_p0 : lw_okq (⟨"MoveUp$Bench", "findReach", "()V"⟩, 13) := ⟨⟨by decide +kernel, by decide +kernel⟩, List.mem_of_getElem? (i := 32) (by decide +kernel), List.mem_of_getElem? (i := 120) (by decide +kernel), List.mem_of_getElem? (i := 121) (by decide +kernel)⟩
theorem lw_p1 : lw_okq (⟨"MoveUp$Past", "save", "(LMoveUp$Bench;I)V"⟩, 6) := ⟨⟨by decide +kernel, by decide +kernel⟩, List.mem_of_getElem? (i := 201) (by decide +kernel), List.mem_of_getElem? (i := 555) (by decide +kernel), List.mem_of_getElem? (i := 556) (by decide +kernel)⟩
theorem lw_p2 : lw_okq (⟨"MoveUp$Row", "placeFor", "(I)I"⟩, 10) := ⟨⟨by decide +kernel, by decide +kernel⟩, List.mem_of_getElem? (i := 277) (by decide +kernel), List.mem_of_getElem? (i := 573) (by decide +kernel), List.mem_of_getElem? (i := 574) (by decide +kernel)⟩
theorem lw_p3 : lw_okq (⟨"MoveUp$Seats", "tellAsker", "()V"⟩, 3) := ⟨⟨by decide +kernel, by decide +kernel⟩, List.mem_of_getElem? (i := 325) (by decide +kernel), List.mem_of_getElem? (i := 590) (by decide +kernel), List.mem_of_getElem? (i := 591) (by decide +kernel)⟩
theorem lw_p4 : lw_okq (⟨"MoveUp$Row", "apart", "(I)I"⟩, 10) := ⟨⟨by decide +kernel, by decide +kernel⟩, List.mem_of_getElem? (i := 277) (by decide +kernel), List.mem_of_getElem? (i := 598) (by decide +kernel), List.mem_of_getElem? (i := 599) (by decide +kernel)⟩
theorem lw_p5 : lw_okq (⟨"MoveUp$Seats", "value", "(II)I"⟩, 3) := ⟨⟨by decide +kernel, by decide +kernel⟩, List.mem_of_getElem? (i := 325) (by decide +kernel), List.mem_of_getElem? (i := 615) (by decide +kernel), List.mem_of_getElem? (i := 616) (by decide +kernel)⟩
theorem lw_p6 : lw_okq (⟨"MoveUp$Seats", "warmInches", "(I)I"⟩, 3) := ⟨⟨by decide +kernel, by decide +kernel⟩, List.mem_of_getElem? (i := 325) (by decide +kernel), List.mem_of_getElem? (i := 627) (by decide +kernel), List.mem_of_getElem? (i := 628) (by decide +kernel)⟩
theorem lw_p7 : lw_okq (⟨"MoveUp$Law", "run", "(II[I)I"⟩, 7) := ⟨⟨by decide +kernel, by decide +kernel⟩, List.mem_of_getElem? (i := 42) (by decide +kernel), List.mem_of_getElem? (i := 638) (by decide +kernel), List.mem_of_getElem? (i := 639) (by decide +kernel)⟩
theorem lw_p8 : lw_okq (⟨"MoveUp$Acts", "countStanding", "()V"⟩, 6) := ⟨⟨by decide +kernel, by decide +kernel⟩, List.mem_of_getElem? (i := 438) (by decide +kernel), List.mem_of_getElem? (i := 650) (by decide +kernel), List.mem_of_getElem? (i := 651) (by decide +kernel)⟩
theorem lw_p9 : lw_okq (⟨"MoveUp$Room", "weigh", "(II)V"⟩, 9) := ⟨⟨by decide +kernel, by decide +kernel⟩, List.mem_of_getElem? (i := 341) (by decide +kernel), List.mem_of_getElem? (i := 685) (by decide +kernel), List.mem_of_getElem? (i := 686) (by decide +kernel)⟩
theorem lw_p10 : lw_okq (⟨"MoveUp$Room", "takesWithKeep", "(II)I"⟩, 9) := ⟨⟨by decide +kernel, by decide +kernel⟩, List.mem_of_getElem? (i := 341) (by decide +kernel), List.mem_of_getElem? (i := 689) (by decide +kernel), List.mem_of_getElem? (i := 690) (by decide +kernel)⟩
theorem lw_p11 : lw_okq (⟨"MoveUp$Room", "weightOf", "(III)I"⟩, 9) := ⟨⟨by decide +kernel, by decide +kernel⟩, List.mem_of_getElem? (i := 341) (by decide +kernel), List.mem_of_getElem? (i := 698) (by decide +kernel), List.mem_of_getElem? (i := 699) (by decide +kernel)⟩
theorem lw_p12 : lw_okq (⟨"MoveUp$Room", "settle", "(I)V"⟩, 9) := ⟨⟨by decide +kernel, by decide +kernel⟩, List.mem_of_getElem? (i := 341) (by decide +kernel), List.mem_of_getElem? (i := 710) (by decide +kernel), List.mem_of_getElem? (i := 711) (by decide +kernel)⟩
theorem lw_p13 : lw_okq (⟨"MoveUp$Reader", "split", "()V"⟩, 11) := ⟨⟨by decide +kernel, by decide +kernel⟩, List.mem_of_getElem? (i := 228) (by decide +kernel), List.mem_of_getElem? (i := 734) (by decide +kernel), List.mem_of_getElem? (i := 735) (by decide +kernel)⟩
theorem lw_p14 : lw_okq (⟨"MoveUp$Reader", "tokenOf", "(II)I"⟩, 11) := ⟨⟨by decide +kernel, by decide +kernel⟩, List.mem_of_getElem? (i := 228) (by decide +kernel), List.mem_of_getElem? (i := 744) (by decide +kernel), List.mem_of_getElem? (i := 745) (by decide +kernel)⟩
theorem lw_p15 : lw_okq (⟨"MoveUp$Reader", "wordOf", "(II)I"⟩, 11) := ⟨⟨by decide +kernel, by decide +kernel⟩, List.mem_of_getElem? (i := 228) (by decide +kernel), List.mem_of_getElem? (i := 748) (by decide +kernel), List.mem_of_getElem? (i := 749) (by decide +kernel)⟩
def lw_privs_1 : List (MethodName × Nat) := [(⟨"MoveUp$Bench", "findReach", "()V"⟩, 13), (⟨"MoveUp$Past", "save", "(LMoveUp$Bench;I)V"⟩, 6), (⟨"MoveUp$Row", "placeFor", "(I)I"⟩, 10), (⟨"MoveUp$Seats", "tellAsker", "()V"⟩, 3), (⟨"MoveUp$Row", "apart", "(I)I"⟩, 10), (⟨"MoveUp$Seats", "value", "(II)I"⟩, 3), (⟨"MoveUp$Seats", "warmInches", "(I)I"⟩, 3), (⟨"MoveUp$Law", "run", "(II[I)I"⟩, 7), (⟨"MoveUp$Acts", "countStanding", "()V"⟩, 6), (⟨"MoveUp$Room", "weigh", "(II)V"⟩, 9), (⟨"MoveUp$Room", "takesWithKeep", "(II)I"⟩, 9), (⟨"MoveUp$Room", "weightOf", "(III)I"⟩, 9), (⟨"MoveUp$Room", "settle", "(I)V"⟩, 9), (⟨"MoveUp$Reader", "split", "()V"⟩, 11), (⟨"MoveUp$Reader", "tokenOf", "(II)I"⟩, 11), (⟨"MoveUp$Reader", "wordOf", "(II)I"⟩, 11)]
theorem lw_r1 : ∀ q ∈ lw_privs_1, lw_okq q := List.forall_mem_cons.mpr ⟨lw_p0, List.forall_mem_cons.mpr ⟨lw_p1, List.forall_mem_cons.mpr ⟨lw_p2, List.forall_mem_cons.mpr ⟨lw_p3, List.forall_mem_cons.mpr ⟨lw_p4, List.forall_mem_cons.mpr ⟨lw_p5, List.forall_mem_cons.mpr ⟨lw_p6, List.forall_mem_cons.mpr ⟨lw_p7, List.forall_mem_cons.mpr ⟨lw_p8, List.forall_mem_cons.mpr ⟨lw_p9, List.forall_mem_cons.mpr ⟨lw_p10, List.forall_mem_cons.mpr ⟨lw_p11, List.forall_mem_cons.mpr ⟨lw_p12, List.forall_mem_cons.mpr ⟨lw_p13, List.forall_mem_cons.mpr ⟨lw_p14, List.forall_mem_cons.mpr ⟨lw_p15, fun _ h => absurd h List.not_mem_nil⟩⟩⟩⟩⟩⟩⟩⟩⟩⟩⟩⟩⟩⟩⟩⟩
theorem lw_p16 : lw_okq (⟨"MoveUp$Reader", "addToken", "(II)V"⟩, 11) := ⟨⟨by decide +kernel, by decide +kernel⟩, List.mem_of_getElem? (i := 228) (by decide +kernel), List.mem_of_getElem? (i := 857) (by decide +kernel), List.mem_of_getElem? (i := 858) (by decide +kernel)⟩
theorem lw_p17 : lw_okq (⟨"MoveUp$Reader", "readDay", "(I)V"⟩, 11) := ⟨⟨by decide +kernel, by decide +kernel⟩, List.mem_of_getElem? (i := 228) (by decide +kernel), List.mem_of_getElem? (i := 861) (by decide +kernel), List.mem_of_getElem? (i := 862) (by decide +kernel)⟩
theorem lw_p18 : lw_okq (⟨"MoveUp$Reader", "fail", "(I)V"⟩, 11) := ⟨⟨by decide +kernel, by decide +kernel⟩, List.mem_of_getElem? (i := 228) (by decide +kernel), List.mem_of_getElem? (i := 865) (by decide +kernel), List.mem_of_getElem? (i := 866) (by decide +kernel)⟩
theorem lw_p19 : lw_okq (⟨"MoveUp$Reader", "step", "()V"⟩, 11) := ⟨⟨by decide +kernel, by decide +kernel⟩, List.mem_of_getElem? (i := 228) (by decide +kernel), List.mem_of_getElem? (i := 869) (by decide +kernel), List.mem_of_getElem? (i := 870) (by decide +kernel)⟩
theorem lw_p20 : lw_okq (⟨"MoveUp$Reader", "readNumber", "(I)I"⟩, 11) := ⟨⟨by decide +kernel, by decide +kernel⟩, List.mem_of_getElem? (i := 228) (by decide +kernel), List.mem_of_getElem? (i := 873) (by decide +kernel), List.mem_of_getElem? (i := 874) (by decide +kernel)⟩
theorem lw_p21 : lw_okq (⟨"MoveUp$Reader", "take", "(I)V"⟩, 11) := ⟨⟨by decide +kernel, by decide +kernel⟩, List.mem_of_getElem? (i := 228) (by decide +kernel), List.mem_of_getElem? (i := 877) (by decide +kernel), List.mem_of_getElem? (i := 878) (by decide +kernel)⟩
theorem lw_p22 : lw_okq (⟨"MoveUp$Reader", "readLaw", "()V"⟩, 11) := ⟨⟨by decide +kernel, by decide +kernel⟩, List.mem_of_getElem? (i := 228) (by decide +kernel), List.mem_of_getElem? (i := 885) (by decide +kernel), List.mem_of_getElem? (i := 886) (by decide +kernel)⟩
theorem lw_p23 : lw_okq (⟨"MoveUp$Reader", "readSum", "()V"⟩, 11) := ⟨⟨by decide +kernel, by decide +kernel⟩, List.mem_of_getElem? (i := 228) (by decide +kernel), List.mem_of_getElem? (i := 890) (by decide +kernel), List.mem_of_getElem? (i := 891) (by decide +kernel)⟩
theorem lw_p24 : lw_okq (⟨"MoveUp$Reader", "readProduct", "()V"⟩, 11) := ⟨⟨by decide +kernel, by decide +kernel⟩, List.mem_of_getElem? (i := 228) (by decide +kernel), List.mem_of_getElem? (i := 894) (by decide +kernel), List.mem_of_getElem? (i := 895) (by decide +kernel)⟩
theorem lw_p25 : lw_okq (⟨"MoveUp$Reader", "isTerm", "(I)Z"⟩, 11) := ⟨⟨by decide +kernel, by decide +kernel⟩, List.mem_of_getElem? (i := 228) (by decide +kernel), List.mem_of_getElem? (i := 898) (by decide +kernel), List.mem_of_getElem? (i := 899) (by decide +kernel)⟩
theorem lw_p26 : lw_okq (⟨"MoveUp$Reader", "readClaims", "(II)V"⟩, 11) := ⟨⟨by decide +kernel, by decide +kernel⟩, List.mem_of_getElem? (i := 228) (by decide +kernel), List.mem_of_getElem? (i := 906) (by decide +kernel), List.mem_of_getElem? (i := 907) (by decide +kernel)⟩
theorem lw_p27 : lw_okq (⟨"MoveUp$Reader", "readClaim", "(I)V"⟩, 11) := ⟨⟨by decide +kernel, by decide +kernel⟩, List.mem_of_getElem? (i := 228) (by decide +kernel), List.mem_of_getElem? (i := 910) (by decide +kernel), List.mem_of_getElem? (i := 911) (by decide +kernel)⟩
theorem lw_p28 : lw_okq (⟨"MoveUp$Filling", "fewest", "([III)I"⟩, 8) := ⟨⟨by decide +kernel, by decide +kernel⟩, List.mem_of_getElem? (i := 378) (by decide +kernel), List.mem_of_getElem? (i := 1029) (by decide +kernel), List.mem_of_getElem? (i := 1030) (by decide +kernel)⟩
theorem lw_p29 : lw_okq (⟨"MoveUp$Filling", "isClear", "([II)Z"⟩, 8) := ⟨⟨by decide +kernel, by decide +kernel⟩, List.mem_of_getElem? (i := 378) (by decide +kernel), List.mem_of_getElem? (i := 1033) (by decide +kernel), List.mem_of_getElem? (i := 1034) (by decide +kernel)⟩
theorem lw_p30 : lw_okq (⟨"MoveUp$Filling", "most", "(II)I"⟩, 8) := ⟨⟨by decide +kernel, by decide +kernel⟩, List.mem_of_getElem? (i := 378) (by decide +kernel), List.mem_of_getElem? (i := 1038) (by decide +kernel), List.mem_of_getElem? (i := 1039) (by decide +kernel)⟩
theorem lw_p31 : lw_okq (⟨"MoveUp$Filling", "mean", "(II)I"⟩, 8) := ⟨⟨by decide +kernel, by decide +kernel⟩, List.mem_of_getElem? (i := 378) (by decide +kernel), List.mem_of_getElem? (i := 1042) (by decide +kernel), List.mem_of_getElem? (i := 1043) (by decide +kernel)⟩
def lw_privs_2 : List (MethodName × Nat) := [(⟨"MoveUp$Reader", "addToken", "(II)V"⟩, 11), (⟨"MoveUp$Reader", "readDay", "(I)V"⟩, 11), (⟨"MoveUp$Reader", "fail", "(I)V"⟩, 11), (⟨"MoveUp$Reader", "step", "()V"⟩, 11), (⟨"MoveUp$Reader", "readNumber", "(I)I"⟩, 11), (⟨"MoveUp$Reader", "take", "(I)V"⟩, 11), (⟨"MoveUp$Reader", "readLaw", "()V"⟩, 11), (⟨"MoveUp$Reader", "readSum", "()V"⟩, 11), (⟨"MoveUp$Reader", "readProduct", "()V"⟩, 11), (⟨"MoveUp$Reader", "isTerm", "(I)Z"⟩, 11), (⟨"MoveUp$Reader", "readClaims", "(II)V"⟩, 11), (⟨"MoveUp$Reader", "readClaim", "(I)V"⟩, 11), (⟨"MoveUp$Filling", "fewest", "([III)I"⟩, 8), (⟨"MoveUp$Filling", "isClear", "([II)Z"⟩, 8), (⟨"MoveUp$Filling", "most", "(II)I"⟩, 8), (⟨"MoveUp$Filling", "mean", "(II)I"⟩, 8)]
theorem lw_r2 : ∀ q ∈ lw_privs_2, lw_okq q := List.forall_mem_cons.mpr ⟨lw_p16, List.forall_mem_cons.mpr ⟨lw_p17, List.forall_mem_cons.mpr ⟨lw_p18, List.forall_mem_cons.mpr ⟨lw_p19, List.forall_mem_cons.mpr ⟨lw_p20, List.forall_mem_cons.mpr ⟨lw_p21, List.forall_mem_cons.mpr ⟨lw_p22, List.forall_mem_cons.mpr ⟨lw_p23, List.forall_mem_cons.mpr ⟨lw_p24, List.forall_mem_cons.mpr ⟨lw_p25, List.forall_mem_cons.mpr ⟨lw_p26, List.forall_mem_cons.mpr ⟨lw_p27, List.forall_mem_cons.mpr ⟨lw_p28, List.forall_mem_cons.mpr ⟨lw_p29, List.forall_mem_cons.mpr ⟨lw_p30, List.forall_mem_cons.mpr ⟨lw_p31, fun _ h => absurd h List.not_mem_nil⟩⟩⟩⟩⟩⟩⟩⟩⟩⟩⟩⟩⟩⟩⟩⟩
theorem lw_p32 : lw_okq (⟨"MoveUp$Filling", "meanOf", "(II)I"⟩, 8) := ⟨⟨by decide +kernel, by decide +kernel⟩, List.mem_of_getElem? (i := 378) (by decide +kernel), List.mem_of_getElem? (i := 1047) (by decide +kernel), List.mem_of_getElem? (i := 1048) (by decide +kernel)⟩
theorem lw_p33 : lw_okq (⟨"MoveUp$Arrivals", "sitsSo", "(II)Z"⟩, 7) := ⟨⟨by decide +kernel, by decide +kernel⟩, List.mem_of_getElem? (i := 410) (by decide +kernel), List.mem_of_getElem? (i := 1084) (by decide +kernel), List.mem_of_getElem? (i := 1085) (by decide +kernel)⟩
theorem lw_p34 : lw_okq (⟨"MoveUp$Past", "load", "(LMoveUp$Bench;I)V"⟩, 6) := ⟨⟨by decide +kernel, by decide +kernel⟩, List.mem_of_getElem? (i := 201) (by decide +kernel), List.mem_of_getElem? (i := 1135) (by decide +kernel), List.mem_of_getElem? (i := 1136) (by decide +kernel)⟩
theorem lw_p35 : lw_okq (⟨"MoveUpModel", "isIn", "(III)Z"⟩, 71) := ⟨⟨by decide +kernel, by decide +kernel⟩, List.mem_of_getElem? (i := 1179) (by decide +kernel), List.mem_of_getElem? (i := 1408) (by decide +kernel), List.mem_of_getElem? (i := 1409) (by decide +kernel)⟩
theorem lw_p36 : lw_okq (⟨"MoveUpModel", "length", "()I"⟩, 71) := ⟨⟨by decide +kernel, by decide +kernel⟩, List.mem_of_getElem? (i := 1179) (by decide +kernel), List.mem_of_getElem? (i := 1416) (by decide +kernel), List.mem_of_getElem? (i := 1417) (by decide +kernel)⟩
theorem lw_p37 : lw_okq (⟨"MoveUpModel", "sits", "(I)Z"⟩, 71) := ⟨⟨by decide +kernel, by decide +kernel⟩, List.mem_of_getElem? (i := 1179) (by decide +kernel), List.mem_of_getElem? (i := 1420) (by decide +kernel), List.mem_of_getElem? (i := 1421) (by decide +kernel)⟩
theorem lw_p38 : lw_okq (⟨"MoveUpModel", "inchOf", "(I)I"⟩, 71) := ⟨⟨by decide +kernel, by decide +kernel⟩, List.mem_of_getElem? (i := 1179) (by decide +kernel), List.mem_of_getElem? (i := 1424) (by decide +kernel), List.mem_of_getElem? (i := 1425) (by decide +kernel)⟩
theorem lw_p39 : lw_okq (⟨"MoveUpModel", "isPerson", "(I)Z"⟩, 71) := ⟨⟨by decide +kernel, by decide +kernel⟩, List.mem_of_getElem? (i := 1179) (by decide +kernel), List.mem_of_getElem? (i := 1436) (by decide +kernel), List.mem_of_getElem? (i := 1437) (by decide +kernel)⟩
theorem lw_p40 : lw_okq (⟨"MoveUpModel", "types", "(I)V"⟩, 71) := ⟨⟨by decide +kernel, by decide +kernel⟩, List.mem_of_getElem? (i := 1179) (by decide +kernel), List.mem_of_getElem? (i := 1444) (by decide +kernel), List.mem_of_getElem? (i := 1445) (by decide +kernel)⟩
theorem lw_p41 : lw_okq (⟨"MoveUpModel", "reads", "()V"⟩, 71) := ⟨⟨by decide +kernel, by decide +kernel⟩, List.mem_of_getElem? (i := 1179) (by decide +kernel), List.mem_of_getElem? (i := 1456) (by decide +kernel), List.mem_of_getElem? (i := 1457) (by decide +kernel)⟩
theorem lw_p42 : lw_okq (⟨"MoveUpModel", "raw", "(I)I"⟩, 71) := ⟨⟨by decide +kernel, by decide +kernel⟩, List.mem_of_getElem? (i := 1179) (by decide +kernel), List.mem_of_getElem? (i := 1460) (by decide +kernel), List.mem_of_getElem? (i := 1461) (by decide +kernel)⟩
theorem lw_p43 : lw_okq (⟨"MoveUpModel", "isLetter", "(I)Z"⟩, 71) := ⟨⟨by decide +kernel, by decide +kernel⟩, List.mem_of_getElem? (i := 1179) (by decide +kernel), List.mem_of_getElem? (i := 1464) (by decide +kernel), List.mem_of_getElem? (i := 1465) (by decide +kernel)⟩
theorem lw_p44 : lw_okq (⟨"MoveUpModel", "wordAt", "(II)I"⟩, 71) := ⟨⟨by decide +kernel, by decide +kernel⟩, List.mem_of_getElem? (i := 1179) (by decide +kernel), List.mem_of_getElem? (i := 1468) (by decide +kernel), List.mem_of_getElem? (i := 1469) (by decide +kernel)⟩
theorem lw_p45 : lw_okq (⟨"MoveUpModel", "isDigit", "(I)Z"⟩, 71) := ⟨⟨by decide +kernel, by decide +kernel⟩, List.mem_of_getElem? (i := 1179) (by decide +kernel), List.mem_of_getElem? (i := 1472) (by decide +kernel), List.mem_of_getElem? (i := 1473) (by decide +kernel)⟩
theorem lw_p46 : lw_okq (⟨"MoveUpModel", "isMarkSign", "(I)Z"⟩, 71) := ⟨⟨by decide +kernel, by decide +kernel⟩, List.mem_of_getElem? (i := 1179) (by decide +kernel), List.mem_of_getElem? (i := 1476) (by decide +kernel), List.mem_of_getElem? (i := 1477) (by decide +kernel)⟩
theorem lw_p47 : lw_okq (⟨"MoveUpModel", "readDay", "()I"⟩, 71) := ⟨⟨by decide +kernel, by decide +kernel⟩, List.mem_of_getElem? (i := 1179) (by decide +kernel), List.mem_of_getElem? (i := 1480) (by decide +kernel), List.mem_of_getElem? (i := 1481) (by decide +kernel)⟩
def lw_privs_3 : List (MethodName × Nat) := [(⟨"MoveUp$Filling", "meanOf", "(II)I"⟩, 8), (⟨"MoveUp$Arrivals", "sitsSo", "(II)Z"⟩, 7), (⟨"MoveUp$Past", "load", "(LMoveUp$Bench;I)V"⟩, 6), (⟨"MoveUpModel", "isIn", "(III)Z"⟩, 71), (⟨"MoveUpModel", "length", "()I"⟩, 71), (⟨"MoveUpModel", "sits", "(I)Z"⟩, 71), (⟨"MoveUpModel", "inchOf", "(I)I"⟩, 71), (⟨"MoveUpModel", "isPerson", "(I)Z"⟩, 71), (⟨"MoveUpModel", "types", "(I)V"⟩, 71), (⟨"MoveUpModel", "reads", "()V"⟩, 71), (⟨"MoveUpModel", "raw", "(I)I"⟩, 71), (⟨"MoveUpModel", "isLetter", "(I)Z"⟩, 71), (⟨"MoveUpModel", "wordAt", "(II)I"⟩, 71), (⟨"MoveUpModel", "isDigit", "(I)Z"⟩, 71), (⟨"MoveUpModel", "isMarkSign", "(I)Z"⟩, 71), (⟨"MoveUpModel", "readDay", "()I"⟩, 71)]
theorem lw_r3 : ∀ q ∈ lw_privs_3, lw_okq q := List.forall_mem_cons.mpr ⟨lw_p32, List.forall_mem_cons.mpr ⟨lw_p33, List.forall_mem_cons.mpr ⟨lw_p34, List.forall_mem_cons.mpr ⟨lw_p35, List.forall_mem_cons.mpr ⟨lw_p36, List.forall_mem_cons.mpr ⟨lw_p37, List.forall_mem_cons.mpr ⟨lw_p38, List.forall_mem_cons.mpr ⟨lw_p39, List.forall_mem_cons.mpr ⟨lw_p40, List.forall_mem_cons.mpr ⟨lw_p41, List.forall_mem_cons.mpr ⟨lw_p42, List.forall_mem_cons.mpr ⟨lw_p43, List.forall_mem_cons.mpr ⟨lw_p44, List.forall_mem_cons.mpr ⟨lw_p45, List.forall_mem_cons.mpr ⟨lw_p46, List.forall_mem_cons.mpr ⟨lw_p47, fun _ h => absurd h List.not_mem_nil⟩⟩⟩⟩⟩⟩⟩⟩⟩⟩⟩⟩⟩⟩⟩⟩
theorem lw_p48 : lw_okq (⟨"MoveUpModel", "errs", "(I)I"⟩, 71) := ⟨⟨by decide +kernel, by decide +kernel⟩, List.mem_of_getElem? (i := 1179) (by decide +kernel), List.mem_of_getElem? (i := 1484) (by decide +kernel), List.mem_of_getElem? (i := 1485) (by decide +kernel)⟩
theorem lw_p49 : lw_okq (⟨"MoveUpModel", "readDayLine", "(I)I"⟩, 71) := ⟨⟨by decide +kernel, by decide +kernel⟩, List.mem_of_getElem? (i := 1179) (by decide +kernel), List.mem_of_getElem? (i := 1488) (by decide +kernel), List.mem_of_getElem? (i := 1489) (by decide +kernel)⟩
theorem lw_p50 : lw_okq (⟨"MoveUpModel", "readNumber", "(II)I"⟩, 71) := ⟨⟨by decide +kernel, by decide +kernel⟩, List.mem_of_getElem? (i := 1179) (by decide +kernel), List.mem_of_getElem? (i := 1492) (by decide +kernel), List.mem_of_getElem? (i := 1493) (by decide +kernel)⟩
theorem lw_p51 : lw_okq (⟨"MoveUpModel", "isWord", "(I)Z"⟩, 71) := ⟨⟨by decide +kernel, by decide +kernel⟩, List.mem_of_getElem? (i := 1179) (by decide +kernel), List.mem_of_getElem? (i := 1496) (by decide +kernel), List.mem_of_getElem? (i := 1497) (by decide +kernel)⟩
theorem lw_p52 : lw_okq (⟨"MoveUpModel", "isSign", "(I)Z"⟩, 71) := ⟨⟨by decide +kernel, by decide +kernel⟩, List.mem_of_getElem? (i := 1179) (by decide +kernel), List.mem_of_getElem? (i := 1500) (by decide +kernel), List.mem_of_getElem? (i := 1501) (by decide +kernel)⟩
theorem lw_p53 : lw_okq (⟨"MoveUpModel", "readLaw", "()I"⟩, 71) := ⟨⟨by decide +kernel, by decide +kernel⟩, List.mem_of_getElem? (i := 1179) (by decide +kernel), List.mem_of_getElem? (i := 1504) (by decide +kernel), List.mem_of_getElem? (i := 1505) (by decide +kernel)⟩
theorem lw_p54 : lw_okq (⟨"MoveUpModel", "isLineWord", "()Z"⟩, 71) := ⟨⟨by decide +kernel, by decide +kernel⟩, List.mem_of_getElem? (i := 1179) (by decide +kernel), List.mem_of_getElem? (i := 1508) (by decide +kernel), List.mem_of_getElem? (i := 1509) (by decide +kernel)⟩
theorem lw_p55 : lw_okq (⟨"MoveUpModel", "readSum", "()I"⟩, 71) := ⟨⟨by decide +kernel, by decide +kernel⟩, List.mem_of_getElem? (i := 1179) (by decide +kernel), List.mem_of_getElem? (i := 1512) (by decide +kernel), List.mem_of_getElem? (i := 1513) (by decide +kernel)⟩
theorem lw_p56 : lw_okq (⟨"MoveUpModel", "readProduct", "()I"⟩, 71) := ⟨⟨by decide +kernel, by decide +kernel⟩, List.mem_of_getElem? (i := 1179) (by decide +kernel), List.mem_of_getElem? (i := 1516) (by decide +kernel), List.mem_of_getElem? (i := 1517) (by decide +kernel)⟩
theorem lw_p57 : lw_okq (⟨"MoveUpModel", "readUnit", "()I"⟩, 71) := ⟨⟨by decide +kernel, by decide +kernel⟩, List.mem_of_getElem? (i := 1179) (by decide +kernel), List.mem_of_getElem? (i := 1520) (by decide +kernel), List.mem_of_getElem? (i := 1521) (by decide +kernel)⟩
theorem lw_p58 : lw_okq (⟨"MoveUpModel", "canAsk", "(I)Z"⟩, 71) := ⟨⟨by decide +kernel, by decide +kernel⟩, List.mem_of_getElem? (i := 1179) (by decide +kernel), List.mem_of_getElem? (i := 1524) (by decide +kernel), List.mem_of_getElem? (i := 1525) (by decide +kernel)⟩
theorem lw_p59 : lw_okq (⟨"MoveUpModel", "emits", "(II)V"⟩, 71) := ⟨⟨by decide +kernel, by decide +kernel⟩, List.mem_of_getElem? (i := 1179) (by decide +kernel), List.mem_of_getElem? (i := 1528) (by decide +kernel), List.mem_of_getElem? (i := 1529) (by decide +kernel)⟩
theorem lw_p60 : lw_okq (⟨"MoveUpModel", "readAny", "()I"⟩, 71) := ⟨⟨by decide +kernel, by decide +kernel⟩, List.mem_of_getElem? (i := 1179) (by decide +kernel), List.mem_of_getElem? (i := 1532) (by decide +kernel), List.mem_of_getElem? (i := 1533) (by decide +kernel)⟩
theorem lw_p61 : lw_okq (⟨"MoveUpModel", "waits", "(I)V"⟩, 71) := ⟨⟨by decide +kernel, by decide +kernel⟩, List.mem_of_getElem? (i := 1179) (by decide +kernel), List.mem_of_getElem? (i := 1536) (by decide +kernel), List.mem_of_getElem? (i := 1537) (by decide +kernel)⟩
theorem lw_p62 : lw_okq (⟨"MoveUpModel", "readCompared", "()I"⟩, 71) := ⟨⟨by decide +kernel, by decide +kernel⟩, List.mem_of_getElem? (i := 1179) (by decide +kernel), List.mem_of_getElem? (i := 1540) (by decide +kernel), List.mem_of_getElem? (i := 1541) (by decide +kernel)⟩
theorem lw_p63 : lw_okq (⟨"MoveUpModel", "settles", "(I)V"⟩, 71) := ⟨⟨by decide +kernel, by decide +kernel⟩, List.mem_of_getElem? (i := 1179) (by decide +kernel), List.mem_of_getElem? (i := 1544) (by decide +kernel), List.mem_of_getElem? (i := 1545) (by decide +kernel)⟩
def lw_privs_4 : List (MethodName × Nat) := [(⟨"MoveUpModel", "errs", "(I)I"⟩, 71), (⟨"MoveUpModel", "readDayLine", "(I)I"⟩, 71), (⟨"MoveUpModel", "readNumber", "(II)I"⟩, 71), (⟨"MoveUpModel", "isWord", "(I)Z"⟩, 71), (⟨"MoveUpModel", "isSign", "(I)Z"⟩, 71), (⟨"MoveUpModel", "readLaw", "()I"⟩, 71), (⟨"MoveUpModel", "isLineWord", "()Z"⟩, 71), (⟨"MoveUpModel", "readSum", "()I"⟩, 71), (⟨"MoveUpModel", "readProduct", "()I"⟩, 71), (⟨"MoveUpModel", "readUnit", "()I"⟩, 71), (⟨"MoveUpModel", "canAsk", "(I)Z"⟩, 71), (⟨"MoveUpModel", "emits", "(II)V"⟩, 71), (⟨"MoveUpModel", "readAny", "()I"⟩, 71), (⟨"MoveUpModel", "waits", "(I)V"⟩, 71), (⟨"MoveUpModel", "readCompared", "()I"⟩, 71), (⟨"MoveUpModel", "settles", "(I)V"⟩, 71)]
theorem lw_r4 : ∀ q ∈ lw_privs_4, lw_okq q := List.forall_mem_cons.mpr ⟨lw_p48, List.forall_mem_cons.mpr ⟨lw_p49, List.forall_mem_cons.mpr ⟨lw_p50, List.forall_mem_cons.mpr ⟨lw_p51, List.forall_mem_cons.mpr ⟨lw_p52, List.forall_mem_cons.mpr ⟨lw_p53, List.forall_mem_cons.mpr ⟨lw_p54, List.forall_mem_cons.mpr ⟨lw_p55, List.forall_mem_cons.mpr ⟨lw_p56, List.forall_mem_cons.mpr ⟨lw_p57, List.forall_mem_cons.mpr ⟨lw_p58, List.forall_mem_cons.mpr ⟨lw_p59, List.forall_mem_cons.mpr ⟨lw_p60, List.forall_mem_cons.mpr ⟨lw_p61, List.forall_mem_cons.mpr ⟨lw_p62, List.forall_mem_cons.mpr ⟨lw_p63, fun _ h => absurd h List.not_mem_nil⟩⟩⟩⟩⟩⟩⟩⟩⟩⟩⟩⟩⟩⟩⟩⟩
theorem lw_p64 : lw_okq (⟨"MoveUpModel", "takesDay", "(I)V"⟩, 71) := ⟨⟨by decide +kernel, by decide +kernel⟩, List.mem_of_getElem? (i := 1179) (by decide +kernel), List.mem_of_getElem? (i := 1548) (by decide +kernel), List.mem_of_getElem? (i := 1549) (by decide +kernel)⟩
theorem lw_p65 : lw_okq (⟨"MoveUpModel", "takesLaw", "(I)V"⟩, 71) := ⟨⟨by decide +kernel, by decide +kernel⟩, List.mem_of_getElem? (i := 1179) (by decide +kernel), List.mem_of_getElem? (i := 1552) (by decide +kernel), List.mem_of_getElem? (i := 1553) (by decide +kernel)⟩
theorem lw_p66 : lw_okq (⟨"MoveUpModel", "everyone", "()I"⟩, 71) := ⟨⟨by decide +kernel, by decide +kernel⟩, List.mem_of_getElem? (i := 1179) (by decide +kernel), List.mem_of_getElem? (i := 1565) (by decide +kernel), List.mem_of_getElem? (i := 1566) (by decide +kernel)⟩
theorem lw_p67 : lw_okq (⟨"MoveUpModel", "lists", "(I)V"⟩, 71) := ⟨⟨by decide +kernel, by decide +kernel⟩, List.mem_of_getElem? (i := 1179) (by decide +kernel), List.mem_of_getElem? (i := 1569) (by decide +kernel), List.mem_of_getElem? (i := 1570) (by decide +kernel)⟩
theorem lw_p68 : lw_okq (⟨"MoveUpModel", "takesOf", "(I)I"⟩, 71) := ⟨⟨by decide +kernel, by decide +kernel⟩, List.mem_of_getElem? (i := 1179) (by decide +kernel), List.mem_of_getElem? (i := 1573) (by decide +kernel), List.mem_of_getElem? (i := 1574) (by decide +kernel)⟩
theorem lw_p69 : lw_okq (⟨"MoveUpModel", "seats", "(IIIII)V"⟩, 71) := ⟨⟨by decide +kernel, by decide +kernel⟩, List.mem_of_getElem? (i := 1179) (by decide +kernel), List.mem_of_getElem? (i := 1577) (by decide +kernel), List.mem_of_getElem? (i := 1578) (by decide +kernel)⟩
theorem lw_p70 : lw_okq (⟨"MoveUpModel", "asksFor", "(I)V"⟩, 71) := ⟨⟨by decide +kernel, by decide +kernel⟩, List.mem_of_getElem? (i := 1179) (by decide +kernel), List.mem_of_getElem? (i := 1581) (by decide +kernel), List.mem_of_getElem? (i := 1582) (by decide +kernel)⟩
theorem lw_p71 : lw_okq (⟨"MoveUpModel", "canSit", "(I)Z"⟩, 71) := ⟨⟨by decide +kernel, by decide +kernel⟩, List.mem_of_getElem? (i := 1179) (by decide +kernel), List.mem_of_getElem? (i := 1585) (by decide +kernel), List.mem_of_getElem? (i := 1586) (by decide +kernel)⟩
theorem lw_p72 : lw_okq (⟨"MoveUpModel", "isOverRest", "(II)Z"⟩, 71) := ⟨⟨by decide +kernel, by decide +kernel⟩, List.mem_of_getElem? (i := 1179) (by decide +kernel), List.mem_of_getElem? (i := 1589) (by decide +kernel), List.mem_of_getElem? (i := 1590) (by decide +kernel)⟩
theorem lw_p73 : lw_okq (⟨"MoveUpModel", "leftOf", "(I)I"⟩, 71) := ⟨⟨by decide +kernel, by decide +kernel⟩, List.mem_of_getElem? (i := 1179) (by decide +kernel), List.mem_of_getElem? (i := 1593) (by decide +kernel), List.mem_of_getElem? (i := 1594) (by decide +kernel)⟩
theorem lw_p74 : lw_okq (⟨"MoveUpModel", "apartOf", "(IIII)I"⟩, 71) := ⟨⟨by decide +kernel, by decide +kernel⟩, List.mem_of_getElem? (i := 1179) (by decide +kernel), List.mem_of_getElem? (i := 1597) (by decide +kernel), List.mem_of_getElem? (i := 1598) (by decide +kernel)⟩
theorem lw_p75 : lw_okq (⟨"MoveUpModel", "greater", "(II)I"⟩, 71) := ⟨⟨by decide +kernel, by decide +kernel⟩, List.mem_of_getElem? (i := 1179) (by decide +kernel), List.mem_of_getElem? (i := 1601) (by decide +kernel), List.mem_of_getElem? (i := 1602) (by decide +kernel)⟩
theorem lw_p76 : lw_okq (⟨"MoveUpModel", "tellsOf", "(I)I"⟩, 71) := ⟨⟨by decide +kernel, by decide +kernel⟩, List.mem_of_getElem? (i := 1179) (by decide +kernel), List.mem_of_getElem? (i := 1605) (by decide +kernel), List.mem_of_getElem? (i := 1606) (by decide +kernel)⟩
theorem lw_p77 : lw_okq (⟨"MoveUpModel", "asksHim", "()V"⟩, 71) := ⟨⟨by decide +kernel, by decide +kernel⟩, List.mem_of_getElem? (i := 1179) (by decide +kernel), List.mem_of_getElem? (i := 1609) (by decide +kernel), List.mem_of_getElem? (i := 1610) (by decide +kernel)⟩
theorem lw_p78 : lw_okq (⟨"MoveUpModel", "warmAt", "(I)I"⟩, 71) := ⟨⟨by decide +kernel, by decide +kernel⟩, List.mem_of_getElem? (i := 1179) (by decide +kernel), List.mem_of_getElem? (i := 1613) (by decide +kernel), List.mem_of_getElem? (i := 1614) (by decide +kernel)⟩
theorem lw_p79 : lw_okq (⟨"MoveUpModel", "isFriend", "(I)Z"⟩, 71) := ⟨⟨by decide +kernel, by decide +kernel⟩, List.mem_of_getElem? (i := 1179) (by decide +kernel), List.mem_of_getElem? (i := 1617) (by decide +kernel), List.mem_of_getElem? (i := 1618) (by decide +kernel)⟩
def lw_privs_5 : List (MethodName × Nat) := [(⟨"MoveUpModel", "takesDay", "(I)V"⟩, 71), (⟨"MoveUpModel", "takesLaw", "(I)V"⟩, 71), (⟨"MoveUpModel", "everyone", "()I"⟩, 71), (⟨"MoveUpModel", "lists", "(I)V"⟩, 71), (⟨"MoveUpModel", "takesOf", "(I)I"⟩, 71), (⟨"MoveUpModel", "seats", "(IIIII)V"⟩, 71), (⟨"MoveUpModel", "asksFor", "(I)V"⟩, 71), (⟨"MoveUpModel", "canSit", "(I)Z"⟩, 71), (⟨"MoveUpModel", "isOverRest", "(II)Z"⟩, 71), (⟨"MoveUpModel", "leftOf", "(I)I"⟩, 71), (⟨"MoveUpModel", "apartOf", "(IIII)I"⟩, 71), (⟨"MoveUpModel", "greater", "(II)I"⟩, 71), (⟨"MoveUpModel", "tellsOf", "(I)I"⟩, 71), (⟨"MoveUpModel", "asksHim", "()V"⟩, 71), (⟨"MoveUpModel", "warmAt", "(I)I"⟩, 71), (⟨"MoveUpModel", "isFriend", "(I)Z"⟩, 71)]
theorem lw_r5 : ∀ q ∈ lw_privs_5, lw_okq q := List.forall_mem_cons.mpr ⟨lw_p64, List.forall_mem_cons.mpr ⟨lw_p65, List.forall_mem_cons.mpr ⟨lw_p66, List.forall_mem_cons.mpr ⟨lw_p67, List.forall_mem_cons.mpr ⟨lw_p68, List.forall_mem_cons.mpr ⟨lw_p69, List.forall_mem_cons.mpr ⟨lw_p70, List.forall_mem_cons.mpr ⟨lw_p71, List.forall_mem_cons.mpr ⟨lw_p72, List.forall_mem_cons.mpr ⟨lw_p73, List.forall_mem_cons.mpr ⟨lw_p74, List.forall_mem_cons.mpr ⟨lw_p75, List.forall_mem_cons.mpr ⟨lw_p76, List.forall_mem_cons.mpr ⟨lw_p77, List.forall_mem_cons.mpr ⟨lw_p78, List.forall_mem_cons.mpr ⟨lw_p79, fun _ h => absurd h List.not_mem_nil⟩⟩⟩⟩⟩⟩⟩⟩⟩⟩⟩⟩⟩⟩⟩⟩
theorem lw_p80 : lw_okq (⟨"MoveUpModel", "lineOf", "(I)I"⟩, 71) := ⟨⟨by decide +kernel, by decide +kernel⟩, List.mem_of_getElem? (i := 1179) (by decide +kernel), List.mem_of_getElem? (i := 1621) (by decide +kernel), List.mem_of_getElem? (i := 1622) (by decide +kernel)⟩
theorem lw_p81 : lw_okq (⟨"MoveUpModel", "runs", "(III)I"⟩, 71) := ⟨⟨by decide +kernel, by decide +kernel⟩, List.mem_of_getElem? (i := 1179) (by decide +kernel), List.mem_of_getElem? (i := 1625) (by decide +kernel), List.mem_of_getElem? (i := 1626) (by decide +kernel)⟩
theorem lw_p82 : lw_okq (⟨"MoveUpModel", "twoOf", "(III)I"⟩, 71) := ⟨⟨by decide +kernel, by decide +kernel⟩, List.mem_of_getElem? (i := 1179) (by decide +kernel), List.mem_of_getElem? (i := 1629) (by decide +kernel), List.mem_of_getElem? (i := 1630) (by decide +kernel)⟩
theorem lw_p83 : lw_okq (⟨"MoveUpModel", "isAside", "(I)Z"⟩, 71) := ⟨⟨by decide +kernel, by decide +kernel⟩, List.mem_of_getElem? (i := 1179) (by decide +kernel), List.mem_of_getElem? (i := 1637) (by decide +kernel), List.mem_of_getElem? (i := 1638) (by decide +kernel)⟩
theorem lw_p84 : lw_okq (⟨"MoveUpModel", "keepsAhead", "()V"⟩, 71) := ⟨⟨by decide +kernel, by decide +kernel⟩, List.mem_of_getElem? (i := 1179) (by decide +kernel), List.mem_of_getElem? (i := 1641) (by decide +kernel), List.mem_of_getElem? (i := 1642) (by decide +kernel)⟩
theorem lw_p85 : lw_okq (⟨"MoveUpModel", "comes", "(I)I"⟩, 71) := ⟨⟨by decide +kernel, by decide +kernel⟩, List.mem_of_getElem? (i := 1179) (by decide +kernel), List.mem_of_getElem? (i := 1645) (by decide +kernel), List.mem_of_getElem? (i := 1646) (by decide +kernel)⟩
theorem lw_p86 : lw_okq (⟨"MoveUpModel", "bestInch", "()I"⟩, 71) := ⟨⟨by decide +kernel, by decide +kernel⟩, List.mem_of_getElem? (i := 1179) (by decide +kernel), List.mem_of_getElem? (i := 1649) (by decide +kernel), List.mem_of_getElem? (i := 1650) (by decide +kernel)⟩
theorem lw_p87 : lw_okq (⟨"MoveUpModel", "notes", "(III)V"⟩, 71) := ⟨⟨by decide +kernel, by decide +kernel⟩, List.mem_of_getElem? (i := 1179) (by decide +kernel), List.mem_of_getElem? (i := 1653) (by decide +kernel), List.mem_of_getElem? (i := 1654) (by decide +kernel)⟩
theorem lw_p88 : lw_okq (⟨"MoveUpModel", "goes", "(I)V"⟩, 71) := ⟨⟨by decide +kernel, by decide +kernel⟩, List.mem_of_getElem? (i := 1179) (by decide +kernel), List.mem_of_getElem? (i := 1661) (by decide +kernel), List.mem_of_getElem? (i := 1662) (by decide +kernel)⟩
theorem lw_p89 : lw_okq (⟨"MoveUpModel", "begs", "(I)I"⟩, 71) := ⟨⟨by decide +kernel, by decide +kernel⟩, List.mem_of_getElem? (i := 1179) (by decide +kernel), List.mem_of_getElem? (i := 1669) (by decide +kernel), List.mem_of_getElem? (i := 1670) (by decide +kernel)⟩
theorem lw_p90 : lw_okq (⟨"MoveUpModel", "findsRoom", "(II)Z"⟩, 71) := ⟨⟨by decide +kernel, by decide +kernel⟩, List.mem_of_getElem? (i := 1179) (by decide +kernel), List.mem_of_getElem? (i := 1673) (by decide +kernel), List.mem_of_getElem? (i := 1674) (by decide +kernel)⟩
theorem lw_p91 : lw_okq (⟨"MoveUpModel", "leastBy", "(II)I"⟩, 71) := ⟨⟨by decide +kernel, by decide +kernel⟩, List.mem_of_getElem? (i := 1179) (by decide +kernel), List.mem_of_getElem? (i := 1678) (by decide +kernel), List.mem_of_getElem? (i := 1679) (by decide +kernel)⟩
theorem lw_p92 : lw_okq (⟨"MoveUpModel", "itemsFor", "(II)V"⟩, 71) := ⟨⟨by decide +kernel, by decide +kernel⟩, List.mem_of_getElem? (i := 1179) (by decide +kernel), List.mem_of_getElem? (i := 1682) (by decide +kernel), List.mem_of_getElem? (i := 1683) (by decide +kernel)⟩
theorem lw_p93 : lw_okq (⟨"MoveUpModel", "costAt", "(II)I"⟩, 71) := ⟨⟨by decide +kernel, by decide +kernel⟩, List.mem_of_getElem? (i := 1179) (by decide +kernel), List.mem_of_getElem? (i := 1686) (by decide +kernel), List.mem_of_getElem? (i := 1687) (by decide +kernel)⟩
theorem lw_p94 : lw_okq (⟨"MoveUpModel", "without", "(I)I"⟩, 71) := ⟨⟨by decide +kernel, by decide +kernel⟩, List.mem_of_getElem? (i := 1179) (by decide +kernel), List.mem_of_getElem? (i := 1690) (by decide +kernel), List.mem_of_getElem? (i := 1691) (by decide +kernel)⟩
theorem lw_p95 : lw_okq (⟨"MoveUpModel", "costOf", "(II)I"⟩, 71) := ⟨⟨by decide +kernel, by decide +kernel⟩, List.mem_of_getElem? (i := 1179) (by decide +kernel), List.mem_of_getElem? (i := 1694) (by decide +kernel), List.mem_of_getElem? (i := 1695) (by decide +kernel)⟩
def lw_privs_6 : List (MethodName × Nat) := [(⟨"MoveUpModel", "lineOf", "(I)I"⟩, 71), (⟨"MoveUpModel", "runs", "(III)I"⟩, 71), (⟨"MoveUpModel", "twoOf", "(III)I"⟩, 71), (⟨"MoveUpModel", "isAside", "(I)Z"⟩, 71), (⟨"MoveUpModel", "keepsAhead", "()V"⟩, 71), (⟨"MoveUpModel", "comes", "(I)I"⟩, 71), (⟨"MoveUpModel", "bestInch", "()I"⟩, 71), (⟨"MoveUpModel", "notes", "(III)V"⟩, 71), (⟨"MoveUpModel", "goes", "(I)V"⟩, 71), (⟨"MoveUpModel", "begs", "(I)I"⟩, 71), (⟨"MoveUpModel", "findsRoom", "(II)Z"⟩, 71), (⟨"MoveUpModel", "leastBy", "(II)I"⟩, 71), (⟨"MoveUpModel", "itemsFor", "(II)V"⟩, 71), (⟨"MoveUpModel", "costAt", "(II)I"⟩, 71), (⟨"MoveUpModel", "without", "(I)I"⟩, 71), (⟨"MoveUpModel", "costOf", "(II)I"⟩, 71)]
theorem lw_r6 : ∀ q ∈ lw_privs_6, lw_okq q := List.forall_mem_cons.mpr ⟨lw_p80, List.forall_mem_cons.mpr ⟨lw_p81, List.forall_mem_cons.mpr ⟨lw_p82, List.forall_mem_cons.mpr ⟨lw_p83, List.forall_mem_cons.mpr ⟨lw_p84, List.forall_mem_cons.mpr ⟨lw_p85, List.forall_mem_cons.mpr ⟨lw_p86, List.forall_mem_cons.mpr ⟨lw_p87, List.forall_mem_cons.mpr ⟨lw_p88, List.forall_mem_cons.mpr ⟨lw_p89, List.forall_mem_cons.mpr ⟨lw_p90, List.forall_mem_cons.mpr ⟨lw_p91, List.forall_mem_cons.mpr ⟨lw_p92, List.forall_mem_cons.mpr ⟨lw_p93, List.forall_mem_cons.mpr ⟨lw_p94, List.forall_mem_cons.mpr ⟨lw_p95, fun _ h => absurd h List.not_mem_nil⟩⟩⟩⟩⟩⟩⟩⟩⟩⟩⟩⟩⟩⟩⟩⟩
theorem lw_p96 : lw_okq (⟨"MoveUpModel", "held", "(III)I"⟩, 71) := ⟨⟨by decide +kernel, by decide +kernel⟩, List.mem_of_getElem? (i := 1179) (by decide +kernel), List.mem_of_getElem? (i := 1698) (by decide +kernel), List.mem_of_getElem? (i := 1699) (by decide +kernel)⟩
theorem lw_p97 : lw_okq (⟨"MoveUpModel", "leastBehind", "(II)I"⟩, 71) := ⟨⟨by decide +kernel, by decide +kernel⟩, List.mem_of_getElem? (i := 1179) (by decide +kernel), List.mem_of_getElem? (i := 1702) (by decide +kernel), List.mem_of_getElem? (i := 1703) (by decide +kernel)⟩
theorem lw_p98 : lw_okq (⟨"MoveUpModel", "canBeside", "(IIII)Z"⟩, 71) := ⟨⟨by decide +kernel, by decide +kernel⟩, List.mem_of_getElem? (i := 1179) (by decide +kernel), List.mem_of_getElem? (i := 1706) (by decide +kernel), List.mem_of_getElem? (i := 1707) (by decide +kernel)⟩
theorem lw_p99 : lw_okq (⟨"MoveUpModel", "goesBy", "()I"⟩, 71) := ⟨⟨by decide +kernel, by decide +kernel⟩, List.mem_of_getElem? (i := 1179) (by decide +kernel), List.mem_of_getElem? (i := 1714) (by decide +kernel), List.mem_of_getElem? (i := 1715) (by decide +kernel)⟩
theorem lw_p100 : lw_okq (⟨"MoveUpModel", "doesLine", "(I)Z"⟩, 71) := ⟨⟨by decide +kernel, by decide +kernel⟩, List.mem_of_getElem? (i := 1179) (by decide +kernel), List.mem_of_getElem? (i := 1718) (by decide +kernel), List.mem_of_getElem? (i := 1719) (by decide +kernel)⟩
theorem lw_p101 : lw_okq (⟨"MoveUpModel", "standsNow", "(I)V"⟩, 71) := ⟨⟨by decide +kernel, by decide +kernel⟩, List.mem_of_getElem? (i := 1179) (by decide +kernel), List.mem_of_getElem? (i := 1722) (by decide +kernel), List.mem_of_getElem? (i := 1723) (by decide +kernel)⟩
theorem lw_p102 : lw_okq (⟨"MoveUpModel", "thinks", "()V"⟩, 71) := ⟨⟨by decide +kernel, by decide +kernel⟩, List.mem_of_getElem? (i := 1179) (by decide +kernel), List.mem_of_getElem? (i := 1730) (by decide +kernel), List.mem_of_getElem? (i := 1731) (by decide +kernel)⟩
theorem lw_p103 : lw_okq (⟨"MoveUpModel", "endsThought", "()V"⟩, 71) := ⟨⟨by decide +kernel, by decide +kernel⟩, List.mem_of_getElem? (i := 1179) (by decide +kernel), List.mem_of_getElem? (i := 1734) (by decide +kernel), List.mem_of_getElem? (i := 1735) (by decide +kernel)⟩
theorem lw_p104 : lw_okq (⟨"MoveUpModel", "placeOf", "(I)I"⟩, 71) := ⟨⟨by decide +kernel, by decide +kernel⟩, List.mem_of_getElem? (i := 1179) (by decide +kernel), List.mem_of_getElem? (i := 1742) (by decide +kernel), List.mem_of_getElem? (i := 1743) (by decide +kernel)⟩
theorem lw_p105 : lw_okq (⟨"MoveUpModel", "whoAt", "(I)I"⟩, 71) := ⟨⟨by decide +kernel, by decide +kernel⟩, List.mem_of_getElem? (i := 1179) (by decide +kernel), List.mem_of_getElem? (i := 1750) (by decide +kernel), List.mem_of_getElem? (i := 1751) (by decide +kernel)⟩
theorem lw_p106 : lw_okq (⟨"MoveUpModel", "roomFor", "(I)I"⟩, 71) := ⟨⟨by decide +kernel, by decide +kernel⟩, List.mem_of_getElem? (i := 1179) (by decide +kernel), List.mem_of_getElem? (i := 1762) (by decide +kernel), List.mem_of_getElem? (i := 1763) (by decide +kernel)⟩
theorem lw_p107 : lw_okq (⟨"MoveUpModel", "areAlike", "(II)Z"⟩, 71) := ⟨⟨by decide +kernel, by decide +kernel⟩, List.mem_of_getElem? (i := 1179) (by decide +kernel), List.mem_of_getElem? (i := 1774) (by decide +kernel), List.mem_of_getElem? (i := 1775) (by decide +kernel)⟩
theorem lw_p108 : lw_okq (⟨"MoveUpModel", "fillByLaw", "(II)I"⟩, 71) := ⟨⟨by decide +kernel, by decide +kernel⟩, List.mem_of_getElem? (i := 1179) (by decide +kernel), List.mem_of_getElem? (i := 1778) (by decide +kernel), List.mem_of_getElem? (i := 1779) (by decide +kernel)⟩
theorem lw_p109 : lw_okq (⟨"MoveUpModel", "findsStretches", "(II)V"⟩, 71) := ⟨⟨by decide +kernel, by decide +kernel⟩, List.mem_of_getElem? (i := 1179) (by decide +kernel), List.mem_of_getElem? (i := 1782) (by decide +kernel), List.mem_of_getElem? (i := 1783) (by decide +kernel)⟩
theorem lw_p110 : lw_okq (⟨"MoveUpModel", "findsStretch", "(IIII)V"⟩, 71) := ⟨⟨by decide +kernel, by decide +kernel⟩, List.mem_of_getElem? (i := 1179) (by decide +kernel), List.mem_of_getElem? (i := 1786) (by decide +kernel), List.mem_of_getElem? (i := 1787) (by decide +kernel)⟩
theorem lw_p111 : lw_okq (⟨"MoveUpModel", "ofStretch", "([III)I"⟩, 71) := ⟨⟨by decide +kernel, by decide +kernel⟩, List.mem_of_getElem? (i := 1179) (by decide +kernel), List.mem_of_getElem? (i := 1790) (by decide +kernel), List.mem_of_getElem? (i := 1791) (by decide +kernel)⟩
def lw_privs_7 : List (MethodName × Nat) := [(⟨"MoveUpModel", "held", "(III)I"⟩, 71), (⟨"MoveUpModel", "leastBehind", "(II)I"⟩, 71), (⟨"MoveUpModel", "canBeside", "(IIII)Z"⟩, 71), (⟨"MoveUpModel", "goesBy", "()I"⟩, 71), (⟨"MoveUpModel", "doesLine", "(I)Z"⟩, 71), (⟨"MoveUpModel", "standsNow", "(I)V"⟩, 71), (⟨"MoveUpModel", "thinks", "()V"⟩, 71), (⟨"MoveUpModel", "endsThought", "()V"⟩, 71), (⟨"MoveUpModel", "placeOf", "(I)I"⟩, 71), (⟨"MoveUpModel", "whoAt", "(I)I"⟩, 71), (⟨"MoveUpModel", "roomFor", "(I)I"⟩, 71), (⟨"MoveUpModel", "areAlike", "(II)Z"⟩, 71), (⟨"MoveUpModel", "fillByLaw", "(II)I"⟩, 71), (⟨"MoveUpModel", "findsStretches", "(II)V"⟩, 71), (⟨"MoveUpModel", "findsStretch", "(IIII)V"⟩, 71), (⟨"MoveUpModel", "ofStretch", "([III)I"⟩, 71)]
theorem lw_r7 : ∀ q ∈ lw_privs_7, lw_okq q := List.forall_mem_cons.mpr ⟨lw_p96, List.forall_mem_cons.mpr ⟨lw_p97, List.forall_mem_cons.mpr ⟨lw_p98, List.forall_mem_cons.mpr ⟨lw_p99, List.forall_mem_cons.mpr ⟨lw_p100, List.forall_mem_cons.mpr ⟨lw_p101, List.forall_mem_cons.mpr ⟨lw_p102, List.forall_mem_cons.mpr ⟨lw_p103, List.forall_mem_cons.mpr ⟨lw_p104, List.forall_mem_cons.mpr ⟨lw_p105, List.forall_mem_cons.mpr ⟨lw_p106, List.forall_mem_cons.mpr ⟨lw_p107, List.forall_mem_cons.mpr ⟨lw_p108, List.forall_mem_cons.mpr ⟨lw_p109, List.forall_mem_cons.mpr ⟨lw_p110, List.forall_mem_cons.mpr ⟨lw_p111, fun _ h => absurd h List.not_mem_nil⟩⟩⟩⟩⟩⟩⟩⟩⟩⟩⟩⟩⟩⟩⟩⟩
theorem lw_p112 : lw_okq (⟨"MoveUpModel", "stretch", "(II)I"⟩, 71) := ⟨⟨by decide +kernel, by decide +kernel⟩, List.mem_of_getElem? (i := 1179) (by decide +kernel), List.mem_of_getElem? (i := 1794) (by decide +kernel), List.mem_of_getElem? (i := 1795) (by decide +kernel)⟩
theorem lw_p113 : lw_okq (⟨"MoveUpModel", "fills", "(I)V"⟩, 71) := ⟨⟨by decide +kernel, by decide +kernel⟩, List.mem_of_getElem? (i := 1179) (by decide +kernel), List.mem_of_getElem? (i := 1798) (by decide +kernel), List.mem_of_getElem? (i := 1799) (by decide +kernel)⟩
theorem lw_p114 : lw_okq (⟨"MoveUpModel", "findsBare", "(II)V"⟩, 71) := ⟨⟨by decide +kernel, by decide +kernel⟩, List.mem_of_getElem? (i := 1179) (by decide +kernel), List.mem_of_getElem? (i := 1806) (by decide +kernel), List.mem_of_getElem? (i := 1807) (by decide +kernel)⟩
theorem lw_p115 : lw_okq (⟨"MoveUpModel", "findsAround", "(III)V"⟩, 71) := ⟨⟨by decide +kernel, by decide +kernel⟩, List.mem_of_getElem? (i := 1179) (by decide +kernel), List.mem_of_getElem? (i := 1810) (by decide +kernel), List.mem_of_getElem? (i := 1811) (by decide +kernel)⟩
theorem lw_p116 : lw_okq (⟨"MoveUpModel", "fewestBy", "(III)I"⟩, 71) := ⟨⟨by decide +kernel, by decide +kernel⟩, List.mem_of_getElem? (i := 1179) (by decide +kernel), List.mem_of_getElem? (i := 1814) (by decide +kernel), List.mem_of_getElem? (i := 1815) (by decide +kernel)⟩
theorem lw_p117 : lw_okq (⟨"MoveUpModel", "sittingSet", "()I"⟩, 71) := ⟨⟨by decide +kernel, by decide +kernel⟩, List.mem_of_getElem? (i := 1179) (by decide +kernel), List.mem_of_getElem? (i := 1830) (by decide +kernel), List.mem_of_getElem? (i := 1831) (by decide +kernel)⟩
theorem lw_p118 : lw_okq (⟨"MoveUpModel", "onesOf", "(I)I"⟩, 71) := ⟨⟨by decide +kernel, by decide +kernel⟩, List.mem_of_getElem? (i := 1179) (by decide +kernel), List.mem_of_getElem? (i := 1834) (by decide +kernel), List.mem_of_getElem? (i := 1835) (by decide +kernel)⟩
theorem lw_p119 : lw_okq (⟨"MoveUpModel", "findsOrders", "()V"⟩, 71) := ⟨⟨by decide +kernel, by decide +kernel⟩, List.mem_of_getElem? (i := 1179) (by decide +kernel), List.mem_of_getElem? (i := 1838) (by decide +kernel), List.mem_of_getElem? (i := 1839) (by decide +kernel)⟩
theorem lw_p120 : lw_okq (⟨"MoveUpModel", "canCome", "(II)Z"⟩, 71) := ⟨⟨by decide +kernel, by decide +kernel⟩, List.mem_of_getElem? (i := 1179) (by decide +kernel), List.mem_of_getElem? (i := 1842) (by decide +kernel), List.mem_of_getElem? (i := 1843) (by decide +kernel)⟩
theorem lw_p121 : lw_okq (⟨"MoveUpModel", "nextOf", "(I)I"⟩, 71) := ⟨⟨by decide +kernel, by decide +kernel⟩, List.mem_of_getElem? (i := 1179) (by decide +kernel), List.mem_of_getElem? (i := 1846) (by decide +kernel), List.mem_of_getElem? (i := 1847) (by decide +kernel)⟩
theorem lw_p122 : lw_okq (⟨"MoveUpModel", "kept", "(I)I"⟩, 71) := ⟨⟨by decide +kernel, by decide +kernel⟩, List.mem_of_getElem? (i := 1179) (by decide +kernel), List.mem_of_getElem? (i := 1854) (by decide +kernel), List.mem_of_getElem? (i := 1855) (by decide +kernel)⟩
theorem lw_p123 : lw_okq (⟨"MoveUpModel", "keepsBench", "()V"⟩, 71) := ⟨⟨by decide +kernel, by decide +kernel⟩, List.mem_of_getElem? (i := 1179) (by decide +kernel), List.mem_of_getElem? (i := 1858) (by decide +kernel), List.mem_of_getElem? (i := 1859) (by decide +kernel)⟩
theorem lw_p124 : lw_okq (⟨"MoveUpModel", "keepsLaw", "(I)V"⟩, 71) := ⟨⟨by decide +kernel, by decide +kernel⟩, List.mem_of_getElem? (i := 1179) (by decide +kernel), List.mem_of_getElem? (i := 1862) (by decide +kernel), List.mem_of_getElem? (i := 1863) (by decide +kernel)⟩
theorem lw_p125 : lw_okq (⟨"MoveUpModel", "freeInches", "()I"⟩, 71) := ⟨⟨by decide +kernel, by decide +kernel⟩, List.mem_of_getElem? (i := 1179) (by decide +kernel), List.mem_of_getElem? (i := 1870) (by decide +kernel), List.mem_of_getElem? (i := 1871) (by decide +kernel)⟩
theorem lw_p126 : lw_okq (⟨"MoveUpModel", "restMany", "()I"⟩, 71) := ⟨⟨by decide +kernel, by decide +kernel⟩, List.mem_of_getElem? (i := 1179) (by decide +kernel), List.mem_of_getElem? (i := 1874) (by decide +kernel), List.mem_of_getElem? (i := 1875) (by decide +kernel)⟩
theorem lw_p127 : lw_okq (⟨"MoveUpModel", "whoIs", "(I)I"⟩, 71) := ⟨⟨by decide +kernel, by decide +kernel⟩, List.mem_of_getElem? (i := 1179) (by decide +kernel), List.mem_of_getElem? (i := 1878) (by decide +kernel), List.mem_of_getElem? (i := 1879) (by decide +kernel)⟩
def lw_privs_8 : List (MethodName × Nat) := [(⟨"MoveUpModel", "stretch", "(II)I"⟩, 71), (⟨"MoveUpModel", "fills", "(I)V"⟩, 71), (⟨"MoveUpModel", "findsBare", "(II)V"⟩, 71), (⟨"MoveUpModel", "findsAround", "(III)V"⟩, 71), (⟨"MoveUpModel", "fewestBy", "(III)I"⟩, 71), (⟨"MoveUpModel", "sittingSet", "()I"⟩, 71), (⟨"MoveUpModel", "onesOf", "(I)I"⟩, 71), (⟨"MoveUpModel", "findsOrders", "()V"⟩, 71), (⟨"MoveUpModel", "canCome", "(II)Z"⟩, 71), (⟨"MoveUpModel", "nextOf", "(I)I"⟩, 71), (⟨"MoveUpModel", "kept", "(I)I"⟩, 71), (⟨"MoveUpModel", "keepsBench", "()V"⟩, 71), (⟨"MoveUpModel", "keepsLaw", "(I)V"⟩, 71), (⟨"MoveUpModel", "freeInches", "()I"⟩, 71), (⟨"MoveUpModel", "restMany", "()I"⟩, 71), (⟨"MoveUpModel", "whoIs", "(I)I"⟩, 71)]
theorem lw_r8 : ∀ q ∈ lw_privs_8, lw_okq q := List.forall_mem_cons.mpr ⟨lw_p112, List.forall_mem_cons.mpr ⟨lw_p113, List.forall_mem_cons.mpr ⟨lw_p114, List.forall_mem_cons.mpr ⟨lw_p115, List.forall_mem_cons.mpr ⟨lw_p116, List.forall_mem_cons.mpr ⟨lw_p117, List.forall_mem_cons.mpr ⟨lw_p118, List.forall_mem_cons.mpr ⟨lw_p119, List.forall_mem_cons.mpr ⟨lw_p120, List.forall_mem_cons.mpr ⟨lw_p121, List.forall_mem_cons.mpr ⟨lw_p122, List.forall_mem_cons.mpr ⟨lw_p123, List.forall_mem_cons.mpr ⟨lw_p124, List.forall_mem_cons.mpr ⟨lw_p125, List.forall_mem_cons.mpr ⟨lw_p126, List.forall_mem_cons.mpr ⟨lw_p127, fun _ h => absurd h List.not_mem_nil⟩⟩⟩⟩⟩⟩⟩⟩⟩⟩⟩⟩⟩⟩⟩⟩
def lw_privs : List (MethodName × Nat) := lw_privs_1 ++ (lw_privs_2 ++ (lw_privs_3 ++ (lw_privs_4 ++ (lw_privs_5 ++ (lw_privs_6 ++ (lw_privs_7 ++ (lw_privs_8)))))))
def lw_tbl : List Cond := k2_sels lw_privs ++ tables_1
theorem lw_privs_ok : ∀ q ∈ lw_privs, lw_okq q := by
  show ∀ q ∈ lw_privs_1 ++ (lw_privs_2 ++ (lw_privs_3 ++ (lw_privs_4 ++ (lw_privs_5 ++ (lw_privs_6 ++ (lw_privs_7 ++ (lw_privs_8))))))), lw_okq q
  exact List.forall_mem_append.mpr ⟨lw_r1, List.forall_mem_append.mpr ⟨lw_r2, List.forall_mem_append.mpr ⟨lw_r3, List.forall_mem_append.mpr ⟨lw_r4, List.forall_mem_append.mpr ⟨lw_r5, List.forall_mem_append.mpr ⟨lw_r6, List.forall_mem_append.mpr ⟨lw_r7, lw_r8⟩⟩⟩⟩⟩⟩⟩
def RX0 : String := "MoveUp$Acts"
def TX0 : u_T := fun k => match k with
  | 0 => ("MoveUp$Acts", "stood", "I", false)
  | 1 => ("MoveUp$Acts", "firstStood", "I", false)
  | 2 => ("MoveUp$Acts", "bench", "LMoveUp$Bench;", true)
  | 3 => ("MoveUp$Acts", "row", "LMoveUp$Row;", true)
  | 4 => ("MoveUp$Acts", "seats", "LMoveUp$Seats;", true)
  | _ => ("MoveUp$Acts", "rooms", "LMoveUp$Room;", true)
def tyX0 : Nat → FieldType := fun k => match k with
  | 0 => .int
  | 1 => .int
  | 2 => .object "MoveUp$Bench"
  | 3 => .object "MoveUp$Row"
  | 4 => .object "MoveUp$Seats"
  | _ => .object "MoveUp$Room"
theorem nmX0 : ∀ a, a < 6 → ∀ b, b < 6 → a ≠ b → (TX0 a).2.1 ≠ (TX0 b).2.1 := by decide +kernel
theorem tyX0_ok : ∀ k, k < 6 → parseFieldDescriptor (TX0 k).2.2.1 = some (tyX0 k) := by decide +kernel
abbrev cX0_comes : ByteArray := prog_2_method_2_code
def yX0_comes : MethodName := ⟨RX0, "comes", "(I)I"⟩
abbrev cX0_goes : ByteArray := prog_2_method_3_code
def yX0_goes : MethodName := ⟨RX0, "goes", "(I)V"⟩
abbrev cX0_begs : ByteArray := prog_2_method_4_code
def yX0_begs : MethodName := ⟨RX0, "begs", "(I)I"⟩
abbrev cX0_countStanding : ByteArray := prog_2_method_5_code
def yX0_countStanding : MethodName := ⟨RX0, "countStanding", "()V"⟩
abbrev cX0_passHour : ByteArray := prog_2_method_6_code
def yX0_passHour : MethodName := ⟨RX0, "passHour", "()I"⟩
abbrev cX0_skipTo : ByteArray := prog_2_method_7_code
def yX0_skipTo : MethodName := ⟨RX0, "skipTo", "(I)V"⟩
abbrev cX0_countNone : ByteArray := prog_2_method_8_code
def yX0_countNone : MethodName := ⟨RX0, "countNone", "()V"⟩
def RX1 : String := "MoveUp$Arrivals"
def TX1 : u_T := fun k => match k with
  | 0 => ("MoveUp$Arrivals", "bench", "LMoveUp$Bench;", true)
  | 1 => ("MoveUp$Arrivals", "row", "LMoveUp$Row;", true)
  | 2 => ("MoveUp$Arrivals", "seats", "LMoveUp$Seats;", true)
  | 3 => ("MoveUp$Arrivals", "who", "[I", true)
  | 4 => ("MoveUp$Arrivals", "ways", "[I", true)
  | 5 => ("MoveUp$Arrivals", "nextOnes", "[I", true)
  | _ => ("MoveUp$Arrivals", "count", "I", false)
def tyX1 : Nat → FieldType := fun k => match k with
  | 0 => .object "MoveUp$Bench"
  | 1 => .object "MoveUp$Row"
  | 2 => .object "MoveUp$Seats"
  | 3 => .array .int
  | 4 => .array .int
  | 5 => .array .int
  | _ => .int
theorem nmX1 : ∀ a, a < 7 → ∀ b, b < 7 → a ≠ b → (TX1 a).2.1 ≠ (TX1 b).2.1 := by decide +kernel
theorem tyX1_ok : ∀ k, k < 7 → parseFieldDescriptor (TX1 k).2.2.1 = some (tyX1 k) := by decide +kernel
abbrev cX1_gatherAll : ByteArray := prog_3_method_2_code
def yX1_gatherAll : MethodName := ⟨RX1, "gatherAll", "()Z"⟩
abbrev cX1_findNextOnes : ByteArray := prog_3_method_3_code
def yX1_findNextOnes : MethodName := ⟨RX1, "findNextOnes", "()V"⟩
abbrev cX1_countWays : ByteArray := prog_3_method_4_code
def yX1_countWays : MethodName := ⟨RX1, "countWays", "()V"⟩
abbrev cX1_sitsSo : ByteArray := prog_3_method_5_code
def yX1_sitsSo : MethodName := ⟨RX1, "sitsSo", "(II)Z"⟩
abbrev cX1_howMany : ByteArray := prog_3_method_6_code
def yX1_howMany : MethodName := ⟨RX1, "howMany", "()I"⟩
abbrev cX1_inFirst : ByteArray := prog_3_method_7_code
def yX1_inFirst : MethodName := ⟨RX1, "inFirst", "(I)I"⟩
def RX2 : String := "MoveUp$Bench"
def TX2 : u_T := fun k => match k with
  | 0 => ("MoveUp$Bench", "length", "I", false)
  | 1 => ("MoveUp$Bench", "people", "I", false)
  | 2 => ("MoveUp$Bench", "hour", "I", false)
  | 3 => ("MoveUp$Bench", "lines", "I", false)
  | 4 => ("MoveUp$Bench", "rest", "[I", true)
  | 5 => ("MoveUp$Bench", "reach", "[I", true)
  | 6 => ("MoveUp$Bench", "warm", "[I", true)
  | 7 => ("MoveUp$Bench", "told", "[[I", true)
  | 8 => ("MoveUp$Bench", "seat", "[I", true)
  | 9 => ("MoveUp$Bench", "book", "[[I", true)
  | 10 => ("MoveUp$Bench", "sitting", "LMoveUp$Law;", true)
  | 11 => ("MoveUp$Bench", "moving", "LMoveUp$Law;", true)
  | _ => ("MoveUp$Bench", "day", "LMoveUp$Day;", true)
def tyX2 : Nat → FieldType := fun k => match k with
  | 0 => .int
  | 1 => .int
  | 2 => .int
  | 3 => .int
  | 4 => .array .int
  | 5 => .array .int
  | 6 => .array .int
  | 7 => .array (.array .int)
  | 8 => .array .int
  | 9 => .array (.array .int)
  | 10 => .object "MoveUp$Law"
  | 11 => .object "MoveUp$Law"
  | _ => .object "MoveUp$Day"
theorem nmX2 : ∀ a, a < 13 → ∀ b, b < 13 → a ≠ b → (TX2 a).2.1 ≠ (TX2 b).2.1 := by decide +kernel
theorem tyX2_ok : ∀ k, k < 13 → parseFieldDescriptor (TX2 k).2.2.1 = some (tyX2 k) := by decide +kernel
abbrev cX2_clear : ByteArray := prog_4_method_2_code
def yX2_clear : MethodName := ⟨RX2, "clear", "(I)V"⟩
abbrev cX2_copyFrom : ByteArray := prog_4_method_3_code
def yX2_copyFrom : MethodName := ⟨RX2, "copyFrom", "(LMoveUp$Bench;)V"⟩
abbrev cX2_putRest : ByteArray := prog_4_method_4_code
def yX2_putRest : MethodName := ⟨RX2, "putRest", "(IZ)V"⟩
abbrev cX2_findReach : ByteArray := prog_4_method_5_code
def yX2_findReach : MethodName := ⟨RX2, "findReach", "()V"⟩
abbrev cX2_isPerson : ByteArray := prog_4_method_6_code
def yX2_isPerson : MethodName := ⟨RX2, "isPerson", "(I)Z"⟩
abbrev cX2_isSeated : ByteArray := prog_4_method_7_code
def yX2_isSeated : MethodName := ⟨RX2, "isSeated", "(I)Z"⟩
abbrev cX2_isAside : ByteArray := prog_4_method_8_code
def yX2_isAside : MethodName := ⟨RX2, "isAside", "(I)Z"⟩
abbrev cX2_takes : ByteArray := prog_4_method_9_code
def yX2_takes : MethodName := ⟨RX2, "takes", "(I)I"⟩
abbrev cX2_isClear : ByteArray := prog_4_method_10_code
def yX2_isClear : MethodName := ⟨RX2, "isClear", "(II)Z"⟩
abbrev cX2_fits : ByteArray := prog_4_method_11_code
def yX2_fits : MethodName := ⟨RX2, "fits", "(II)Z"⟩
abbrev cX2_apart : ByteArray := prog_4_method_12_code
def yX2_apart : MethodName := ⟨RX2, "apart", "(II)I"⟩
abbrev cX2_isSatOver : ByteArray := prog_4_method_13_code
def yX2_isSatOver : MethodName := ⟨RX2, "isSatOver", "(I)Z"⟩
abbrev cX2_whoIsAt : ByteArray := prog_4_method_14_code
def yX2_whoIsAt : MethodName := ⟨RX2, "whoIsAt", "(I)I"⟩
abbrev cX2_rank : ByteArray := prog_4_method_15_code
def yX2_rank : MethodName := ⟨RX2, "rank", "(I)I"⟩
abbrev cX2_whoIsNth : ByteArray := prog_4_method_16_code
def yX2_whoIsNth : MethodName := ⟨RX2, "whoIsNth", "(I)I"⟩
abbrev cX2_seated : ByteArray := prog_4_method_17_code
def yX2_seated : MethodName := ⟨RX2, "seated", "()I"⟩
abbrev cX2_free : ByteArray := prog_4_method_18_code
def yX2_free : MethodName := ⟨RX2, "free", "()I"⟩
abbrev cX2_rests : ByteArray := prog_4_method_19_code
def yX2_rests : MethodName := ⟨RX2, "rests", "()I"⟩
abbrev cX2_warmSeats : ByteArray := prog_4_method_20_code
def yX2_warmSeats : MethodName := ⟨RX2, "warmSeats", "(I)V"⟩
abbrev cX2_write : ByteArray := prog_4_method_21_code
def yX2_write : MethodName := ⟨RX2, "write", "(III)V"⟩
def RX3 : String := "MoveUp$Day"
def TX3 : u_T := fun k => match k with
  | 0 => ("MoveUp$Day", "lines", "I", false)
  | 1 => ("MoveUp$Day", "act", "[I", true)
  | 2 => ("MoveUp$Day", "who", "[I", true)
  | _ => ("MoveUp$Day", "hour", "[I", true)
def tyX3 : Nat → FieldType := fun k => match k with
  | 0 => .int
  | 1 => .array .int
  | 2 => .array .int
  | _ => .array .int
theorem nmX3 : ∀ a, a < 4 → ∀ b, b < 4 → a ≠ b → (TX3 a).2.1 ≠ (TX3 b).2.1 := by decide +kernel
theorem tyX3_ok : ∀ k, k < 4 → parseFieldDescriptor (TX3 k).2.2.1 = some (tyX3 k) := by decide +kernel
abbrev cX3_copyFrom : ByteArray := prog_5_method_2_code
def yX3_copyFrom : MethodName := ⟨RX3, "copyFrom", "(LMoveUp$Day;)V"⟩
abbrev cX3_add : ByteArray := prog_5_method_3_code
def yX3_add : MethodName := ⟨RX3, "add", "(III)V"⟩
abbrev cX3_nextHour : ByteArray := prog_5_method_4_code
def yX3_nextHour : MethodName := ⟨RX3, "nextHour", "(I)I"⟩
def RX4 : String := "MoveUp$Filling"
def TX4 : u_T := fun k => match k with
  | 0 => ("MoveUp$Filling", "bench", "LMoveUp$Bench;", true)
  | 1 => ("MoveUp$Filling", "row", "LMoveUp$Row;", true)
  | 2 => ("MoveUp$Filling", "oneRest", "[I", true)
  | 3 => ("MoveUp$Filling", "fewestFrom", "[I", true)
  | 4 => ("MoveUp$Filling", "means", "[[I", true)
  | 5 => ("MoveUp$Filling", "rightParts", "[I", true)
  | 6 => ("MoveUp$Filling", "wide", "I", false)
  | _ => ("MoveUp$Filling", "keep", "I", false)
def tyX4 : Nat → FieldType := fun k => match k with
  | 0 => .object "MoveUp$Bench"
  | 1 => .object "MoveUp$Row"
  | 2 => .array .int
  | 3 => .array .int
  | 4 => .array (.array .int)
  | 5 => .array .int
  | 6 => .int
  | _ => .int
theorem nmX4 : ∀ a, a < 8 → ∀ b, b < 8 → a ≠ b → (TX4 a).2.1 ≠ (TX4 b).2.1 := by decide +kernel
theorem tyX4_ok : ∀ k, k < 8 → parseFieldDescriptor (TX4 k).2.2.1 = some (tyX4 k) := by decide +kernel
abbrev cX4_ofAlike : ByteArray := prog_6_method_2_code
def yX4_ofAlike : MethodName := ⟨RX4, "ofAlike", "(II)V"⟩
abbrev cX4_total : ByteArray := prog_6_method_3_code
def yX4_total : MethodName := ⟨RX4, "total", "(I)I"⟩
abbrev cX4_bestInchForRest : ByteArray := prog_6_method_4_code
def yX4_bestInchForRest : MethodName := ⟨RX4, "bestInchForRest", "()I"⟩
abbrev cX4_isClear : ByteArray := prog_6_method_5_code
def yX4_isClear : MethodName := ⟨RX4, "isClear", "([II)Z"⟩
abbrev cX4_fewest : ByteArray := prog_6_method_6_code
def yX4_fewest : MethodName := ⟨RX4, "fewest", "([III)I"⟩
abbrev cX4_most : ByteArray := prog_6_method_7_code
def yX4_most : MethodName := ⟨RX4, "most", "(II)I"⟩
abbrev cX4_mean : ByteArray := prog_6_method_8_code
def yX4_mean : MethodName := ⟨RX4, "mean", "(II)I"⟩
abbrev cX4_meanOf : ByteArray := prog_6_method_9_code
def yX4_meanOf : MethodName := ⟨RX4, "meanOf", "(II)I"⟩
def RX5 : String := "MoveUp$Law"
def TX5 : u_T := fun k => match k with
  | 0 => ("MoveUp$Law", "lines", "I", false)
  | 1 => ("MoveUp$Law", "size", "I", false)
  | 2 => ("MoveUp$Law", "code", "[I", true)
  | 3 => ("MoveUp$Law", "from", "[I", true)
  | 4 => ("MoveUp$Law", "when", "[I", true)
  | 5 => ("MoveUp$Law", "stop", "[I", true)
  | _ => ("MoveUp$Law", "stack", "[I", true)
def tyX5 : Nat → FieldType := fun k => match k with
  | 0 => .int
  | 1 => .int
  | 2 => .array .int
  | 3 => .array .int
  | 4 => .array .int
  | 5 => .array .int
  | _ => .array .int
theorem nmX5 : ∀ a, a < 7 → ∀ b, b < 7 → a ≠ b → (TX5 a).2.1 ≠ (TX5 b).2.1 := by decide +kernel
theorem tyX5_ok : ∀ k, k < 7 → parseFieldDescriptor (TX5 k).2.2.1 = some (tyX5 k) := by decide +kernel
abbrev cX5_clear : ByteArray := prog_7_method_2_code
def yX5_clear : MethodName := ⟨RX5, "clear", "()V"⟩
abbrev cX5_copyFrom : ByteArray := prog_7_method_3_code
def yX5_copyFrom : MethodName := ⟨RX5, "copyFrom", "(LMoveUp$Law;)V"⟩
abbrev cX5_add : ByteArray := prog_7_method_4_code
def yX5_add : MethodName := ⟨RX5, "add", "(I)V"⟩
abbrev cX5_value : ByteArray := prog_7_method_5_code
def yX5_value : MethodName := ⟨RX5, "value", "([II)I"⟩
abbrev cX5_run : ByteArray := prog_7_method_6_code
def yX5_run : MethodName := ⟨RX5, "run", "(II[I)I"⟩
abbrev cX5_joined : ByteArray := prog_7_method_7_code
def yX5_joined : MethodName := ⟨RX5, "joined", "(III)I"⟩
def RX6 : String := "MoveUp$Past"
def TX6 : u_T := fun k => match k with
  | 0 => ("MoveUp$Past", "count", "I", false)
  | 1 => ("MoveUp$Past", "next", "I", false)
  | 2 => ("MoveUp$Past", "seat", "[[I", true)
  | 3 => ("MoveUp$Past", "warm", "[[I", true)
  | 4 => ("MoveUp$Past", "hour", "[I", true)
  | _ => ("MoveUp$Past", "lines", "[I", true)
def tyX6 : Nat → FieldType := fun k => match k with
  | 0 => .int
  | 1 => .int
  | 2 => .array (.array .int)
  | 3 => .array (.array .int)
  | 4 => .array .int
  | _ => .array .int
theorem nmX6 : ∀ a, a < 6 → ∀ b, b < 6 → a ≠ b → (TX6 a).2.1 ≠ (TX6 b).2.1 := by decide +kernel
theorem tyX6_ok : ∀ k, k < 6 → parseFieldDescriptor (TX6 k).2.2.1 = some (tyX6 k) := by decide +kernel
abbrev cX6_forget : ByteArray := prog_8_method_2_code
def yX6_forget : MethodName := ⟨RX6, "forget", "()V"⟩
abbrev cX6_keepNow : ByteArray := prog_8_method_3_code
def yX6_keepNow : MethodName := ⟨RX6, "keepNow", "(LMoveUp$Bench;)V"⟩
abbrev cX6_goBack : ByteArray := prog_8_method_4_code
def yX6_goBack : MethodName := ⟨RX6, "goBack", "(LMoveUp$Bench;)Z"⟩
abbrev cX6_keepThought : ByteArray := prog_8_method_5_code
def yX6_keepThought : MethodName := ⟨RX6, "keepThought", "(LMoveUp$Bench;)V"⟩
abbrev cX6_endThought : ByteArray := prog_8_method_6_code
def yX6_endThought : MethodName := ⟨RX6, "endThought", "(LMoveUp$Bench;)V"⟩
abbrev cX6_save : ByteArray := prog_8_method_7_code
def yX6_save : MethodName := ⟨RX6, "save", "(LMoveUp$Bench;I)V"⟩
abbrev cX6_load : ByteArray := prog_8_method_8_code
def yX6_load : MethodName := ⟨RX6, "load", "(LMoveUp$Bench;I)V"⟩
def RX7 : String := "MoveUp$Reader"
def TX7 : u_T := fun k => match k with
  | 0 => ("MoveUp$Reader", "size", "I", false)
  | 1 => ("MoveUp$Reader", "fault", "I", false)
  | 2 => ("MoveUp$Reader", "faultPlace", "I", false)
  | 3 => ("MoveUp$Reader", "law", "LMoveUp$Law;", true)
  | 4 => ("MoveUp$Reader", "day", "LMoveUp$Day;", true)
  | 5 => ("MoveUp$Reader", "kind", "I", false)
  | 6 => ("MoveUp$Reader", "tokens", "I", false)
  | 7 => ("MoveUp$Reader", "next", "I", false)
  | 8 => ("MoveUp$Reader", "tape", "[I", true)
  | 9 => ("MoveUp$Reader", "token", "[I", true)
  | _ => ("MoveUp$Reader", "place", "[I", true)
def tyX7 : Nat → FieldType := fun k => match k with
  | 0 => .int
  | 1 => .int
  | 2 => .int
  | 3 => .object "MoveUp$Law"
  | 4 => .object "MoveUp$Day"
  | 5 => .int
  | 6 => .int
  | 7 => .int
  | 8 => .array .int
  | 9 => .array .int
  | _ => .array .int
theorem nmX7 : ∀ a, a < 11 → ∀ b, b < 11 → a ≠ b → (TX7 a).2.1 ≠ (TX7 b).2.1 := by decide +kernel
theorem tyX7_ok : ∀ k, k < 11 → parseFieldDescriptor (TX7 k).2.2.1 = some (tyX7 k) := by decide +kernel
abbrev cX7_append : ByteArray := prog_9_method_2_code
def yX7_append : MethodName := ⟨RX7, "append", "(I)V"⟩
abbrev cX7_reads : ByteArray := prog_9_method_3_code
def yX7_reads : MethodName := ⟨RX7, "reads", "(II)Z"⟩
abbrev cX7_split : ByteArray := prog_9_method_4_code
def yX7_split : MethodName := ⟨RX7, "split", "()V"⟩
abbrev cX7_addToken : ByteArray := prog_9_method_5_code
def yX7_addToken : MethodName := ⟨RX7, "addToken", "(II)V"⟩
abbrev cX7_isLetter : ByteArray := prog_9_method_6_code
def yX7_isLetter : MethodName := ⟨RX7, "isLetter", "(I)Z"⟩
abbrev cX7_isDigit : ByteArray := prog_9_method_7_code
def yX7_isDigit : MethodName := ⟨RX7, "isDigit", "(I)Z"⟩
abbrev cX7_tokenOf : ByteArray := prog_9_method_8_code
def yX7_tokenOf : MethodName := ⟨RX7, "tokenOf", "(II)I"⟩
abbrev cX7_wordOf : ByteArray := prog_9_method_9_code
def yX7_wordOf : MethodName := ⟨RX7, "wordOf", "(II)I"⟩
abbrev cX7_fail : ByteArray := prog_9_method_10_code
def yX7_fail : MethodName := ⟨RX7, "fail", "(I)V"⟩
abbrev cX7_step : ByteArray := prog_9_method_11_code
def yX7_step : MethodName := ⟨RX7, "step", "()V"⟩
abbrev cX7_take : ByteArray := prog_9_method_12_code
def yX7_take : MethodName := ⟨RX7, "take", "(I)V"⟩
abbrev cX7_readLaw : ByteArray := prog_9_method_13_code
def yX7_readLaw : MethodName := ⟨RX7, "readLaw", "()V"⟩
abbrev cX7_readClaims : ByteArray := prog_9_method_14_code
def yX7_readClaims : MethodName := ⟨RX7, "readClaims", "(II)V"⟩
abbrev cX7_readClaim : ByteArray := prog_9_method_15_code
def yX7_readClaim : MethodName := ⟨RX7, "readClaim", "(I)V"⟩
abbrev cX7_readSum : ByteArray := prog_9_method_16_code
def yX7_readSum : MethodName := ⟨RX7, "readSum", "()V"⟩
abbrev cX7_readProduct : ByteArray := prog_9_method_17_code
def yX7_readProduct : MethodName := ⟨RX7, "readProduct", "()V"⟩
abbrev cX7_isTerm : ByteArray := prog_9_method_18_code
def yX7_isTerm : MethodName := ⟨RX7, "isTerm", "(I)Z"⟩
abbrev cX7_readDay : ByteArray := prog_9_method_19_code
def yX7_readDay : MethodName := ⟨RX7, "readDay", "(I)V"⟩
abbrev cX7_readNumber : ByteArray := prog_9_method_20_code
def yX7_readNumber : MethodName := ⟨RX7, "readNumber", "(I)I"⟩
def RX8 : String := "MoveUp$Room"
def TX8 : u_T := fun k => match k with
  | 0 => ("MoveUp$Room", "inch", "[I", true)
  | 1 => ("MoveUp$Room", "bench", "LMoveUp$Bench;", true)
  | 2 => ("MoveUp$Room", "row", "LMoveUp$Row;", true)
  | 3 => ("MoveUp$Room", "terms", "[I", true)
  | 4 => ("MoveUp$Room", "costs", "[[I", true)
  | 5 => ("MoveUp$Room", "exact", "[[I", true)
  | 6 => ("MoveUp$Room", "least", "[[I", true)
  | 7 => ("MoveUp$Room", "line", "[I", true)
  | _ => ("MoveUp$Room", "found", "I", false)
def tyX8 : Nat → FieldType := fun k => match k with
  | 0 => .array .int
  | 1 => .object "MoveUp$Bench"
  | 2 => .object "MoveUp$Row"
  | 3 => .array .int
  | 4 => .array (.array .int)
  | 5 => .array (.array .int)
  | 6 => .array (.array .int)
  | 7 => .array .int
  | _ => .int
theorem nmX8 : ∀ a, a < 9 → ∀ b, b < 9 → a ≠ b → (TX8 a).2.1 ≠ (TX8 b).2.1 := by decide +kernel
theorem tyX8_ok : ∀ k, k < 9 → parseFieldDescriptor (TX8 k).2.2.1 = some (tyX8 k) := by decide +kernel
abbrev cX8_cost : ByteArray := prog_10_method_2_code
def yX8_cost : MethodName := ⟨RX8, "cost", "()I"⟩
abbrev cX8_moved : ByteArray := prog_10_method_3_code
def yX8_moved : MethodName := ⟨RX8, "moved", "()I"⟩
abbrev cX8_reckonCosts : ByteArray := prog_10_method_4_code
def yX8_reckonCosts : MethodName := ⟨RX8, "reckonCosts", "()V"⟩
abbrev cX8_find : ByteArray := prog_10_method_5_code
def yX8_find : MethodName := ⟨RX8, "find", "(II)Z"⟩
abbrev cX8_weigh : ByteArray := prog_10_method_6_code
def yX8_weigh : MethodName := ⟨RX8, "weigh", "(II)V"⟩
abbrev cX8_takesWithKeep : ByteArray := prog_10_method_7_code
def yX8_takesWithKeep : MethodName := ⟨RX8, "takesWithKeep", "(II)I"⟩
abbrev cX8_weightOf : ByteArray := prog_10_method_8_code
def yX8_weightOf : MethodName := ⟨RX8, "weightOf", "(III)I"⟩
abbrev cX8_settle : ByteArray := prog_10_method_9_code
def yX8_settle : MethodName := ⟨RX8, "settle", "(I)V"⟩
def RX9 : String := "MoveUp$Row"
def TX9 : u_T := fun k => match k with
  | 0 => ("MoveUp$Row", "size", "I", false)
  | 1 => ("MoveUp$Row", "at", "[I", true)
  | 2 => ("MoveUp$Row", "end", "[I", true)
  | 3 => ("MoveUp$Row", "keep", "[I", true)
  | 4 => ("MoveUp$Row", "group", "[I", true)
  | 5 => ("MoveUp$Row", "who", "[I", true)
  | 6 => ("MoveUp$Row", "askerWide", "I", false)
  | 7 => ("MoveUp$Row", "askerKeep", "I", false)
  | 8 => ("MoveUp$Row", "askerBag", "I", false)
  | _ => ("MoveUp$Row", "askerGroup", "I", false)
def tyX9 : Nat → FieldType := fun k => match k with
  | 0 => .int
  | 1 => .array .int
  | 2 => .array .int
  | 3 => .array .int
  | 4 => .array .int
  | 5 => .array .int
  | 6 => .int
  | 7 => .int
  | 8 => .int
  | _ => .int
theorem nmX9 : ∀ a, a < 10 → ∀ b, b < 10 → a ≠ b → (TX9 a).2.1 ≠ (TX9 b).2.1 := by decide +kernel
theorem tyX9_ok : ∀ k, k < 10 → parseFieldDescriptor (TX9 k).2.2.1 = some (tyX9 k) := by decide +kernel
abbrev cX9_gather : ByteArray := prog_11_method_2_code
def yX9_gather : MethodName := ⟨RX9, "gather", "(LMoveUp$Bench;I)V"⟩
abbrev cX9_askFor : ByteArray := prog_11_method_3_code
def yX9_askFor : MethodName := ⟨RX9, "askFor", "(LMoveUp$Bench;I)V"⟩
abbrev cX9_askForAlike : ByteArray := prog_11_method_4_code
def yX9_askForAlike : MethodName := ⟨RX9, "askForAlike", "(II)V"⟩
abbrev cX9_seatAsker : ByteArray := prog_11_method_5_code
def yX9_seatAsker : MethodName := ⟨RX9, "seatAsker", "(I)V"⟩
abbrev cX9_placeFor : ByteArray := prog_11_method_6_code
def yX9_placeFor : MethodName := ⟨RX9, "placeFor", "(I)I"⟩
abbrev cX9_isFriend : ByteArray := prog_11_method_7_code
def yX9_isFriend : MethodName := ⟨RX9, "isFriend", "(I)Z"⟩
abbrev cX9_apart : ByteArray := prog_11_method_8_code
def yX9_apart : MethodName := ⟨RX9, "apart", "(I)I"⟩
abbrev cX9_gapStart : ByteArray := prog_11_method_9_code
def yX9_gapStart : MethodName := ⟨RX9, "gapStart", "(I)I"⟩
abbrev cX9_gapEnd : ByteArray := prog_11_method_10_code
def yX9_gapEnd : MethodName := ⟨RX9, "gapEnd", "(II)I"⟩
abbrev cX9_lowest : ByteArray := prog_11_method_11_code
def yX9_lowest : MethodName := ⟨RX9, "lowest", "(I)I"⟩
abbrev cX9_highest : ByteArray := prog_11_method_12_code
def yX9_highest : MethodName := ⟨RX9, "highest", "(II)I"⟩
abbrev cX9_gapOf : ByteArray := prog_11_method_13_code
def yX9_gapOf : MethodName := ⟨RX9, "gapOf", "(I)I"⟩
def RX10 : String := "MoveUp$Seats"
def TX10 : u_T := fun k => match k with
  | 0 => ("MoveUp$Seats", "bench", "LMoveUp$Bench;", true)
  | 1 => ("MoveUp$Seats", "row", "LMoveUp$Row;", true)
  | _ => ("MoveUp$Seats", "terms", "[I", true)
def tyX10 : Nat → FieldType := fun k => match k with
  | 0 => .object "MoveUp$Bench"
  | 1 => .object "MoveUp$Row"
  | _ => .array .int
theorem nmX10 : ∀ a, a < 3 → ∀ b, b < 3 → a ≠ b → (TX10 a).2.1 ≠ (TX10 b).2.1 := by decide +kernel
theorem tyX10_ok : ∀ k, k < 3 → parseFieldDescriptor (TX10 k).2.2.1 = some (tyX10 k) := by decide +kernel
abbrev cX10_isPlace : ByteArray := prog_12_method_2_code
def yX10_isPlace : MethodName := ⟨RX10, "isPlace", "(I)Z"⟩
abbrev cX10_valueAt : ByteArray := prog_12_method_3_code
def yX10_valueAt : MethodName := ⟨RX10, "valueAt", "(I)I"⟩
abbrev cX10_best : ByteArray := prog_12_method_4_code
def yX10_best : MethodName := ⟨RX10, "best", "()I"⟩
abbrev cX10_fillByLaw : ByteArray := prog_12_method_5_code
def yX10_fillByLaw : MethodName := ⟨RX10, "fillByLaw", "(II)I"⟩
abbrev cX10_tellAsker : ByteArray := prog_12_method_6_code
def yX10_tellAsker : MethodName := ⟨RX10, "tellAsker", "()V"⟩
abbrev cX10_value : ByteArray := prog_12_method_7_code
def yX10_value : MethodName := ⟨RX10, "value", "(II)I"⟩
abbrev cX10_warmInches : ByteArray := prog_12_method_8_code
def yX10_warmInches : MethodName := ⟨RX10, "warmInches", "(I)I"⟩
def RX11 : String := "MoveUp"
def TX11 : u_T := fun k => match k with
  | 0 => ("MoveUp", "bench", "LMoveUp$Bench;", true)
  | 1 => ("MoveUp", "image", "LMoveUp$Bench;", true)
  | 2 => ("MoveUp", "past", "LMoveUp$Past;", true)
  | 3 => ("MoveUp", "reader", "LMoveUp$Reader;", true)
  | 4 => ("MoveUp", "row", "LMoveUp$Row;", true)
  | 5 => ("MoveUp", "seats", "LMoveUp$Seats;", true)
  | 6 => ("MoveUp", "rooms", "LMoveUp$Room;", true)
  | 7 => ("MoveUp", "filling", "LMoveUp$Filling;", true)
  | 8 => ("MoveUp", "arrivals", "LMoveUp$Arrivals;", true)
  | 9 => ("MoveUp", "acts", "LMoveUp$Acts;", true)
  | _ => ("MoveUp", "imageTaken", "Z", false)
def tyX11 : Nat → FieldType := fun k => match k with
  | 0 => .object "MoveUp$Bench"
  | 1 => .object "MoveUp$Bench"
  | 2 => .object "MoveUp$Past"
  | 3 => .object "MoveUp$Reader"
  | 4 => .object "MoveUp$Row"
  | 5 => .object "MoveUp$Seats"
  | 6 => .object "MoveUp$Room"
  | 7 => .object "MoveUp$Filling"
  | 8 => .object "MoveUp$Arrivals"
  | 9 => .object "MoveUp$Acts"
  | _ => .boolean
theorem nmX11 : ∀ a, a < 11 → ∀ b, b < 11 → a ≠ b → (TX11 a).2.1 ≠ (TX11 b).2.1 := by decide +kernel
theorem tyX11_ok : ∀ k, k < 11 → parseFieldDescriptor (TX11 k).2.2.1 = some (tyX11 k) := by decide +kernel
abbrev cX11_bench : ByteArray := prog_1_method_2_code
def yX11_bench : MethodName := ⟨RX11, "bench", "(I)Z"⟩
abbrev cX11_rest : ByteArray := prog_1_method_3_code
def yX11_rest : MethodName := ⟨RX11, "rest", "(IZ)Z"⟩
abbrev cX11_person : ByteArray := prog_1_method_4_code
def yX11_person : MethodName := ⟨RX11, "person", "(IIIII)I"⟩
abbrev cX11_set : ByteArray := prog_1_method_5_code
def yX11_set : MethodName := ⟨RX11, "set", "(III)Z"⟩
abbrev cX11_come : ByteArray := prog_1_method_6_code
def yX11_come : MethodName := ⟨RX11, "come", "(I)I"⟩
abbrev cX11_go : ByteArray := prog_1_method_7_code
def yX11_go : MethodName := ⟨RX11, "go", "(I)Z"⟩
abbrev cX11_beg : ByteArray := prog_1_method_8_code
def yX11_beg : MethodName := ⟨RX11, "beg", "(I)I"⟩
abbrev cX11_feed : ByteArray := prog_1_method_9_code
def yX11_feed : MethodName := ⟨RX11, "feed", "(IIIII)I"⟩
abbrev cX11_end : ByteArray := prog_1_method_10_code
def yX11_end : MethodName := ⟨RX11, "end", "(I)Z"⟩
abbrev cX11_text : ByteArray := prog_1_method_11_code
def yX11_text : MethodName := ⟨RX11, "text", "(I)I"⟩
abbrev cX11_fault : ByteArray := prog_1_method_12_code
def yX11_fault : MethodName := ⟨RX11, "fault", "(I)I"⟩
abbrev cX11_hours : ByteArray := prog_1_method_13_code
def yX11_hours : MethodName := ⟨RX11, "hours", "(I)I"⟩
abbrev cX11_of : ByteArray := prog_1_method_14_code
def yX11_of : MethodName := ⟨RX11, "of", "(II)I"⟩
abbrev cX11_at : ByteArray := prog_1_method_15_code
def yX11_at : MethodName := ⟨RX11, "at", "(II)I"⟩
abbrev cX11_tells : ByteArray := prog_1_method_16_code
def yX11_tells : MethodName := ⟨RX11, "tells", "(II)I"⟩
abbrev cX11_book : ByteArray := prog_1_method_17_code
def yX11_book : MethodName := ⟨RX11, "book", "(II)I"⟩
abbrev cX11_room : ByteArray := prog_1_method_18_code
def yX11_room : MethodName := ⟨RX11, "room", "(II)I"⟩
abbrev cX11_rise : ByteArray := prog_1_method_19_code
def yX11_rise : MethodName := ⟨RX11, "rise", "(II)I"⟩
abbrev cX11_fill : ByteArray := prog_1_method_20_code
def yX11_fill : MethodName := ⟨RX11, "fill", "(III)I"⟩
abbrev cX11_bestRest : ByteArray := prog_1_method_21_code
def yX11_bestRest : MethodName := ⟨RX11, "bestRest", "(II)I"⟩
abbrev cX11_block : ByteArray := prog_1_method_22_code
def yX11_block : MethodName := ⟨RX11, "block", "(III)I"⟩
abbrev cX11_orders : ByteArray := prog_1_method_23_code
def yX11_orders : MethodName := ⟨RX11, "orders", "(I)I"⟩
abbrev cX11_gives : ByteArray := prog_1_method_24_code
def yX11_gives : MethodName := ⟨RX11, "gives", "(II)I"⟩
abbrev cX11_stands : ByteArray := prog_1_method_25_code
def yX11_stands : MethodName := ⟨RX11, "stands", "(I)I"⟩
abbrev cX11_undo : ByteArray := prog_1_method_26_code
def yX11_undo : MethodName := ⟨RX11, "undo", "()Z"⟩
abbrev cX11_image : ByteArray := prog_1_method_27_code
def yX11_image : MethodName := ⟨RX11, "image", "(Z)Z"⟩
abbrev cX11_look : ByteArray := prog_1_method_28_code
def yX11_look : MethodName := ⟨RX11, "look", "(I)I"⟩
abbrev cX11_allowed : ByteArray := prog_1_method_29_code
def yX11_allowed : MethodName := ⟨RX11, "allowed", "(II)Z"⟩
def RX12 : String := "MoveUpModel"
def TX12 : u_T := fun k => match k with
  | 0 => ("MoveUpModel", "told", "I", false)
  | 1 => ("MoveUpModel", "now", "[I", true)
  | 2 => ("MoveUpModel", "rows", "[I", true)
  | 3 => ("MoveUpModel", "undoable", "I", false)
  | 4 => ("MoveUpModel", "waiting", "[I", true)
  | 5 => ("MoveUpModel", "isThought", "Z", false)
  | 6 => ("MoveUpModel", "lengthBut", "I", false)
  | 7 => ("MoveUpModel", "isRest", "[Z", true)
  | 8 => ("MoveUpModel", "people", "I", false)
  | 9 => ("MoveUpModel", "wideOf", "[I", true)
  | 10 => ("MoveUpModel", "keepOf", "[I", true)
  | 11 => ("MoveUpModel", "bagOf", "[I", true)
  | 12 => ("MoveUpModel", "groupOf", "[I", true)
  | 13 => ("MoveUpModel", "movesOf", "[I", true)
  | 14 => ("MoveUpModel", "book", "[I", true)
  | 15 => ("MoveUpModel", "tape", "[I", true)
  | 16 => ("MoveUpModel", "taped", "I", false)
  | 17 => ("MoveUpModel", "spot", "I", false)
  | 18 => ("MoveUpModel", "from", "I", false)
  | 19 => ("MoveUpModel", "token", "I", false)
  | 20 => ("MoveUpModel", "value", "I", false)
  | 21 => ("MoveUpModel", "words", "[I", true)
  | 22 => ("MoveUpModel", "lineMany", "[I", true)
  | 23 => ("MoveUpModel", "lineFrom", "[I", true)
  | 24 => ("MoveUpModel", "lineWhen", "[I", true)
  | 25 => ("MoveUpModel", "lineTo", "[I", true)
  | 26 => ("MoveUpModel", "op", "[I", true)
  | 27 => ("MoveUpModel", "arg", "[I", true)
  | 28 => ("MoveUpModel", "which", "I", false)
  | 29 => ("MoveUpModel", "codes", "I", false)
  | 30 => ("MoveUpModel", "open", "I", false)
  | 31 => ("MoveUpModel", "pending", "[I", true)
  | 32 => ("MoveUpModel", "pendings", "I", false)
  | 33 => ("MoveUpModel", "readFault", "I", false)
  | 34 => ("MoveUpModel", "readPlace", "I", false)
  | 35 => ("MoveUpModel", "faultKind", "I", false)
  | 36 => ("MoveUpModel", "faultPlace", "I", false)
  | 37 => ("MoveUpModel", "dayMany", "I", false)
  | 38 => ("MoveUpModel", "day", "[I", true)
  | 39 => ("MoveUpModel", "asked", "[I", true)
  | 40 => ("MoveUpModel", "stack", "[I", true)
  | 41 => ("MoveUpModel", "starts", "[I", true)
  | 42 => ("MoveUpModel", "behind", "[I", true)
  | 43 => ("MoveUpModel", "keeps", "[I", true)
  | 44 => ("MoveUpModel", "groups", "[I", true)
  | 45 => ("MoveUpModel", "whoSits", "[I", true)
  | 46 => ("MoveUpModel", "many", "I", false)
  | 47 => ("MoveUpModel", "askWide", "I", false)
  | 48 => ("MoveUpModel", "askKeep", "I", false)
  | 49 => ("MoveUpModel", "askBag", "I", false)
  | 50 => ("MoveUpModel", "askGroup", "I", false)
  | 51 => ("MoveUpModel", "standMany", "I", false)
  | 52 => ("MoveUpModel", "standFirst", "I", false)
  | 53 => ("MoveUpModel", "itemWho", "[I", true)
  | 54 => ("MoveUpModel", "itemInch", "[I", true)
  | 55 => ("MoveUpModel", "leastFrom", "[I", true)
  | 56 => ("MoveUpModel", "roomInch", "[I", true)
  | 57 => ("MoveUpModel", "roomCost", "I", false)
  | 58 => ("MoveUpModel", "fewest", "[I", true)
  | 59 => ("MoveUpModel", "most", "[I", true)
  | 60 => ("MoveUpModel", "mean", "[I", true)
  | 61 => ("MoveUpModel", "sumFewest", "I", false)
  | 62 => ("MoveUpModel", "sumMost", "I", false)
  | 63 => ("MoveUpModel", "sumMean", "I", false)
  | 64 => ("MoveUpModel", "bare", "[I", true)
  | 65 => ("MoveUpModel", "ordersFrom", "[I", true)
  | 66 => ("MoveUpModel", "sitting", "I", false)
  | 67 => ("MoveUpModel", "isTaking", "Z", false)
  | 68 => ("MoveUpModel", "hasImage", "Z", false)
  | 69 => ("MoveUpModel", "keptAt", "I", false)
  | _ => ("MoveUpModel", "images", "[I", true)
def tyX12 : Nat → FieldType := fun k => match k with
  | 0 => .int
  | 1 => .array .int
  | 2 => .array .int
  | 3 => .int
  | 4 => .array .int
  | 5 => .boolean
  | 6 => .int
  | 7 => .array .boolean
  | 8 => .int
  | 9 => .array .int
  | 10 => .array .int
  | 11 => .array .int
  | 12 => .array .int
  | 13 => .array .int
  | 14 => .array .int
  | 15 => .array .int
  | 16 => .int
  | 17 => .int
  | 18 => .int
  | 19 => .int
  | 20 => .int
  | 21 => .array .int
  | 22 => .array .int
  | 23 => .array .int
  | 24 => .array .int
  | 25 => .array .int
  | 26 => .array .int
  | 27 => .array .int
  | 28 => .int
  | 29 => .int
  | 30 => .int
  | 31 => .array .int
  | 32 => .int
  | 33 => .int
  | 34 => .int
  | 35 => .int
  | 36 => .int
  | 37 => .int
  | 38 => .array .int
  | 39 => .array .int
  | 40 => .array .int
  | 41 => .array .int
  | 42 => .array .int
  | 43 => .array .int
  | 44 => .array .int
  | 45 => .array .int
  | 46 => .int
  | 47 => .int
  | 48 => .int
  | 49 => .int
  | 50 => .int
  | 51 => .int
  | 52 => .int
  | 53 => .array .int
  | 54 => .array .int
  | 55 => .array .int
  | 56 => .array .int
  | 57 => .int
  | 58 => .array .int
  | 59 => .array .int
  | 60 => .array .int
  | 61 => .int
  | 62 => .int
  | 63 => .int
  | 64 => .array .int
  | 65 => .array .int
  | 66 => .int
  | 67 => .boolean
  | 68 => .boolean
  | 69 => .int
  | _ => .array .int
theorem nmX12 : ∀ a, a < 71 → ∀ b, b < 71 → a ≠ b → (TX12 a).2.1 ≠ (TX12 b).2.1 := by decide +kernel
theorem tyX12_ok : ∀ k, k < 71 → parseFieldDescriptor (TX12 k).2.2.1 = some (tyX12 k) := by decide +kernel
abbrev cX12_isIn : ByteArray := prog_14_method_3_code
def yX12_isIn : MethodName := ⟨RX12, "isIn", "(III)Z"⟩
abbrev cX12_held : ByteArray := prog_14_method_4_code
def yX12_held : MethodName := ⟨RX12, "held", "(III)I"⟩
abbrev cX12_without : ByteArray := prog_14_method_5_code
def yX12_without : MethodName := ⟨RX12, "without", "(I)I"⟩
abbrev cX12_greater : ByteArray := prog_14_method_6_code
def yX12_greater : MethodName := ⟨RX12, "greater", "(II)I"⟩
abbrev cX12_keepsAhead : ByteArray := prog_14_method_7_code
def yX12_keepsAhead : MethodName := ⟨RX12, "keepsAhead", "()V"⟩
abbrev cX12_undo : ByteArray := prog_14_method_8_code
def yX12_undo : MethodName := ⟨RX12, "undo", "()Z"⟩
abbrev cX12_thinks : ByteArray := prog_14_method_9_code
def yX12_thinks : MethodName := ⟨RX12, "thinks", "()V"⟩
abbrev cX12_endsThought : ByteArray := prog_14_method_10_code
def yX12_endsThought : MethodName := ⟨RX12, "endsThought", "()V"⟩
abbrev cX12_length : ByteArray := prog_14_method_11_code
def yX12_length : MethodName := ⟨RX12, "length", "()I"⟩
abbrev cX12_isPerson : ByteArray := prog_14_method_12_code
def yX12_isPerson : MethodName := ⟨RX12, "isPerson", "(I)Z"⟩
abbrev cX12_sits : ByteArray := prog_14_method_13_code
def yX12_sits : MethodName := ⟨RX12, "sits", "(I)Z"⟩
abbrev cX12_inchOf : ByteArray := prog_14_method_14_code
def yX12_inchOf : MethodName := ⟨RX12, "inchOf", "(I)I"⟩
abbrev cX12_takesOf : ByteArray := prog_14_method_15_code
def yX12_takesOf : MethodName := ⟨RX12, "takesOf", "(I)I"⟩
abbrev cX12_bench : ByteArray := prog_14_method_16_code
def yX12_bench : MethodName := ⟨RX12, "bench", "(I)Z"⟩
abbrev cX12_rest : ByteArray := prog_14_method_17_code
def yX12_rest : MethodName := ⟨RX12, "rest", "(IZ)Z"⟩
abbrev cX12_person : ByteArray := prog_14_method_18_code
def yX12_person : MethodName := ⟨RX12, "person", "(IIIII)I"⟩
abbrev cX12_set : ByteArray := prog_14_method_19_code
def yX12_set : MethodName := ⟨RX12, "set", "(III)Z"⟩
abbrev cX12_types : ByteArray := prog_14_method_20_code
def yX12_types : MethodName := ⟨RX12, "types", "(I)V"⟩
abbrev cX12_feed : ByteArray := prog_14_method_21_code
def yX12_feed : MethodName := ⟨RX12, "feed", "(IIIII)I"⟩
abbrev cX12_end : ByteArray := prog_14_method_22_code
def yX12_end : MethodName := ⟨RX12, "end", "(I)Z"⟩
abbrev cX12_raw : ByteArray := prog_14_method_23_code
def yX12_raw : MethodName := ⟨RX12, "raw", "(I)I"⟩
abbrev cX12_isLetter : ByteArray := prog_14_method_24_code
def yX12_isLetter : MethodName := ⟨RX12, "isLetter", "(I)Z"⟩
abbrev cX12_isDigit : ByteArray := prog_14_method_25_code
def yX12_isDigit : MethodName := ⟨RX12, "isDigit", "(I)Z"⟩
abbrev cX12_isMarkSign : ByteArray := prog_14_method_26_code
def yX12_isMarkSign : MethodName := ⟨RX12, "isMarkSign", "(I)Z"⟩
abbrev cX12_wordAt : ByteArray := prog_14_method_27_code
def yX12_wordAt : MethodName := ⟨RX12, "wordAt", "(II)I"⟩
abbrev cX12_reads : ByteArray := prog_14_method_28_code
def yX12_reads : MethodName := ⟨RX12, "reads", "()V"⟩
abbrev cX12_errs : ByteArray := prog_14_method_29_code
def yX12_errs : MethodName := ⟨RX12, "errs", "(I)I"⟩
abbrev cX12_isWord : ByteArray := prog_14_method_30_code
def yX12_isWord : MethodName := ⟨RX12, "isWord", "(I)Z"⟩
abbrev cX12_isSign : ByteArray := prog_14_method_31_code
def yX12_isSign : MethodName := ⟨RX12, "isSign", "(I)Z"⟩
abbrev cX12_emits : ByteArray := prog_14_method_32_code
def yX12_emits : MethodName := ⟨RX12, "emits", "(II)V"⟩
abbrev cX12_canAsk : ByteArray := prog_14_method_33_code
def yX12_canAsk : MethodName := ⟨RX12, "canAsk", "(I)Z"⟩
abbrev cX12_readUnit : ByteArray := prog_14_method_34_code
def yX12_readUnit : MethodName := ⟨RX12, "readUnit", "()I"⟩
abbrev cX12_readProduct : ByteArray := prog_14_method_35_code
def yX12_readProduct : MethodName := ⟨RX12, "readProduct", "()I"⟩
abbrev cX12_readSum : ByteArray := prog_14_method_36_code
def yX12_readSum : MethodName := ⟨RX12, "readSum", "()I"⟩
abbrev cX12_readCompared : ByteArray := prog_14_method_37_code
def yX12_readCompared : MethodName := ⟨RX12, "readCompared", "()I"⟩
abbrev cX12_waits : ByteArray := prog_14_method_38_code
def yX12_waits : MethodName := ⟨RX12, "waits", "(I)V"⟩
abbrev cX12_settles : ByteArray := prog_14_method_39_code
def yX12_settles : MethodName := ⟨RX12, "settles", "(I)V"⟩
abbrev cX12_readAny : ByteArray := prog_14_method_40_code
def yX12_readAny : MethodName := ⟨RX12, "readAny", "()I"⟩
abbrev cX12_isLineWord : ByteArray := prog_14_method_41_code
def yX12_isLineWord : MethodName := ⟨RX12, "isLineWord", "()Z"⟩
abbrev cX12_readLaw : ByteArray := prog_14_method_42_code
def yX12_readLaw : MethodName := ⟨RX12, "readLaw", "()I"⟩
abbrev cX12_takesLaw : ByteArray := prog_14_method_43_code
def yX12_takesLaw : MethodName := ⟨RX12, "takesLaw", "(I)V"⟩
abbrev cX12_readNumber : ByteArray := prog_14_method_44_code
def yX12_readNumber : MethodName := ⟨RX12, "readNumber", "(II)I"⟩
abbrev cX12_readDayLine : ByteArray := prog_14_method_45_code
def yX12_readDayLine : MethodName := ⟨RX12, "readDayLine", "(I)I"⟩
abbrev cX12_readDay : ByteArray := prog_14_method_46_code
def yX12_readDay : MethodName := ⟨RX12, "readDay", "()I"⟩
abbrev cX12_takesDay : ByteArray := prog_14_method_47_code
def yX12_takesDay : MethodName := ⟨RX12, "takesDay", "(I)V"⟩
abbrev cX12_text : ByteArray := prog_14_method_48_code
def yX12_text : MethodName := ⟨RX12, "text", "(I)I"⟩
abbrev cX12_fault : ByteArray := prog_14_method_49_code
def yX12_fault : MethodName := ⟨RX12, "fault", "(I)I"⟩
abbrev cX12_twoOf : ByteArray := prog_14_method_50_code
def yX12_twoOf : MethodName := ⟨RX12, "twoOf", "(III)I"⟩
abbrev cX12_runs : ByteArray := prog_14_method_51_code
def yX12_runs : MethodName := ⟨RX12, "runs", "(III)I"⟩
abbrev cX12_lineOf : ByteArray := prog_14_method_52_code
def yX12_lineOf : MethodName := ⟨RX12, "lineOf", "(I)I"⟩
abbrev cX12_seats : ByteArray := prog_14_method_53_code
def yX12_seats : MethodName := ⟨RX12, "seats", "(IIIII)V"⟩
abbrev cX12_lists : ByteArray := prog_14_method_54_code
def yX12_lists : MethodName := ⟨RX12, "lists", "(I)V"⟩
abbrev cX12_everyone : ByteArray := prog_14_method_55_code
def yX12_everyone : MethodName := ⟨RX12, "everyone", "()I"⟩
abbrev cX12_asksFor : ByteArray := prog_14_method_56_code
def yX12_asksFor : MethodName := ⟨RX12, "asksFor", "(I)V"⟩
abbrev cX12_apartOf : ByteArray := prog_14_method_57_code
def yX12_apartOf : MethodName := ⟨RX12, "apartOf", "(IIII)I"⟩
abbrev cX12_isOverRest : ByteArray := prog_14_method_58_code
def yX12_isOverRest : MethodName := ⟨RX12, "isOverRest", "(II)Z"⟩
abbrev cX12_leftOf : ByteArray := prog_14_method_59_code
def yX12_leftOf : MethodName := ⟨RX12, "leftOf", "(I)I"⟩
abbrev cX12_canSit : ByteArray := prog_14_method_60_code
def yX12_canSit : MethodName := ⟨RX12, "canSit", "(I)Z"⟩
abbrev cX12_warmAt : ByteArray := prog_14_method_61_code
def yX12_warmAt : MethodName := ⟨RX12, "warmAt", "(I)I"⟩
abbrev cX12_isFriend : ByteArray := prog_14_method_62_code
def yX12_isFriend : MethodName := ⟨RX12, "isFriend", "(I)Z"⟩
abbrev cX12_asksHim : ByteArray := prog_14_method_63_code
def yX12_asksHim : MethodName := ⟨RX12, "asksHim", "()V"⟩
abbrev cX12_tellsOf : ByteArray := prog_14_method_64_code
def yX12_tellsOf : MethodName := ⟨RX12, "tellsOf", "(I)I"⟩
abbrev cX12_bestInch : ByteArray := prog_14_method_65_code
def yX12_bestInch : MethodName := ⟨RX12, "bestInch", "()I"⟩
abbrev cX12_tells : ByteArray := prog_14_method_66_code
def yX12_tells : MethodName := ⟨RX12, "tells", "(II)I"⟩
abbrev cX12_notes : ByteArray := prog_14_method_67_code
def yX12_notes : MethodName := ⟨RX12, "notes", "(III)V"⟩
abbrev cX12_comes : ByteArray := prog_14_method_68_code
def yX12_comes : MethodName := ⟨RX12, "comes", "(I)I"⟩
abbrev cX12_goes : ByteArray := prog_14_method_69_code
def yX12_goes : MethodName := ⟨RX12, "goes", "(I)V"⟩
abbrev cX12_begs : ByteArray := prog_14_method_70_code
def yX12_begs : MethodName := ⟨RX12, "begs", "(I)I"⟩
abbrev cX12_isAside : ByteArray := prog_14_method_71_code
def yX12_isAside : MethodName := ⟨RX12, "isAside", "(I)Z"⟩
abbrev cX12_come : ByteArray := prog_14_method_72_code
def yX12_come : MethodName := ⟨RX12, "come", "(I)I"⟩
abbrev cX12_go : ByteArray := prog_14_method_73_code
def yX12_go : MethodName := ⟨RX12, "go", "(I)Z"⟩
abbrev cX12_beg : ByteArray := prog_14_method_74_code
def yX12_beg : MethodName := ⟨RX12, "beg", "(I)I"⟩
abbrev cX12_standsNow : ByteArray := prog_14_method_75_code
def yX12_standsNow : MethodName := ⟨RX12, "standsNow", "(I)V"⟩
abbrev cX12_doesLine : ByteArray := prog_14_method_76_code
def yX12_doesLine : MethodName := ⟨RX12, "doesLine", "(I)Z"⟩
abbrev cX12_goesBy : ByteArray := prog_14_method_77_code
def yX12_goesBy : MethodName := ⟨RX12, "goesBy", "()I"⟩
abbrev cX12_hours : ByteArray := prog_14_method_78_code
def yX12_hours : MethodName := ⟨RX12, "hours", "(I)I"⟩
abbrev cX12_stands : ByteArray := prog_14_method_79_code
def yX12_stands : MethodName := ⟨RX12, "stands", "(I)I"⟩
abbrev cX12_placeOf : ByteArray := prog_14_method_80_code
def yX12_placeOf : MethodName := ⟨RX12, "placeOf", "(I)I"⟩
abbrev cX12_of : ByteArray := prog_14_method_81_code
def yX12_of : MethodName := ⟨RX12, "of", "(II)I"⟩
abbrev cX12_whoAt : ByteArray := prog_14_method_82_code
def yX12_whoAt : MethodName := ⟨RX12, "whoAt", "(I)I"⟩
abbrev cX12_at : ByteArray := prog_14_method_83_code
def yX12_at : MethodName := ⟨RX12, "at", "(II)I"⟩
abbrev cX12_book : ByteArray := prog_14_method_84_code
def yX12_book : MethodName := ⟨RX12, "book", "(II)I"⟩
abbrev cX12_costOf : ByteArray := prog_14_method_85_code
def yX12_costOf : MethodName := ⟨RX12, "costOf", "(II)I"⟩
abbrev cX12_costAt : ByteArray := prog_14_method_86_code
def yX12_costAt : MethodName := ⟨RX12, "costAt", "(II)I"⟩
abbrev cX12_canBeside : ByteArray := prog_14_method_87_code
def yX12_canBeside : MethodName := ⟨RX12, "canBeside", "(IIII)Z"⟩
abbrev cX12_leastBehind : ByteArray := prog_14_method_88_code
def yX12_leastBehind : MethodName := ⟨RX12, "leastBehind", "(II)I"⟩
abbrev cX12_itemsFor : ByteArray := prog_14_method_89_code
def yX12_itemsFor : MethodName := ⟨RX12, "itemsFor", "(II)V"⟩
abbrev cX12_leastBy : ByteArray := prog_14_method_90_code
def yX12_leastBy : MethodName := ⟨RX12, "leastBy", "(II)I"⟩
abbrev cX12_findsRoom : ByteArray := prog_14_method_91_code
def yX12_findsRoom : MethodName := ⟨RX12, "findsRoom", "(II)Z"⟩
abbrev cX12_roomFor : ByteArray := prog_14_method_92_code
def yX12_roomFor : MethodName := ⟨RX12, "roomFor", "(I)I"⟩
abbrev cX12_room : ByteArray := prog_14_method_93_code
def yX12_room : MethodName := ⟨RX12, "room", "(II)I"⟩
abbrev cX12_rise : ByteArray := prog_14_method_94_code
def yX12_rise : MethodName := ⟨RX12, "rise", "(II)I"⟩
abbrev cX12_stretch : ByteArray := prog_14_method_95_code
def yX12_stretch : MethodName := ⟨RX12, "stretch", "(II)I"⟩
abbrev cX12_ofStretch : ByteArray := prog_14_method_96_code
def yX12_ofStretch : MethodName := ⟨RX12, "ofStretch", "([III)I"⟩
abbrev cX12_findsStretch : ByteArray := prog_14_method_97_code
def yX12_findsStretch : MethodName := ⟨RX12, "findsStretch", "(IIII)V"⟩
abbrev cX12_findsStretches : ByteArray := prog_14_method_98_code
def yX12_findsStretches : MethodName := ⟨RX12, "findsStretches", "(II)V"⟩
abbrev cX12_fills : ByteArray := prog_14_method_99_code
def yX12_fills : MethodName := ⟨RX12, "fills", "(I)V"⟩
abbrev cX12_fillByLaw : ByteArray := prog_14_method_100_code
def yX12_fillByLaw : MethodName := ⟨RX12, "fillByLaw", "(II)I"⟩
abbrev cX12_areAlike : ByteArray := prog_14_method_101_code
def yX12_areAlike : MethodName := ⟨RX12, "areAlike", "(II)Z"⟩
abbrev cX12_fill : ByteArray := prog_14_method_102_code
def yX12_fill : MethodName := ⟨RX12, "fill", "(III)I"⟩
abbrev cX12_findsBare : ByteArray := prog_14_method_103_code
def yX12_findsBare : MethodName := ⟨RX12, "findsBare", "(II)V"⟩
abbrev cX12_fewestBy : ByteArray := prog_14_method_104_code
def yX12_fewestBy : MethodName := ⟨RX12, "fewestBy", "(III)I"⟩
abbrev cX12_findsAround : ByteArray := prog_14_method_105_code
def yX12_findsAround : MethodName := ⟨RX12, "findsAround", "(III)V"⟩
abbrev cX12_bestRest : ByteArray := prog_14_method_106_code
def yX12_bestRest : MethodName := ⟨RX12, "bestRest", "(II)I"⟩
abbrev cX12_block : ByteArray := prog_14_method_107_code
def yX12_block : MethodName := ⟨RX12, "block", "(III)I"⟩
abbrev cX12_gives : ByteArray := prog_14_method_108_code
def yX12_gives : MethodName := ⟨RX12, "gives", "(II)I"⟩
abbrev cX12_canCome : ByteArray := prog_14_method_109_code
def yX12_canCome : MethodName := ⟨RX12, "canCome", "(II)Z"⟩
abbrev cX12_findsOrders : ByteArray := prog_14_method_110_code
def yX12_findsOrders : MethodName := ⟨RX12, "findsOrders", "()V"⟩
abbrev cX12_sittingSet : ByteArray := prog_14_method_111_code
def yX12_sittingSet : MethodName := ⟨RX12, "sittingSet", "()I"⟩
abbrev cX12_onesOf : ByteArray := prog_14_method_112_code
def yX12_onesOf : MethodName := ⟨RX12, "onesOf", "(I)I"⟩
abbrev cX12_nextOf : ByteArray := prog_14_method_113_code
def yX12_nextOf : MethodName := ⟨RX12, "nextOf", "(I)I"⟩
abbrev cX12_orders : ByteArray := prog_14_method_114_code
def yX12_orders : MethodName := ⟨RX12, "orders", "(I)I"⟩
abbrev cX12_kept : ByteArray := prog_14_method_115_code
def yX12_kept : MethodName := ⟨RX12, "kept", "(I)I"⟩
abbrev cX12_keepsLaw : ByteArray := prog_14_method_116_code
def yX12_keepsLaw : MethodName := ⟨RX12, "keepsLaw", "(I)V"⟩
abbrev cX12_keepsBench : ByteArray := prog_14_method_117_code
def yX12_keepsBench : MethodName := ⟨RX12, "keepsBench", "()V"⟩
abbrev cX12_image : ByteArray := prog_14_method_118_code
def yX12_image : MethodName := ⟨RX12, "image", "(Z)Z"⟩
abbrev cX12_freeInches : ByteArray := prog_14_method_119_code
def yX12_freeInches : MethodName := ⟨RX12, "freeInches", "()I"⟩
abbrev cX12_restMany : ByteArray := prog_14_method_120_code
def yX12_restMany : MethodName := ⟨RX12, "restMany", "()I"⟩
abbrev cX12_whoIs : ByteArray := prog_14_method_121_code
def yX12_whoIs : MethodName := ⟨RX12, "whoIs", "(I)I"⟩
abbrev cX12_look : ByteArray := prog_14_method_122_code
def yX12_look : MethodName := ⟨RX12, "look", "(I)I"⟩
def RJ6 : String := "java/lang/Integer"
abbrev cJ6_numberOfTrailingZeros_0f7a4 : ByteArray := prog_16_method_48_code
def yJ6_numberOfTrailingZeros_0f7a4 : MethodName := ⟨RJ6, "numberOfTrailingZeros", "(I)I"⟩
def RJ0 : String := "java/lang/String"
abbrev cJ0_length_8abf5 : ByteArray := prog_18_method_54_code
def yJ0_length_8abf5 : MethodName := ⟨RJ0, "length", "()I"⟩
abbrev cJ0_charAt_5068e : ByteArray := prog_18_method_56_code
def yJ0_charAt_5068e : MethodName := ⟨RJ0, "charAt", "(I)C"⟩
abbrev cJ0_indexOf_0f7a4 : ByteArray := prog_18_method_79_code
def yJ0_indexOf_0f7a4 : MethodName := ⟨RJ0, "indexOf", "(I)I"⟩
abbrev cJ0_indexOf_7cf53 : ByteArray := prog_18_method_80_code
def yJ0_indexOf_7cf53 : MethodName := ⟨RJ0, "indexOf", "(II)I"⟩
abbrev cJ0_coder_7d493 : ByteArray := prog_18_method_152_code
def yJ0_coder_7d493 : MethodName := ⟨RJ0, "coder", "()B"⟩
abbrev cJ0_isLatin1_aae02 : ByteArray := prog_18_method_154_code
def yJ0_isLatin1_aae02 : MethodName := ⟨RJ0, "isLatin1", "()Z"⟩
abbrev cJ0_checkIndex_df160 : ByteArray := prog_18_method_155_code
def yJ0_checkIndex_df160 : MethodName := ⟨RJ0, "checkIndex", "(II)V"⟩
def RJ1 : String := "java/lang/StringLatin1"
abbrev cJ1_charAt_3b067 : ByteArray := prog_19_method_2_code
def yJ1_charAt_3b067 : MethodName := ⟨RJ1, "charAt", "([BI)C"⟩
abbrev cJ1_canEncode_9a6ad : ByteArray := prog_19_method_4_code
def yJ1_canEncode_9a6ad : MethodName := ⟨RJ1, "canEncode", "(I)Z"⟩
abbrev cJ1_indexOf_4cfef : ByteArray := prog_19_method_22_code
def yJ1_indexOf_4cfef : MethodName := ⟨RJ1, "indexOf", "([BIII)I"⟩
abbrev cJ1_indexOfChar_4cfef : ByteArray := prog_19_method_23_code
def yJ1_indexOfChar_4cfef : MethodName := ⟨RJ1, "indexOfChar", "([BIII)I"⟩
def RJ7 : String := "java/util/Arrays"
abbrev cJ7_rangeCheck_23922 : ByteArray := prog_22_method_30_code
def yJ7_rangeCheck_23922 : MethodName := ⟨RJ7, "rangeCheck", "(III)V"⟩
abbrev cJ7_fill_53178 : ByteArray := prog_22_method_103_code
def yJ7_fill_53178 : MethodName := ⟨RJ7, "fill", "([II)V"⟩
abbrev cJ7_fill_fda19 : ByteArray := prog_22_method_104_code
def yJ7_fill_fda19 : MethodName := ⟨RJ7, "fill", "([IIII)V"⟩
def RJ3 : String := "jdk/internal/util/Preconditions"
abbrev cJ3_checkIndex_8e157 : ByteArray := prog_23_method_11_code
def yJ3_checkIndex_8e157 : MethodName := ⟨RJ3, "checkIndex", "(IILjava/util/function/BiFunction;)I"⟩
end
section
/-! The world of cells: the class from 0, the reference from 100, what is only read from 1000. -/
def mv_wl : List (Nat × mv_S) := [(0, .inr (11, [some 1, some 24, some 47, some 52, some 66, some 72, some 74, some 81, some 86, some 90, none])), (1, .inr (2, [none, none, none, none, some 2, some 3, some 4, some 5, some 6, some 7, some 8, some 14, some 20])), (2, .inl (0, 60, 0)), (3, .inl (0, 60, 0)), (4, .inl (0, 60, 0)), (5, .inl (3, 5, 10)), (6, .inl (0, 10, 0)), (7, .inl (3, 4, 150)), (8, .inr (5, [none, none, some 9, some 10, some 11, some 12, some 13])), (9, .inl (0, 401, 0)), (10, .inl (0, 16, 0)), (11, .inl (0, 16, 0)), (12, .inl (0, 16, 0)), (13, .inl (0, 40, 0)), (14, .inr (5, [none, none, some 15, some 16, some 17, some 18, some 19])), (15, .inl (0, 401, 0)), (16, .inl (0, 16, 0)), (17, .inl (0, 16, 0)), (18, .inl (0, 16, 0)), (19, .inl (0, 40, 0)), (20, .inr (3, [none, some 21, some 22, some 23])), (21, .inl (0, 24, 0)), (22, .inl (0, 24, 0)), (23, .inl (0, 24, 0)), (24, .inr (2, [none, none, none, none, some 25, some 26, some 27, some 28, some 29, some 30, some 31, some 37, some 43])), (25, .inl (0, 60, 0)), (26, .inl (0, 60, 0)), (27, .inl (0, 60, 0)), (28, .inl (3, 5, 10)), (29, .inl (0, 10, 0)), (30, .inl (3, 4, 150)), (31, .inr (5, [none, none, some 32, some 33, some 34, some 35, some 36])), (32, .inl (0, 401, 0)), (33, .inl (0, 16, 0)), (34, .inl (0, 16, 0)), (35, .inl (0, 16, 0)), (36, .inl (0, 40, 0)), (37, .inr (5, [none, none, some 38, some 39, some 40, some 41, some 42])), (38, .inl (0, 401, 0)), (39, .inl (0, 16, 0)), (40, .inl (0, 16, 0)), (41, .inl (0, 16, 0)), (42, .inl (0, 40, 0)), (43, .inr (3, [none, some 44, some 45, some 46])), (44, .inl (0, 24, 0)), (45, .inl (0, 24, 0)), (46, .inl (0, 24, 0)), (47, .inr (6, [none, none, some 48, some 49, some 50, some 51])), (48, .inl (3, 7, 10)), (49, .inl (3, 7, 60)), (50, .inl (0, 7, 0)), (51, .inl (0, 7, 0)), (52, .inr (7, [none, none, none, some 53, some 59, none, none, none, some 63, some 64, some 65])), (53, .inr (5, [none, none, some 54, some 55, some 56, some 57, some 58])), (54, .inl (0, 401, 0)), (55, .inl (0, 16, 0)), (56, .inl (0, 16, 0)), (57, .inl (0, 16, 0)), (58, .inl (0, 40, 0)), (59, .inr (3, [none, some 60, some 61, some 62])), (60, .inl (0, 24, 0)), (61, .inl (0, 24, 0)), (62, .inl (0, 24, 0)), (63, .inl (0, 400, 0)), (64, .inl (0, 401, 0)), (65, .inl (0, 401, 0)), (66, .inr (9, [none, some 67, some 68, some 69, some 70, some 71, none, none, none, none])), (67, .inl (0, 60, 0)), (68, .inl (0, 60, 0)), (69, .inl (0, 60, 0)), (70, .inl (0, 60, 0)), (71, .inl (0, 60, 0)), (72, .inr (10, [some 1, some 66, some 73])), (73, .inl (0, 12, 0)), (74, .inr (8, [some 75, some 1, some 66, some 76, some 77, some 78, some 79, some 80, none])), (75, .inl (0, 10, 0)), (76, .inl (0, 12, 0)), (77, .inl (3, 10, 60)), (78, .inl (3, 10, 61)), (79, .inl (3, 10, 61)), (80, .inl (0, 10, 0)), (81, .inr (4, [some 1, some 66, some 82, some 83, some 84, some 85, none, none])), (82, .inl (0, 60, 0)), (83, .inl (0, 61, 0)), (84, .inl (3, 61, 61)), (85, .inl (0, 61, 0)), (86, .inr (1, [some 1, some 66, some 72, some 87, some 88, some 89, none])), (87, .inl (0, 8, 0)), (88, .inl (0, 256, 0)), (89, .inl (0, 256, 0)), (90, .inr (0, [none, none, some 1, some 66, some 72, some 74])), (100, .inr (12, [none, some 101, some 102, none, some 103, none, none, some 104, none, some 105, some 106, some 107, some 108, some 109, some 110, some 111, none, none, none, none, none, some 112, some 113, some 114, some 115, some 116, some 117, some 118, none, none, none, some 119, none, none, none, none, none, none, some 120, some 121, some 122, some 123, some 124, some 125, some 126, some 127, none, none, none, none, none, none, none, some 128, some 129, some 130, some 131, none, some 132, some 133, some 134, none, none, none, some 135, some 136, none, none, none, none, some 137])), (101, .inl (0, 72, 0)), (102, .inl (0, 432, 0)), (103, .inl (0, 72, 0)), (104, .inl (1, 61, 0)), (105, .inl (0, 10, 0)), (106, .inl (0, 10, 0)), (107, .inl (0, 10, 0)), (108, .inl (0, 10, 0)), (109, .inl (0, 10, 0)), (110, .inl (0, 600, 0)), (111, .inl (0, 400, 0)), (112, .inl (0, 104, 0)), (113, .inl (0, 2, 0)), (114, .inl (0, 48, 0)), (115, .inl (0, 48, 0)), (116, .inl (0, 48, 0)), (117, .inl (0, 1200, 0)), (118, .inl (0, 1200, 0)), (119, .inl (0, 40, 0)), (120, .inl (0, 144, 0)), (121, .inl (0, 12, 0)), (122, .inl (0, 420, 0)), (123, .inl (0, 64, 0)), (124, .inl (0, 64, 0)), (125, .inl (0, 64, 0)), (126, .inl (0, 64, 0)), (127, .inl (0, 64, 0)), (128, .inl (0, 11, 0)), (129, .inl (0, 11, 0)), (130, .inl (0, 660, 0)), (131, .inl (0, 11, 0)), (132, .inl (0, 3844, 0)), (133, .inl (0, 3844, 0)), (134, .inl (0, 3844, 0)), (135, .inl (0, 61, 0)), (136, .inl (0, 1024, 0)), (137, .inl (0, 2700, 0)), (1000, .inl (0, 5, 0)), (1001, .inl (0, 5, 0)), (1002, .inr (100, [some 1003, none])), (1003, .inl (2, 103, 0)), (1004, .inr (100, [some 1005, none])), (1005, .inl (2, 10, 0))]
def mv_sh : Nat → Option mv_S := mv_lk mv_wl
def mv_ids : List (Nat × Nat) := [(0, 0), (1, 0), (2, 0), (3, 0), (4, 0), (5, 0), (5, 1), (5, 2), (5, 3), (5, 4), (5, 5), (6, 0), (7, 0), (7, 1), (7, 2), (7, 3), (7, 4), (8, 0), (9, 0), (10, 0), (11, 0), (12, 0), (13, 0), (14, 0), (15, 0), (16, 0), (17, 0), (18, 0), (19, 0), (20, 0), (21, 0), (22, 0), (23, 0), (24, 0), (25, 0), (26, 0), (27, 0), (28, 0), (28, 1), (28, 2), (28, 3), (28, 4), (28, 5), (29, 0), (30, 0), (30, 1), (30, 2), (30, 3), (30, 4), (31, 0), (32, 0), (33, 0), (34, 0), (35, 0), (36, 0), (37, 0), (38, 0), (39, 0), (40, 0), (41, 0), (42, 0), (43, 0), (44, 0), (45, 0), (46, 0), (47, 0), (48, 0), (48, 1), (48, 2), (48, 3), (48, 4), (48, 5), (48, 6), (48, 7), (49, 0), (49, 1), (49, 2), (49, 3), (49, 4), (49, 5), (49, 6), (49, 7), (50, 0), (51, 0), (52, 0), (53, 0), (54, 0), (55, 0), (56, 0), (57, 0), (58, 0), (59, 0), (60, 0), (61, 0), (62, 0), (63, 0), (64, 0), (65, 0), (66, 0), (67, 0), (68, 0), (69, 0), (70, 0), (71, 0), (72, 0), (73, 0), (74, 0), (75, 0), (76, 0), (77, 0), (77, 1), (77, 2), (77, 3), (77, 4), (77, 5), (77, 6), (77, 7), (77, 8), (77, 9), (77, 10), (78, 0), (78, 1), (78, 2), (78, 3), (78, 4), (78, 5), (78, 6), (78, 7), (78, 8), (78, 9), (78, 10), (79, 0), (79, 1), (79, 2), (79, 3), (79, 4), (79, 5), (79, 6), (79, 7), (79, 8), (79, 9), (79, 10), (80, 0), (81, 0), (82, 0), (83, 0), (84, 0), (84, 1), (84, 2), (84, 3), (84, 4), (84, 5), (84, 6), (84, 7), (84, 8), (84, 9), (84, 10), (84, 11), (84, 12), (84, 13), (84, 14), (84, 15), (84, 16), (84, 17), (84, 18), (84, 19), (84, 20), (84, 21), (84, 22), (84, 23), (84, 24), (84, 25), (84, 26), (84, 27), (84, 28), (84, 29), (84, 30), (84, 31), (84, 32), (84, 33), (84, 34), (84, 35), (84, 36), (84, 37), (84, 38), (84, 39), (84, 40), (84, 41), (84, 42), (84, 43), (84, 44), (84, 45), (84, 46), (84, 47), (84, 48), (84, 49), (84, 50), (84, 51), (84, 52), (84, 53), (84, 54), (84, 55), (84, 56), (84, 57), (84, 58), (84, 59), (84, 60), (84, 61), (85, 0), (86, 0), (87, 0), (88, 0), (89, 0), (90, 0), (100, 0), (101, 0), (102, 0), (103, 0), (104, 0), (105, 0), (106, 0), (107, 0), (108, 0), (109, 0), (110, 0), (111, 0), (112, 0), (113, 0), (114, 0), (115, 0), (116, 0), (117, 0), (118, 0), (119, 0), (120, 0), (121, 0), (122, 0), (123, 0), (124, 0), (125, 0), (126, 0), (127, 0), (128, 0), (129, 0), (130, 0), (131, 0), (132, 0), (133, 0), (134, 0), (135, 0), (136, 0), (137, 0)]
def mv_ros : List (Nat × Nat) := [(1000, 0), (1001, 0), (1002, 0), (1003, 0), (1004, 0), (1005, 0)]
def mv_rcl : List (Nat × List Int) := [(1000, [1, 0, 0, 0, 0]), (1001, [20, 15, 10, 9, 1]), (1003, [115, 105, 116, 32, 99, 111, 115, 116, 32, 119, 104, 101, 110, 32, 111, 114, 32, 97, 110, 100, 32, 110, 111, 116, 32, 99, 111, 109, 101, 32, 103, 111, 32, 98, 101, 103, 32, 119, 105, 100, 101, 32, 107, 101, 101, 112, 32, 98, 97, 103, 32, 103, 114, 111, 117, 112, 32, 104, 111, 117, 114, 32, 97, 116, 32, 108, 101, 102, 116, 32, 114, 105, 103, 104, 116, 32, 119, 97, 114, 109, 32, 102, 114, 105, 101, 110, 100, 115, 32, 115, 105, 116, 116, 105, 110, 103, 32, 109, 111, 118, 101, 100, 32]), (1005, [59, 43, 45, 42, 47, 40, 41, 60, 61, 62])]
def mv_rc : mv_G := fun k _ j => match mv_lk mv_rcl k with | some l => l.getD j 0 | none => 0
def mv_cl : List vw_C := [(RX0, TX0, 6), (RX1, TX1, 7), (RX2, TX2, 13), (RX3, TX3, 4), (RX4, TX4, 8), (RX5, TX5, 7), (RX6, TX6, 6), (RX7, TX7, 11), (RX8, TX8, 9), (RX9, TX9, 10), (RX10, TX10, 3), (RX11, TX11, 11), (RX12, TX12, 71)]
def mv_cr : mv_R := fun _ => ("java/lang/String", fun j => match j with | 0 => ("value", "[B") | _ => ("coder", "B"))
end
section
/-! Words by their places; what a program decides of a method's tables. -/
def mv_Ts : List Cond := lw_tbl.filter goodWord
theorem mv_good : ∀ w ∈ mv_Ts, goodWord w = true := fun _ h => (List.mem_filter.mp h).2
theorem mv_T (i : Nat) {w : Cond} (h : lw_tbl[i]? = some w) (hg : goodWord w = true) : w ∈ mv_Ts := List.mem_filter.mpr ⟨List.mem_of_getElem? h, hg⟩
theorem mv_Td {i : Nat} {w : Cond} (h : (decide (lw_tbl[i]? = some w) && goodWord w) = true) : w ∈ mv_Ts := by
  simp only [Bool.and_eq_true, decide_eq_true_eq] at h
  exact mv_T i h.1 h.2
def mv_wd1 (i : Nat) (w : Cond) : Bool := decide (lw_tbl[i]? = some w) && goodWord w
/-- fields: place, then the row -/
def mv_fk (own : String) (l : List (Nat × Nat × Nat × Nat × Nat)) : Bool := l.all fun x =>
  bif Nat.ble 100 x.2.2.1 then mv_wd1 x.1 (.fieldLink own x.2.1 (mv_cr x.2.2.1).1 ((mv_cr x.2.2.1).2 x.2.2.2.1).1 ((mv_cr x.2.2.1).2 x.2.2.2.1).2)
  else match mv_cl[x.2.2.1]? with
    | some q => decide (x.2.2.2.1 < q.2.2) && mv_wd1 x.1 (.fieldLink own x.2.1 (q.2.1 x.2.2.2.1).1 (q.2.1 x.2.2.2.1).2.1 (q.2.1 x.2.2.2.1).2.2.1) &&
      (Nat.ble 2 x.2.2.2.2 || (!(q.2.1 x.2.2.2.1).2.2.2 && decide (parseFieldDescriptor (q.2.1 x.2.2.2.1).2.2.1 = some (if x.2.2.2.2 = 1 then .boolean else .int))))
    | none => false
theorem mv_fk_ok {own : String} {l : List (Nat × Nat × Nat × Nat × Nat)} (h : mv_fk own l = true) : ∀ x ∈ l.map (fun x => x.2), (Nat.ble 100 x.2.1 = true → Cond.fieldLink own x.1 (mv_cr x.2.1).1 ((mv_cr x.2.1).2 x.2.2.1).1 ((mv_cr x.2.1).2 x.2.2.1).2 ∈ mv_Ts) ∧ (Nat.ble 100 x.2.1 = false → ∃ q : vw_C, mv_cl[x.2.1]? = some q ∧ x.2.2.1 < q.2.2 ∧ Cond.fieldLink own x.1 (q.2.1 x.2.2.1).1 (q.2.1 x.2.2.1).2.1 (q.2.1 x.2.2.1).2.2.1 ∈ mv_Ts ∧
      (x.2.2.2 = 0 ∨ x.2.2.2 = 1 → (q.2.1 x.2.2.1).2.2.2 = false ∧ parseFieldDescriptor (q.2.1 x.2.2.1).2.2.1 = some (if x.2.2.2 = 1 then .boolean else .int))) := by
  intro x hx
  obtain ⟨y, hy, rfl⟩ := List.mem_map.mp hx
  have h1 := List.all_eq_true.mp h y hy
  refine ⟨fun h2 => ?_, fun h2 => ?_⟩
  · rw [h2] at h1
    exact mv_Td h1
  · rw [h2] at h1
    dsimp only [cond] at h1
    split at h1
    · next q hq =>
      simp only [Bool.and_eq_true, decide_eq_true_eq, Bool.or_eq_true, Bool.not_eq_true'] at h1
      refine ⟨q, hq, h1.1.1, mv_Td h1.1.2, fun h3 => ?_⟩
      rcases h1.2 with h4 | h4
      · have := Nat.le_of_ble_eq_true h4
        omega
      · exact h4
    · cases h1
def mv_dk (cc : ByteArray) (l : List (Nat × Instr × Nat)) : Bool := l.all fun x => decide (decode cc x.1 = .ok (x.2.1, x.2.2)) && mv_iok x.1 x.2.1 x.2.2
theorem mv_dk_ok {cc : ByteArray} {l : List (Nat × Instr × Nat)} (h : mv_dk cc l = true) : ∀ x ∈ l, decode cc x.1 = .ok (x.2.1, x.2.2) ∧ mv_iok x.1 x.2.1 x.2.2 = true := fun x hx => by
  have h1 := List.all_eq_true.mp h x hx
  simp only [Bool.and_eq_true, decide_eq_true_eq] at h1
  exact h1
def mv_isr (i : Instr) : Bool := match i with | .ireturn => true | _ => false
def mv_isv (i : Instr) : Bool := match i with | .return_ => true | _ => false
theorem mv_rzV {M : mv_M} (h : M.1.all (fun x => !mv_isr x.2.1) = true) : mv_rz true none M := ⟨rfl, fun x hx e => by
  have := List.all_eq_true.mp h x hx
  rw [e] at this
  cases this⟩
theorem mv_rz_no {M : mv_M} (h : M.1.all (fun x => !mv_isv x.2.1) = true) : ∀ x ∈ M.1, x.2.1 ≠ .return_ := fun x hx e => by
  have := List.all_eq_true.mp h x hx
  rw [e] at this
  cases this
theorem mv_rzI {M : mv_M} (h : M.1.all (fun x => !mv_isv x.2.1) = true) : mv_rz false (some .int) M := ⟨⟨.int, rfl, fun _ _ _ => rfl⟩, mv_rz_no h⟩
theorem mv_rzZ {M : mv_M} (h : M.1.all (fun x => !mv_isv x.2.1) = true) (hb : M.2.2.2.2.2.2 = some (0, 1)) : mv_rz false (some .boolean) M := ⟨⟨.boolean, rfl, fun v _ hv => by
  obtain ⟨h1, h2⟩ := hv _ _ hb
  rcases (show v = 0 ∨ v = 1 by omega) with rfl | rfl <;> rfl⟩, mv_rz_no h⟩
theorem mv_rzB {M : mv_M} (h : M.1.all (fun x => !mv_isv x.2.1) = true) (hb : M.2.2.2.2.2.2 = some (-128, 127)) : mv_rz false (some .byte) M := ⟨⟨.byte, rfl, fun v hin hv => by
  obtain ⟨h1, h2⟩ := hv _ _ hb
  show Value.int (Int32.ofInt v).toInt8.toInt32 = _
  congr 1
  apply Int32.toInt_inj.mp
  rw [Int8.toInt_toInt32, Int32.toInt_toInt8, mv_toInt hin]
  rw [Int.bmod_def]
  split <;> omega⟩, mv_rz_no h⟩
theorem mv_rzC {M : mv_M} (h : M.1.all (fun x => !mv_isv x.2.1) = true) (hb : M.2.2.2.2.2.2 = some (0, 65535)) : mv_rz false (some .char) M := ⟨⟨.char, rfl, fun v hin hv => by
  obtain ⟨h1, h2⟩ := hv _ _ hb
  show Value.int (vp_nar .char (Int32.ofInt v)) = _
  congr 1
  rw [vp_nar_char]
  obtain ⟨n, rfl⟩ := Int.eq_ofNat_of_zero_le h1
  have e : (Int32.ofInt (n : Int)).toUInt32 = UInt32.ofNat n := by
    apply UInt32.toNat_inj.mp
    rfl
  rw [e]
  have e2 : (UInt32.ofNat n).toUInt16.toUInt32 = UInt32.ofNat n := by
    apply UInt32.toNat_inj.mp
    simp only [UInt16.toNat_toUInt32, UInt32.toNat_toUInt16, UInt32.toNat_ofNat']
    omega
  rw [e2, ← e]
  rfl⟩, mv_rz_no h⟩
/-- a call's words -/
def mv_cwk (own : String) (idx : Nat) (y : MethodName) (rv : Option Nat) (n : Nat) (a b c d : Nat) : Bool := mv_wd1 a (.methodLink own idx y) && mv_wd1 b (.initialized y.cls) &&
  (match rv with
    | some ci => mv_wd1 c (.instanceMethod y) && mv_wd1 d (.selects y.cls y y) && (bif Nat.ble 100 ci then decide ((mv_cr ci).1 = y.cls) else (match mv_cl[ci]? with | some q => decide (q.1 = y.cls) | none => false)) && decide ((parseMethodDescriptor y.desc).map (fun d => d.parameters.length) = some (n - 1))
    | none => mv_wd1 c (.static y) && decide ((parseMethodDescriptor y.desc).map (fun d => d.parameters.length) = some n)) &&
  decide (y.cls ≠ "java/lang/invoke/MethodHandle") && decide (y.cls ≠ "java/lang/invoke/VarHandle")
/-- all that a call needs beside the contract -/
def mv_Cw (own : String) (idx : Nat) (y : MethodName) (by2 : ByteArray) (mL : Nat) (ret : Option FieldType) (rv : Option Nat) (n : Nat) : Prop :=
  (Cond.code y by2 mL ret ∈ mv_Ts ∧ Cond.methodLink own idx y ∈ mv_Ts ∧ Cond.initialized y.cls ∈ mv_Ts ∧ (∀ ci, rv = some ci → Cond.instanceMethod y ∈ mv_Ts ∧ Cond.selects y.cls y y ∈ mv_Ts) ∧ (rv = none → Cond.static y ∈ mv_Ts)) ∧
  (y.cls ≠ "java/lang/invoke/MethodHandle" ∧ y.cls ≠ "java/lang/invoke/VarHandle" ∧ (parseMethodDescriptor y.desc).map (fun d => d.parameters.length) = some (match rv with | some _ => n - 1 | none => n)) ∧
  (∀ ci, rv = some ci → (Nat.ble 100 ci = true → (mv_cr ci).1 = y.cls) ∧ (Nat.ble 100 ci = false → ∃ q : vw_C, mv_cl[ci]? = some q ∧ q.1 = y.cls))
theorem mv_cw_of {own : String} {idx : Nat} {y : MethodName} {by2 : ByteArray} {mL : Nat} {ret : Option FieldType} {rv : Option Nat} {n a b c d : Nat} (hc : Cond.code y by2 mL ret ∈ mv_Ts) (h : mv_cwk own idx y rv n a b c d = true) : mv_Cw own idx y by2 mL ret rv n := by
  unfold mv_cwk at h
  simp only [Bool.and_eq_true, decide_eq_true_eq] at h
  obtain ⟨⟨⟨⟨h1, h2⟩, h3⟩, h4⟩, h5⟩ := h
  cases rv with
  | none =>
    simp only [Bool.and_eq_true, decide_eq_true_eq] at h3
    exact ⟨⟨hc, mv_Td h1, mv_Td h2, fun ci e => (by cases e), fun _ => mv_Td h3.1⟩, ⟨h4, h5, h3.2⟩, fun ci e => by cases e⟩
  | some ci =>
    simp only [Bool.and_eq_true, decide_eq_true_eq] at h3
    obtain ⟨⟨⟨h6, h7⟩, h8⟩, h9⟩ := h3
    refine ⟨⟨hc, mv_Td h1, mv_Td h2, fun ci e => ⟨mv_Td h6, mv_Td h7⟩, fun e => (by cases e)⟩, ⟨h4, h5, h9⟩, fun cj e => ?_⟩
    cases e
    refine ⟨fun hb => ?_, fun hb => ?_⟩
    · rw [hb] at h8
      exact of_decide_eq_true h8
    · rw [hb] at h8
      dsimp only [cond] at h8
      split at h8
      · next q hq => exact ⟨q, hq, of_decide_eq_true h8⟩
      · cases h8
def mv_rm (d : Nat) : Room := { frames := d, cells := 0, slots := 0, locals := 64 * d }
theorem mv_ups {C : String} {T : u_T} {N : Nat} (pl : List Nat) (h : (Nat.beq pl.length N && ((List.range N).zip pl).all (fun q => mv_wd1 q.2 (u_lay C T q.1))) = true) : ∀ w ∈ u_ws C T N, w ∈ mv_Ts := by
  simp only [Bool.and_eq_true] at h
  have hl := Nat.eq_of_beq_eq_true h.1
  intro w hw
  obtain ⟨k, hk, rfl⟩ := List.mem_map.mp hw
  have hk := List.mem_range.mp hk
  have h2 := List.all_eq_true.mp h.2 (k, pl[k]) (List.mem_of_getElem? (i := k) (by rw [List.getElem?_zip_eq_some]; exact ⟨List.getElem?_range hk, List.getElem?_eq_getElem (by omega)⟩))
  exact mv_Td h2
end
section
theorem mv_uX0 : ∀ w ∈ u_ws RX0 TX0 6, w ∈ mv_Ts := mv_ups [579, 581, 583, 585, 587, 589] (by decide +kernel)
theorem mv_uX1 : ∀ w ∈ u_ws RX1 TX1 7, w ∈ mv_Ts := mv_ups [550, 552, 554, 556, 558, 560, 562] (by decide +kernel)
theorem mv_uX2 : ∀ w ∈ u_ws RX2 TX2 13, w ∈ mv_Ts := mv_ups [301, 303, 305, 307, 309, 311, 313, 315, 317, 319, 321, 323, 325] (by decide +kernel)
theorem mv_uX3 : ∀ w ∈ u_ws RX3 TX3 4, w ∈ mv_Ts := mv_ups [221, 223, 225, 227] (by decide +kernel)
theorem mv_uX4 : ∀ w ∈ u_ws RX4 TX4 8, w ∈ mv_Ts := mv_ups [520, 522, 524, 526, 528, 530, 532, 534] (by decide +kernel)
theorem mv_uX5 : ∀ w ∈ u_ws RX5 TX5 7, w ∈ mv_Ts := mv_ups [188, 190, 192, 194, 196, 198, 200] (by decide +kernel)
theorem mv_uX6 : ∀ w ∈ u_ws RX6 TX6 6, w ∈ mv_Ts := mv_ups [342, 344, 346, 348, 350, 352] (by decide +kernel)
theorem mv_uX7 : ∀ w ∈ u_ws RX7 TX7 11, w ∈ mv_Ts := mv_ups [381, 383, 385, 387, 389, 391, 393, 395, 397, 399, 401] (by decide +kernel)
theorem mv_uX8 : ∀ w ∈ u_ws RX8 TX8 9, w ∈ mv_Ts := mv_ups [486, 488, 490, 492, 494, 496, 498, 500, 502] (by decide +kernel)
theorem mv_uX9 : ∀ w ∈ u_ws RX9 TX9 10, w ∈ mv_Ts := mv_ups [431, 433, 435, 437, 439, 441, 443, 445, 447, 449] (by decide +kernel)
theorem mv_uX10 : ∀ w ∈ u_ws RX10 TX10 3, w ∈ mv_Ts := mv_ups [461, 463, 465] (by decide +kernel)
theorem mv_uX11 : ∀ w ∈ u_ws RX11 TX11 11, w ∈ mv_Ts := mv_ups [603, 605, 607, 609, 611, 613, 615, 617, 619, 621, 623] (by decide +kernel)
theorem mv_uX12 : ∀ w ∈ u_ws RX12 TX12 71, w ∈ mv_Ts := mv_ups [1383, 1385, 1387, 1389, 1391, 1393, 1395, 1397, 1399, 1401, 1403, 1405, 1407, 1409, 1411, 1413, 1415, 1417, 1419, 1421, 1423, 1425, 1427, 1429, 1431, 1433, 1435, 1437, 1439, 1441, 1443, 1445, 1447, 1449, 1451, 1453, 1455, 1457, 1459, 1461, 1463, 1465, 1467, 1469, 1471, 1473, 1475, 1477, 1479, 1481, 1483, 1485, 1487, 1489, 1491, 1493, 1495, 1497, 1499, 1501, 1503, 1505, 1507, 1509, 1511, 1513, 1515, 1517, 1519, 1521, 1523] (by decide +kernel)
theorem mv_clok : ∀ (ci : Nat) (q : vw_C), mv_cl[ci]? = some q → (∀ w ∈ u_ws q.1 q.2.1 q.2.2, w ∈ mv_Ts) ∧ (∃ ty0 : Nat → FieldType, ∀ k, k < q.2.2 → parseFieldDescriptor (q.2.1 k).2.2.1 = some (ty0 k)) ∧ (∀ a, a < q.2.2 → ∀ b, b < q.2.2 → a ≠ b → (q.2.1 a).2.1 ≠ (q.2.1 b).2.1)
  | 0, _, rfl => ⟨mv_uX0, ⟨tyX0, tyX0_ok⟩, nmX0⟩
  | 1, _, rfl => ⟨mv_uX1, ⟨tyX1, tyX1_ok⟩, nmX1⟩
  | 2, _, rfl => ⟨mv_uX2, ⟨tyX2, tyX2_ok⟩, nmX2⟩
  | 3, _, rfl => ⟨mv_uX3, ⟨tyX3, tyX3_ok⟩, nmX3⟩
  | 4, _, rfl => ⟨mv_uX4, ⟨tyX4, tyX4_ok⟩, nmX4⟩
  | 5, _, rfl => ⟨mv_uX5, ⟨tyX5, tyX5_ok⟩, nmX5⟩
  | 6, _, rfl => ⟨mv_uX6, ⟨tyX6, tyX6_ok⟩, nmX6⟩
  | 7, _, rfl => ⟨mv_uX7, ⟨tyX7, tyX7_ok⟩, nmX7⟩
  | 8, _, rfl => ⟨mv_uX8, ⟨tyX8, tyX8_ok⟩, nmX8⟩
  | 9, _, rfl => ⟨mv_uX9, ⟨tyX9, tyX9_ok⟩, nmX9⟩
  | 10, _, rfl => ⟨mv_uX10, ⟨tyX10, tyX10_ok⟩, nmX10⟩
  | 11, _, rfl => ⟨mv_uX11, ⟨tyX11, tyX11_ok⟩, nmX11⟩
  | 12, _, rfl => ⟨mv_uX12, ⟨tyX12, tyX12_ok⟩, nmX12⟩
  | _ + 13, _, h => by cases h
end
section
theorem mv_stok : mv_St mv_sh := by
  have h : mv_wl.all (fun x => match x.2 with
    | .inr (ci, _) => Nat.ble 1000 x.1 == Nat.ble 100 ci
    | .inl (t, _, _) => (!(Nat.beq t 3 || Nat.beq t 1) || !Nat.ble 1000 x.1) && (!Nat.beq t 2 || Nat.ble 1000 x.1)) = true := by decide +kernel
  have h1 : ∀ (k : Nat) (q : mv_S), mv_sh k = some q → _ := fun k q hq => List.all_eq_true.mp h (k, q) (mv_lk_mem hq)
  refine ⟨fun k ci fs hs hb => ?_, fun k hb n w hs => ?_, fun k hb n w hs => ?_, fun k hb n w hs => ?_, fun k ci fs hs hb => ?_⟩
  · have := h1 k _ hs
    simp only [hb, beq_iff_eq] at this
    exact this.symm
  · have := h1 k _ hs
    simp [hb] at this
  · have := h1 k _ hs
    simp [hb] at this
  · have := h1 k _ hs
    simp [hb] at this
  · have := h1 k _ hs
    simp only [hb, beq_iff_eq] at this
    exact this.symm
def mv_tx90 : String := "sit cost when or and not come go beg wide keep bag group hour at left right warm friends sitting moved "
def mv_tx82 : String := ";+-*/()<=>"
/-- statics and texts, as they are from the first on -/
def mv_EX (ad : Nat → Nat → Value) (A : Nat → Prop) (U : State) : Prop := va_Z "MoveUp" "MOST" "[I" (ad 1001 0) A U U.heap ∧ va_Z "MoveUp" "LEAST" "[I" (ad 1000 0) A U U.heap ∧ va_Z "java/lang/String" "COMPACT_STRINGS" "Z" (.int 1) A U U.heap ∧ va_Z "jdk/internal/util/Preconditions" "SIOOBE_FORMATTER" "Ljava/util/function/BiFunction;" (ad 999 0) A U U.heap ∧
  (∃ q, ad 1002 0 = .ref q ∧ vk_R "MoveUp$Reader" 90 mv_tx90 q U) ∧ (∃ q, ad 1004 0 = .ref q ∧ vk_R "MoveUp$Reader" 82 mv_tx82 q U)
theorem mv_EX_ok {ad : Nat → Nat → Value} {A : Nat → Prop} : mv_EXok A (mv_EX ad A) := by
  refine ⟨fun U g mq a h => ?_, fun s U h hW hq => ?_⟩
  · obtain ⟨h1, h2, h3, h4, ⟨q5, e5, h5⟩, q6, e6, h6⟩ := h
    exact ⟨va_Z.moved (u := U) (U := U.calling g mq a) (Vm.Alike.refl U.vm) h1, va_Z.moved (u := U) (U := U.calling g mq a) (Vm.Alike.refl U.vm) h2, va_Z.moved (u := U) (U := U.calling g mq a) (Vm.Alike.refl U.vm) h3, va_Z.moved (u := U) (U := U.calling g mq a) (Vm.Alike.refl U.vm) h4, ⟨q5, e5, vk_R.same (u := U) rfl h5⟩, q6, e6, vk_R.same (u := U) rfl h6⟩
  · obtain ⟨h1, h2, h3, h4, ⟨q5, e5, h5⟩, q6, e6, h6⟩ := h
    exact ⟨(va_Z.moved hW.alike h1).kept hq, (va_Z.moved hW.alike h2).kept hq, (va_Z.moved hW.alike h3).kept hq, (va_Z.moved hW.alike h4).kept hq, ⟨q5, e5, vk_R.warm hW h5⟩, q6, e6, vk_R.warm hW h6⟩
section MV
variable {p : Program} {l : Launch} {e : Env} {R : Room} {s : State} {m : MethodId} {args : Array Value} {below : List Frame} {meth : Method} {c : Code} {cells slots : Nat} {Q : State → Prop}
variable {cc : ByteArray} {nL : Nat} {sh : Nat → Option mv_S} {ids ros : List (Nat × Nat)} {ad : Nat → Nat → Value} {cA : Nat → ClassId} {cl : List vw_C} {D : va_G} {tys : List (ClassId × FieldType)} {A : Nat → Prop} {rc : mv_G} {M : mv_M} {own : String} {Ts : List Cond}
def mv_cs1 (p : Program) (l : Launch) (e : Env) (R : Room) (s : State) (m : MethodId) (args : Array Value) (below : List Frame) (meth : Method) (c : Code) (cells slots : Nat) (Q : State → Prop) (cc : ByteArray) (ids ros : List (Nat × Nat)) (ad : Nat → Nat → Value) (A : Nat → Prop) (M : mv_M) (x : Nat × mv_A) : Prop :=
  mv_okV ids ros x.2 ∧ ∀ (pc : Nat) (H : Heap) (locs : List Loc) (lsC : Array Slot) (rest : List Value), va_S A s.heap H locs →
    ((pc, Instr.ldc x.1, 2) ∈ M.1 → decode cc pc = .ok (.ldc x.1, 2) → W p l e R s m args below meth c H locs cells slots Q (F0 m (pc + 2) lsC (mv_V ad x.2 :: rest)) → W p l e R s m args below meth c H locs cells slots Q (F0 m pc lsC rest)) ∧
    ((pc, Instr.ldc_w x.1, 3) ∈ M.1 → decode cc pc = .ok (.ldc_w x.1, 3) → W p l e R s m args below meth c H locs cells slots Q (F0 m (pc + 3) lsC (mv_V ad x.2 :: rest)) → W p l e R s m args below meth c H locs cells slots Q (F0 m pc lsC rest))
def mv_st1 (p : Program) (l : Launch) (e : Env) (R : Room) (s : State) (m : MethodId) (args : Array Value) (below : List Frame) (meth : Method) (c : Code) (cells slots : Nat) (Q : State → Prop) (cc : ByteArray) (ids ros : List (Nat × Nat)) (ad : Nat → Nat → Value) (A : Nat → Prop) (x : Nat × mv_A) : Prop :=
  mv_okV ids ros x.2 ∧ ∀ (pc : Nat) (H : Heap) (locs : List Loc) (lsC : Array Slot) (rest : List Value), va_S A s.heap H locs →
    (decode cc pc = .ok (.getstatic x.1, 3) → W p l e R s m args below meth c H locs cells slots Q (F0 m (pc + 3) lsC (mv_V ad x.2 :: rest)) → W p l e R s m args below meth c H locs cells slots Q (F0 m pc lsC rest))
theorem mv_cs_i {idx : Nat} {v : Int} (hBg : mv_Bg p s m args c cc nL own Ts) (hw : Cond.constant own idx (Int32.ofInt v) ∈ Ts) (hv : -2147483648 ≤ v ∧ v < 2147483648) : mv_cs1 p l e R s m args below meth c cells slots Q cc ids ros ad A M (idx, .inl v) :=
  ⟨hv, fun pc H locs lsC rest _ => ⟨fun _ hdg k => lv_ldc hBg.1 hBg.2.1 hBg.2.2.1 (hBg.2.2.2.1 _ hw) hdg k, fun _ hdg k => lv_ldcw hBg.1 hBg.2.1 hBg.2.2.1 (hBg.2.2.2.1 _ hw) hdg k⟩⟩
def mv_nlw (i : Instr) : Bool := match i with | .ldc_w _ => false | _ => true
theorem mv_cs_s {idx k : Nat} {tx : String} (hBg : mv_Bg p s m args c cc nL own Ts) (hk : (k, 0) ∈ ids ++ ros) (hv : ∃ q, ad k 0 = .ref q ∧ vk_R own idx tx q s) (hno : M.1.all (fun x => mv_nlw x.2.1) = true) : mv_cs1 p l e R s m args below meth c cells slots Q cc ids ros ad A M (idx, .inr (k, 0)) := by
  obtain ⟨q, e1, h1⟩ := hv
  refine ⟨Or.inl hk, fun pc H locs lsC rest _ => ⟨fun _ hdg kk => ?_, fun hm => ?_⟩⟩
  · have e2 : mv_V ad (.inr (k, 0)) = .ref q := e1
    rw [e2] at kk
    exact va_ldcS hBg.1 hBg.2.1 hBg.2.2.1 h1 hdg kk
  · have := List.all_eq_true.mp hno _ hm
    cases this
theorem mv_st_z {idx : Nat} {x : mv_A} {C n d : String} (hBg : mv_Bg p s m args c cc nL own Ts) (hx : mv_okV ids ros x) (hw : Cond.fieldLink own idx C n d ∈ Ts) (hZ : va_Z C n d (mv_V ad x) A s s.heap) : mv_st1 p l e R s m args below meth c cells slots Q cc ids ros ad A (idx, x) :=
  ⟨hx, fun pc H locs lsC rest hS hdg k => va_gets hBg.1 hBg.2.1 hZ hS hBg.2.2.1 (hBg.2.2.2.1 _ hw) (fun _ h => h) hdg k⟩
/-- the length of an array of ints, by its cell -/
def mv_al (sh : Nat → Option mv_S) (k i : Nat) : Option Nat := match sh k, i with
  | some (.inl (0, n, _)), 0 => some n
  | some (.inl (3, _, w)), _ + 1 => some w
  | _, _ => none
def mv_cpy (G : mv_G) (k i s k2 i2 d n : Nat) : mv_G := fun a b c => if a = k2 ∧ b = i2 ∧ d ≤ c ∧ c < d + n then G k i (s + (c - d)) else G a b c
/-- System.arraycopy over arrays of ints -/
def mv_acp (sh : Nat → Option mv_S) : mv_F := fun as G => match as with
  | [.inr (k, i), .inl s, .inr (k2, i2), .inl d, .inl n] => match mv_al sh k i, mv_al sh k2 i2 with
    | some a, some b => bif Nat.ble 1000 k || Nat.ble 1000 k2 then none else (if 0 ≤ s ∧ 0 ≤ d ∧ 0 ≤ n ∧ s + n ≤ a ∧ d + n ≤ b then some (0, mv_cpy G k i s.toNat k2 i2 d.toNat n.toNat) else none)
    | _, _ => none
  | _ => none
theorem mv_acp_in {sh : Nat → Option mv_S} {k i a : Nat} (h : mv_al sh k i = some a) : (i = 0 ∧ ∃ w, sh k = some (.inl (0, a, w))) ∨ (∃ i', i = i' + 1 ∧ ∃ n, sh k = some (.inl (3, n, a))) := by
  unfold mv_al at h
  split at h
  · next n w e => cases h; exact Or.inl ⟨rfl, _, e⟩
  · next n w i' e => cases h; exact Or.inr ⟨_, rfl, _, e⟩
  · cases h
theorem mv_acp_cell {sh : Nat → Option mv_S} {G : mv_G} {k i a : Nat} (h : mv_al sh k i = some a) : mv_cel sh ad cA G k i = (mv_ra (ad k i), .inl (cA 0, a, .inl (fun j => Int32.ofInt (G k i j)))) := by
  rcases mv_acp_in h with ⟨rfl, w, e⟩ | ⟨i', rfl, n, e⟩ <;> simp only [mv_cel, e]
theorem mv_cpy_ne {G : mv_G} {k i s k2 i2 d n a b : Nat} (h : ¬ (a, b) = (k2, i2)) : mv_cpy G k i s k2 i2 d n a b = G a b := by
  funext c
  unfold mv_cpy
  rw [if_neg]
  rintro ⟨h1, h2, -⟩
  exact h (by rw [h1, h2])
theorem mv_cel_cg {sh : Nat → Option mv_S} {G G2 : mv_G} {a b : Nat} (h : G a b = G2 a b) : mv_cel sh ad cA G a b = mv_cel sh ad cA G2 a b := by
  unfold mv_cel
  split <;> simp_all
theorem mv_cal_acp {idx : Nat} {cr : mv_R} (hF : mv_Fix sh ids ros ad cA tys A rc) (hBg : mv_Bg p s m args c cc nL own Ts) (hK : va_K D cl tys s) (hw : Cond.methodLink own idx arraycopyName ∈ Ts ∧ Cond.native arraycopyName ∈ Ts ∧ Cond.static arraycopyName ∈ Ts ∧ Cond.initialized "java/lang/System" ∈ Ts)
    (hR : 1 ≤ R.frames ∧ 8 + (nativeFrameWords "java/lang/System" "arraycopy" 5 + 11) ≤ R.locals) : mv_Cal p l e R s m args below meth c cells slots Q cc nL sh ids ros ad cA cl D A idx 5 none true (mv_acp sh) := by
  intro pc lsC as rest G G' r H locs hsz hdg hlen has hrv hrl hrc hf hW hS kk
  unfold mv_acp at hf
  split at hf <;> try contradiction
  next k i sp k2 i2 dp n =>
  split at hf <;> try contradiction
  next a b ha hb =>
  cases hro : (Nat.ble 1000 k || Nat.ble 1000 k2) with
  | true => rw [hro] at hf; cases hf
  | false =>
  rw [hro] at hf
  dsimp only [cond] at hf
  split at hf <;> try contradiction
  next hin =>
  cases hf
  simp only [Bool.or_eq_false_iff] at hro
  have hm : ∀ {k i a : Nat}, mv_al sh k i = some a → mv_okV ids ros (.inr (k, i)) → (k, i) ∈ ids ++ ros := fun h ho => by
    rcases mv_acp_in h with ⟨-, w, e⟩ | ⟨-, -, n, e⟩ <;> exact mv_no999 hF e ho
  have o1 := has (.inr (k, i)) (by simp)
  have o2 := has (.inl sp) (by simp)
  have o3 := has (.inr (k2, i2)) (by simp)
  have o4 := has (.inl dp) (by simp)
  have o5 := has (.inl n) (by simp)
  have m1 := hm ha o1
  have m2 := hm hb o3
  obtain ⟨q0, hq0, hg0⟩ := mv_getcell hF hW m1 hro.1
  obtain ⟨q1, hq1, hg1⟩ := mv_getcell hF hW m2 hro.2
  rw [mv_acp_cell ha] at hg0
  rw [mv_acp_cell hb] at hg1
  have ht : tys[0]? = some (cA 0, .int) := by
    rcases mv_acp_in ha with ⟨-, w, e⟩ | ⟨-, -, n, e⟩
    · exact ((hF.1 _ _ _ _ _ m1 e).2.2 hro.1).1
    · exact (((hF.1 _ _ _ _ _ m1 e).2.2 hro.1).2 rfl).1
  have hsum : (rest.map fun v => v.category).sum ≤ 8 := by
    have : ∀ r : List Value, (∀ v ∈ r, v.category = 1) → (r.map fun v => v.category).sum = r.length := by
      intro r
      induction r with
      | nil => intro _; rfl
      | cons v r ih =>
        intro h
        simp only [List.map_cons, List.sum_cons, List.length_cons]
        rw [h v List.mem_cons_self, ih fun w hw => h w (List.mem_cons_of_mem _ hw)]
        omega
    rw [this rest hrc]
    exact hrl
  show W p l e R s m args below meth c H locs cells slots Q (F0 m pc lsC (.int (Int32.ofInt n) :: .int (Int32.ofInt dp) :: ad k2 i2 :: .int (Int32.ofInt sp) :: ad k i :: rest))
  rw [show ad k i = .ref (mv_ra (ad k i)) from mv_ref_of hF m1, show ad k2 i2 = .ref (mv_ra (ad k2 i2)) from mv_ref_of hF m2]
  have neg : ∀ {x : Int}, mv_in x → 0 ≤ x → ¬ Int32.ofInt x < 0 := fun hx h0 h => by
    have := (mv_lt hx mv_in0).mp h
    omega
  refine va_copyi hBg.1 hBg.2.1 (hBg.2.2.2.2.trans hsz.symm) hBg.2.2.1 (hBg.2.2.2.1 _ hw.1) (hBg.2.2.2.1 _ hw.2.1) (hBg.2.2.2.1 _ hw.2.2.1) (hBg.2.2.2.1 _ hw.2.2.2) hK hW.1 hW.2.1 hS q0 q1 0 0 hg0 hg1 ht ht rfl (neg o2 hin.1) (neg o4 hin.2.1) (neg o5 hin.2.2.1)
    (by rw [mv_clamp o2 hin.1, mv_clamp o5 hin.2.2.1]; omega) (by rw [mv_clamp o4 hin.2.1, mv_clamp o5 hin.2.2.1]; omega) (fun _ _ => rfl) hR.1 (Nat.le_trans (Nat.add_le_add_right hsum _) hR.2) hdg (fun H1 locs1 hP1 hD1 hS1 => ?_)
  rw [mv_clamp o2 hin.1, mv_clamp o4 hin.2.1, mv_clamp o5 hin.2.2.1] at hP1 hD1
  have hset : (mv_wd sh ad cA ids G).set q1 (mv_ra (ad k2 i2), .inl (cA 0, b, .inl (va_cpy (fun j => Int32.ofInt (G k i j)) (fun j => Int32.ofInt (G k2 i2 j)) sp.toNat dp.toNat n.toNat))) = mv_wd sh ad cA ids (mv_cpy G k i sp.toNat k2 i2 dp.toNat n.toNat) := by
    refine List.ext_getElem? fun x => ?_
    by_cases e : x = q1
    · subst e
      obtain ⟨hl, hv⟩ := List.getElem?_eq_some_iff.mp hq1
      rw [List.getElem?_set_self (by simpa [mv_wd] using hl)]
      simp only [mv_wd, List.getElem?_map, hq1, Option.map_some]
      rw [mv_acp_cell hb]
      congr 6
      funext j
      simp only [va_cpy, mv_cpy, true_and]
      split <;> rfl
    · rw [List.getElem?_set_ne (fun h => e h.symm)]
      simp only [mv_wd, List.getElem?_map]
      cases hmx : ids[x]? with
      | none => rfl
      | some q =>
        obtain ⟨u, w⟩ := q
        show some (mv_cel sh ad cA G u w) = some (mv_cel sh ad cA _ u w)
        rw [mv_cel_cg (mv_cpy_ne _).symm]
        rintro hab
        rw [hab] at hmx
        exact e ((List.getElem?_inj (List.getElem?_eq_some_iff.mp hmx).1 hF.2.2.2.2.1).mp (hmx.trans hq1.symm))
  rw [hset] at hP1 hD1
  refine kk H1 locs1 ⟨hP1, hD1, fun a b c => ?_⟩ hS1 (fun h => by cases h)
  unfold mv_cpy
  split
  · exact hW.2.2 _ _ _
  · exact hW.2.2 _ _ _
end MV
end
section
def mv_max : mv_F := fun as G => match as with | [.inl x, .inl y] => some (if x < y then y else x, G) | _ => none
def mv_min : mv_F := fun as G => match as with | [.inl x, .inl y] => some (if y < x then y else x, G) | _ => none
def mv_abs : mv_F := fun as G => match as with | [.inl x] => some (if 0 ≤ x then x else mv_w (0 - x), G) | _ => none
section MV
variable {p : Program} {l : Launch} {e : Env} {R : Room} {s : State} {m : MethodId} {args : Array Value} {below : List Frame} {meth : Method} {c : Code} {cells slots : Nat} {Q : State → Prop}
variable {cc : ByteArray} {nL : Nat} {sh : Nat → Option mv_S} {ids ros : List (Nat × Nat)} {ad : Nat → Nat → Value} {cA : Nat → ClassId} {cl : List vw_C} {D : va_G} {tys : List (ClassId × FieldType)} {A : Nat → Prop} {rc : mv_G} {M : mv_M} {own : String} {Ts : List Cond}
theorem mv_sum1 : ∀ r : List Value, (∀ v ∈ r, v.category = 1) → (r.map fun v => v.category).sum = r.length := by
  intro r
  induction r with
  | nil => intro _; rfl
  | cons v r ih =>
    intro h
    simp only [List.map_cons, List.sum_cons, List.length_cons]
    rw [h v List.mem_cons_self, ih fun w hw => h w (List.mem_cons_of_mem _ hw)]
    omega
theorem mv_cal_max {idx : Nat} (hBg : mv_Bg p s m args c cc nL own Ts) (hw : Cond.methodLink own idx Lib.Math.max.name ∈ Ts ∧ Cond.static Lib.Math.max.name ∈ Ts ∧ Cond.initialized "java/lang/Math" ∈ Ts ∧ Cond.code Lib.Math.max.name Lib.Math.max.code 2 (some .int) ∈ Ts)
    (hR : 1 ≤ R.frames ∧ 21 ≤ R.locals) (hro : cells ≤ R.cells ∧ slots ≤ R.slots) : mv_Cal p l e R s m args below meth c cells slots Q cc nL sh ids ros ad cA cl D A idx 2 none false mv_max := by
  intro pc lsC as rest G G' r H locs hsz hdg hlen has hrv hrl hrc hf hW hS kk
  unfold mv_max at hf
  split at hf <;> try contradiction
  next x y =>
  cases hf
  have o1 := has (.inl x) (by simp)
  have o2 := has (.inl y) (by simp)
  have hl := mv_sum1 rest hrc
  have := kk H locs hW hS (fun _ => by split; exact o2; exact o1)
  refine va_mmax (rest := rest) hBg.1 hBg.2.1 (hBg.2.2.2.2.trans hsz.symm) hBg.2.2.1 (hBg.2.2.2.1 _ hw.1) (hBg.2.2.2.1 _ hw.2.1) (hBg.2.2.2.1 _ hw.2.2.1) (hBg.2.2.2.1 _ hw.2.2.2) hR.1 (by omega) hro.1 hro.2 (x := Int32.ofInt x) (y := Int32.ofInt y) hdg ?_
  have e : (if Int32.ofInt x < Int32.ofInt y then Int32.ofInt y else Int32.ofInt x) = Int32.ofInt (if x < y then y else x) := by
    by_cases h : x < y
    · rw [if_pos h, if_pos ((mv_lt o1 o2).mpr h)]
    · rw [if_neg h, if_neg (fun q => h ((mv_lt o1 o2).mp q))]
  rw [e]
  exact this
theorem mv_cal_min {idx : Nat} (hBg : mv_Bg p s m args c cc nL own Ts) (hw : Cond.methodLink own idx Lib.Math.min.name ∈ Ts ∧ Cond.static Lib.Math.min.name ∈ Ts ∧ Cond.initialized "java/lang/Math" ∈ Ts ∧ Cond.code Lib.Math.min.name Lib.Math.min.code 2 (some .int) ∈ Ts)
    (hR : 1 ≤ R.frames ∧ 21 ≤ R.locals) (hro : cells ≤ R.cells ∧ slots ≤ R.slots) : mv_Cal p l e R s m args below meth c cells slots Q cc nL sh ids ros ad cA cl D A idx 2 none false mv_min := by
  intro pc lsC as rest G G' r H locs hsz hdg hlen has hrv hrl hrc hf hW hS kk
  unfold mv_min at hf
  split at hf <;> try contradiction
  next x y =>
  cases hf
  have o1 := has (.inl x) (by simp)
  have o2 := has (.inl y) (by simp)
  have hl := mv_sum1 rest hrc
  have := kk H locs hW hS (fun _ => by split; exact o2; exact o1)
  refine va_mmin (rest := rest) hBg.1 hBg.2.1 (hBg.2.2.2.2.trans hsz.symm) hBg.2.2.1 (hBg.2.2.2.1 _ hw.1) (hBg.2.2.2.1 _ hw.2.1) (hBg.2.2.2.1 _ hw.2.2.1) (hBg.2.2.2.1 _ hw.2.2.2) hR.1 (by omega) hro.1 hro.2 (x := Int32.ofInt x) (y := Int32.ofInt y) hdg ?_
  have e : (if Int32.ofInt y < Int32.ofInt x then Int32.ofInt y else Int32.ofInt x) = Int32.ofInt (if y < x then y else x) := by
    by_cases h : y < x
    · rw [if_pos h, if_pos ((mv_lt o2 o1).mpr h)]
    · rw [if_neg h, if_neg (fun q => h ((mv_lt o2 o1).mp q))]
  rw [e]
  exact this
theorem mv_cal_abs {idx : Nat} (hBg : mv_Bg p s m args c cc nL own Ts) (hw : Cond.methodLink own idx Lib.Math.abs.name ∈ Ts ∧ Cond.static Lib.Math.abs.name ∈ Ts ∧ Cond.initialized "java/lang/Math" ∈ Ts ∧ Cond.code Lib.Math.abs.name Lib.Math.abs.code 1 (some .int) ∈ Ts)
    (hR : 1 ≤ R.frames ∧ 21 ≤ R.locals) (hro : cells ≤ R.cells ∧ slots ≤ R.slots) : mv_Cal p l e R s m args below meth c cells slots Q cc nL sh ids ros ad cA cl D A idx 1 none false mv_abs := by
  intro pc lsC as rest G G' r H locs hsz hdg hlen has hrv hrl hrc hf hW hS kk
  unfold mv_abs at hf
  split at hf <;> try contradiction
  next x =>
  cases hf
  have o1 := has (.inl x) (by simp)
  have hl := mv_sum1 rest hrc
  have := kk H locs hW hS (fun _ => by split; exact o1; exact mv_w_in _)
  refine va_mabs (rest := rest) hBg.1 hBg.2.1 (hBg.2.2.2.2.trans hsz.symm) hBg.2.2.1 (hBg.2.2.2.1 _ hw.1) (hBg.2.2.2.1 _ hw.2.1) (hBg.2.2.2.1 _ hw.2.2.1) (hBg.2.2.2.1 _ hw.2.2.2) hR.1 (by omega) hro.1 hro.2 (x := Int32.ofInt x) hdg ?_
  have e : (if 0 ≤ Int32.ofInt x then Int32.ofInt x else 0 - Int32.ofInt x) = Int32.ofInt (if 0 ≤ x then x else mv_w (0 - x)) := by
    have h1 : 0 ≤ Int32.ofInt x ↔ 0 ≤ x := by
      have := mv_lt o1 mv_in0
      rw [← Int32.not_lt, show (0 : Int32) = Int32.ofInt 0 from rfl, this]
      omega
    by_cases h : 0 ≤ x
    · rw [if_pos h, if_pos (h1.mpr h)]
    · rw [if_neg h, if_neg (fun q => h (h1.mp q)), mv_w_of, Int32.ofInt_sub]
      rfl
  rw [e]
  exact this
end MV
end
section
/-! Constructors: straight code that makes cells. -/
abbrev mv_U : Type := List (Option mv_A) × List (Nat × Nat) × List (Nat × Nat) × List (Nat × Nat × Int) × Nat × Nat
def mv_Gu (Gs : mv_G) (l : List (Nat × Nat × Int)) : mv_G := l.foldl (fun G x => mv_up G x.1 0 x.2.1 x.2.2) Gs
def mv_Vo (ad : Nat → Nat → Value) (v : Option mv_A) : Value := match v with | some v => mv_V ad v | none => .null
/-- a class's fields at first -/
def mv_nf (ci : Nat) : List (Option mv_A) := match mv_cl[ci]? with
  | some q => (List.range q.2.2).map fun j => match parseFieldDescriptor (q.2.1 j).2.2.1 with | some .int => some (.inl 0) | some .boolean => some (.inl 0) | _ => none
  | none => []
def mv_kn (ks : List Nat) (v : Option mv_A) : Bool := match v with | some (.inr q) => !ks.contains q.1 | _ => true
/-- none of the cells ks is one of these, nor is referred to by them -/
def mv_fr (ks : List Nat) (ids : List (Nat × Nat)) : Bool := ids.all fun q => !ks.contains q.1 && (match mv_sh q.1 with
  | some (.inr (_, fs)) => fs.all fun r => match r with | some t => !ks.contains t | none => true
  | _ => true)
def mv_fu (ks : List Nat) (st : List mv_A) (u : mv_U) : Bool := st.all (fun v => mv_kn ks (some v)) && u.1.all (mv_kn ks) && u.2.1.all (fun q => !ks.contains q.1)
def mv_gr (k n : Nat) : List (Nat × Nat) := (List.range (n + 1)).map fun i => (k, i)
/-- code; fields (slot, what: 0 a number, 1 a reference); which cell is made where; which constructors are called where (how many arguments, the cell, its class, the cells that come, cells and slots that it takes); (zero so far, how many cells and slots at most) come last -/
abbrev mv_TT : Type := List (Nat × Instr × Nat) × List (Nat × Nat × Nat) × List (Nat × Nat) × List (Nat × List mv_A × Nat × Nat × List (Nat × Nat) × Nat × Nat) × Bool × Nat × Nat
def mv_hd (k : Nat) (l : List mv_A) : Bool := match l with | .inr (a, 0) :: _ => Nat.beq a k | _ => false
def mv_hp (k cj : Nat) (l : List (Nat × Nat)) : Bool := match l with | (a, b) :: _ => Nat.beq a k && Nat.beq b cj | _ => false
def mv_wk1 (v : mv_A) (w : Nat) : Bool := match v with | .inl _ => Nat.beq w 0 | .inr _ => Nat.beq w 1
def mv_cs (T : mv_TT) (k0 : Nat) (ls : List mv_A) : Nat → Nat → List mv_A → mv_U → Nat × List mv_A × mv_U
  | 0, pc, st, u => (pc, st, u)
  | n + 1, pc, st, u => match mv_lk T.1 pc with
    | none => (pc, st, u)
    | some (i, len) => match i with
      | .aload_n k => match ls[k.val]? with | some (.inr q) => mv_cs T k0 ls n (pc + len) (.inr q :: st) u | _ => (pc, st, u)
      | .aload k => match ls[k]? with | some (.inr q) => mv_cs T k0 ls n (pc + len) (.inr q :: st) u | _ => (pc, st, u)
      | .iconst x => mv_cs T k0 ls n (pc + len) (.inl x :: st) u
      | .bipush x => mv_cs T k0 ls n (pc + len) (.inl x :: st) u
      | .sipush x => mv_cs T k0 ls n (pc + len) (.inl x :: st) u
      | .dup => match st with | v :: r => mv_cs T k0 ls n (pc + len) (v :: v :: r) u | _ => (pc, st, u)
      | .invokespecial _ => match mv_lk T.2.2.2.1 pc with
        | none => match st with
          | .inr (a, 0) :: r => bif Nat.beq a k0 && Nat.ble r.length 8 then mv_cs T k0 ls n (pc + len) r u else (pc, st, u)
          | _ => (pc, st, u)
        | some (as, k, cj, ids, nc, ns) => bif decide ((st.take as.length).reverse = as) && mv_hd k (st.drop as.length) && u.2.2.2.1.isEmpty && mv_hp k cj u.2.1 && mv_fu ((ids.map fun q => q.1).filter fun a => !Nat.beq a k) (st.drop (as.length + 1)) (u.1, u.2.1.drop 1, u.2.2) && mv_fr (ids.map fun q => q.1) u.2.2.1 && !u.2.1.tail.any (fun q => Nat.beq q.1 k) && Nat.ble (u.2.2.2.2.1 + nc) T.2.2.2.2.2.1 && Nat.ble (u.2.2.2.2.2 + ns) T.2.2.2.2.2.2 && Nat.ble st.length 8 then
            mv_cs T k0 ls n (pc + len) (st.drop (as.length + 1)) (u.1, u.2.1.drop 1, u.2.2.1 ++ ids, u.2.2.2.1, u.2.2.2.2.1 + nc, u.2.2.2.2.2 + ns) else (pc, st, u)
      | .new _ => match mv_lk T.2.2.1 pc with
        | some k => match mv_sh k with
          | some (.inr (ci, _)) => bif mv_fu [k] st u && mv_fr [k] u.2.2.1 && Nat.ble (u.2.2.2.2.1 + 1) T.2.2.2.2.2.1 && Nat.ble (u.2.2.2.2.2 + (mv_nf ci).length) T.2.2.2.2.2.2 then mv_cs T k0 ls n (pc + len) (.inr (k, 0) :: st) (u.1, (k, ci) :: u.2.1, u.2.2.1, u.2.2.2.1, u.2.2.2.2.1 + 1, u.2.2.2.2.2 + (mv_nf ci).length) else (pc, st, u)
          | _ => (pc, st, u)
        | none => (pc, st, u)
      | .newarray .int => match mv_lk T.2.2.1 pc, st with
        | some k, .inl x :: r => match mv_sh k with
          | some (.inl (0, w, _)) => bif decide (x = w) && T.2.2.2.2.1 && u.2.2.2.1.all (fun q => !Nat.beq q.1 k) && mv_fu [k] r u && mv_fr [k] u.2.2.1 && Nat.ble (u.2.2.2.2.1 + 1) T.2.2.2.2.2.1 && Nat.ble (u.2.2.2.2.2 + w) T.2.2.2.2.2.2 && Nat.blt w 100000 then mv_cs T k0 ls n (pc + len) (.inr (k, 0) :: r) (u.1, u.2.1, u.2.2.1 ++ [(k, 0)], u.2.2.2.1, u.2.2.2.2.1 + 1, u.2.2.2.2.2 + w) else (pc, st, u)
          | _ => (pc, st, u)
        | _, _ => (pc, st, u)
      | .newarray .boolean => match mv_lk T.2.2.1 pc, st with
        | some k, .inl x :: r => match mv_sh k with
          | some (.inl (1, w, _)) => bif decide (x = w) && T.2.2.2.2.1 && u.2.2.2.1.all (fun q => !Nat.beq q.1 k) && mv_fu [k] r u && mv_fr [k] u.2.2.1 && Nat.ble (u.2.2.2.2.1 + 1) T.2.2.2.2.2.1 && Nat.ble (u.2.2.2.2.2 + w) T.2.2.2.2.2.2 && Nat.blt w 100000 then mv_cs T k0 ls n (pc + len) (.inr (k, 0) :: r) (u.1, u.2.1, u.2.2.1 ++ [(k, 0)], u.2.2.2.1, u.2.2.2.2.1 + 1, u.2.2.2.2.2 + w) else (pc, st, u)
          | _ => (pc, st, u)
        | _, _ => (pc, st, u)
      | .multianewarray _ _ => match mv_lk T.2.2.1 pc, st with
        | some k, .inl y :: .inl x :: r => match mv_sh k with
          | some (.inl (3, a, b)) => bif decide (x = a) && decide (y = b) && T.2.2.2.2.1 && u.2.2.2.1.all (fun q => !Nat.beq q.1 k) && mv_fu [k] r u && mv_fr [k] u.2.2.1 && Nat.ble (u.2.2.2.2.1 + (1 + a)) T.2.2.2.2.2.1 && Nat.ble (u.2.2.2.2.2 + (a + a * b)) T.2.2.2.2.2.2 && Nat.blt a 100000 && Nat.blt b 100000 then mv_cs T k0 ls n (pc + len) (.inr (k, 0) :: r) (u.1, u.2.1, u.2.2.1 ++ mv_gr k a, u.2.2.2.1, u.2.2.2.2.1 + (1 + a), u.2.2.2.2.2 + (a + a * b)) else (pc, st, u)
          | _ => (pc, st, u)
        | _, _ => (pc, st, u)
      | .getstatic _ => mv_cs T k0 ls n (pc + len) (.inr (1001, 0) :: st) u
      | .arraylength => match st with
        | .inr (1001, 0) :: r => mv_cs T k0 ls n (pc + len) (.inl 5 :: r) u
        | _ => (pc, st, u)
      | .putfield x => match st, mv_lk T.2.1 x with
        | v :: .inr (a, 0) :: r, some (j, w) => bif Nat.beq a k0 && Nat.blt j u.1.length && mv_wk1 v w then mv_cs T k0 ls n (pc + len) r (u.1.set j (some v), u.2) else (pc, st, u)
        | _, _ => (pc, st, u)
      | .getfield x => match st, mv_lk T.2.1 x with
        | .inr (a, 0) :: r, some (j, _) => bif Nat.beq a k0 then (match u.1[j]? with | some (some v) => mv_cs T k0 ls n (pc + len) (v :: r) u | _ => (pc, st, u)) else (pc, st, u)
        | _, _ => (pc, st, u)
      | .iastore => match st with
        | .inl v :: .inl x :: .inr (k, 0) :: r => match mv_sh k with
          | some (.inl (0, w, _)) => bif decide (0 ≤ x ∧ x < w) && u.2.2.1.contains (k, 0) && Nat.blt k 990 then mv_cs T k0 ls n (pc + len) r (u.1, u.2.1, u.2.2.1, u.2.2.2.1 ++ [(k, x.toNat, v)], u.2.2.2.2) else (pc, st, u)
          | _ => (pc, st, u)
        | _ => (pc, st, u)
      | _ => (pc, st, u)
/-- the cells that may come -/
def mv_ks (T : mv_TT) : List Nat := T.2.2.1.map (fun q => q.2) ++ T.2.2.2.1.flatMap (fun q => q.2.2.2.2.1.map fun x => x.1)
section MV
variable {p : Program} {l : Launch} {e : Env} {R : Room} {s : State} {m : MethodId} {args : Array Value} {below : List Frame} {meth : Method} {c : Code} {cells slots : Nat} {Q : State → Prop}
variable {cc : ByteArray} {nL : Nat} {ad ad2 : Nat → Nat → Value} {cA : Nat → ClassId} {D : va_G} {tys : List (ClassId × FieldType)} {A : Nat → Prop} {H : Heap} {locs : List Loc} {ws ws2 : va_W} {ids : List (Nat × Nat)} {G : mv_G}
def mv_PP (D : va_G) (ws : va_W) (H : Heap) : Prop := ∀ x ∈ ws, va_at D mv_cl x H
def mv_DD (A : Nat → Prop) (ws : va_W) : Prop := (ws.map fun x => x.1).Nodup ∧ ∀ x ∈ ws, A x.1
theorem mv_PP_iff : va_P D mv_cl ws H ↔ mv_PP D ws H := ⟨fun h x hx => by
  obtain ⟨k, hk⟩ := List.getElem?_of_mem hx
  exact h k x hk, fun h k x hk => h x (List.mem_of_getElem? hk)⟩
theorem mv_DD_iff : va_D A ws ↔ mv_DD A ws := by
  refine ⟨fun h => ⟨?_, fun x hx => ?_⟩, fun h => ⟨fun i j p q hi hj e => ?_, fun k x hk => h.2 x (List.mem_of_getElem? hk)⟩⟩
  · refine List.pairwise_iff_getElem.mpr fun i j hi hj hij => ?_
    intro e
    rw [List.length_map] at hi hj
    rw [List.getElem_map, List.getElem_map] at e
    have := h.1 i j ws[i] ws[j] (List.getElem?_eq_getElem hi) (List.getElem?_eq_getElem hj) e
    omega
  · obtain ⟨k, hk⟩ := List.getElem?_of_mem hx
    exact h.2 k x hk
  · have hi' : (ws.map fun x => x.1)[i]? = some p.1 := by rw [List.getElem?_map, hi]; rfl
    have hj' : (ws.map fun x => x.1)[j]? = some p.1 := by rw [List.getElem?_map, hj, e]; rfl
    exact (List.getElem?_inj (List.getElem?_eq_some_iff.mp hi').1 h.1).mp (hi'.trans hj'.symm)
theorem mv_PP_perm (h : List.Perm ws ws2) (hp : mv_PP D ws H) : mv_PP D ws2 H := fun x hx => hp x (h.mem_iff.mpr hx)
theorem mv_DD_perm (h : List.Perm ws ws2) (hp : mv_DD A ws) : mv_DD A ws2 := ⟨(h.map _).nodup_iff.mp hp.1, fun x hx => hp.2 x (h.mem_iff.mpr hx)⟩
theorem mv_nc {ks : List Nat} {a : Nat} (h : (!ks.contains a) = true) : a ∉ ks := by
  intro hm
  rw [Bool.not_eq_true'] at h
  have := List.contains_iff_mem.mpr hm
  rw [h] at this
  cases this
/-- cells that the new ones don't concern -/
theorem mv_wd_ag {ks : List Nat} (hf : mv_fr ks ids = true) (h : ∀ a, a ∉ ks → ∀ b, ad2 a b = ad a b) : mv_wd mv_sh ad2 cA ids G = mv_wd mv_sh ad cA ids G := by
  refine List.map_congr_left fun q hq => ?_
  have h1 := List.all_eq_true.mp hf q hq
  simp only [Bool.and_eq_true] at h1
  have h2 : ∀ b, ad2 q.1 b = ad q.1 b := h _ (mv_nc h1.1)
  have key : ∀ (ci : Nat) (fs : List (Option Nat)), mv_sh q.1 = some (.inr (ci, fs)) → mv_fs ad2 (G q.1 0) fs = mv_fs ad (G q.1 0) fs := by
    intro ci fs hs
    rw [hs] at h1
    unfold mv_fs
    refine List.map_congr_left fun j hj => ?_
    have hj := List.mem_range.mp hj
    have h3 := List.all_eq_true.mp h1.2 (fs.getD j none) (by rw [List.getD_eq_getElem?_getD, List.getElem?_eq_getElem hj]; exact List.getElem_mem hj)
    cases hr : fs.getD j none with
    | none => rfl
    | some t =>
      rw [hr] at h3
      exact h t (mv_nc h3) 0
  unfold mv_cel
  simp only [h2]
  congr 1
  split <;> try rfl
  rename mv_sh q.1 = some (.inr _) => hs
  rw [key _ _ hs]
theorem mv_Vo_ag {ks : List Nat} {v : Option mv_A} (hf : mv_kn ks v = true) (h : ∀ a, a ∉ ks → ∀ b, ad2 a b = ad a b) : mv_Vo ad2 v = mv_Vo ad v := by
  cases v with
  | none => rfl
  | some v =>
    cases v with
    | inl x => rfl
    | inr q => exact h _ (mv_nc hf) _
/-- a good value: a number in range, a reference that stands -/
def mv_gv (ad : Nat → Nat → Value) (v : mv_A) : Prop := match v with | .inl x => mv_in x | .inr q => ∃ a, ad q.1 q.2 = .ref a
def mv_go1 (ad : Nat → Nat → Value) (v : Option mv_A) : Prop := match v with | some v => mv_gv ad v | none => True
def mv_ow (ad : Nat → Nat → Value) (k0 ci : Nat) (u : mv_U) : va_W := (mv_ra (ad k0 0), .inr (ci, u.1.map (mv_Vo ad))) :: u.2.1.map fun q => (mv_ra (ad q.1 0), .inr (q.2, (mv_nf q.2).map (mv_Vo ad)))
/-- the world of a constructor -/
def mv_WU (ad : Nat → Nat → Value) (cA : Nat → ClassId) (D : va_G) (A : Nat → Prop) (Gs : mv_G) (k0 ci : Nat) (u : mv_U) (H : Heap) : Prop :=
  mv_PP D (mv_ow ad k0 ci u ++ mv_wd mv_sh ad cA u.2.2.1 (mv_Gu Gs u.2.2.2.1)) H ∧ mv_DD A (mv_ow ad k0 ci u ++ mv_wd mv_sh ad cA u.2.2.1 (mv_Gu Gs u.2.2.2.1)) ∧ (∀ k i j, mv_in (mv_Gu Gs u.2.2.2.1 k i j)) ∧
  (∃ a, ad k0 0 = .ref a) ∧ (∀ q ∈ u.2.1, ∃ a, ad q.1 0 = .ref a) ∧ (∀ q ∈ u.2.2.1, ∃ a, ad q.1 q.2 = .ref a) ∧ (∀ v ∈ u.1, mv_go1 ad v) ∧ ∀ a b, (ad a b).category = 1
/-- the words of nest mates, that no list of words holds -/
def mv_nsl : List Cond := [.fieldLinkNest "MoveUp$Bench" 21 "MoveUp" "MOST" "[I" "MoveUp", .methodLinkNest "MoveUp$Bench" 37 ⟨"MoveUp$Law", "<init>", "()V"⟩ "MoveUp", .methodLinkNest "MoveUp$Bench" 47 ⟨"MoveUp$Day", "<init>", "()V"⟩ "MoveUp", .methodLinkNest "MoveUp" 21 ⟨"MoveUp$Past", "<init>", "()V"⟩ "MoveUp", .methodLinkNest "MoveUp" 28 ⟨"MoveUp$Reader", "<init>", "()V"⟩ "MoveUp", .methodLinkNest "MoveUp$Reader" 17 ⟨"MoveUp$Law", "<init>", "()V"⟩ "MoveUp", .methodLinkNest "MoveUp$Reader" 24 ⟨"MoveUp$Day", "<init>", "()V"⟩ "MoveUp", .methodLinkNest "MoveUp" 35 ⟨"MoveUp$Row", "<init>", "()V"⟩ "MoveUp"]
def mv_NS (U : State) : Prop := ∀ w ∈ mv_nsl, va_Nw w U
theorem mv_NS.warm {U : State} (hW : s.WarmedH U.vm) (h : mv_NS s) : mv_NS U := by
  intro w hw
  have h1 := h w hw
  simp only [mv_nsl, List.mem_cons, List.not_mem_nil, or_false] at hw
  rcases hw with rfl | rfl | rfl | rfl | rfl | rfl | rfl | rfl
  · exact va_Nw.warmF hW h1
  all_goals exact va_Nw.warmM hW h1
theorem mv_NS.same {u U : State} (hv : u.vm = U.vm) (h : mv_NS u) : mv_NS U := by
  intro w hw
  have h1 := h w hw
  refine va_Nw.same ?_ hv h1
  simp only [mv_nsl, List.mem_cons, List.not_mem_nil, or_false] at hw
  rcases hw with rfl | rfl | rfl | rfl | rfl | rfl | rfl | rfl <;> rfl
/-- arrays of rows of ints: that no list of words holds -/
def mv_AO (U : State) : Prop := (Cond.arrayOver (.array .int)).before #[] U = true
theorem mv_AO.moved {u U : State} (hvm : u.vm.Alike U.vm) (h : mv_AO u) : mv_AO U := Cond.overAtom_setVm (args := #[]) hvm (.arrayOver (.array .int)) rfl h
/-- what a constructor finds -/
def mv_Pi (ad : Nat → Nat → Value) (D : va_G) (tys : List (ClassId × FieldType)) (A : Nat → Prop) (k ci sz : Nat) (U : State) : Prop :=
  U.heap.size = sz ∧ mv_PP D [(mv_ra (ad k 0), .inr (ci, (mv_nf ci).map (mv_Vo ad)))] U.heap ∧ va_K D mv_cl tys U ∧ mv_RO mv_sh mv_ros ad A mv_rc mv_cr U ∧ mv_EX ad A U ∧ mv_NS U ∧ mv_AO U
/-- a constructor's contract -/
def mv_Ini (l : Launch) (y : MethodName) (by2 : ByteArray) (mL : Nat) (rm : Room) (cA : Nat → ClassId) (D : va_G) (tys : List (ClassId × FieldType)) (Gs : mv_G) (k ci : Nat) (as : List mv_A) (ids : List (Nat × Nat)) : Prop :=
  ∀ (ad : Nat → Nat → Value) (sz : Nat), (∃ a, ad k 0 = .ref a) → (∀ a b, (ad a b).category = 1) → (∀ v ∈ as, mv_gv ad v) → (∀ q ∈ mv_ros, ∃ a, ad q.1 q.2 = .ref a) →
    Met l y (.code y by2 mL none :: mv_Ts) rm (va_Pc ((.inr (k, 0) :: as).map (mv_V ad)) (mv_Pi ad D tys (fun a => a = mv_ra (ad k 0) ∨ sz ≤ a) k ci sz))
      (va_Qv (fun ad2 : Nat → Nat → Value => (∀ b, ad2 k b = ad k b) ∧ (∀ a, a ∉ ids.map (fun q => q.1) → ∀ b, ad2 a b = ad a b) ∧ (∀ q ∈ ids, ∃ a, ad2 q.1 q.2 = .ref a) ∧ ∀ a b, (ad2 a b).category = 1)
        (fun ad2 t => mv_Wd mv_sh ids ad2 cA mv_cl D (fun a => a = mv_ra (ad k 0) ∨ sz ≤ a) Gs t.heap) (fun a => a = mv_ra (ad k 0) ∨ sz ≤ a)) rm.cells rm.slots (fun a => a = mv_ra (ad k 0) ∨ sz ≤ a)
def mv_il (i : Instr) : Nat := match i with | .aload_n _ | .iconst _ | .dup | .arraylength | .iastore => 1 | .aload _ | .bipush _ | .newarray _ => 2 | .multianewarray _ _ => 4 | _ => 3
def mv_ik (i : Instr) (len : Nat) : Bool := Nat.beq len (mv_il i) && (match i with | .iconst x | .bipush x => decide (-128 ≤ x ∧ x < 128) | .sipush x => decide (-32768 ≤ x ∧ x < 32768) | _ => true)
/-- what is fixed where a constructor's body runs -/
def mv_Cx (l : Launch) (p : Program) (s : State) (m : MethodId) (args : Array Value) (meth : Method) (c : Code) (cc : ByteArray) (nL : Nat) (own : String) (R : Room) (cA : Nat → ClassId) (D : va_G) (tys : List (ClassId × FieldType)) (Gs : mv_G) (ci : Nat) (T : mv_TT) : Prop :=
  mv_Bg p s m args c cc nL own mv_Ts ∧ va_K D mv_cl tys s ∧ meth.name = "<init>" ∧ mv_NS s ∧ (tys[0]? = some (cA 0, .int) ∧ tys[1]? = some (cA 1, .boolean) ∧ tys[3]? = some (cA 3, .array .int)) ∧
  (∀ x ∈ T.1, decode cc x.1 = .ok (x.2.1, x.2.2) ∧ mv_ik x.2.1 x.2.2 = true) ∧
  (∃ q : vw_C, mv_cl[ci]? = some q ∧ ∀ x ∈ T.2.1, x.2.1 < q.2.2 ∧ Cond.fieldLink own x.1 (q.2.1 x.2.1).1 (q.2.1 x.2.1).2.1 (q.2.1 x.2.1).2.2.1 ∈ mv_Ts ∧ (x.2.2 = 0 → (q.2.1 x.2.1).2.2.2 = false ∧ parseFieldDescriptor (q.2.1 x.2.1).2.2.1 = some .int) ∧
    (x.2.2 = 1 → (q.2.1 x.2.1).2.2.2 = true ∧ (q.2.1 x.2.1).1 = own ∧ ∃ ty, parseFieldDescriptor (q.2.1 x.2.1).2.2.1 = some ty ∧ (∀ a, narrow ty (.ref a) = .ref a) ∧ ∀ a, fits ty (.ref a) = true)) ∧
  (∀ pc idx len k cj fs, mv_lk T.1 pc = some (.new idx, len) → mv_lk T.2.2.1 pc = some k → mv_sh k = some (.inr (cj, fs)) → ∃ q : vw_C, mv_cl[cj]? = some q ∧ Cond.classLink own idx q.1 ∈ mv_Ts ∧ Cond.instantiable q.1 q.2.2 ∈ mv_Ts ∧ Cond.initialized q.1 ∈ mv_Ts ∧ (∃ ty0 : Nat → FieldType, (∀ j, j < q.2.2 → parseFieldDescriptor (q.2.1 j).2.2.1 = some (ty0 j)) ∧ ∀ (ad : Nat → Nat → Value) j, j < q.2.2 → defaultValue (ty0 j) = vp_V ((mv_nf cj).map (mv_Vo ad)) j) ∧ (mv_nf cj).length = q.2.2) ∧
  (∀ pc idx len, mv_lk T.1 pc = some (.invokespecial idx, len) → mv_lk T.2.2.2.1 pc = none → Cond.methodLink own idx Lib.objectInit ∈ mv_Ts ∧ Cond.instanceMethod Lib.objectInit ∈ mv_Ts ∧ Cond.code Lib.objectInit ⟨#[0xb1]⟩ 1 none ∈ mv_Ts) ∧
  (∀ pc idx len as k cj ids nc ns, mv_lk T.1 pc = some (.invokespecial idx, len) → mv_lk T.2.2.2.1 pc = some (as, k, cj, ids, nc, ns) → ∃ (y : MethodName) (by2 : ByteArray) (mL : Nat) (rm : Room), mv_Ini l y by2 mL rm cA D tys Gs k cj as ids ∧ rm.cells = nc ∧ rm.slots = ns ∧ rm.frames + 1 ≤ R.frames ∧ 8 + (mL + 11) + rm.locals ≤ R.locals ∧
    Cond.code y by2 mL none ∈ mv_Ts ∧ Cond.initialized y.cls ∈ mv_Ts ∧ Cond.instanceMethod y ∈ mv_Ts ∧ y.name = "<init>" ∧ (y.cls ≠ "java/lang/invoke/MethodHandle" ∧ y.cls ≠ "java/lang/invoke/VarHandle" ∧ (parseMethodDescriptor y.desc).map (fun d => d.parameters.length) = some as.length) ∧
    (Cond.methodLink own idx y ∈ mv_Ts ∨ ∃ host, Cond.methodLinkNest own idx y host ∈ mv_nsl) ∧ (k, 0) ∈ ids) ∧
  mv_AO s ∧ (∀ pc idx n len, mv_lk T.1 pc = some (.multianewarray idx n, len) → n = 2 ∧ Cond.classLink own idx ("[" ++ (FieldType.array .int).toString) ∈ mv_Ts) ∧ (∀ pc idx len, mv_lk T.1 pc = some (.getstatic idx, len) → Cond.fieldLinkNest own idx "MoveUp" "MOST" "[I" "MoveUp" ∈ mv_nsl) ∧ Cond.arrayClass .int ∈ mv_Ts ∧ Cond.arrayClass .boolean ∈ mv_Ts ∧ T.2.2.2.2.2.1 ≤ R.cells ∧ T.2.2.2.2.2.2 ≤ R.slots ∧ 1 ≤ R.frames ∧ 32 ≤ R.locals ∧ (T.2.2.2.2.1 = true → ∀ k i j, Gs k i j = 0)
theorem mv_lks_in {T : mv_TT} {pc k : Nat} (h : mv_lk T.2.2.1 pc = some k) : k ∈ mv_ks T := List.mem_append_left _ (List.mem_map.mpr ⟨(pc, k), mv_lk_mem h, rfl⟩)
theorem mv_fu_st {ks : List Nat} {st : List mv_A} {u : mv_U} (hf : mv_fu ks st u = true) (h : ∀ a, a ∉ ks → ∀ b, ad2 a b = ad a b) : st.map (mv_V ad2) = st.map (mv_V ad) ∧ (∀ v ∈ st, mv_gv ad v → mv_gv ad2 v) := by
  unfold mv_fu at hf
  simp only [Bool.and_eq_true] at hf
  have e : ∀ v ∈ st, mv_V ad2 v = mv_V ad v := fun v hv => mv_Vo_ag (v := some v) (List.all_eq_true.mp hf.1.1 v hv) h
  refine ⟨List.map_congr_left e, fun v hv hg => ?_⟩
  cases v with
  | inl x => exact hg
  | inr q =>
    obtain ⟨a, ha⟩ := hg
    exact ⟨a, (e _ hv).trans ha⟩
theorem mv_ow_ag {ks : List Nat} {st : List mv_A} {k0 ci : Nat} {u : mv_U} (hk : k0 ∉ ks) (hf : mv_fu ks st u = true) (h : ∀ a, a ∉ ks → ∀ b, ad2 a b = ad a b) : mv_ow ad2 k0 ci u = mv_ow ad k0 ci u := by
  unfold mv_fu at hf
  simp only [Bool.and_eq_true] at hf
  unfold mv_ow
  rw [h k0 hk, List.map_congr_left (fun v hv => mv_Vo_ag (List.all_eq_true.mp hf.1.2 v hv) h)]
  congr 1
  refine List.map_congr_left fun q hq => ?_
  rw [h q.1 (mv_nc (List.all_eq_true.mp hf.2 q hq))]
  congr 3
  refine List.map_congr_left fun v hv => ?_
  unfold mv_nf at hv
  split at hv
  · obtain ⟨j, -, rfl⟩ := List.mem_map.mp hv
    split <;> rfl
  · cases hv
theorem mv_go1_ag {ks : List Nat} {v : Option mv_A} (hf : mv_kn ks v = true) (h : ∀ a, a ∉ ks → ∀ b, ad2 a b = ad a b) (hg : mv_go1 ad v) : mv_go1 ad2 v := by
  cases v with
  | none => trivial
  | some v =>
    cases v with
    | inl x => exact hg
    | inr q =>
      obtain ⟨a, ha⟩ := hg
      exact ⟨a, (h _ (mv_nc hf) _).trans ha⟩
theorem mv_fr_no {ks : List Nat} (hf : mv_fr ks ids = true) {q : Nat × Nat} (hq : q ∈ ids) : q.1 ∉ ks := by
  have h1 := List.all_eq_true.mp hf q hq
  simp only [Bool.and_eq_true] at h1
  exact mv_nc h1.1
/-- new addresses, and cells behind -/
theorem mv_WU_add {ks : List Nat} {st : List mv_A} {Gs : mv_G} {k0 ci : Nat} {u u2 : mv_U} {H1 : Heap} (hW : mv_WU ad cA D A Gs k0 ci u H) (hk : k0 ∉ ks) (hf : mv_fu ks st u = true) (hfr : mv_fr ks u.2.2.1 = true) (h : ∀ a, a ∉ ks → ∀ b, ad2 a b = ad a b) (hc : ∀ a b, (ad2 a b).category = 1)
    (e1 : u2.1 = u.1) (e2 : u2.2.1 = u.2.1) (nw : List (Nat × Nat)) (e3 : u2.2.2.1 = u.2.2.1 ++ nw) (e4 : u2.2.2.2.1 = u.2.2.2.1) (hnw : ∀ q ∈ nw, ∃ a, ad2 q.1 q.2 = .ref a)
    (hP : mv_PP D ((mv_ow ad k0 ci u ++ mv_wd mv_sh ad cA u.2.2.1 (mv_Gu Gs u.2.2.2.1)) ++ mv_wd mv_sh ad2 cA nw (mv_Gu Gs u.2.2.2.1)) H1) (hD : mv_DD A ((mv_ow ad k0 ci u ++ mv_wd mv_sh ad cA u.2.2.1 (mv_Gu Gs u.2.2.2.1)) ++ mv_wd mv_sh ad2 cA nw (mv_Gu Gs u.2.2.2.1))) : mv_WU ad2 cA D A Gs k0 ci u2 H1 := by
  obtain ⟨-, -, w3, ⟨a0, w4⟩, w5, w6, w7, w8⟩ := hW
  have f := hf
  unfold mv_fu at f
  simp only [Bool.and_eq_true] at f
  have eo : mv_ow ad2 k0 ci u2 = mv_ow ad k0 ci u := by
    rw [← mv_ow_ag hk hf h]
    unfold mv_ow
    rw [e1, e2]
  have ew : mv_wd mv_sh ad2 cA u2.2.2.1 (mv_Gu Gs u2.2.2.2.1) = mv_wd mv_sh ad cA u.2.2.1 (mv_Gu Gs u.2.2.2.1) ++ mv_wd mv_sh ad2 cA nw (mv_Gu Gs u.2.2.2.1) := by
    rw [e3, e4]
    unfold mv_wd
    rw [List.map_append]
    congr 1
    exact mv_wd_ag hfr h
  rw [List.append_assoc] at hP hD
  refine ⟨by rw [eo, ew]; exact hP, by rw [eo, ew]; exact hD, by rw [e4]; exact w3, ⟨a0, by rw [h k0 hk]; exact w4⟩, fun q hq => ?_, fun q hq => ?_, fun v hv => ?_, hc⟩
  · rw [e2] at hq
    obtain ⟨a, ha⟩ := w5 q hq
    exact ⟨a, by rw [h _ (mv_nc (List.all_eq_true.mp f.2 q hq))]; exact ha⟩
  · rw [e3] at hq
    rcases List.mem_append.mp hq with hq | hq
    · obtain ⟨a, ha⟩ := w6 q hq
      exact ⟨a, by rw [h _ (mv_fr_no hfr hq)]; exact ha⟩
    · exact hnw q hq
  · rw [e1] at hv
    exact mv_go1_ag (List.all_eq_true.mp f.1.2 v hv) h (w7 v hv)
theorem mv_Gu_0 {k i : Nat} : ∀ {l : List (Nat × Nat × Int)}, l.all (fun q => !Nat.beq q.1 k) = true → ∀ {Gs : mv_G}, (∀ j, Gs k i j = 0) → ∀ j, mv_Gu Gs l k i j = 0
  | [], _, _, h0, j => h0 j
  | x :: l, h, Gs, h0, j => by
    simp only [List.all_cons, Bool.and_eq_true] at h
    refine mv_Gu_0 (l := l) h.2 (Gs := mv_up Gs x.1 0 x.2.1 x.2.2) (fun j => ?_) j
    show (if k = x.1 ∧ i = 0 ∧ j = x.2.1 then x.2.2 else Gs k i j) = 0
    rw [if_neg]
    · exact h0 j
    · rintro ⟨e, -⟩
      have := h.1
      rw [← e, Bool.not_eq_true', Nat.beq_refl] at this
      cases this
theorem mv_r_newa {atype : ArrayType} {t : Nat} {Gs : mv_G} {k0 ci k w z pc : Nat} {u : mv_U} {st : List mv_A} {lsC : Array Slot} (hty : newarray.typeOf atype = mv_ty t) (ht01 : t = 0 ∨ t = 1) (hx : p.tables.exec = Jvm.exec) (hb : c.code = cc) (harr : (Cond.arrayClass (newarray.typeOf atype)).before args s = true) (hK : va_K D mv_cl tys s) (ht : tys[t]? = some (cA t, mv_ty t)) (hA : ∀ q, s.heap.size ≤ q → A q)
    (hW : mv_WU ad cA D A Gs k0 ci u H) (hS : va_S A s.heap H locs) (hsh : mv_sh k = some (.inl (t, w, z))) (hk0 : k0 ≠ k) (hf : mv_fu [k] st u = true) (hfr : mv_fr [k] u.2.2.1 = true) (hz : ∀ j, mv_Gu Gs u.2.2.2.1 k 0 j = 0) (hw : w < 100000) (hc : cells + 1 ≤ R.cells) (hs : slots + w ≤ R.slots) (hdg : decode cc pc = .ok (.newarray atype, 2)) {x y : Nat}
    (kk : ∀ (ad2 : Nat → Nat → Value) (H1 : Heap), (∀ a, a ≠ k → ∀ b, ad2 a b = ad a b) → (∃ a, ad2 k 0 = .ref a) → mv_WU ad2 cA D A Gs k0 ci (u.1, u.2.1, u.2.2.1 ++ [(k, 0)], u.2.2.2.1, x, y) H1 → va_S A s.heap H1 locs → W p l e R s m args below meth c H1 locs (cells + 1) (slots + w) Q (F0 m (pc + 2) lsC (mv_V ad2 (.inr (k, 0)) :: st.map (mv_V ad2)))) :
    W p l e R s m args below meth c H locs cells slots Q (F0 m pc lsC (.int (Int32.ofInt w) :: st.map (mv_V ad))) := by
  have hin : mv_in (w : Int) := by unfold mv_in; omega
  have hcl : (Int32.ofInt (w : Int)).toNatClampNeg = w := by rw [mv_clamp hin (by omega)]; rfl
  refine va_newa (ty := mv_ty t) hx hb harr hty hK (mv_PP_iff.mpr hW.1) (mv_DD_iff.mpr hW.2.1) hS hA (a0 := (w, .inl (fun _ => 0))) (N' := w) (fun cA => by rcases ht01 with rfl | rfl <;> rfl) (fun h => by have := (mv_lt hin mv_in0).mp h; omega) hcl (by rcases ht01 with rfl | rfl <;> (simp only [mv_ty, componentBytes]; omega)) hc hs hdg (fun q cA' H1 hK1 hP1 hD1 hS1 => ?_)
  have hc' : cA' = cA t := by
    have h1 := (hK1.2 tys.length (cA', mv_ty t) (by simp)).2
    have h2 := (hK.2 t _ ht).2
    rcases ht01 with rfl | rfl
    · exact Option.some.inj ((show s.vm.findClass _ = some cA' from h1).symm.trans h2)
    · exact Option.some.inj ((show s.vm.findClass _ = some cA' from h1).symm.trans h2)
  subst hc'
  have hag : ∀ a, a ∉ [k] → ∀ b, (fun a b => if a = k then (.ref q : Value) else ad a b) a b = ad a b := fun a ha b => if_neg (fun e => ha (by simp [e]))
  have := kk (fun a b => if a = k then .ref q else ad a b) H1 (fun a ha b => if_neg ha) ⟨q, if_pos rfl⟩
    (mv_WU_add (ks := [k]) (st := st) hW (fun h => hk0 (by simpa using h)) hf hfr hag (fun a b => by show (if a = k then (.ref q : Value) else ad a b).category = 1; split; rfl; exact hW.2.2.2.2.2.2.2 a b) rfl rfl [(k, 0)] rfl rfl (fun q' hq' => by
      rw [List.mem_singleton] at hq'
      subst hq'
      exact ⟨q, if_pos rfl⟩) ?_ ?_) hS1
  · rw [(mv_fu_st hf hag).1] at this
    have e : mv_V (fun a b => if a = k then (.ref q : Value) else ad a b) (.inr (k, 0)) = .ref q := if_pos rfl
    rw [e] at this
    exact this
  all_goals
    have ec : mv_wd mv_sh (fun a b => if a = k then (.ref q : Value) else ad a b) cA [(k, 0)] (mv_Gu Gs u.2.2.2.1) = [(q, .inl (cA t, w, .inl (fun _ => 0)))] := by
      show [mv_cel _ _ _ _ k 0] = _
      congr 1
      rcases ht01 with rfl | rfl
      · simp only [mv_cel, hsh, if_true, mv_ra, hz]
        rfl
      · simp only [mv_cel, hsh, if_true, mv_ra, hz]
        rfl
    rw [ec]
  · exact mv_PP_iff.mp hP1
  · exact mv_DD_iff.mp hD1
theorem mv_outer (c : ClassId) (N h0 : Nat) : ∀ i : Nat, Jvm.Free.Multi.outerC c N h0 i = arrV c N (fun j => va_rf (if j < i then some (h0 + 1 + j) else none))
  | 0 => by
    show ({ cls := c, slots := Array.replicate N .null, vm := .none } : Cell) = _
    rw [arrV_new]
    refine congrArg (arrV c N) (funext fun j => ?_)
    simp [va_rf]
  | i + 1 => by
    show (Jvm.Free.Multi.outerC c N h0 i).setSlot i (.ref (h0 + 1 + i)) = _
    rw [mv_outer c N h0 i, arrV_store]
    refine congrArg (arrV c N) (funext fun j => ?_)
    by_cases e : j = i
    · subst e
      simp [updV, va_rf]
    · by_cases h : j < i
      · simp [updV, e, h, Nat.lt_succ_of_lt h]
      · simp [updV, e, h, show ¬ j < i + 1 by omega]
theorem mv_r_multi {Gs : mv_G} {k0 ci k w z pc idx : Nat} {u : mv_U} {st : List mv_A} {lsC : Array Slot} {own : String} (hx : p.tables.exec = Jvm.exec) (hb : c.code = cc) (hown : s.vm.findClass own = some m.cls) (hcl : (Cond.classLink own idx ("[" ++ (FieldType.array .int).toString)).before args s = true) (hover : (Cond.arrayOver (.array .int)).before args s = true) (harr : (Cond.arrayClass .int).before args s = true) (hK : va_K D mv_cl tys s) (ht0 : tys[0]? = some (cA 0, .int)) (ht3 : tys[3]? = some (cA 3, .array .int)) (hA : ∀ q, s.heap.size ≤ q → A q)
    (hW : mv_WU ad cA D A Gs k0 ci u H) (hS : va_S A s.heap H locs) (hsh : mv_sh k = some (.inl (3, w, z))) (hk0 : k0 ≠ k) (hf : mv_fu [k] st u = true) (hfr : mv_fr [k] u.2.2.1 = true) (hz : ∀ i j, mv_Gu Gs u.2.2.2.1 k i j = 0) (hw : w < 100000) (hz2 : z < 100000) (hc : cells + (1 + w) ≤ R.cells) (hs : slots + (w + w * z) ≤ R.slots) (hdg : decode cc pc = .ok (.multianewarray idx 2, 4)) {x y : Nat}
    (kk : ∀ (ad2 : Nat → Nat → Value) (H1 : Heap), (∀ a, a ≠ k → ∀ b, ad2 a b = ad a b) → (∃ a, ad2 k 0 = .ref a) → mv_WU ad2 cA D A Gs k0 ci (u.1, u.2.1, u.2.2.1 ++ mv_gr k w, u.2.2.2.1, x, y) H1 → va_S A s.heap H1 locs → W p l e R s m args below meth c H1 locs (cells + (1 + w)) (slots + (w + w * z)) Q (F0 m (pc + 4) lsC (mv_V ad2 (.inr (k, 0)) :: st.map (mv_V ad2)))) :
    W p l e R s m args below meth c H locs cells slots Q (F0 m pc lsC (.int (Int32.ofInt z) :: .int (Int32.ofInt w) :: st.map (mv_V ad))) := by
  have hin : mv_in (w : Int) := by unfold mv_in; omega
  have hin2 : mv_in (z : Int) := by unfold mv_in; omega
  have hcw : (Int32.ofInt (w : Int)).toNatClampNeg = w := by rw [mv_clamp hin (by omega)]; rfl
  have hcz : (Int32.ofInt (z : Int)).toNatClampNeg = z := by rw [mv_clamp hin2 (by omega)]; rfl
  intro T hT Xs
  obtain ⟨vm₁, c3, comp, -, fA, fC, hO, -, X', step⟩ := Xs.multianewarray2F hx hown hcl hover harr (g := F0 m pc lsC (.int (Int32.ofInt z) :: .int (Int32.ofInt w) :: st.map (mv_V ad))) rfl (by rw [hb]; exact hdg) rfl (fun h => by have := (mv_lt hin mv_in0).mp h; omega) (fun h => by have := (mv_lt hin2 mv_in0).mp h; omega) (by rw [hcw]; omega) (by rw [hcz]; show z * 4 ≤ _; omega) (by rw [hcz]; omega) rfl rfl (by rw [hcw]; exact hc) (by rw [hcw, hcz]; exact hs)
  rw [hcw, hcz] at X' step
  generalize hF : Jvm.Free.Multi.fill (T.setVm vm₁) c3 comp w z (defaultValue .int) w = F at X' step
  have hTh : (T.setVm vm₁).heap = H := hT
  obtain ⟨f1, f2, -, -⟩ := Jvm.Free.Multi.fill_facts (T.setVm vm₁) c3 comp w z (defaultValue .int) w
  rw [hF, hTh] at f1 f2
  have hold : ∀ x : Nat, x < H.size → F.heap[x]? = H[x]? := fun x hx => by
    have := Jvm.Free.Multi.fill_old (T.setVm vm₁) c3 comp w z (defaultValue .int) (a := x) (by rw [hTh]; exact hx) w
    rw [hF, hTh] at this
    exact this
  have hrow : ∀ j : Nat, j < w → F.heap[H.size + 1 + j]? = some (Jvm.Free.Multi.innerC comp z (defaultValue .int)) := fun j hj => by
    have := Jvm.Free.Multi.fill_inner (T.setVm vm₁) c3 comp w z (defaultValue .int) w j hj
    rw [hF, hTh] at this
    exact this
  have ec : c3 = cA 3 := by
    have h2 := (hK.2 3 _ ht3).2
    exact Option.some.inj (fA.symm.trans h2)
  have e0 : comp = cA 0 := by
    have h2 := (hK.2 0 _ ht0).2
    exact Option.some.inj (fC.symm.trans h2)
  subst ec
  subst e0
  have hag : ∀ a, a ∉ [k] → ∀ b, (fun a b => if a = k then (.ref (H.size + b) : Value) else ad a b) a b = ad a b := fun a ha b => if_neg (fun e => ha (by simp [e]))
  have hcat : ∀ a b, ((fun a b => if a = k then (.ref (H.size + b) : Value) else ad a b) a b).category = 1 := fun a b => by
    dsimp only
    split
    · rfl
    · exact hW.2.2.2.2.2.2.2 a b
  have hlt : ∀ x ∈ mv_ow ad k0 ci u ++ mv_wd mv_sh ad cA u.2.2.1 (mv_Gu Gs u.2.2.2.1), x.1 < H.size := fun x hx => (hW.1 x hx).lt
  have hnew : ∀ x ∈ mv_wd mv_sh (fun a b => if a = k then (.ref (H.size + b) : Value) else ad a b) cA (mv_gr k w) (mv_Gu Gs u.2.2.2.1), H.size ≤ x.1 ∧ va_at D mv_cl x F.heap := by
    intro x hx
    obtain ⟨q, hq, rfl⟩ := List.mem_map.mp hx
    obtain ⟨i, hi, rfl⟩ := List.mem_map.mp hq
    have hi := List.mem_range.mp hi
    cases i with
    | zero =>
      simp only [mv_cel, hsh, if_true, mv_ra]
      refine ⟨by omega, ?_⟩
      show F.heap[H.size + 0]? = some (vp_cell _ _)
      rw [Nat.add_zero, f2, vp_cell_q]
      refine congrArg some ?_
      rw [mv_outer]
      refine congrArg (arrV _ _) (funext fun j => ?_)
      by_cases h3 : j < w
      · simp [h3, mv_ra, Nat.add_assoc, Nat.add_comm 1 j]
      · simp [h3]
    | succ i =>
      simp only [mv_cel, hsh, if_true, mv_ra]
      refine ⟨by omega, ?_⟩
      show F.heap[H.size + (i + 1)]? = some (vp_cell _ _)
      rw [show H.size + (i + 1) = H.size + 1 + i by omega, hrow i (by omega)]
      refine congrArg some ?_
      simp only [hz]
      show _ = arrV (cA 0) z fun _ => .int (Int32.ofInt 0)
      unfold arrV Jvm.Free.Multi.innerC
      congr 1
      refine Array.ext (by simp) fun j h1 h2 => ?_
      simp
      rfl
  have hS1 : va_S A s.heap F.heap locs := ⟨by rw [f1]; have := hS.1; omega, fun x h1 h2 => (hold x (Nat.lt_of_lt_of_le h1 hS.1)).trans (hS.2.1 x h1 h2), hS.2.2⟩
  have hWn : mv_WU (fun a b => if a = k then (.ref (H.size + b) : Value) else ad a b) cA D A Gs k0 ci (u.1, u.2.1, u.2.2.1 ++ mv_gr k w, u.2.2.2.1, x, y) F.heap := by
    refine mv_WU_add (ks := [k]) (st := st) hW (fun h => hk0 (by simpa using h)) hf hfr hag hcat rfl rfl (mv_gr k w) rfl rfl (fun q hq => ?_) (fun x hx => ?_) ⟨?_, fun x hx => ?_⟩
    · obtain ⟨i, -, rfl⟩ := List.mem_map.mp hq
      exact ⟨_, if_pos rfl⟩
    · rcases List.mem_append.mp hx with hx | hx
      · exact (hW.1 x hx).kept (hold x.1 (hlt x hx))
      · exact (hnew x hx).2
    · rw [List.map_append]
      refine List.nodup_append.mpr ⟨hW.2.1.1, ?_, fun a ha b hb e => ?_⟩
      · have : (mv_wd mv_sh (fun a b => if a = k then (.ref (H.size + b) : Value) else ad a b) cA (mv_gr k w) (mv_Gu Gs u.2.2.2.1)).map (fun x => x.1) = (List.range (w + 1)).map fun i => H.size + i := by
          simp only [mv_wd, mv_gr, List.map_map]
          refine List.map_congr_left fun i _ => ?_
          show mv_ra (if k = k then _ else _) = _
          rw [if_pos rfl]
          rfl
        rw [this]
        refine List.pairwise_map.mpr (List.nodup_range.imp fun h e => h (by omega))
      · obtain ⟨x, hx, rfl⟩ := List.mem_map.mp ha
        obtain ⟨y, hy, rfl⟩ := List.mem_map.mp hb
        have := hlt x hx
        have := (hnew y hy).1
        omega
    · rcases List.mem_append.mp hx with hx | hx
      · exact hW.2.1.2 x hx
      · exact hA _ (Nat.le_trans hS.1 (hnew x hx).1)
  have key := kk (fun a b => if a = k then .ref (H.size + b) else ad a b) F.heap (fun a ha b => if_neg ha) ⟨_, if_pos rfl⟩ hWn hS1
  rw [(mv_fu_st hf hag).1] at key
  have e : mv_V (fun a b => if a = k then (.ref (H.size + b) : Value) else ad a b) (.inr (k, 0)) = .ref H.size := if_pos rfl
  rw [e] at key
  obtain ⟨t, a1, b1⟩ := key F rfl (by rw [← Nat.add_assoc, ← Nat.add_assoc]; exact X')
  refine ⟨t, step t ?_, b1⟩
  have e9 : T.heap.size = H.size := by rw [hT]
  rw [e9]
  exact a1
theorem mv_r_new {Gs : mv_G} {k0 ci k cj pc idx : Nat} {u : mv_U} {st : List mv_A} {lsC : Array Slot} {own : String} {q : vw_C} {ty0 : Nat → FieldType} (hBg : mv_Bg p s m args c cc nL own mv_Ts) (hK : va_K D mv_cl tys s) (hA : ∀ q, s.heap.size ≤ q → A q)
    (hW : mv_WU ad cA D A Gs k0 ci u H) (hS : va_S A s.heap H locs) (hk0 : k0 ≠ k) (hf : mv_fu [k] st u = true) (hfr : mv_fr [k] u.2.2.1 = true) (hq : mv_cl[cj]? = some q) (hcl : Cond.classLink own idx q.1 ∈ mv_Ts) (hin : Cond.instantiable q.1 q.2.2 ∈ mv_Ts) (hini : Cond.initialized q.1 ∈ mv_Ts) (hty : ∀ j, j < q.2.2 → parseFieldDescriptor (q.2.1 j).2.2.1 = some (ty0 j)) (hdef : ∀ (ad : Nat → Nat → Value) j, j < q.2.2 → defaultValue (ty0 j) = vp_V ((mv_nf cj).map (mv_Vo ad)) j) (hnl : (mv_nf cj).length = q.2.2)
    (hc : cells + 1 ≤ R.cells) (hs : slots + (mv_nf cj).length ≤ R.slots) (hdg : decode cc pc = .ok (.new idx, 3)) {x y : Nat}
    (kk : ∀ (ad2 : Nat → Nat → Value) (H1 : Heap), (∀ a, a ≠ k → ∀ b, ad2 a b = ad a b) → (∃ a, ad2 k 0 = .ref a) → mv_WU ad2 cA D A Gs k0 ci (u.1, (k, cj) :: u.2.1, u.2.2.1, u.2.2.2.1, x, y) H1 → va_S A s.heap H1 locs → W p l e R s m args below meth c H1 locs (cells + 1) (slots + (mv_nf cj).length) Q (F0 m (pc + 3) lsC (mv_V ad2 (.inr (k, 0)) :: st.map (mv_V ad2)))) :
    W p l e R s m args below meth c H locs cells slots Q (F0 m pc lsC (st.map (mv_V ad))) := by
  obtain ⟨hx, hb, hown, hts, hml⟩ := hBg
  rw [hnl] at hs kk
  refine va_new (ci := cj) (fs := (mv_nf cj).map (mv_Vo ad)) (C := q.1) (T := q.2.1) (N := q.2.2) hx hb hts (mv_clok cj q hq).1 ty0 hty hown (hts _ hcl) (hts _ hin) (hts _ hini) hK (mv_PP_iff.mpr hW.1) (mv_DD_iff.mpr hW.2.1) hS hA hq (hdef ad) hc hs hdg (fun a H1 hP1 hD1 hS1 => ?_)
  have hag : ∀ a', a' ∉ [k] → ∀ b, (fun a' b => if a' = k then (.ref a : Value) else ad a' b) a' b = ad a' b := fun a' ha b => if_neg (fun e => ha (by simp [e]))
  have f := hf
  unfold mv_fu at f
  simp only [Bool.and_eq_true] at f
  obtain ⟨w1, w2, w3, ⟨a0, w4⟩, w5, w6, w7, w8⟩ := hW
  have hk0' : k0 ∉ [k] := fun h => hk0 (by simpa using h)
  have eo := mv_ow_ag (ci := ci) hk0' hf hag
  have ew : mv_wd mv_sh (fun a' b => if a' = k then (.ref a : Value) else ad a' b) cA u.2.2.1 (mv_Gu Gs u.2.2.2.1) = mv_wd mv_sh ad cA u.2.2.1 (mv_Gu Gs u.2.2.2.1) := mv_wd_ag hfr hag
  have en : (mv_nf cj).map (mv_Vo (fun a' b => if a' = k then (.ref a : Value) else ad a' b)) = (mv_nf cj).map (mv_Vo ad) := by
    refine List.map_congr_left fun v hv => ?_
    unfold mv_nf at hv
    split at hv
    · obtain ⟨j, -, rfl⟩ := List.mem_map.mp hv
      split <;> rfl
    · cases hv
  have hperm : List.Perm ((mv_ow ad k0 ci u ++ mv_wd mv_sh ad cA u.2.2.1 (mv_Gu Gs u.2.2.2.1)) ++ [(a, .inr (cj, (mv_nf cj).map (mv_Vo ad)))]) (mv_ow (fun a' b => if a' = k then (.ref a : Value) else ad a' b) k0 ci (u.1, (k, cj) :: u.2.1, u.2.2.1, u.2.2.2.1, x, y) ++ mv_wd mv_sh (fun a' b => if a' = k then (.ref a : Value) else ad a' b) cA u.2.2.1 (mv_Gu Gs u.2.2.2.1)) := by
    rw [ew]
    have e1 : mv_ow (fun a' b => if a' = k then (.ref a : Value) else ad a' b) k0 ci (u.1, (k, cj) :: u.2.1, u.2.2.1, u.2.2.2.1, x, y) = (mv_ra (ad k0 0), .inr (ci, u.1.map (mv_Vo ad))) :: (a, .inr (cj, (mv_nf cj).map (mv_Vo ad))) :: u.2.1.map (fun q => (mv_ra (ad q.1 0), .inr (q.2, (mv_nf q.2).map (mv_Vo ad)))) := by
      have eo' := eo
      unfold mv_ow at eo'
      obtain ⟨g1, g2⟩ := List.cons.inj eo'
      unfold mv_ow
      rw [g1]
      congr 1
      show (mv_ra (if k = k then (.ref a : Value) else ad k 0), _) :: _ = _
      rw [if_pos rfl]
      show (a, _) :: _ = _
      congr 1
      rw [en]
    rw [e1]
    unfold mv_ow
    simp only [List.cons_append]
    refine List.Perm.cons _ ?_
    exact List.perm_append_comm (l₂ := [_])
  have key := kk (fun a' b => if a' = k then .ref a else ad a' b) H1 (fun a' ha b => if_neg ha) ⟨a, if_pos rfl⟩
    ⟨mv_PP_perm hperm (mv_PP_iff.mp hP1), mv_DD_perm hperm (mv_DD_iff.mp hD1), w3, ⟨a0, by rw [hag k0 hk0']; exact w4⟩, fun p hp => by
      rcases List.mem_cons.mp hp with rfl | hp
      · exact ⟨a, if_pos rfl⟩
      · obtain ⟨a2, ha2⟩ := w5 p hp
        exact ⟨a2, by rw [hag _ (mv_nc (List.all_eq_true.mp f.2 p hp))]; exact ha2⟩, fun p hp => by
      obtain ⟨a2, ha2⟩ := w6 p hp
      exact ⟨a2, by rw [hag _ (mv_fr_no hfr hp)]; exact ha2⟩, fun v hv => mv_go1_ag (List.all_eq_true.mp f.1.2 v hv) hag (w7 v hv), fun a' b => by
      dsimp only
      split
      · rfl
      · exact w8 a' b⟩ hS1
  rw [(mv_fu_st hf hag).1] at key
  have e : mv_V (fun a' b => if a' = k then (.ref a : Value) else ad a' b) (.inr (k, 0)) = .ref a := if_pos rfl
  rw [e] at key
  exact key
/-- an own field is set -/
theorem mv_WU_put {Gs : mv_G} {k0 ci j : Nat} {u : mv_U} {v : mv_A} {H1 : Heap} (hW : mv_WU ad cA D A Gs k0 ci u H) (hg : mv_gv ad v)
    (hP : va_P D mv_cl ((mv_ow ad k0 ci u ++ mv_wd mv_sh ad cA u.2.2.1 (mv_Gu Gs u.2.2.2.1)).set 0 (mv_ra (ad k0 0), .inr (ci, (u.1.map (mv_Vo ad)).set j (mv_V ad v)))) H1) (hD : va_D A ((mv_ow ad k0 ci u ++ mv_wd mv_sh ad cA u.2.2.1 (mv_Gu Gs u.2.2.2.1)).set 0 (mv_ra (ad k0 0), .inr (ci, (u.1.map (mv_Vo ad)).set j (mv_V ad v))))) : mv_WU ad cA D A Gs k0 ci (u.1.set j (some v), u.2) H1 := by
  obtain ⟨w1, w2, w3, w4, w5, w6, w7, w8⟩ := hW
  have e : (mv_ow ad k0 ci u ++ mv_wd mv_sh ad cA u.2.2.1 (mv_Gu Gs u.2.2.2.1)).set 0 (mv_ra (ad k0 0), .inr (ci, (u.1.map (mv_Vo ad)).set j (mv_V ad v))) = mv_ow ad k0 ci (u.1.set j (some v), u.2) ++ mv_wd mv_sh ad cA u.2.2.1 (mv_Gu Gs u.2.2.2.1) := by
    unfold mv_ow
    simp only [List.cons_append, List.set_cons_zero, List.map_set]
    rfl
  rw [e] at hP hD
  refine ⟨mv_PP_iff.mp hP, mv_DD_iff.mp hD, w3, w4, w5, w6, fun w hw => ?_, w8⟩
  rcases List.mem_or_eq_of_mem_set hw with hw | rfl
  · exact w7 w hw
  · exact hg
theorem mv_RO.narrow {U : State} {B : Nat → Prop} (h : mv_RO mv_sh mv_ros ad A mv_rc mv_cr U) (hAB : ∀ q, B q → A q) : mv_RO mv_sh mv_ros ad B mv_rc mv_cr U := by
  intro k hk
  have h1 := h k hk
  split at h1
  · exact va_T.narrow h1 hAB
  · exact va_T.narrow h1 hAB
  · exact ⟨va_O.narrow h1.1 hAB, fun j r hr => va_OF.narrow (h1.2 j r hr) hAB⟩
  · trivial
theorem mv_EX.narrow {U : State} {B : Nat → Prop} (h : mv_EX ad A U) (hAB : ∀ q, B q → A q) : mv_EX ad B U := ⟨va_Z.narrow h.1 hAB, va_Z.narrow h.2.1 hAB, va_Z.narrow h.2.2.1 hAB, va_Z.narrow h.2.2.2.1 hAB, h.2.2.2.2⟩
theorem mv_Pi_blind {av : List Value} {k cj sz : Nat} {B : Nat → Prop} : FrameBlind (va_Pc av (mv_Pi ad D tys B k cj sz)) := fun a U g mq q =>
  ⟨q.1, q.2.1, q.2.2.1, va_K.moved (u := U) (U := U.calling g mq a) (Vm.Alike.refl U.vm) q.2.2.2.1, mv_RO.go (s := U) (U := U.calling g mq a) q.2.2.2.2.1 (Vm.Alike.refl U.vm) (fun _ _ _ => rfl), mv_EX_ok.1 U g mq a q.2.2.2.2.2.1, mv_NS.same (u := U) rfl q.2.2.2.2.2.2.1, mv_AO.moved (u := U) (Vm.Alike.refl U.vm) q.2.2.2.2.2.2.2⟩
theorem mv_r_init {Gs : mv_G} {k0 ci k cj pc idx mL : Nat} {u : mv_U} {pd : List (Nat × Nat)} {as st : List mv_A} {lsC : Array Slot} {own : String} {y : MethodName} {by2 : ByteArray} {rm : Room} {H : Heap} {locs : List Loc} (hI : mv_Ini l y by2 mL rm cA D tys Gs k cj as ids) (hBg : mv_Bg p s m args c cc nL own mv_Ts) (hK : va_K D mv_cl tys s) (hA : ∀ q, s.heap.size ≤ q → A q) (hNS : mv_NS s) (hR : mv_RO mv_sh mv_ros ad A mv_rc mv_cr s) (hX : mv_EX ad A s) (hAO : mv_AO s) (hro : ∀ q ∈ mv_ros, ∃ a, ad q.1 q.2 = .ref a)
    (hrm : rm.frames + 1 ≤ R.frames ∧ 8 + (mL + 11) + rm.locals ≤ R.locals) (hw : Cond.code y by2 mL none ∈ mv_Ts ∧ Cond.initialized y.cls ∈ mv_Ts ∧ Cond.instanceMethod y ∈ mv_Ts ∧ y.name = "<init>") (hy : y.cls ≠ "java/lang/invoke/MethodHandle" ∧ y.cls ≠ "java/lang/invoke/VarHandle" ∧ (parseMethodDescriptor y.desc).map (fun d => d.parameters.length) = some as.length) (hl : Cond.methodLink own idx y ∈ mv_Ts ∨ ∃ host, Cond.methodLinkNest own idx y host ∈ mv_nsl)
    (hW : mv_WU ad cA D A Gs k0 ci u H) (hS : va_S A s.heap H locs) (hpd : u.2.1 = (k, cj) :: pd) (hup : u.2.2.2.1 = []) (hga : ∀ v ∈ as, mv_gv ad v) (hk0 : k0 ∉ ids.map fun q => q.1) (hf : mv_fu ((ids.map fun q => q.1).filter fun a => !Nat.beq a k) st (u.1, pd, u.2.2) = true) (hfr : mv_fr (ids.map fun q => q.1) u.2.2.1 = true) (hki : (k, 0) ∈ ids) (hc : cells + rm.cells ≤ R.cells) (hs : slots + rm.slots ≤ R.slots) (hsz : lsC.size = nL) (hst : st.length ≤ 8) (hcst : ∀ v ∈ st, (mv_V ad v).category = 1) (hdg : decode cc pc = .ok (.invokespecial idx, 3)) {nx nz : Nat}
    (kk : ∀ (ad2 : Nat → Nat → Value) (H1 : Heap) (locs1 : List Loc), (∀ a, a ∉ (ids.map fun q => q.1) → ∀ b, ad2 a b = ad a b) → (∀ b, ad2 k b = ad k b) → mv_WU ad2 cA D A Gs k0 ci (u.1, pd, u.2.2.1 ++ ids, u.2.2.2.1, nx, nz) H1 → va_S A s.heap H1 locs1 → W p l e R s m args below meth c H1 locs1 (cells + rm.cells) (slots + rm.slots) Q (F0 m (pc + 3) lsC (st.map (mv_V ad2)))) :
    W p l e R s m args below meth c H locs cells slots Q (F0 m pc lsC ((as.map (mv_V ad)).reverse ++ mv_V ad (.inr (k, 0)) :: st.map (mv_V ad))) := by
  obtain ⟨hx, hb, hown, hts, hml⟩ := hBg
  obtain ⟨w1, w2, w3, ⟨a0, w4⟩, w5, w6, w7, w8⟩ := hW
  obtain ⟨q, hq⟩ := w5 (k, cj) (by rw [hpd]; exact List.mem_cons_self)
  dsimp only at hq
  have hMet := hI ad H.size ⟨q, hq⟩ w8 hga hro
  have hcellk : (mv_ra (ad k 0), (.inr (cj, (mv_nf cj).map (mv_Vo ad)) : va_E)) ∈ mv_ow ad k0 ci u ++ mv_wd mv_sh ad cA u.2.2.1 (mv_Gu Gs u.2.2.2.1) := by
    refine List.mem_append_left _ ?_
    unfold mv_ow
    rw [hpd]
    simp
  have hB : ∀ a, a = mv_ra (ad k 0) ∨ H.size ≤ a → A a := fun a h => by
    rcases h with rfl | h
    · exact w2.2 _ hcellk
    · exact hA _ (Nat.le_trans hS.1 h)
  have hgi : GoodIn mv_Ts (.code y by2 mL none :: mv_Ts) := fun w h => by
    rcases List.mem_cons.mp h with rfl | h
    · exact ⟨hw.1, good_of_word (mv_good _ hw.1)⟩
    · exact ⟨h, good_of_word (mv_good _ h)⟩
  have hroom : 2 * (F0 m pc lsC ((as.map (mv_V ad)).reverse ++ mv_V ad (.inr (k, 0)) :: st.map (mv_V ad))).monitorRoom + ((st.map (mv_V ad)).map fun v => v.category).sum ≤ 8 := by
    refine lv_room ?_
    rw [mv_sum1 _ (fun v hv => by
      obtain ⟨w, hw, rfl⟩ := List.mem_map.mp hv
      exact hcst w hw)]
    simpa using hst
  have hpre : PreS s H (va_Pc ((.inr (k, 0) :: as).map (mv_V ad)) (mv_Pi ad D tys (fun a => a = mv_ra (ad k 0) ∨ H.size ≤ a) k cj H.size)) ((.inr (k, 0) :: as).map (mv_V ad)) :=
    ⟨mv_Pi_blind, fun U hU hW1 => ⟨rfl, by rw [hU], fun x hx => by
      rw [List.mem_singleton] at hx
      subst hx
      rw [hU]
      exact w1 _ hcellk, va_K.moved hW1.alike hK, (mv_RO.go hR hW1.alike (fun a h1 h2 => by rw [hU]; exact hS.2.1 a h1 h2)).narrow hB, (mv_EX_ok.2 s U hX hW1 (fun a h1 h2 => by rw [hU]; exact hS.2.1 a h1 h2)).narrow hB, hNS.warm hW1, hAO.moved hW1.alike⟩⟩
  have eV : mv_V ad (.inr (k, 0)) = .ref q := hq
  have run : va_Run p l e R s m args below meth c H locs cells slots rm.cells rm.slots (F0 m pc lsC ((as.map (mv_V ad)).reverse ++ .ref q :: st.map (mv_V ad))) (st.map (mv_V ad)) ((va_Qv (fun ad2 : Nat → Nat → Value => (∀ b, ad2 k b = ad k b) ∧ (∀ a, a ∉ ids.map (fun q => q.1) → ∀ b, ad2 a b = ad a b) ∧ (∀ q ∈ ids, ∃ a, ad2 q.1 q.2 = .ref a) ∧ ∀ a b, (ad2 a b).category = 1)
        (fun ad2 t => mv_Wd mv_sh ids ad2 cA mv_cl D (fun a => a = mv_ra (ad k 0) ∨ H.size ≤ a) Gs t.heap) (fun a => a = mv_ra (ad k 0) ∨ H.size ≤ a)) (Value.ref q :: as.map (mv_V ad)).toArray) (fun a => a = mv_ra (ad k 0) ∨ H.size ≤ a) := by
    rw [List.map_cons, eV] at hMet hpre
    rw [eV] at hroom
    rcases hl with hl | ⟨host, hl⟩
    · exact va_runI (As := as.map (mv_V ad)) (own := own) (Ts := mv_Ts) (n := as.length) ⟨hx, hb, hml, hown, hts⟩ hMet ⟨callB_of as.length hts hgi rfl rfl rfl (hts _ hw.2.1) (hts _ hl) hy hrm, hw.2.2.2, hts _ hw.2.2.1⟩ hpre rfl (by simp) hsz rfl hroom hdg ⟨hc, hs⟩
    · exact va_runIN (As := as.map (mv_V ad)) (own := own) (host := host) (Ts := mv_Ts) (n := as.length) ⟨hx, hb, hml, hown, hts⟩ hMet ⟨va_cnB as.length hts hgi rfl rfl rfl (hNS _ hl) (hts _ hw.2.1) hy hrm, hw.2.2.2, hts _ hw.2.2.1⟩ hpre rfl (by simp) hsz rfl hroom hdg ⟨hc, hs⟩
  rw [eV]
  refine va_callv run hS (fun a _ h => hB a h) hB fun ad2 t H1 locs1 ht hvm hp hBt hz hk hS1 => ?_
  obtain ⟨p1, p2, p3, p4⟩ := hp
  have hWd : mv_Wd mv_sh ids ad2 cA mv_cl D (fun a => a = mv_ra (ad k 0) ∨ H.size ≤ a) Gs H1 := by rw [← ht]; exact hBt
  have hag : ∀ a, a ∉ ((ids.map fun q => q.1).filter fun a => !Nat.beq a k) → ∀ b, ad2 a b = ad a b := fun a ha b => by
    by_cases e : a = k
    · subst e; exact p1 b
    · refine p2 a (fun h => ha (List.mem_filter.mpr ⟨h, ?_⟩)) b
      cases h2 : Nat.beq a k with
      | false => rfl
      | true => exact absurd (Nat.eq_of_beq_eq_true h2) e
  have hk0' : k0 ∉ ((ids.map fun q => q.1).filter fun a => !Nat.beq a k) := fun h => hk0 (List.mem_filter.mp h).1
  have eo := mv_ow_ag (ci := ci) hk0' hf hag
  have ew : mv_wd mv_sh ad2 cA u.2.2.1 (mv_Gu Gs u.2.2.2.1) = mv_wd mv_sh ad cA u.2.2.1 (mv_Gu Gs u.2.2.2.1) := mv_wd_ag hfr p2
  have f := hf
  unfold mv_fu at f
  simp only [Bool.and_eq_true] at f
  have hsub : List.Perm (mv_ow ad k0 ci u ++ mv_wd mv_sh ad cA u.2.2.1 (mv_Gu Gs u.2.2.2.1)) ((mv_ra (ad k 0), .inr (cj, (mv_nf cj).map (mv_Vo ad))) :: (mv_ow ad2 k0 ci (u.1, pd, u.2.2.1 ++ ids, u.2.2.2.1, nx, nz) ++ mv_wd mv_sh ad2 cA u.2.2.1 (mv_Gu Gs u.2.2.2.1))) := by
    rw [ew]
    have e1 : mv_ow ad2 k0 ci (u.1, pd, u.2.2.1 ++ ids, u.2.2.2.1, nx, nz) = mv_ow ad k0 ci (u.1, pd, u.2.2) := eo
    rw [e1]
    unfold mv_ow
    rw [hpd]
    exact List.Perm.swap _ _ _
  have hP2 := mv_PP_perm hsub w1
  have hD2 := mv_DD_perm hsub w2
  have hn := hD2.1
  rw [List.map_cons, List.nodup_cons] at hn
  have hlt : ∀ x ∈ mv_ow ad2 k0 ci (u.1, pd, u.2.2.1 ++ ids, u.2.2.2.1, nx, nz) ++ mv_wd mv_sh ad2 cA u.2.2.1 (mv_Gu Gs u.2.2.2.1), x.1 < H.size ∧ x.1 ≠ mv_ra (ad k 0) := fun x hx => ⟨(hP2 x (List.mem_cons_of_mem _ hx)).lt, fun e => hn.1 (List.mem_map.mpr ⟨x, hx, e⟩)⟩
  have eG : mv_Gu Gs u.2.2.2.1 = Gs := by rw [hup]; rfl
  have hPn := mv_PP_iff.mp hWd.1
  have hDn := mv_DD_iff.mp hWd.2.1
  have enw : mv_wd mv_sh ad2 cA (u.2.2.1 ++ ids) (mv_Gu Gs u.2.2.2.1) = mv_wd mv_sh ad2 cA u.2.2.1 (mv_Gu Gs u.2.2.2.1) ++ mv_wd mv_sh ad2 cA ids Gs := by
    rw [eG]
    exact List.map_append
  have key := kk ad2 H1 locs1 p2 p1 ⟨by
      show mv_PP D (_ ++ mv_wd mv_sh ad2 cA (u.2.2.1 ++ ids) (mv_Gu Gs u.2.2.2.1)) H1
      rw [enw, ← List.append_assoc]
      intro x hx
      rcases List.mem_append.mp hx with hx | hx
      · obtain ⟨h1, h2⟩ := hlt x hx
        exact (hP2 x (List.mem_cons_of_mem _ hx)).kept (hk x.1 h1 (fun h => by rcases h with h | h; exact h2 h; omega))
      · exact hPn x hx, by
      show mv_DD A (_ ++ mv_wd mv_sh ad2 cA (u.2.2.1 ++ ids) (mv_Gu Gs u.2.2.2.1))
      rw [enw, ← List.append_assoc]
      refine ⟨?_, fun x hx => ?_⟩
      · rw [List.map_append]
        refine List.nodup_append.mpr ⟨hn.2, hDn.1, fun a ha b hb e => ?_⟩
        obtain ⟨x, hx, rfl⟩ := List.mem_map.mp ha
        obtain ⟨y, hy, rfl⟩ := List.mem_map.mp hb
        obtain ⟨h1, h2⟩ := hlt x hx
        have h3 := hDn.2 y hy
        dsimp only at h3
        rw [← e] at h3
        rcases h3 with h3 | h3
        · exact h2 h3
        · omega
      · rcases List.mem_append.mp hx with hx | hx
        · exact hD2.2 x (List.mem_cons_of_mem _ hx)
        · exact hB _ (hDn.2 x hx), w3, ⟨a0, by rw [hag k0 hk0']; exact w4⟩, fun p hp => by
      obtain ⟨a2, ha2⟩ := w5 p (by rw [hpd]; exact List.mem_cons_of_mem _ hp)
      exact ⟨a2, by rw [hag _ (mv_nc (List.all_eq_true.mp f.2 p hp))]; exact ha2⟩, fun p hp => by
      rcases List.mem_append.mp hp with hp | hp
      · obtain ⟨a2, ha2⟩ := w6 p hp
        exact ⟨a2, by rw [p2 _ (mv_fr_no hfr hp)]; exact ha2⟩
      · exact p3 p hp, fun v hv => mv_go1_ag (List.all_eq_true.mp f.1.2 v hv) hag (w7 v hv), p4⟩ hS1
  rw [(mv_fu_st hf hag).1] at key
  exact key
theorem mv_RO_ag {cr : mv_R} (h : ∀ a, Nat.ble 990 a = true → ∀ b, ad2 a b = ad a b) (hr : mv_RO mv_sh mv_ros ad A mv_rc cr s) : mv_RO mv_sh mv_ros ad2 A mv_rc cr s := by
  intro k hk
  have h1 := hr k hk
  simp only [mv_ros, List.mem_cons, Prod.mk.injEq, and_true, List.not_mem_nil, or_false] at hk
  rcases hk with rfl | rfl | rfl | rfl | rfl | rfl
  · rw [h _ rfl]; exact h1
  · rw [h _ rfl]; exact h1
  · rw [h _ rfl]
    refine ⟨h1.1, fun j r hj => ?_⟩
    have h2 := h1.2 j r hj
    match j, hj with
    | 0, hj => cases hj; simp only [mv_fv] at h2 ⊢; rw [h _ rfl]; exact h2
    | 1, hj => cases hj; exact h2
    | j + 2, hj => simp at hj
  · rw [h _ rfl]; exact h1
  · rw [h _ rfl]
    refine ⟨h1.1, fun j r hj => ?_⟩
    have h2 := h1.2 j r hj
    match j, hj with
    | 0, hj => cases hj; simp only [mv_fv] at h2 ⊢; rw [h _ rfl]; exact h2
    | 1, hj => cases hj; exact h2
    | j + 2, hj => simp at hj
  · rw [h _ rfl]; exact h1
theorem mv_EX_ag {U : State} (h : ∀ a, Nat.ble 990 a = true → ∀ b, ad2 a b = ad a b) (hr : mv_EX ad A U) : mv_EX ad2 A U := by
  unfold mv_EX at hr ⊢
  rw [h 1001 rfl, h 1000 rfl, h 999 rfl, h 1002 rfl, h 1004 rfl]
  exact hr
theorem mv_gv_cat {v : mv_A} (h : mv_gv ad v) : (mv_V ad v).category = 1 := by
  cases v with
  | inl x => rfl
  | inr q =>
    obtain ⟨a, ha⟩ := h
    show (ad q.1 q.2).category = 1
    rw [ha]
    rfl
theorem mv_cs_snd {T : mv_TT} {Gs : mv_G} {k0 ci : Nat} {ls : List mv_A} {lsC : Array Slot} {own : String} (hX : mv_Cx l p s m args meth c cc nL own R cA D tys Gs ci T) (hA : ∀ q, s.heap.size ≤ q → A q) (hsz : lsC.size = nL) (hks : ∀ a ∈ mv_ks T, Nat.ble 990 a = false ∧ a ≠ k0 ∧ ∀ v ∈ ls, mv_kn [a] (some v) = true) :
    ∀ (n pc : Nat) (st : List mv_A) (u : mv_U) (ad : Nat → Nat → Value) (H : Heap) (locs : List Loc), mv_WU ad cA D A Gs k0 ci u H → va_S A s.heap H locs → (∀ q ∈ mv_ros, ∃ a, ad q.1 q.2 = .ref a) → mv_RO mv_sh mv_ros ad A mv_rc mv_cr s → mv_EX ad A s →
      (∀ (i : Nat) (v : mv_A), ls[i]? = some v → lsC[i]? = some (.val (mv_V ad v)) ∧ mv_gv ad v) → (∀ v ∈ st, mv_gv ad v) →
      (∀ (ad2 : Nat → Nat → Value) (H2 : Heap) (locs2 : List Loc), (∀ a, a ∉ mv_ks T → ∀ b, ad2 a b = ad a b) → mv_WU ad2 cA D A Gs k0 ci (mv_cs T k0 ls n pc st u).2.2 H2 → va_S A s.heap H2 locs2 → (∀ v ∈ (mv_cs T k0 ls n pc st u).2.1, mv_gv ad2 v) →
        W p l e R s m args below meth c H2 locs2 (mv_cs T k0 ls n pc st u).2.2.2.2.2.2.1 (mv_cs T k0 ls n pc st u).2.2.2.2.2.2.2 Q (F0 m (mv_cs T k0 ls n pc st u).1 lsC ((mv_cs T k0 ls n pc st u).2.1.map (mv_V ad2)))) →
      W p l e R s m args below meth c H locs u.2.2.2.2.1 u.2.2.2.2.2 Q (F0 m pc lsC (st.map (mv_V ad)))
  | 0, pc, st, u, ad, H, locs, hW, hS, hro, hR, hE, hls, hst, kk => kk ad H locs (fun _ _ _ => rfl) hW hS hst
  | n + 1, pc, st, u, ad, H, locs, hW, hS, hro, hR, hE, hls, hst, kk => by
    have IH := mv_cs_snd hX hA hsz hks n
    obtain ⟨hBg, hK, hin, hNS, ⟨ht0, ht1, ht3⟩, hcode, ⟨qc, hqc, hfl⟩, hnew, hobj, hsub, hAO, hmul, hget, hac, hab, hrc, hrs, hfr1, hlo, hz⟩ := hX
    have stay : mv_cs T k0 ls (n + 1) pc st u = (pc, st, u) → W p l e R s m args below meth c H locs u.2.2.2.2.1 u.2.2.2.2.2 Q (F0 m pc lsC (st.map (mv_V ad))) := fun h => by
      have := kk ad H locs (fun _ _ _ => rfl)
      rw [h] at this
      exact this hW hS hst
    have go : ∀ {pc2 : Nat} {st2 : List mv_A} {u2 : mv_U}, mv_cs T k0 ls (n + 1) pc st u = mv_cs T k0 ls n pc2 st2 u2 → ∀ (ad2 : Nat → Nat → Value) (H2 : Heap) (locs2 : List Loc), (∀ a, a ∉ mv_ks T → ∀ b, ad2 a b = ad a b) → mv_WU ad2 cA D A Gs k0 ci u2 H2 → va_S A s.heap H2 locs2 → (∀ v ∈ st2, mv_gv ad2 v) → W p l e R s m args below meth c H2 locs2 u2.2.2.2.2.1 u2.2.2.2.2.2 Q (F0 m pc2 lsC (st2.map (mv_V ad2))) := by
      intro pc2 st2 u2 he ad2 H2 locs2 hag hW2 hS2 hst2
      have h990 : ∀ a, Nat.ble 990 a = true → ∀ b, ad2 a b = ad a b := fun a ha b => hag a (fun h => absurd ((hks a h).1.symm.trans ha) (by decide)) b
      have hlsag : ∀ v ∈ ls, mv_V ad2 v = mv_V ad v := fun v hv => by
        cases v with
        | inl x => rfl
        | inr q =>
          refine hag q.1 (fun h => ?_) q.2
          have := mv_nc ((hks _ h).2.2 _ hv)
          exact this (by simp)
      refine IH pc2 st2 u2 ad2 H2 locs2 hW2 hS2 (fun q hq => ?_) (mv_RO_ag h990 hR) (mv_EX_ag h990 hE) (fun i v hi => ?_) hst2 (fun ad3 H3 locs3 hag3 hW3 hS3 hst3 => ?_)
      · obtain ⟨a, ha⟩ := hro q hq
        refine ⟨a, ?_⟩
        rw [h990 _ ?_]
        · exact ha
        · simp only [mv_ros, List.mem_cons, List.not_mem_nil, or_false] at hq
          rcases hq with rfl | rfl | rfl | rfl | rfl | rfl <;> rfl
      · obtain ⟨h1, h2⟩ := hls i v hi
        have e := hlsag v (List.mem_of_getElem? hi)
        refine ⟨by rw [e]; exact h1, ?_⟩
        cases v with
        | inl x => exact h2
        | inr q =>
          obtain ⟨a, ha⟩ := h2
          exact ⟨a, e.trans ha⟩
      · have := kk ad3 H3 locs3 (fun a ha b => (hag3 a ha b).trans (hag a ha b))
        rw [he] at this
        exact this hW3 hS3 hst3
    cases hlk : mv_lk T.1 pc with
    | none => exact stay (by simp only [mv_cs, hlk])
    | some il =>
      obtain ⟨i, len⟩ := il
      obtain ⟨hdg, hik⟩ := hcode _ (mv_lk_mem hlk)
      dsimp only at hdg hik
      unfold mv_ik at hik
      simp only [Bool.and_eq_true] at hik
      have hlen := Nat.eq_of_beq_eq_true hik.1
      obtain ⟨hx, hb, hown, hts, hml⟩ := id hBg
      have same : ∀ a, a ∉ mv_ks T → ∀ b, ad a b = ad a b := fun _ _ _ => rfl
      have cons : ∀ {v : mv_A} {r : List mv_A}, mv_gv ad v → (∀ w ∈ r, mv_gv ad w) → ∀ w ∈ v :: r, mv_gv ad w := fun h1 h2 w hw => by
        rcases List.mem_cons.mp hw with rfl | hw
        · exact h1
        · exact h2 w hw
      cases i
      case aload_n k =>
        have hlen : len = 1 := hlen
        subst hlen
        cases hv : ls[k.val]? with
        | none => exact stay (by simp only [mv_cs, hlk, hv])
        | some v =>
          cases v with
          | inl x => exact stay (by simp only [mv_cs, hlk, hv])
          | inr q =>
            obtain ⟨a, ha⟩ := (hls _ _ hv).2
            have g := go (pc2 := pc + 1) (st2 := .inr q :: st) (u2 := u) (by simp only [mv_cs, hlk, hv]) ad H locs same hW hS (cons (hls _ _ hv).2 hst)
            have e1 : mv_V ad (.inr q) = .ref a := ha
            rw [List.map_cons, e1] at g
            exact lv_aload_n hx hb hdg rfl (by rw [(hls _ _ hv).1, e1]) g
      case aload k =>
        have hlen : len = 2 := hlen
        subst hlen
        cases hv : ls[k]? with
        | none => exact stay (by simp only [mv_cs, hlk, hv])
        | some v =>
          cases v with
          | inl x => exact stay (by simp only [mv_cs, hlk, hv])
          | inr q =>
            obtain ⟨a, ha⟩ := (hls _ _ hv).2
            have g := go (pc2 := pc + 2) (st2 := .inr q :: st) (u2 := u) (by simp only [mv_cs, hlk, hv]) ad H locs same hW hS (cons (hls _ _ hv).2 hst)
            have e1 : mv_V ad (.inr q) = .ref a := ha
            rw [List.map_cons, e1] at g
            exact lv_aload hx hb hdg (by rw [(hls _ _ hv).1, e1]) g
      case iconst x =>
        have hlen : len = 1 := hlen
        subst hlen
        have hr := of_decide_eq_true hik.2
        exact lv_iconst hx hb hdg rfl (go (pc2 := pc + 1) (st2 := .inl x :: st) (u2 := u) (by simp only [mv_cs, hlk]) ad H locs same hW hS (cons (show mv_in x by unfold mv_in; omega) hst))
      case bipush x =>
        have hlen : len = 2 := hlen
        subst hlen
        have hr := of_decide_eq_true hik.2
        refine lv_bipush (v := Int32.ofInt x) hx hb hdg ?_ (go (pc2 := pc + 2) (st2 := .inl x :: st) (u2 := u) (by simp only [mv_cs, hlk]) ad H locs same hW hS (cons (show mv_in x by unfold mv_in; omega) hst))
        apply Int32.toInt_inj.mp
        rw [mv_toInt (by unfold mv_in; omega), Int8.toInt_toInt32, Int8.toInt_ofInt_of_le (by omega) (by omega)]
      case sipush x =>
        have hlen : len = 3 := hlen
        subst hlen
        have hr := of_decide_eq_true hik.2
        refine lv_sipush (v := Int32.ofInt x) hx hb hdg ?_ (go (pc2 := pc + 3) (st2 := .inl x :: st) (u2 := u) (by simp only [mv_cs, hlk]) ad H locs same hW hS (cons (show mv_in x by unfold mv_in; omega) hst))
        apply Int32.toInt_inj.mp
        rw [mv_toInt (by unfold mv_in; omega), Int16.toInt_toInt32, Int16.toInt_ofInt_of_le (by omega) (by omega)]
      case dup =>
        have hlen : len = 1 := hlen
        subst hlen
        cases st with
        | nil => exact stay (by simp only [mv_cs, hlk])
        | cons v r =>
          have hv := hst v List.mem_cons_self
          exact lv_dup hx hb hdg (mv_gv_cat hv) (go (pc2 := pc + 1) (st2 := v :: v :: r) (u2 := u) (by simp only [mv_cs, hlk]) ad H locs same hW hS (cons hv hst))
      case getstatic idx =>
        have hlen : len = 3 := hlen
        subst hlen
        have hw := hget _ _ _ hlk
        obtain ⟨a, ha⟩ := hro (1001, 0) (by simp [mv_ros])
        have g := go (pc2 := pc + 3) (st2 := .inr (1001, 0) :: st) (u2 := u) (by simp only [mv_cs, hlk]) ad H locs same hW hS (cons ⟨a, ha⟩ hst)
        exact va_getsN hx hb hE.1 hS hown (va_Nw.use rfl (hNS _ hw)) (fun _ h => h) hdg g
      case arraylength =>
        have hlen : len = 1 := hlen
        subst hlen
        by_cases hs : ∃ r, st = .inr (1001, 0) :: r
        · obtain ⟨r, rfl⟩ := hs
          have h1 := hR 1001 (by simp [mv_ros])
          obtain ⟨a, ha⟩ := hro (1001, 0) (by simp [mv_ros])
          have g := go (pc2 := pc + 1) (st2 := .inl 5 :: r) (u2 := u) (by simp only [mv_cs, hlk]) ad H locs same hW hS (cons (show mv_in 5 by unfold mv_in; omega) (fun w hw => hst w (List.mem_cons_of_mem _ hw)))
          have e1 : mv_V ad (.inr (1001, 0)) = .ref (mv_ra (ad 1001 0)) := by
            show ad 1001 0 = _
            have ha : ad 1001 0 = .ref a := ha
            rw [ha]; rfl
          rw [List.map_cons, e1]
          exact va_tlen hx hb (show va_T .int _ 5 _ A s s.heap from h1) hS rfl hdg g
        · refine stay ?_
          simp only [mv_cs, hlk]
          split
          · next r => exact absurd ⟨_, rfl⟩ hs
          · rfl
      case new idx =>
        have hlen : len = 3 := hlen
        subst hlen
        cases hal : mv_lk T.2.2.1 pc with
        | none => exact stay (by simp only [mv_cs, hlk, hal])
        | some k =>
          cases hs : mv_sh k with
          | none => exact stay (by simp only [mv_cs, hlk, hal, hs])
          | some sq =>
            cases sq with
            | inl t => exact stay (by simp only [mv_cs, hlk, hal, hs])
            | inr o =>
              obtain ⟨cj, fs⟩ := o
              cases hc : (mv_fu [k] st u && mv_fr [k] u.2.2.1 && Nat.ble (u.2.2.2.2.1 + 1) T.2.2.2.2.2.1 && Nat.ble (u.2.2.2.2.2 + (mv_nf cj).length) T.2.2.2.2.2.2) with
              | false => exact stay (by simp only [mv_cs, hlk, hal, hs, hc, cond])
              | true =>
                have hc' := hc
                simp only [Bool.and_eq_true] at hc'
                obtain ⟨⟨⟨c1, c2⟩, c3⟩, c4⟩ := hc'
                have c3 := Nat.le_of_ble_eq_true c3
                have c4 := Nat.le_of_ble_eq_true c4
                obtain ⟨q, hq, n1, n2, n3, ⟨ty0, n4, n5⟩, n6⟩ := hnew _ _ _ _ _ _ hlk hal hs
                have hk := hks k (mv_lks_in hal)
                refine mv_r_new (k := k) (x := u.2.2.2.2.1 + 1) (y := u.2.2.2.2.2 + (mv_nf cj).length) hBg hK hA hW hS (fun e => hk.2.1 e.symm) c1 c2 hq n1 n2 n3 n4 n5 n6 (Nat.le_trans c3 hrc) (Nat.le_trans c4 hrs) hdg (fun ad2 H1 h1 h2 h3 h4 => ?_)
                have hag : ∀ a, a ∉ [k] → ∀ b, ad2 a b = ad a b := fun a ha b => h1 a (fun e => ha (by simp [e])) b
                exact go (pc2 := pc + 3) (st2 := .inr (k, 0) :: st) (u2 := (u.1, (k, cj) :: u.2.1, u.2.2.1, u.2.2.2.1, u.2.2.2.2.1 + 1, u.2.2.2.2.2 + (mv_nf cj).length)) (by simp only [mv_cs, hlk, hal, hs, hc, cond]) ad2 H1 locs (fun a ha b => h1 a (fun e => ha (e ▸ mv_lks_in hal)) b) h3 h4 (fun v hv => by
                  rcases List.mem_cons.mp hv with rfl | hv
                  · exact h2
                  · exact (mv_fu_st c1 hag).2 v hv (hst v hv))
      case newarray aty =>
        cases aty
        case int =>
          have hlen : len = 2 := hlen
          subst hlen
          cases hal : mv_lk T.2.2.1 pc with
          | none => exact stay (by simp only [mv_cs, hlk, hal])
          | some k =>
            by_cases hst0 : ∃ x r, st = .inl x :: r
            · obtain ⟨x, r, rfl⟩ := hst0
              by_cases hs0 : ∃ w z, mv_sh k = some (.inl (0, w, z))
              · obtain ⟨w, z, hs⟩ := hs0
                cases hc : (decide (x = (w : Int)) && T.2.2.2.2.1 && u.2.2.2.1.all (fun q => !Nat.beq q.1 k) && mv_fu [k] r u && mv_fr [k] u.2.2.1 && Nat.ble (u.2.2.2.2.1 + 1) T.2.2.2.2.2.1 && Nat.ble (u.2.2.2.2.2 + w) T.2.2.2.2.2.2 && Nat.blt w 100000) with
                | false => exact stay (by simp only [mv_cs, hlk, hal, hs, hc, cond])
                | true =>
                  have hc' := hc
                  simp only [Bool.and_eq_true] at hc'
                  obtain ⟨⟨⟨⟨⟨⟨⟨c1, c2⟩, c3⟩, c4⟩, c5⟩, c6⟩, c7⟩, c8⟩ := hc'
                  have c1 := of_decide_eq_true c1
                  have c6 := Nat.le_of_ble_eq_true c6
                  have c7 := Nat.le_of_ble_eq_true c7
                  have c8 : w < 100000 := Nat.le_of_ble_eq_true c8
                  have hk := hks k (mv_lks_in hal)
                  rw [List.map_cons, show mv_V ad (.inl x) = .int (Int32.ofInt w) by rw [c1]; rfl]
                  refine mv_r_newa (atype := .int) (t := 0) rfl (Or.inl rfl) hx hb (hts _ hac) hK ht0 hA hW hS hs (fun e => hk.2.1 e.symm) c4 c5 (mv_Gu_0 c3 (fun j => hz c2 k 0 j)) c8 (Nat.le_trans c6 hrc) (Nat.le_trans c7 hrs) hdg (x := u.2.2.2.2.1 + 1) (y := u.2.2.2.2.2 + w) (fun ad2 H1 h1 h2 h3 h4 => ?_)
                  have hag : ∀ a, a ∉ [k] → ∀ b, ad2 a b = ad a b := fun a ha b => h1 a (fun e => ha (by simp [e])) b
                  exact go (pc2 := pc + 2) (st2 := .inr (k, 0) :: r) (u2 := (u.1, u.2.1, u.2.2.1 ++ [(k, 0)], u.2.2.2.1, u.2.2.2.2.1 + 1, u.2.2.2.2.2 + w)) (by simp only [mv_cs, hlk, hal, hs, hc, cond]) ad2 H1 locs (fun a ha b => h1 a (fun e => ha (e ▸ mv_lks_in hal)) b) h3 h4 (fun v hv => by
                    rcases List.mem_cons.mp hv with rfl | hv
                    · exact h2
                    · exact (mv_fu_st c4 hag).2 v hv (hst v (List.mem_cons_of_mem _ hv)))
              · refine stay ?_
                simp only [mv_cs, hlk, hal]
                split
                · next w z e => exact absurd ⟨w, z, e⟩ hs0
                · rfl
            · refine stay ?_
              simp only [mv_cs, hlk, hal]
              split
              · next e => exact absurd ⟨_, _, rfl⟩ hst0
              · rfl
        case boolean =>
          have hlen : len = 2 := hlen
          subst hlen
          cases hal : mv_lk T.2.2.1 pc with
          | none => exact stay (by simp only [mv_cs, hlk, hal])
          | some k =>
            by_cases hst0 : ∃ x r, st = .inl x :: r
            · obtain ⟨x, r, rfl⟩ := hst0
              by_cases hs0 : ∃ w z, mv_sh k = some (.inl (1, w, z))
              · obtain ⟨w, z, hs⟩ := hs0
                cases hc : (decide (x = (w : Int)) && T.2.2.2.2.1 && u.2.2.2.1.all (fun q => !Nat.beq q.1 k) && mv_fu [k] r u && mv_fr [k] u.2.2.1 && Nat.ble (u.2.2.2.2.1 + 1) T.2.2.2.2.2.1 && Nat.ble (u.2.2.2.2.2 + w) T.2.2.2.2.2.2 && Nat.blt w 100000) with
                | false => exact stay (by simp only [mv_cs, hlk, hal, hs, hc, cond])
                | true =>
                  have hc' := hc
                  simp only [Bool.and_eq_true] at hc'
                  obtain ⟨⟨⟨⟨⟨⟨⟨c1, c2⟩, c3⟩, c4⟩, c5⟩, c6⟩, c7⟩, c8⟩ := hc'
                  have c1 := of_decide_eq_true c1
                  have c6 := Nat.le_of_ble_eq_true c6
                  have c7 := Nat.le_of_ble_eq_true c7
                  have c8 : w < 100000 := Nat.le_of_ble_eq_true c8
                  have hk := hks k (mv_lks_in hal)
                  rw [List.map_cons, show mv_V ad (.inl x) = .int (Int32.ofInt w) by rw [c1]; rfl]
                  refine mv_r_newa (atype := .boolean) (t := 1) rfl (Or.inr rfl) hx hb (hts _ hab) hK ht1 hA hW hS hs (fun e => hk.2.1 e.symm) c4 c5 (mv_Gu_0 c3 (fun j => hz c2 k 0 j)) c8 (Nat.le_trans c6 hrc) (Nat.le_trans c7 hrs) hdg (x := u.2.2.2.2.1 + 1) (y := u.2.2.2.2.2 + w) (fun ad2 H1 h1 h2 h3 h4 => ?_)
                  have hag : ∀ a, a ∉ [k] → ∀ b, ad2 a b = ad a b := fun a ha b => h1 a (fun e => ha (by simp [e])) b
                  exact go (pc2 := pc + 2) (st2 := .inr (k, 0) :: r) (u2 := (u.1, u.2.1, u.2.2.1 ++ [(k, 0)], u.2.2.2.1, u.2.2.2.2.1 + 1, u.2.2.2.2.2 + w)) (by simp only [mv_cs, hlk, hal, hs, hc, cond]) ad2 H1 locs (fun a ha b => h1 a (fun e => ha (e ▸ mv_lks_in hal)) b) h3 h4 (fun v hv => by
                    rcases List.mem_cons.mp hv with rfl | hv
                    · exact h2
                    · exact (mv_fu_st c4 hag).2 v hv (hst v (List.mem_cons_of_mem _ hv)))
              · refine stay ?_
                simp only [mv_cs, hlk, hal]
                split
                · next w z e => exact absurd ⟨w, z, e⟩ hs0
                · rfl
            · refine stay ?_
              simp only [mv_cs, hlk, hal]
              split
              · next e => exact absurd ⟨_, _, rfl⟩ hst0
              · rfl
        all_goals exact stay (by simp only [mv_cs, hlk])
      case multianewarray idx nd =>
        have hlen : len = 4 := hlen
        subst hlen
        obtain ⟨rfl, hw⟩ := hmul _ _ _ _ hlk
        cases hal : mv_lk T.2.2.1 pc with
        | none => exact stay (by simp only [mv_cs, hlk, hal])
        | some k =>
          by_cases hst0 : ∃ y x r, st = .inl y :: .inl x :: r
          · obtain ⟨y, x, r, rfl⟩ := hst0
            by_cases hs0 : ∃ w z, mv_sh k = some (.inl (3, w, z))
            · obtain ⟨w, z, hs⟩ := hs0
              cases hc : (decide (x = (w : Int)) && decide (y = (z : Int)) && T.2.2.2.2.1 && u.2.2.2.1.all (fun q => !Nat.beq q.1 k) && mv_fu [k] r u && mv_fr [k] u.2.2.1 && Nat.ble (u.2.2.2.2.1 + (1 + w)) T.2.2.2.2.2.1 && Nat.ble (u.2.2.2.2.2 + (w + w * z)) T.2.2.2.2.2.2 && Nat.blt w 100000 && Nat.blt z 100000) with
              | false => exact stay (by simp only [mv_cs, hlk, hal, hs, hc, cond])
              | true =>
                have hc' := hc
                simp only [Bool.and_eq_true] at hc'
                obtain ⟨⟨⟨⟨⟨⟨⟨⟨⟨c1, c0⟩, c2⟩, c3⟩, c4⟩, c5⟩, c6⟩, c7⟩, c8⟩, c9⟩ := hc'
                have c1 := of_decide_eq_true c1
                have c0 := of_decide_eq_true c0
                have c6 := Nat.le_of_ble_eq_true c6
                have c7 := Nat.le_of_ble_eq_true c7
                have c8 : w < 100000 := Nat.le_of_ble_eq_true c8
                have c9 : z < 100000 := Nat.le_of_ble_eq_true c9
                have hk := hks k (mv_lks_in hal)
                rw [List.map_cons, List.map_cons, show mv_V ad (.inl x) = .int (Int32.ofInt w) by rw [c1]; rfl, show mv_V ad (.inl y) = .int (Int32.ofInt z) by rw [c0]; rfl]
                have hz0 : ∀ i j, mv_Gu Gs u.2.2.2.1 k i j = 0 := fun i => mv_Gu_0 c3 (fun j => hz c2 k i j)
                refine mv_r_multi hx hb hown (hts _ hw) hAO (hts _ hac) hK ht0 ht3 hA hW hS hs (fun e => hk.2.1 e.symm) c4 c5 hz0 c8 c9 (Nat.le_trans c6 hrc) (Nat.le_trans c7 hrs) hdg (x := u.2.2.2.2.1 + (1 + w)) (y := u.2.2.2.2.2 + (w + w * z)) (fun ad2 H1 h1 h2 h3 h4 => ?_)
                have hag : ∀ a, a ∉ [k] → ∀ b, ad2 a b = ad a b := fun a ha b => h1 a (fun e => ha (by simp [e])) b
                exact go (pc2 := pc + 4) (st2 := .inr (k, 0) :: r) (u2 := (u.1, u.2.1, u.2.2.1 ++ mv_gr k w, u.2.2.2.1, u.2.2.2.2.1 + (1 + w), u.2.2.2.2.2 + (w + w * z))) (by simp only [mv_cs, hlk, hal, hs, hc, cond]) ad2 H1 locs (fun a ha b => h1 a (fun e => ha (e ▸ mv_lks_in hal)) b) h3 h4 (fun v hv => by
                  rcases List.mem_cons.mp hv with rfl | hv
                  · exact h2
                  · exact (mv_fu_st c4 hag).2 v hv (hst v (List.mem_cons_of_mem _ (List.mem_cons_of_mem _ hv))))
            · refine stay ?_
              simp only [mv_cs, hlk, hal]
              split
              · next w z e => exact absurd ⟨w, z, e⟩ hs0
              · rfl
          · refine stay ?_
            simp only [mv_cs, hlk, hal]
            split
            · next e => exact absurd ⟨_, _, _, rfl⟩ hst0
            · rfl
      case putfield idx =>
        have hlen : len = 3 := hlen
        subst hlen
        by_cases hst0 : ∃ v a r, st = v :: .inr (a, 0) :: r
        · obtain ⟨v, a, r, rfl⟩ := hst0
          cases hfd : mv_lk T.2.1 idx with
          | none => exact stay (by simp only [mv_cs, hlk, hfd])
          | some jw =>
            obtain ⟨j, w⟩ := jw
            cases hc : (Nat.beq a k0 && Nat.blt j u.1.length && mv_wk1 v w) with
            | false => exact stay (by simp only [mv_cs, hlk, hfd, hc, cond])
            | true =>
              have hc' := hc
              simp only [Bool.and_eq_true] at hc'
              obtain ⟨⟨c1, c2⟩, c3⟩ := hc'
              have c1 := Nat.eq_of_beq_eq_true c1
              subst c1
              have c2 : j < u.1.length := Nat.le_of_ble_eq_true c2
              obtain ⟨f1, f2, f3, f4⟩ := hfl _ (mv_lk_mem hfd)
              have hv := hst v List.mem_cons_self
              obtain ⟨a0, ha0⟩ := hW.2.2.2.1
              have e1 : mv_V ad (.inr (a, 0)) = .ref (mv_ra (ad a 0)) := by
                show ad a 0 = _
                rw [ha0]; rfl
              obtain ⟨ty0, g2⟩ := (mv_clok ci qc hqc).2.1
              have he : (mv_ow ad a ci u ++ mv_wd mv_sh ad cA u.2.2.1 (mv_Gu Gs u.2.2.2.1))[0]? = some (mv_ra (ad a 0), .inr (ci, u.1.map (mv_Vo ad))) := rfl
              have kont : ∀ (H1 : Heap) (locs1 : List Loc), va_P D mv_cl ((mv_ow ad a ci u ++ mv_wd mv_sh ad cA u.2.2.1 (mv_Gu Gs u.2.2.2.1)).set 0 (mv_ra (ad a 0), .inr (ci, (u.1.map (mv_Vo ad)).set j (mv_V ad v)))) H1 → va_D A ((mv_ow ad a ci u ++ mv_wd mv_sh ad cA u.2.2.1 (mv_Gu Gs u.2.2.2.1)).set 0 (mv_ra (ad a 0), .inr (ci, (u.1.map (mv_Vo ad)).set j (mv_V ad v)))) → va_S A s.heap H1 locs1 → W p l e R s m args below meth c H1 locs1 u.2.2.2.2.1 u.2.2.2.2.2 Q (F0 m (pc + 3) lsC (r.map (mv_V ad))) := fun H1 locs1 hP1 hD1 hS1 =>
                go (pc2 := pc + 3) (st2 := r) (u2 := (u.1.set j (some v), u.2)) (by simp only [mv_cs, hlk, hfd, hc, cond]) ad H1 locs1 same (mv_WU_put hW hv hP1 hD1) hS1 (fun w hw => hst w (List.mem_cons_of_mem _ (List.mem_cons_of_mem _ hw)))
              rw [List.map_cons, List.map_cons, e1]
              cases v with
              | inl x =>
                have c3 := Nat.eq_of_beq_eq_true c3
                obtain ⟨f5, f6⟩ := f3 c3
                exact va_put (C := qc.1) (T := qc.2.1) (N := qc.2.2) (ty := .int) hx hb hts (mv_clok ci qc hqc).1 ty0 g2 (mv_clok ci qc hqc).2.2 hown hK (mv_PP_iff.mpr hW.1) (mv_DD_iff.mpr hW.2.1) hS 0 he hqc j f1 (hts _ f2) (fun _ h => h) f5 f6 rfl rfl (by rw [List.length_map]; exact c2) hdg kont
              | inr q =>
                have c3 := Nat.eq_of_beq_eq_true c3
                obtain ⟨f5, f6, ty, f7, f8, f9⟩ := f4 c3
                obtain ⟨b, hb2⟩ := hv
                have e2 : mv_V ad (.inr q) = .ref b := hb2
                rw [e2] at kont ⊢
                exact va_putF (C := qc.1) (T := qc.2.1) (N := qc.2.2) (ty := ty) hx hb hts (mv_clok ci qc hqc).1 ty0 g2 (mv_clok ci qc hqc).2.2 hown hK (mv_PP_iff.mpr hW.1) (mv_DD_iff.mpr hW.2.1) hS 0 he hqc j f1 (hts _ f2) (fun _ h => h) f5 hin f6 f7 (f8 b) (f9 b) (by rw [List.length_map]; exact c2) hdg kont
        · refine stay ?_
          simp only [mv_cs, hlk]
          split
          · next e => exact absurd ⟨_, _, _, rfl⟩ hst0
          · rfl
      case getfield idx =>
        have hlen : len = 3 := hlen
        subst hlen
        by_cases hst0 : ∃ a r, st = .inr (a, 0) :: r
        · obtain ⟨a, r, rfl⟩ := hst0
          cases hfd : mv_lk T.2.1 idx with
          | none => exact stay (by simp only [mv_cs, hlk, hfd])
          | some jw =>
            obtain ⟨j, w⟩ := jw
            cases hc : Nat.beq a k0 with
            | false => exact stay (by simp only [mv_cs, hlk, hfd, hc, cond])
            | true =>
              have c1 := Nat.eq_of_beq_eq_true hc
              cases hv : u.1[j]? with
              | none => exact stay (by simp only [mv_cs, hlk, hfd, hc, cond, hv])
              | some ov =>
                cases ov with
                | none => exact stay (by simp only [mv_cs, hlk, hfd, hc, cond, hv])
                | some v =>
                  have hg := hW.2.2.2.2.2.2.1 _ (List.mem_of_getElem? hv)
                  obtain ⟨f1, f2, f3, f4⟩ := hfl _ (mv_lk_mem hfd)
                  obtain ⟨a0, ha0⟩ := hW.2.2.2.1
                  have g := go (pc2 := pc + 3) (st2 := v :: r) (u2 := u) (by simp only [mv_cs, hlk, hfd, hc, cond, hv]) ad H locs same hW hS (cons hg (fun w hw => hst w (List.mem_cons_of_mem _ hw)))
                  have e1 : mv_V ad (.inr (a, 0)) = .ref (mv_ra (ad k0 0)) := by
                    show ad a 0 = _
                    rw [c1, ha0]; rfl
                  rw [List.map_cons, e1]
                  have he : (mv_ow ad k0 ci u ++ mv_wd mv_sh ad cA u.2.2.1 (mv_Gu Gs u.2.2.2.1))[0]? = some (mv_ra (ad k0 0), .inr (ci, u.1.map (mv_Vo ad))) := rfl
                  exact va_get (C := qc.1) (T := qc.2.1) (N := qc.2.2) hx hb hts (mv_clok ci qc hqc).1 hown hK (mv_PP_iff.mpr hW.1) 0 he hqc j f1 (hts _ f2) (fun _ h => h) (by rw [List.getElem?_map, hv]; rfl) hdg g
        · refine stay ?_
          simp only [mv_cs, hlk]
          split
          · next e => exact absurd ⟨_, _, rfl⟩ hst0
          · rfl
      case invokespecial idx =>
        have hlen : len = 3 := hlen
        subst hlen
        cases hsb : mv_lk T.2.2.2.1 pc with
        | none =>
          by_cases hst0 : ∃ a r, st = .inr (a, 0) :: r
          · obtain ⟨a, r, rfl⟩ := hst0
            cases hc : (Nat.beq a k0 && Nat.ble r.length 8) with
            | false => exact stay (by simp only [mv_cs, hlk, hsb, hc, cond])
            | true =>
              have hc' := hc
              simp only [Bool.and_eq_true] at hc'
              have hrl := Nat.le_of_ble_eq_true hc'.2
              obtain ⟨o1, o2, o3⟩ := hobj _ _ _ hlk hsb
              obtain ⟨b, hb2⟩ := hst (.inr (a, 0)) List.mem_cons_self
              have g := go (pc2 := pc + 3) (st2 := r) (u2 := u) (by simp only [mv_cs, hlk, hsb, hc, cond]) ad H locs same hW hS (fun w hw => hst w (List.mem_cons_of_mem _ hw))
              have e1 : mv_V ad (.inr (a, 0)) = .ref b := hb2
              rw [List.map_cons, e1]
              refine W.objInit hx hb hown (hts _ o1) (hts _ o2) (hts _ o3) rfl (hsz.trans hml.symm) rfl hdg hfr1 ?_ g
              have h8 : 2 * (F0 m pc lsC (.ref b :: r.map (mv_V ad))).monitorRoom + ((r.map (mv_V ad)).map fun v => v.category).sum ≤ 8 := by
                refine lv_room ?_
                rw [mv_sum1 _ (fun v hv => by
                  obtain ⟨w, hw, rfl⟩ := List.mem_map.mp hv
                  exact mv_gv_cat (hst w (List.mem_cons_of_mem _ hw)))]
                simpa using hrl
              omega
          · refine stay ?_
            simp only [mv_cs, hlk, hsb]
            split
            · next e => exact absurd ⟨_, _, rfl⟩ hst0
            · rfl
        | some tp =>
          obtain ⟨as, k, cj, ids, nc, ns⟩ := tp
          cases hc : (decide ((st.take as.length).reverse = as) && mv_hd k (st.drop as.length) && u.2.2.2.1.isEmpty && mv_hp k cj u.2.1 && mv_fu ((ids.map fun q => q.1).filter fun a => !Nat.beq a k) (st.drop (as.length + 1)) (u.1, u.2.1.drop 1, u.2.2) && mv_fr (ids.map fun q => q.1) u.2.2.1 && !u.2.1.tail.any (fun q => Nat.beq q.1 k) && Nat.ble (u.2.2.2.2.1 + nc) T.2.2.2.2.2.1 && Nat.ble (u.2.2.2.2.2 + ns) T.2.2.2.2.2.2 && Nat.ble st.length 8) with
          | false => exact stay (by simp only [mv_cs, hlk, hsb, hc, cond])
          | true =>
            have hc' := hc
            simp only [Bool.and_eq_true] at hc'
            obtain ⟨⟨⟨⟨⟨⟨⟨⟨⟨c1, c2⟩, c3⟩, c4⟩, c5⟩, c6⟩, c7⟩, c8⟩, c9⟩, c10⟩ := hc'
            have c1 := of_decide_eq_true c1
            have c3 := List.isEmpty_iff.mp c3
            have c8 := Nat.le_of_ble_eq_true c8
            have c9 := Nat.le_of_ble_eq_true c9
            have c10 := Nat.le_of_ble_eq_true c10
            obtain ⟨r, hr⟩ : ∃ r, st.drop as.length = .inr (k, 0) :: r := by
              unfold mv_hd at c2
              split at c2
              · next a r e => exact ⟨r, by rw [e, Nat.eq_of_beq_eq_true c2]⟩
              · cases c2
            obtain ⟨pd, hpd⟩ : ∃ pd, u.2.1 = (k, cj) :: pd := by
              unfold mv_hp at c4
              split at c4
              · next a b pd e =>
                simp only [Bool.and_eq_true] at c4
                exact ⟨pd, by rw [e, Nat.eq_of_beq_eq_true c4.1, Nat.eq_of_beq_eq_true c4.2]⟩
              · cases c4
            have hr2 : st.drop (as.length + 1) = r := by
              rw [← List.drop_drop, hr]
              rfl
            have hp2 : u.2.1.drop 1 = pd := by rw [hpd]; rfl
            have hst2 : st = as.reverse ++ .inr (k, 0) :: r := by
              rw [← hr, ← c1, List.reverse_reverse, c1, List.take_append_drop]
            obtain ⟨y, by2, mL, rm, hI, rfl, rfl, r3, r4, w1, w2, w3, w4, w5, w6, w7⟩ := hsub _ _ _ _ _ _ _ _ _ hlk hsb
            have hin2 : ∀ a, a ∈ ids.map (fun q => q.1) → a ∈ mv_ks T := fun a ha => List.mem_append_right _ (List.mem_flatMap.mpr ⟨_, mv_lk_mem hsb, ha⟩)
            rw [hr2, hp2] at c5
            have hsm : st.map (mv_V ad) = (as.map (mv_V ad)).reverse ++ mv_V ad (.inr (k, 0)) :: r.map (mv_V ad) := by
              rw [hst2]
              simp
            rw [hsm]
            have hrm : ∀ v ∈ r, v ∈ st := fun v hv => by rw [hst2]; simp [hv]
            refine mv_r_init hI hBg hK hA hNS hR hE hAO hro ⟨r3, r4⟩ ⟨w1, w2, w3, w4⟩ w5 w6 hW hS hpd c3 (fun v hv => hst v (by rw [hst2]; simp [hv])) (fun h => (hks _ (hin2 _ h)).2.1 rfl) c5 c6 w7 (Nat.le_trans c8 hrc) (Nat.le_trans c9 hrs) hsz (by rw [hst2] at c10; simp at c10; omega) (fun v hv => mv_gv_cat (hst v (hrm v hv))) hdg (nx := u.2.2.2.2.1 + rm.cells) (nz := u.2.2.2.2.2 + rm.slots) (fun ad2 H1 locs1 h1 h2 h3 h4 => ?_)
            have hag : ∀ a, a ∉ ((ids.map fun q => q.1).filter fun a => !Nat.beq a k) → ∀ b, ad2 a b = ad a b := fun a ha b => by
              by_cases e : a = k
              · subst e; exact h2 b
              · refine h1 a (fun h => ha (List.mem_filter.mpr ⟨h, ?_⟩)) b
                cases h2 : Nat.beq a k with
                | false => rfl
                | true => exact absurd (Nat.eq_of_beq_eq_true h2) e
            exact go (pc2 := pc + 3) (st2 := r) (u2 := (u.1, pd, u.2.2.1 ++ ids, u.2.2.2.1, u.2.2.2.2.1 + rm.cells, u.2.2.2.2.2 + rm.slots)) (by simp only [mv_cs, hlk, hsb, hc, cond]; rw [hr2, hp2]) ad2 H1 locs1 (fun a ha b => h1 a (fun h => ha (hin2 a h)) b) h3 h4 (fun v hv => (mv_fu_st c5 hag).2 v hv (hst v (hrm v hv)))
      case iastore =>
        have hlen : len = 1 := hlen
        subst hlen
        by_cases hst0 : ∃ v x k r, st = .inl v :: .inl x :: .inr (k, 0) :: r
        · obtain ⟨v, x, k, r, rfl⟩ := hst0
          by_cases hs0 : ∃ w z, mv_sh k = some (.inl (0, w, z))
          · obtain ⟨w, z, hs⟩ := hs0
            cases hc : (decide (0 ≤ x ∧ x < w) && u.2.2.1.contains (k, 0) && Nat.blt k 990) with
            | false => exact stay (by simp only [mv_cs, hlk, hs, hc, cond])
            | true =>
              have hc' := hc
              simp only [Bool.and_eq_true] at hc'
              obtain ⟨⟨c1, c2⟩, c3⟩ := hc'
              have c1 := of_decide_eq_true c1
              have c2 : (k, 0) ∈ u.2.2.1 := List.contains_iff_mem.mp c2
              have ov := hst (.inl v) (by simp)
              have ox := hst (.inl x) (by simp)
              obtain ⟨a0, ha0⟩ := hst (.inr (k, 0)) (by simp)
              have e1 : mv_V ad (.inr (k, 0)) = .ref (mv_ra (ad k 0)) := by
                show ad k 0 = _
                have ha0 : ad k 0 = .ref a0 := ha0
                rw [ha0]; rfl
              obtain ⟨q0, hq, hgq⟩ := mv_wd_get (sh := mv_sh) (ad := ad) (cA := cA) (G := mv_Gu Gs u.2.2.2.1) c2
              have hnd : u.2.2.1.Nodup := by
                have h1 := hW.2.1.1
                rw [List.map_append] at h1
                have h2 := (List.nodup_append.mp h1).2.1
                unfold mv_wd at h2
                rw [List.map_map] at h2
                exact List.Pairwise.imp_of_mem (fun {a b} _ _ hab e => hab (by rw [e])) (List.pairwise_map.mp h2)
              have hge : (mv_ow ad k0 ci u ++ mv_wd mv_sh ad cA u.2.2.1 (mv_Gu Gs u.2.2.2.1))[(mv_ow ad k0 ci u).length + q0]? = some (mv_ra (ad k 0), .inl (cA 0, w, .inl (fun j => Int32.ofInt (mv_Gu Gs u.2.2.2.1 k 0 j)))) := by
                rw [List.getElem?_append_right (by omega), Nat.add_sub_cancel_left, hgq]
                simp only [mv_cel, hs]
              rw [List.map_cons, List.map_cons, List.map_cons, e1]
              refine va_iast hx hb hK (mv_PP_iff.mpr hW.1) (mv_DD_iff.mpr hW.2.1) hS _ 0 hge ht0 (mv_vpin ox c1) hdg (fun H1 locs1 hP1 hD1 hS1 => ?_)
              rw [mv_clamp ox c1.1, List.set_append_right _ _ (by omega), Nat.add_sub_cancel_left, mv_wd_set (j := x.toNat) (v := v) hnd hq (by simp only [mv_cel, hs, mv_upd])] at hP1 hD1
              have eG : mv_Gu Gs (u.2.2.2.1 ++ [(k, x.toNat, v)]) = mv_up (mv_Gu Gs u.2.2.2.1) k 0 x.toNat v := by
                unfold mv_Gu
                rw [List.foldl_append]
                rfl
              refine go (pc2 := pc + 1) (st2 := r) (u2 := (u.1, u.2.1, u.2.2.1, u.2.2.2.1 ++ [(k, x.toNat, v)], u.2.2.2.2)) (by simp only [mv_cs, hlk, hs, hc, cond]) ad H1 locs1 same ⟨?_, ?_, ?_, hW.2.2.2.1, hW.2.2.2.2.1, hW.2.2.2.2.2.1, hW.2.2.2.2.2.2.1, hW.2.2.2.2.2.2.2⟩ hS1 (fun w hw => hst w (by simp [hw]))
              · rw [eG]; exact mv_PP_iff.mp hP1
              · rw [eG]; exact mv_DD_iff.mp hD1
              · intro a b c
                rw [eG]
                unfold mv_up
                split
                · exact ov
                · exact hW.2.2.1 a b c
          · refine stay ?_
            simp only [mv_cs, hlk]
            split
            · next w z e => exact absurd ⟨w, z, e⟩ hs0
            · rfl
        · refine stay ?_
          simp only [mv_cs, hlk]
          split
          · next e => exact absurd ⟨_, _, _, _, rfl⟩ hst0
          · rfl
      all_goals exact stay (by simp only [mv_cs, hlk])
end MV
end
section
/-! Constructors' contracts, out of their tables. -/
section MV
variable {p : Program} {l : Launch} {e : Env} {R : Room} {s : State} {m : MethodId} {args : Array Value} {below : List Frame} {meth : Method} {c : Code} {cells slots : Nat} {Q : State → Prop}
variable {cc : ByteArray} {nL : Nat} {ad ad2 : Nat → Nat → Value} {cA : Nat → ClassId} {D : va_G} {tys : List (ClassId × FieldType)} {A : Nat → Prop} {H : Heap} {locs : List Loc} {ids : List (Nat × Nat)} {G : mv_G}
theorem mv_wd_cg {ids : List (Nat × Nat)} {G G2 : mv_G} (h : ∀ q ∈ ids, G q.1 q.2 = G2 q.1 q.2) : mv_wd mv_sh ad cA ids G = mv_wd mv_sh ad cA ids G2 := List.map_congr_left fun q hq => mv_cel_cg (h q hq)
theorem mv_nf_go {ci : Nat} : ∀ v ∈ mv_nf ci, mv_go1 ad v := by
  intro v hv
  unfold mv_nf at hv
  split at hv
  · obtain ⟨j, -, rfl⟩ := List.mem_map.mp hv
    split
    · exact mv_in0
    · exact mv_in0
    · trivial
  · cases hv
theorem mv_ini_of {y : MethodName} {by2 : ByteArray} {mL : Nat} {rm : Room} {k ci N pcE : Nat} {as : List mv_A} {ids0 : List (Nat × Nat)} {ups : List (Nat × Nat × Int)} {fs : List (Option mv_A)} {Gs Gk : mv_G} {T : mv_TT} (hy : plainName y.cls = true)
    (hCx : ∀ (p : Program) (s : State) (m : MethodId) (args : Array Value) (meth : Method) (c : Code), mv_Bg p s m args c by2 mL y.cls mv_Ts → va_K D mv_cl tys s → meth.name = "<init>" → mv_NS s → mv_AO s → mv_Cx l p s m args meth c by2 mL y.cls rm cA D tys Gs ci T)
    (hname : y.name = "<init>") (hn : as.length + 1 ≤ mL) (hks : ∀ a ∈ mv_ks T, Nat.ble 990 a = false ∧ a ≠ k ∧ ∀ v ∈ (.inr (k, 0) :: as : List mv_A), mv_kn [a] (some v) = true) (hGs : ∀ k i j, mv_in (Gs k i j)) (hGk : ∀ k i j, mv_in (Gk k i j))
    (hrun : mv_cs T k (.inr (k, 0) :: as) N 0 [] (mv_nf ci, [], [], [], 0, 0) = (pcE, [], (fs, [], ids0, ups, rm.cells, rm.slots))) (hend : decode by2 pcE = .ok (.return_, 1))
    (hids : ids = (k, 0) :: ids0) (hsub : ∀ a ∈ mv_ks T, a ∈ ids.map fun q => q.1) {fsh : List (Option Nat)} (hsh : mv_sh k = some (.inr (ci, fsh))) (hfs : ∀ ad : Nat → Nat → Value, fs.map (mv_Vo ad) = mv_fs ad (Gk k 0) fsh) (hG : ∀ q ∈ ids0, mv_Gu Gs ups q.1 q.2 = Gk q.1 q.2) :
    mv_Ini l y by2 mL rm cA D tys Gk k ci as ids := by
  intro ad sz hk hcat hga hro
  refine Met.ofW (cc := by2) (maxL := mL) (ret := none) hy rfl ?_
  intro p e s m args below meth c s₁ B hml hv
  obtain ⟨rfl, hsz, hPP, hK, hR, hE, hNS, hAO⟩ := hv
  subst hsz
  have hx := B.exec
  have hb := B.bytes
  have hr := B.returns
  have hlocks := B.notSynchronized
  have hin : meth.name = "<init>" := hname ▸ (name_of_methodNamed B.named B.method).1
  have hts0 := atoms_spec (ws := .code y by2 mL none :: mv_Ts) B.pre
  have hts : ∀ w ∈ mv_Ts, w.before ((.inr (k, 0) :: as).map (mv_V ad)).toArray s = true := fun w h => hts0 w (List.mem_cons_of_mem _ h)
  have hown : s.vm.findClass y.cls = some m.cls := findClass_of_methodNamed B.named
  have hBg : mv_Bg p s m ((.inr (k, 0) :: as).map (mv_V ad)).toArray c by2 mL y.cls mv_Ts := ⟨hx, hb, hown, hts, hml⟩
  have hgl : ∀ v ∈ (.inr (k, 0) :: as : List mv_A), mv_gv ad v := fun v hv => by
    rcases List.mem_cons.mp hv with rfl | hv
    · exact hk
    · exact hga v hv
  have hcatl : ∀ v ∈ (.inr (k, 0) :: as : List mv_A).map (mv_V ad), v.category = 1 := fun v hv => by
    obtain ⟨w, hw, rfl⟩ := List.mem_map.mp hv
    exact mv_gv_cat (hgl w hw)
  have hlsl : (lg_sl ((.inr (k, 0) :: as : List mv_A).map (mv_V ad))).length = as.length + 1 := by rw [mv_sl hcatl]; simp
  have hl := lv_entry ((.inr (k, 0) :: as : List mv_A).map (mv_V ad)) (n := mL) (by rw [hlsl]; exact hn)
  rw [lg_entry_eq]
  generalize hA : (fun a => a = mv_ra (ad k 0) ∨ s.heap.size ≤ a) = A at *
  have hA1 : ∀ q, s.heap.size ≤ q → A q := fun q h => by rw [← hA]; exact Or.inr h
  have hA2 : A (mv_ra (ad k 0)) := by rw [← hA]; exact Or.inl rfl
  have hW0 : mv_WU ad cA D A Gs k ci (mv_nf ci, [], [], [], 0, 0) s.heap := by
    refine ⟨fun x hx => ?_, ⟨by simp [mv_ow, mv_wd], fun x hx => ?_⟩, hGs, hk, fun q hq => (by cases hq), fun q hq => (by cases hq), mv_nf_go, hcat⟩
    · exact hPP x (by simpa [mv_ow, mv_wd] using hx)
    · simp only [mv_ow, mv_wd, List.map_nil, List.append_nil, List.mem_singleton] at hx
      rw [hx]
      exact hA2
  refine mv_cs_snd (R := rm) (ls := .inr (k, 0) :: as) (hCx p s m _ meth c hBg hK hin hNS hAO) hA1 hl.1 hks N 0 [] (mv_nf ci, [], [], [], 0, 0) ad s.heap [] hW0 va_S.rf hro hR hE (fun i v hi => ?_) (fun v hv => by cases hv) (fun ad2 H2 locs2 hag hW2 hS2 hst2 => ?_)
  · have h1 := (List.getElem?_eq_some_iff.mp hi).1
    refine ⟨?_, hgl v (List.mem_of_getElem? hi)⟩
    rw [List.getElem?_toArray, mv_sl hcatl, List.getElem?_append_left (by simpa using h1)]
    simp only [List.getElem?_map, hi, Option.map_some]
  · rw [hrun] at hW2 ⊢
    have hids2 : mv_wd mv_sh ad2 cA ids Gk = mv_ow ad2 k ci (fs, [], ids0, ups, rm.cells, rm.slots) ++ mv_wd mv_sh ad2 cA ids0 (mv_Gu Gs ups) := by
      rw [hids, mv_wd_cg hG]
      show mv_cel mv_sh ad2 cA Gk k 0 :: _ = _ :: _
      congr 1
      simp only [mv_cel, hsh]
      rw [hfs]
    refine W.vret hx hb hr (fun t ht hW => ⟨⟨ad2, rfl, ⟨fun b => hag k (fun h => (hks k h).2.1 rfl) b, fun a ha b => hag a (fun h => ha (hsub a h)) b, fun q hq => ?_, hW2.2.2.2.2.2.2.2⟩, ?_⟩, hS2.F ht⟩) hS2.2.2 hend
    · rw [hids] at hq
      rcases List.mem_cons.mp hq with rfl | hq
      · exact hW2.2.2.2.1
      · exact hW2.2.2.2.2.2.1 q hq
    · show mv_Wd mv_sh ids ad2 cA mv_cl D A Gk t.heap
      rw [ht]
      exact ⟨by rw [hids2]; exact mv_PP_iff.mpr hW2.1, by rw [hids2]; exact mv_DD_iff.mpr hW2.2.1, hGk⟩
end MV
end
section
/-! What a program decides of a constructor's tables. -/
def mv_dk2 (cc : ByteArray) (l : List (Nat × Instr × Nat)) : Bool := l.all fun x => decide (decode cc x.1 = .ok (x.2.1, x.2.2)) && mv_ik x.2.1 x.2.2
theorem mv_dk2_ok {cc : ByteArray} {l : List (Nat × Instr × Nat)} (h : mv_dk2 cc l = true) : ∀ x ∈ l, decode cc x.1 = .ok (x.2.1, x.2.2) ∧ mv_ik x.2.1 x.2.2 = true := fun x hx => by
  have h1 := List.all_eq_true.mp h x hx
  simp only [Bool.and_eq_true, decide_eq_true_eq] at h1
  exact h1
def mv_rt (t : Option FieldType) : Bool := match t with | some (.object _) => true | some (.array _) => true | _ => false
theorem mv_rt_ok {t : Option FieldType} (h : mv_rt t = true) : ∃ ty, t = some ty ∧ (∀ a, narrow ty (.ref a) = .ref a) ∧ ∀ a, fits ty (.ref a) = true := by
  unfold mv_rt at h
  split at h
  · exact ⟨_, rfl, fun _ => rfl, fun _ => rfl⟩
  · exact ⟨_, rfl, fun _ => rfl, fun _ => rfl⟩
  · cases h
/-- own fields: place, then the row -/
def mv_fk2 (own : String) (q : vw_C) (l : List (Nat × Nat × Nat × Nat)) : Bool := l.all fun x => decide (x.2.2.1 < q.2.2) && mv_wd1 x.1 (.fieldLink own x.2.1 (q.2.1 x.2.2.1).1 (q.2.1 x.2.2.1).2.1 (q.2.1 x.2.2.1).2.2.1) &&
  (!Nat.beq x.2.2.2 0 || (!(q.2.1 x.2.2.1).2.2.2 && decide (parseFieldDescriptor (q.2.1 x.2.2.1).2.2.1 = some .int))) && (!Nat.beq x.2.2.2 1 || ((q.2.1 x.2.2.1).2.2.2 && decide ((q.2.1 x.2.2.1).1 = own) && mv_rt (parseFieldDescriptor (q.2.1 x.2.2.1).2.2.1)))
theorem mv_fk2_ok {own : String} {q : vw_C} {l : List (Nat × Nat × Nat × Nat)} (h : mv_fk2 own q l = true) : ∀ x ∈ l.map (fun x => x.2), x.2.1 < q.2.2 ∧ Cond.fieldLink own x.1 (q.2.1 x.2.1).1 (q.2.1 x.2.1).2.1 (q.2.1 x.2.1).2.2.1 ∈ mv_Ts ∧ (x.2.2 = 0 → (q.2.1 x.2.1).2.2.2 = false ∧ parseFieldDescriptor (q.2.1 x.2.1).2.2.1 = some .int) ∧
    (x.2.2 = 1 → (q.2.1 x.2.1).2.2.2 = true ∧ (q.2.1 x.2.1).1 = own ∧ ∃ ty, parseFieldDescriptor (q.2.1 x.2.1).2.2.1 = some ty ∧ (∀ a, narrow ty (.ref a) = .ref a) ∧ ∀ a, fits ty (.ref a) = true) := by
  intro x hx
  obtain ⟨y, hy, rfl⟩ := List.mem_map.mp hx
  have h1 := List.all_eq_true.mp h y hy
  simp only [Bool.and_eq_true, decide_eq_true_eq, Bool.or_eq_true, Bool.not_eq_true'] at h1
  obtain ⟨⟨⟨h1, h2⟩, h3⟩, h4⟩ := h1
  refine ⟨h1, mv_Td h2, fun e => ?_, fun e => ?_⟩
  · rcases h3 with h3 | h3
    · rw [e] at h3; cases h3
    · exact h3
  · rcases h4 with h4 | h4
    · rw [e] at h4; cases h4
    · exact ⟨h4.1.1, h4.1.2, mv_rt_ok h4.2⟩
def mv_pt (t : Option FieldType) : Bool := match t with | some .int => true | some .boolean => true | some (.object _) => true | some (.array _) => true | _ => false
theorem mv_pts : mv_cl.all (fun q => (List.range q.2.2).all fun j => mv_pt (parseFieldDescriptor (q.2.1 j).2.2.1)) = true := by decide +kernel
theorem mv_nf_len {cj : Nat} {q : vw_C} (hq : mv_cl[cj]? = some q) : (mv_nf cj).length = q.2.2 := by
  unfold mv_nf
  rw [hq]
  simp
theorem mv_nf_def {cj : Nat} {q : vw_C} (hq : mv_cl[cj]? = some q) : ∃ ty0 : Nat → FieldType, (∀ j, j < q.2.2 → parseFieldDescriptor (q.2.1 j).2.2.1 = some (ty0 j)) ∧ ∀ (ad : Nat → Nat → Value) j, j < q.2.2 → defaultValue (ty0 j) = vp_V ((mv_nf cj).map (mv_Vo ad)) j := by
  obtain ⟨ty0, h0⟩ := (mv_clok cj q hq).2.1
  refine ⟨ty0, h0, fun ad j hj => ?_⟩
  have h1 := List.all_eq_true.mp mv_pts q (List.mem_of_getElem? hq)
  have h2 := List.all_eq_true.mp h1 j (List.mem_range.mpr hj)
  unfold vp_V mv_nf
  rw [hq, List.getD_eq_getElem?_getD]
  simp only [List.getElem?_map, List.getElem?_range hj, Option.map_some, Option.getD_some]
  rw [h0 j hj] at h2 ⊢
  cases hty : ty0 j <;> rw [hty] at h2 <;> first | rfl | (cases h2)
/-- what is made where: pc to the places of its words -/
def mv_nk (own : String) (T : mv_TT) (pl : List (Nat × Nat × Nat × Nat)) : Bool := T.2.2.1.all fun x => match mv_lk T.1 x.1 with
  | some (.new idx, _) => (match mv_sh x.2 with
    | some (.inr (cj, _)) => (match mv_cl[cj]?, mv_lk pl x.1 with
      | some q, some (a, b, c) => mv_wd1 a (.classLink own idx q.1) && mv_wd1 b (.instantiable q.1 q.2.2) && mv_wd1 c (.initialized q.1)
      | _, _ => false)
    | _ => false)
  | _ => true
theorem mv_nk_ok {own : String} {T : mv_TT} {pl : List (Nat × Nat × Nat × Nat)} (h : mv_nk own T pl = true) : ∀ pc idx len k cj fs, mv_lk T.1 pc = some (.new idx, len) → mv_lk T.2.2.1 pc = some k → mv_sh k = some (.inr (cj, fs)) → ∃ q : vw_C, mv_cl[cj]? = some q ∧ Cond.classLink own idx q.1 ∈ mv_Ts ∧ Cond.instantiable q.1 q.2.2 ∈ mv_Ts ∧ Cond.initialized q.1 ∈ mv_Ts ∧ (∃ ty0 : Nat → FieldType, (∀ j, j < q.2.2 → parseFieldDescriptor (q.2.1 j).2.2.1 = some (ty0 j)) ∧ ∀ (ad : Nat → Nat → Value) j, j < q.2.2 → defaultValue (ty0 j) = vp_V ((mv_nf cj).map (mv_Vo ad)) j) ∧ (mv_nf cj).length = q.2.2 := by
  intro pc idx len k cj fs h1 h2 h3
  have h4 := List.all_eq_true.mp h _ (mv_lk_mem h2)
  simp only [h1, h3] at h4
  split at h4
  · next q a b c hq hp =>
    simp only [Bool.and_eq_true] at h4
    exact ⟨q, hq, mv_Td h4.1.1, mv_Td h4.1.2, mv_Td h4.2, mv_nf_def hq, mv_nf_len hq⟩
  · cases h4
/-- Object's constructor, grids and statics -/
def mv_ok2 (own : String) (T : mv_TT) (a b c d : Nat) : Bool := T.1.all fun x => match x.2.1 with
  | .invokespecial idx => (mv_lk T.2.2.2.1 x.1).isSome || (mv_wd1 a (.methodLink own idx Lib.objectInit) && mv_wd1 b (.instanceMethod Lib.objectInit) && mv_wd1 c (.code Lib.objectInit ⟨#[0xb1]⟩ 1 none))
  | .multianewarray idx n => Nat.beq n 2 && mv_wd1 d (.classLink own idx ("[" ++ (FieldType.array .int).toString))
  | .getstatic idx => decide (own = "MoveUp$Bench") && Nat.beq idx 21
  | _ => true
theorem mv_ok2_a {own : String} {T : mv_TT} {a b c d : Nat} (h : mv_ok2 own T a b c d = true) : ∀ pc idx len, mv_lk T.1 pc = some (.invokespecial idx, len) → mv_lk T.2.2.2.1 pc = none → Cond.methodLink own idx Lib.objectInit ∈ mv_Ts ∧ Cond.instanceMethod Lib.objectInit ∈ mv_Ts ∧ Cond.code Lib.objectInit ⟨#[0xb1]⟩ 1 none ∈ mv_Ts := by
  intro pc idx len h1 h2
  have h3 := List.all_eq_true.mp h _ (mv_lk_mem h1)
  simp only [h2, Option.isSome_none, Bool.false_or, Bool.and_eq_true] at h3
  exact ⟨mv_Td h3.1.1, mv_Td h3.1.2, mv_Td h3.2⟩
theorem mv_ok2_m {own : String} {T : mv_TT} {a b c d : Nat} (h : mv_ok2 own T a b c d = true) : ∀ pc idx n len, mv_lk T.1 pc = some (.multianewarray idx n, len) → n = 2 ∧ Cond.classLink own idx ("[" ++ (FieldType.array .int).toString) ∈ mv_Ts := by
  intro pc idx n len h1
  have h3 := List.all_eq_true.mp h _ (mv_lk_mem h1)
  simp only [Bool.and_eq_true] at h3
  exact ⟨Nat.eq_of_beq_eq_true h3.1, mv_Td h3.2⟩
theorem mv_ok2_g {own : String} {T : mv_TT} {a b c d : Nat} (h : mv_ok2 own T a b c d = true) : ∀ pc idx len, mv_lk T.1 pc = some (.getstatic idx, len) → Cond.fieldLinkNest own idx "MoveUp" "MOST" "[I" "MoveUp" ∈ mv_nsl := by
  intro pc idx len h1
  have h3 := List.all_eq_true.mp h _ (mv_lk_mem h1)
  simp only [Bool.and_eq_true, decide_eq_true_eq] at h3
  rw [h3.1, Nat.eq_of_beq_eq_true h3.2]
  exact List.mem_cons_self
end
section
/-! Constructors: the tables of each instance, and its contract. -/
def mv_Z : mv_G := fun _ _ _ => 0
theorem mv_dk2_app {cc : ByteArray} {a b : List (Nat × Instr × Nat)} (ha : mv_dk2 cc a = true) (hb : mv_dk2 cc b = true) : mv_dk2 cc (a ++ b) = true := by
  unfold mv_dk2 at *
  rw [List.all_append, ha, hb]
  rfl
abbrev cX5_init : ByteArray := prog_7_method_1_code
def yX5_init : MethodName := ⟨RX5, "<init>", "()V"⟩
def ic_X5_init : List (Nat × Instr × Nat) := [(0, .aload_n 0, 1), (1, .invokespecial 5, 3), (4, .aload_n 0, 1), (5, .sipush 401, 3), (8, .newarray .int, 2), (10, .putfield 11, 3), (13, .aload_n 0, 1), (14, .bipush 16, 2), (16, .newarray .int, 2), (18, .putfield 15, 3), (21, .aload_n 0, 1), (22, .bipush 16, 2), (24, .newarray .int, 2), (26, .putfield 18, 3), (29, .aload_n 0, 1), (30, .bipush 16, 2), (32, .newarray .int, 2), (34, .putfield 21, 3), (37, .aload_n 0, 1), (38, .bipush 40, 2), (40, .newarray .int, 2), (42, .putfield 24, 3)]
theorem dk_X5_init : mv_dk2 cX5_init ic_X5_init = true := by decide +kernel
def fp_X5_init : List (Nat × Nat × Nat × Nat) := [(180, 11, 2, 1), (181, 15, 3, 1), (183, 18, 4, 1), (185, 21, 5, 1), (187, 24, 6, 1)]
theorem fk_X5_init : mv_fk2 RX5 (RX5, TX5, 7) fp_X5_init = true := by decide +kernel
def id_8 : List (Nat × Nat) := [(8, 0), (9, 0), (10, 0), (11, 0), (12, 0), (13, 0)]
def tt_X5_init_8 : mv_TT := (ic_X5_init, fp_X5_init.map (fun x => x.2), [(8, 9), (16, 10), (24, 11), (32, 12), (40, 13)], [], true, 5, 489)
theorem nk_X5_init_8 : mv_nk RX5 tt_X5_init_8 [] = true := by decide +kernel
theorem ok_X5_init_8 : mv_ok2 RX5 tt_X5_init_8 174 157 158 0 = true := by decide +kernel
def id_14 : List (Nat × Nat) := [(14, 0), (15, 0), (16, 0), (17, 0), (18, 0), (19, 0)]
def tt_X5_init_14 : mv_TT := (ic_X5_init, fp_X5_init.map (fun x => x.2), [(8, 15), (16, 16), (24, 17), (32, 18), (40, 19)], [], true, 5, 489)
theorem nk_X5_init_14 : mv_nk RX5 tt_X5_init_14 [] = true := by decide +kernel
theorem ok_X5_init_14 : mv_ok2 RX5 tt_X5_init_14 174 157 158 0 = true := by decide +kernel
def id_31 : List (Nat × Nat) := [(31, 0), (32, 0), (33, 0), (34, 0), (35, 0), (36, 0)]
def tt_X5_init_31 : mv_TT := (ic_X5_init, fp_X5_init.map (fun x => x.2), [(8, 32), (16, 33), (24, 34), (32, 35), (40, 36)], [], true, 5, 489)
theorem nk_X5_init_31 : mv_nk RX5 tt_X5_init_31 [] = true := by decide +kernel
theorem ok_X5_init_31 : mv_ok2 RX5 tt_X5_init_31 174 157 158 0 = true := by decide +kernel
def id_37 : List (Nat × Nat) := [(37, 0), (38, 0), (39, 0), (40, 0), (41, 0), (42, 0)]
def tt_X5_init_37 : mv_TT := (ic_X5_init, fp_X5_init.map (fun x => x.2), [(8, 38), (16, 39), (24, 40), (32, 41), (40, 42)], [], true, 5, 489)
theorem nk_X5_init_37 : mv_nk RX5 tt_X5_init_37 [] = true := by decide +kernel
theorem ok_X5_init_37 : mv_ok2 RX5 tt_X5_init_37 174 157 158 0 = true := by decide +kernel
def id_53 : List (Nat × Nat) := [(53, 0), (54, 0), (55, 0), (56, 0), (57, 0), (58, 0)]
def tt_X5_init_53 : mv_TT := (ic_X5_init, fp_X5_init.map (fun x => x.2), [(8, 54), (16, 55), (24, 56), (32, 57), (40, 58)], [], true, 5, 489)
theorem nk_X5_init_53 : mv_nk RX5 tt_X5_init_53 [] = true := by decide +kernel
theorem ok_X5_init_53 : mv_ok2 RX5 tt_X5_init_53 174 157 158 0 = true := by decide +kernel
abbrev cX3_init : ByteArray := prog_5_method_1_code
def yX3_init : MethodName := ⟨RX3, "<init>", "()V"⟩
def ic_X3_init : List (Nat × Instr × Nat) := [(0, .aload_n 0, 1), (1, .invokespecial 3, 3), (4, .aload_n 0, 1), (5, .bipush 24, 2), (7, .newarray .int, 2), (9, .putfield 9, 3), (12, .aload_n 0, 1), (13, .bipush 24, 2), (15, .newarray .int, 2), (17, .putfield 15, 3), (20, .aload_n 0, 1), (21, .bipush 24, 2), (23, .newarray .int, 2), (25, .putfield 18, 3)]
theorem dk_X3_init : mv_dk2 cX3_init ic_X3_init = true := by decide +kernel
def fp_X3_init : List (Nat × Nat × Nat × Nat) := [(215, 9, 1, 1), (217, 15, 2, 1), (219, 18, 3, 1)]
theorem fk_X3_init : mv_fk2 RX3 (RX3, TX3, 4) fp_X3_init = true := by decide +kernel
def id_20 : List (Nat × Nat) := [(20, 0), (21, 0), (22, 0), (23, 0)]
def tt_X3_init_20 : mv_TT := (ic_X3_init, fp_X3_init.map (fun x => x.2), [(7, 21), (15, 22), (23, 23)], [], true, 3, 72)
theorem nk_X3_init_20 : mv_nk RX3 tt_X3_init_20 [] = true := by decide +kernel
theorem ok_X3_init_20 : mv_ok2 RX3 tt_X3_init_20 209 157 158 0 = true := by decide +kernel
def id_43 : List (Nat × Nat) := [(43, 0), (44, 0), (45, 0), (46, 0)]
def tt_X3_init_43 : mv_TT := (ic_X3_init, fp_X3_init.map (fun x => x.2), [(7, 44), (15, 45), (23, 46)], [], true, 3, 72)
theorem nk_X3_init_43 : mv_nk RX3 tt_X3_init_43 [] = true := by decide +kernel
theorem ok_X3_init_43 : mv_ok2 RX3 tt_X3_init_43 209 157 158 0 = true := by decide +kernel
def id_59 : List (Nat × Nat) := [(59, 0), (60, 0), (61, 0), (62, 0)]
def tt_X3_init_59 : mv_TT := (ic_X3_init, fp_X3_init.map (fun x => x.2), [(7, 60), (15, 61), (23, 62)], [], true, 3, 72)
theorem nk_X3_init_59 : mv_nk RX3 tt_X3_init_59 [] = true := by decide +kernel
theorem ok_X3_init_59 : mv_ok2 RX3 tt_X3_init_59 209 157 158 0 = true := by decide +kernel
abbrev cX2_init : ByteArray := prog_4_method_1_code
def yX2_init : MethodName := ⟨RX2, "<init>", "()V"⟩
def ic_X2_init : List (Nat × Instr × Nat) := [(0, .aload_n 0, 1), (1, .invokespecial 3, 3), (4, .aload_n 0, 1), (5, .bipush 60, 2), (7, .newarray .int, 2), (9, .putfield 9, 3), (12, .aload_n 0, 1), (13, .bipush 60, 2), (15, .newarray .int, 2), (17, .putfield 15, 3), (20, .aload_n 0, 1), (21, .bipush 60, 2), (23, .newarray .int, 2), (25, .putfield 18, 3), (28, .aload_n 0, 1), (29, .getstatic 21, 3), (32, .arraylength, 1), (33, .bipush 10, 2), (35, .multianewarray 24 2, 4), (39, .putfield 26, 3), (42, .aload_n 0, 1), (43, .bipush 10, 2), (45, .newarray .int, 2), (47, .putfield 29, 3), (50, .aload_n 0, 1), (51, .iconst 4, 1), (52, .sipush 150, 3), (55, .multianewarray 24 2, 4), (59, .putfield 32, 3), (62, .aload_n 0, 1), (63, .new 35, 3), (66, .dup, 1), (67, .invokespecial 37, 3), (70, .putfield 38, 3), (73, .aload_n 0, 1), (74, .new 35, 3), (77, .dup, 1), (78, .invokespecial 37, 3), (81, .putfield 42, 3), (84, .aload_n 0, 1), (85, .new 45, 3), (88, .dup, 1), (89, .invokespecial 47, 3), (92, .putfield 48, 3), (95, .aload_n 0, 1), (96, .bipush 40, 2)]
theorem dk_X2_init : mv_dk2 cX2_init ic_X2_init = true := by decide +kernel
def fp_X2_init : List (Nat × Nat × Nat × Nat) := [(271, 9, 4, 1), (273, 15, 5, 1), (275, 18, 6, 1), (279, 26, 7, 1), (283, 29, 8, 1), (290, 32, 9, 1), (292, 38, 10, 1), (295, 42, 11, 1), (298, 48, 12, 1)]
theorem fk_X2_init : mv_fk2 RX2 (RX2, TX2, 13) fp_X2_init = true := by decide +kernel
def id_1 : List (Nat × Nat) := [(1, 0), (2, 0), (3, 0), (4, 0), (5, 0), (5, 1), (5, 2), (5, 3), (5, 4), (5, 5), (6, 0), (7, 0), (7, 1), (7, 2), (7, 3), (7, 4), (8, 0), (9, 0), (10, 0), (11, 0), (12, 0), (13, 0), (14, 0), (15, 0), (16, 0), (17, 0), (18, 0), (19, 0), (20, 0), (21, 0), (22, 0), (23, 0)]
def tt_X2_init_1 : mv_TT := (ic_X2_init, fp_X2_init.map (fun x => x.2), [(7, 2), (15, 3), (23, 4), (35, 5), (45, 6), (55, 7), (63, 8), (74, 14), (85, 20)], [(67, [], 8, 5, id_8, 5, 489), (78, [], 14, 5, id_14, 5, 489), (89, [], 20, 3, id_20, 3, 72)], true, 31, 1917)
theorem nk_X2_init_1 : mv_nk RX2 tt_X2_init_1 [(63, 169, 170, 131), (74, 169, 170, 131), (85, 204, 205, 132)] = true := by decide +kernel
theorem ok_X2_init_1 : mv_ok2 RX2 tt_X2_init_1 164 157 158 167 = true := by decide +kernel
def id_24 : List (Nat × Nat) := [(24, 0), (25, 0), (26, 0), (27, 0), (28, 0), (28, 1), (28, 2), (28, 3), (28, 4), (28, 5), (29, 0), (30, 0), (30, 1), (30, 2), (30, 3), (30, 4), (31, 0), (32, 0), (33, 0), (34, 0), (35, 0), (36, 0), (37, 0), (38, 0), (39, 0), (40, 0), (41, 0), (42, 0), (43, 0), (44, 0), (45, 0), (46, 0)]
def tt_X2_init_24 : mv_TT := (ic_X2_init, fp_X2_init.map (fun x => x.2), [(7, 25), (15, 26), (23, 27), (35, 28), (45, 29), (55, 30), (63, 31), (74, 37), (85, 43)], [(67, [], 31, 5, id_31, 5, 489), (78, [], 37, 5, id_37, 5, 489), (89, [], 43, 3, id_43, 3, 72)], true, 31, 1917)
theorem nk_X2_init_24 : mv_nk RX2 tt_X2_init_24 [(63, 169, 170, 131), (74, 169, 170, 131), (85, 204, 205, 132)] = true := by decide +kernel
theorem ok_X2_init_24 : mv_ok2 RX2 tt_X2_init_24 164 157 158 167 = true := by decide +kernel
abbrev cX6_init : ByteArray := prog_8_method_1_code
def yX6_init : MethodName := ⟨RX6, "<init>", "()V"⟩
def ic_X6_init : List (Nat × Instr × Nat) := [(0, .aload_n 0, 1), (1, .invokespecial 3, 3), (4, .aload_n 0, 1), (5, .bipush 7, 2), (7, .bipush 10, 2), (9, .multianewarray 11 2, 4), (13, .putfield 13, 3), (16, .aload_n 0, 1), (17, .bipush 7, 2), (19, .bipush 60, 2), (21, .multianewarray 11 2, 4), (25, .putfield 16, 3), (28, .aload_n 0, 1), (29, .bipush 7, 2), (31, .newarray .int, 2), (33, .putfield 19, 3), (36, .aload_n 0, 1), (37, .bipush 7, 2), (39, .newarray .int, 2), (41, .putfield 23, 3)]
theorem dk_X6_init : mv_dk2 cX6_init ic_X6_init = true := by decide +kernel
def fp_X6_init : List (Nat × Nat × Nat × Nat) := [(338, 13, 2, 1), (339, 16, 3, 1), (340, 19, 4, 1), (341, 23, 5, 1)]
theorem fk_X6_init : mv_fk2 RX6 (RX6, TX6, 6) fp_X6_init = true := by decide +kernel
def id_47 : List (Nat × Nat) := [(47, 0), (48, 0), (48, 1), (48, 2), (48, 3), (48, 4), (48, 5), (48, 6), (48, 7), (49, 0), (49, 1), (49, 2), (49, 3), (49, 4), (49, 5), (49, 6), (49, 7), (50, 0), (51, 0)]
def tt_X6_init_47 : mv_TT := (ic_X6_init, fp_X6_init.map (fun x => x.2), [(9, 48), (21, 49), (31, 50), (39, 51)], [], true, 18, 518)
theorem nk_X6_init_47 : mv_nk RX6 tt_X6_init_47 [] = true := by decide +kernel
theorem ok_X6_init_47 : mv_ok2 RX6 tt_X6_init_47 333 157 158 334 = true := by decide +kernel
abbrev cX7_init : ByteArray := prog_9_method_1_code
def yX7_init : MethodName := ⟨RX7, "<init>", "()V"⟩
def ic_X7_init : List (Nat × Instr × Nat) := [(0, .aload_n 0, 1), (1, .invokespecial 7, 3), (4, .aload_n 0, 1), (5, .iconst (-1), 1), (6, .putfield 13, 3), (9, .aload_n 0, 1), (10, .new 1, 3), (13, .dup, 1), (14, .invokespecial 17, 3), (17, .putfield 18, 3), (20, .aload_n 0, 1), (21, .new 22, 3), (24, .dup, 1), (25, .invokespecial 24, 3), (28, .putfield 25, 3), (31, .aload_n 0, 1), (32, .sipush 400, 3), (35, .newarray .int, 2), (37, .putfield 29, 3), (40, .aload_n 0, 1), (41, .sipush 401, 3), (44, .newarray .int, 2), (46, .putfield 33, 3), (49, .aload_n 0, 1), (50, .sipush 401, 3), (53, .newarray .int, 2), (55, .putfield 36, 3)]
theorem dk_X7_init : mv_dk2 cX7_init ic_X7_init = true := by decide +kernel
def fp_X7_init : List (Nat × Nat × Nat × Nat) := [(369, 13, 2, 0), (371, 18, 3, 1), (373, 25, 4, 1), (378, 29, 8, 1), (379, 33, 9, 1), (380, 36, 10, 1)]
theorem fk_X7_init : mv_fk2 RX7 (RX7, TX7, 11) fp_X7_init = true := by decide +kernel
def id_52 : List (Nat × Nat) := [(52, 0), (53, 0), (54, 0), (55, 0), (56, 0), (57, 0), (58, 0), (59, 0), (60, 0), (61, 0), (62, 0), (63, 0), (64, 0), (65, 0)]
def tt_X7_init_52 : mv_TT := (ic_X7_init, fp_X7_init.map (fun x => x.2), [(10, 53), (21, 59), (35, 63), (44, 64), (53, 65)], [(14, [], 53, 5, id_53, 5, 489), (25, [], 59, 3, id_59, 3, 72)], true, 13, 1774)
theorem nk_X7_init_52 : mv_nk RX7 tt_X7_init_52 [(10, 361, 170, 131), (21, 363, 205, 132)] = true := by decide +kernel
theorem ok_X7_init_52 : mv_ok2 RX7 tt_X7_init_52 360 157 158 0 = true := by decide +kernel
abbrev cX9_init : ByteArray := prog_11_method_1_code
def yX9_init : MethodName := ⟨RX9, "<init>", "()V"⟩
def ic_X9_init : List (Nat × Instr × Nat) := [(0, .aload_n 0, 1), (1, .invokespecial 3, 3), (4, .aload_n 0, 1), (5, .bipush 60, 2), (7, .newarray .int, 2), (9, .putfield 9, 3), (12, .aload_n 0, 1), (13, .bipush 60, 2), (15, .newarray .int, 2), (17, .putfield 15, 3), (20, .aload_n 0, 1), (21, .bipush 60, 2), (23, .newarray .int, 2), (25, .putfield 18, 3), (28, .aload_n 0, 1), (29, .bipush 60, 2), (31, .newarray .int, 2), (33, .putfield 21, 3), (36, .aload_n 0, 1), (37, .bipush 60, 2), (39, .newarray .int, 2), (41, .putfield 24, 3)]
theorem dk_X9_init : mv_dk2 cX9_init ic_X9_init = true := by decide +kernel
def fp_X9_init : List (Nat × Nat × Nat × Nat) := [(414, 9, 1, 1), (416, 15, 2, 1), (418, 18, 3, 1), (420, 21, 4, 1), (421, 24, 5, 1)]
theorem fk_X9_init : mv_fk2 RX9 (RX9, TX9, 10) fp_X9_init = true := by decide +kernel
def id_66 : List (Nat × Nat) := [(66, 0), (67, 0), (68, 0), (69, 0), (70, 0), (71, 0)]
def tt_X9_init_66 : mv_TT := (ic_X9_init, fp_X9_init.map (fun x => x.2), [(7, 67), (15, 68), (23, 69), (31, 70), (39, 71)], [], true, 5, 300)
theorem nk_X9_init_66 : mv_nk RX9 tt_X9_init_66 [] = true := by decide +kernel
theorem ok_X9_init_66 : mv_ok2 RX9 tt_X9_init_66 409 157 158 0 = true := by decide +kernel
abbrev cX10_init : ByteArray := prog_12_method_1_code
def yX10_init : MethodName := ⟨RX10, "<init>", "(LMoveUp$Bench;LMoveUp$Row;)V"⟩
def ic_X10_init : List (Nat × Instr × Nat) := [(0, .aload_n 0, 1), (1, .invokespecial 3, 3), (4, .aload_n 0, 1), (5, .bipush 12, 2), (7, .newarray .int, 2), (9, .putfield 11, 3), (12, .aload_n 0, 1), (13, .aload_n 1, 1), (14, .putfield 17, 3), (17, .aload_n 0, 1), (18, .aload_n 2, 1), (19, .putfield 21, 3)]
theorem dk_X10_init : mv_dk2 cX10_init ic_X10_init = true := by decide +kernel
def fp_X10_init : List (Nat × Nat × Nat × Nat) := [(460, 11, 2, 1), (458, 17, 0, 1), (459, 21, 1, 1)]
theorem fk_X10_init : mv_fk2 RX10 (RX10, TX10, 3) fp_X10_init = true := by decide +kernel
def id_72 : List (Nat × Nat) := [(72, 0), (73, 0)]
def tt_X10_init_72 : mv_TT := (ic_X10_init, fp_X10_init.map (fun x => x.2), [(7, 73)], [], true, 1, 12)
theorem nk_X10_init_72 : mv_nk RX10 tt_X10_init_72 [] = true := by decide +kernel
theorem ok_X10_init_72 : mv_ok2 RX10 tt_X10_init_72 457 157 158 0 = true := by decide +kernel
abbrev cX8_init : ByteArray := prog_10_method_1_code
def yX8_init : MethodName := ⟨RX8, "<init>", "(LMoveUp$Bench;LMoveUp$Row;)V"⟩
def ic_X8_init : List (Nat × Instr × Nat) := [(0, .aload_n 0, 1), (1, .invokespecial 3, 3), (4, .aload_n 0, 1), (5, .bipush 10, 2), (7, .newarray .int, 2), (9, .putfield 9, 3), (12, .aload_n 0, 1), (13, .bipush 12, 2), (15, .newarray .int, 2), (17, .putfield 17, 3), (20, .aload_n 0, 1), (21, .bipush 10, 2), (23, .bipush 60, 2), (25, .multianewarray 20 2, 4), (29, .putfield 22, 3), (32, .aload_n 0, 1), (33, .bipush 10, 2), (35, .bipush 61, 2), (37, .multianewarray 20 2, 4), (41, .putfield 25, 3), (44, .aload_n 0, 1), (45, .bipush 10, 2), (47, .bipush 61, 2), (49, .multianewarray 20 2, 4), (53, .putfield 28, 3), (56, .aload_n 0, 1), (57, .bipush 10, 2), (59, .newarray .int, 2), (61, .putfield 31, 3), (64, .aload_n 0, 1), (65, .aload_n 1, 1), (66, .putfield 34, 3), (69, .aload_n 0, 1), (70, .aload_n 2, 1), (71, .putfield 38, 3)]
theorem dk_X8_init : mv_dk2 cX8_init ic_X8_init = true := by decide +kernel
def fp_X8_init : List (Nat × Nat × Nat × Nat) := [(475, 9, 0, 1), (480, 17, 3, 1), (481, 22, 4, 1), (482, 25, 5, 1), (483, 28, 6, 1), (484, 31, 7, 1), (478, 34, 1, 1), (479, 38, 2, 1)]
theorem fk_X8_init : mv_fk2 RX8 (RX8, TX8, 9) fp_X8_init = true := by decide +kernel
def id_74 : List (Nat × Nat) := [(74, 0), (75, 0), (76, 0), (77, 0), (77, 1), (77, 2), (77, 3), (77, 4), (77, 5), (77, 6), (77, 7), (77, 8), (77, 9), (77, 10), (78, 0), (78, 1), (78, 2), (78, 3), (78, 4), (78, 5), (78, 6), (78, 7), (78, 8), (78, 9), (78, 10), (79, 0), (79, 1), (79, 2), (79, 3), (79, 4), (79, 5), (79, 6), (79, 7), (79, 8), (79, 9), (79, 10), (80, 0)]
def tt_X8_init_74 : mv_TT := (ic_X8_init, fp_X8_init.map (fun x => x.2), [(7, 75), (15, 76), (25, 77), (37, 78), (49, 79), (59, 80)], [], true, 36, 1882)
theorem nk_X8_init_74 : mv_nk RX8 tt_X8_init_74 [] = true := by decide +kernel
theorem ok_X8_init_74 : mv_ok2 RX8 tt_X8_init_74 473 157 158 474 = true := by decide +kernel
abbrev cX4_init : ByteArray := prog_6_method_1_code
def yX4_init : MethodName := ⟨RX4, "<init>", "(LMoveUp$Bench;LMoveUp$Row;)V"⟩
def ic_X4_init : List (Nat × Instr × Nat) := [(0, .aload_n 0, 1), (1, .invokespecial 3, 3), (4, .aload_n 0, 1), (5, .bipush 60, 2), (7, .newarray .int, 2), (9, .putfield 9, 3), (12, .aload_n 0, 1), (13, .bipush 61, 2), (15, .newarray .int, 2), (17, .putfield 15, 3), (20, .aload_n 0, 1), (21, .bipush 61, 2), (23, .bipush 61, 2), (25, .multianewarray 18 2, 4), (29, .putfield 20, 3), (32, .aload_n 0, 1), (33, .bipush 61, 2), (35, .newarray .int, 2), (37, .putfield 23, 3), (40, .aload_n 0, 1), (41, .iconst 1, 1), (42, .putfield 26, 3), (45, .aload_n 0, 1), (46, .aload_n 1, 1), (47, .putfield 30, 3), (50, .aload_n 0, 1), (51, .aload_n 2, 1), (52, .putfield 34, 3)]
theorem dk_X4_init : mv_dk2 cX4_init ic_X4_init = true := by decide +kernel
def fp_X4_init : List (Nat × Nat × Nat × Nat) := [(514, 9, 2, 1), (515, 15, 3, 1), (516, 20, 4, 1), (517, 23, 5, 1), (518, 26, 6, 0), (512, 30, 0, 1), (513, 34, 1, 1)]
theorem fk_X4_init : mv_fk2 RX4 (RX4, TX4, 8) fp_X4_init = true := by decide +kernel
def id_81 : List (Nat × Nat) := [(81, 0), (82, 0), (83, 0), (84, 0), (84, 1), (84, 2), (84, 3), (84, 4), (84, 5), (84, 6), (84, 7), (84, 8), (84, 9), (84, 10), (84, 11), (84, 12), (84, 13), (84, 14), (84, 15), (84, 16), (84, 17), (84, 18), (84, 19), (84, 20), (84, 21), (84, 22), (84, 23), (84, 24), (84, 25), (84, 26), (84, 27), (84, 28), (84, 29), (84, 30), (84, 31), (84, 32), (84, 33), (84, 34), (84, 35), (84, 36), (84, 37), (84, 38), (84, 39), (84, 40), (84, 41), (84, 42), (84, 43), (84, 44), (84, 45), (84, 46), (84, 47), (84, 48), (84, 49), (84, 50), (84, 51), (84, 52), (84, 53), (84, 54), (84, 55), (84, 56), (84, 57), (84, 58), (84, 59), (84, 60), (84, 61), (85, 0)]
def tt_X4_init_81 : mv_TT := (ic_X4_init, fp_X4_init.map (fun x => x.2), [(7, 82), (15, 83), (25, 84), (35, 85)], [], true, 65, 3964)
theorem nk_X4_init_81 : mv_nk RX4 tt_X4_init_81 [] = true := by decide +kernel
theorem ok_X4_init_81 : mv_ok2 RX4 tt_X4_init_81 510 157 158 511 = true := by decide +kernel
abbrev cX1_init : ByteArray := prog_3_method_1_code
def yX1_init : MethodName := ⟨RX1, "<init>", "(LMoveUp$Bench;LMoveUp$Row;LMoveUp$Seats;)V"⟩
def ic_X1_init : List (Nat × Instr × Nat) := [(0, .aload_n 0, 1), (1, .invokespecial 3, 3), (4, .aload_n 0, 1), (5, .bipush 8, 2), (7, .newarray .int, 2), (9, .putfield 9, 3), (12, .aload_n 0, 1), (13, .sipush 256, 3), (16, .newarray .int, 2), (18, .putfield 15, 3), (21, .aload_n 0, 1), (22, .sipush 256, 3), (25, .newarray .int, 2), (27, .putfield 18, 3), (30, .aload_n 0, 1), (31, .aload_n 1, 1), (32, .putfield 21, 3), (35, .aload_n 0, 1), (36, .aload_n 2, 1), (37, .putfield 25, 3), (40, .aload_n 0, 1), (41, .aload_n 3, 1), (42, .putfield 29, 3)]
theorem dk_X1_init : mv_dk2 cX1_init ic_X1_init = true := by decide +kernel
def fp_X1_init : List (Nat × Nat × Nat × Nat) := [(546, 9, 3, 1), (547, 15, 4, 1), (548, 18, 5, 1), (543, 21, 0, 1), (544, 25, 1, 1), (545, 29, 2, 1)]
theorem fk_X1_init : mv_fk2 RX1 (RX1, TX1, 7) fp_X1_init = true := by decide +kernel
def id_86 : List (Nat × Nat) := [(86, 0), (87, 0), (88, 0), (89, 0)]
def tt_X1_init_86 : mv_TT := (ic_X1_init, fp_X1_init.map (fun x => x.2), [(7, 87), (16, 88), (25, 89)], [], true, 3, 520)
theorem nk_X1_init_86 : mv_nk RX1 tt_X1_init_86 [] = true := by decide +kernel
theorem ok_X1_init_86 : mv_ok2 RX1 tt_X1_init_86 542 157 158 0 = true := by decide +kernel
abbrev cX0_init : ByteArray := prog_2_method_1_code
def yX0_init : MethodName := ⟨RX0, "<init>", "(LMoveUp$Bench;LMoveUp$Row;LMoveUp$Seats;LMoveUp$Room;)V"⟩
def ic_X0_init : List (Nat × Instr × Nat) := [(0, .aload_n 0, 1), (1, .invokespecial 3, 3), (4, .aload_n 0, 1), (5, .iconst (-1), 1), (6, .putfield 9, 3), (9, .aload_n 0, 1), (10, .aload_n 1, 1), (11, .putfield 15, 3), (14, .aload_n 0, 1), (15, .aload_n 2, 1), (16, .putfield 19, 3), (19, .aload_n 0, 1), (20, .aload_n 3, 1), (21, .putfield 23, 3), (24, .aload_n 0, 1), (25, .aload 4, 2), (27, .putfield 27, 3)]
theorem dk_X0_init : mv_dk2 cX0_init ic_X0_init = true := by decide +kernel
def fp_X0_init : List (Nat × Nat × Nat × Nat) := [(573, 9, 1, 0), (575, 15, 2, 1), (576, 19, 3, 1), (577, 23, 4, 1), (578, 27, 5, 1)]
theorem fk_X0_init : mv_fk2 RX0 (RX0, TX0, 6) fp_X0_init = true := by decide +kernel
def id_90 : List (Nat × Nat) := [(90, 0)]
def tt_X0_init_90 : mv_TT := (ic_X0_init, fp_X0_init.map (fun x => x.2), [], [], false, 0, 0)
theorem nk_X0_init_90 : mv_nk RX0 tt_X0_init_90 [] = true := by decide +kernel
theorem ok_X0_init_90 : mv_ok2 RX0 tt_X0_init_90 570 157 158 0 = true := by decide +kernel
abbrev cX11_init : ByteArray := prog_1_method_1_code
def yX11_init : MethodName := ⟨RX11, "<init>", "()V"⟩
def ic_X11_init_0 : List (Nat × Instr × Nat) := [(0, .aload_n 0, 1), (1, .invokespecial 3, 3), (4, .aload_n 0, 1), (5, .new 9, 3), (8, .dup, 1), (9, .invokespecial 11, 3), (12, .putfield 12, 3), (15, .aload_n 0, 1), (16, .new 9, 3), (19, .dup, 1), (20, .invokespecial 11, 3), (23, .putfield 16, 3), (26, .aload_n 0, 1), (27, .new 19, 3), (30, .dup, 1), (31, .invokespecial 21, 3), (34, .putfield 22, 3), (37, .aload_n 0, 1), (38, .new 26, 3), (41, .dup, 1), (42, .invokespecial 28, 3), (45, .putfield 29, 3), (48, .aload_n 0, 1), (49, .new 33, 3), (52, .dup, 1), (53, .invokespecial 35, 3), (56, .putfield 36, 3), (59, .aload_n 0, 1), (60, .new 40, 3), (63, .dup, 1), (64, .aload_n 0, 1), (65, .getfield 12, 3), (68, .aload_n 0, 1), (69, .getfield 36, 3), (72, .invokespecial 42, 3), (75, .putfield 45, 3), (78, .aload_n 0, 1), (79, .new 49, 3), (82, .dup, 1), (83, .aload_n 0, 1)]
theorem dk_X11_init_0 : mv_dk2 cX11_init ic_X11_init_0 = true := by decide +kernel
def ic_X11_init_1 : List (Nat × Instr × Nat) := [(84, .getfield 12, 3), (87, .aload_n 0, 1), (88, .getfield 36, 3), (91, .invokespecial 51, 3), (94, .putfield 52, 3), (97, .aload_n 0, 1), (98, .new 56, 3), (101, .dup, 1), (102, .aload_n 0, 1), (103, .getfield 12, 3), (106, .aload_n 0, 1), (107, .getfield 36, 3), (110, .invokespecial 58, 3), (113, .putfield 59, 3), (116, .aload_n 0, 1), (117, .new 63, 3), (120, .dup, 1), (121, .aload_n 0, 1), (122, .getfield 12, 3), (125, .aload_n 0, 1), (126, .getfield 36, 3), (129, .aload_n 0, 1), (130, .getfield 45, 3), (133, .invokespecial 65, 3), (136, .putfield 68, 3), (139, .aload_n 0, 1), (140, .new 72, 3), (143, .dup, 1), (144, .aload_n 0, 1), (145, .getfield 12, 3), (148, .aload_n 0, 1), (149, .getfield 36, 3), (152, .aload_n 0, 1), (153, .getfield 45, 3), (156, .aload_n 0, 1), (157, .getfield 52, 3), (160, .invokespecial 74, 3), (163, .putfield 77, 3)]
theorem dk_X11_init_1 : mv_dk2 cX11_init ic_X11_init_1 = true := by decide +kernel
def ic_X11_init : List (Nat × Instr × Nat) := ic_X11_init_0 ++ (ic_X11_init_1)
theorem dk_X11_init : mv_dk2 cX11_init ic_X11_init = true := mv_dk2_app dk_X11_init_0 (dk_X11_init_1)
def fp_X11_init : List (Nat × Nat × Nat × Nat) := [(592, 12, 0, 1), (593, 16, 1, 1), (594, 22, 2, 1), (595, 29, 3, 1), (596, 36, 4, 1), (597, 45, 5, 1), (598, 52, 6, 1), (599, 59, 7, 1), (600, 68, 8, 1), (601, 77, 9, 1)]
theorem fk_X11_init : mv_fk2 RX11 (RX11, TX11, 11) fp_X11_init = true := by decide +kernel
def id_0 : List (Nat × Nat) := [(0, 0), (1, 0), (2, 0), (3, 0), (4, 0), (5, 0), (5, 1), (5, 2), (5, 3), (5, 4), (5, 5), (6, 0), (7, 0), (7, 1), (7, 2), (7, 3), (7, 4), (8, 0), (9, 0), (10, 0), (11, 0), (12, 0), (13, 0), (14, 0), (15, 0), (16, 0), (17, 0), (18, 0), (19, 0), (20, 0), (21, 0), (22, 0), (23, 0), (24, 0), (25, 0), (26, 0), (27, 0), (28, 0), (28, 1), (28, 2), (28, 3), (28, 4), (28, 5), (29, 0), (30, 0), (30, 1), (30, 2), (30, 3), (30, 4), (31, 0), (32, 0), (33, 0), (34, 0), (35, 0), (36, 0), (37, 0), (38, 0), (39, 0), (40, 0), (41, 0), (42, 0), (43, 0), (44, 0), (45, 0), (46, 0), (47, 0), (48, 0), (48, 1), (48, 2), (48, 3), (48, 4), (48, 5), (48, 6), (48, 7), (49, 0), (49, 1), (49, 2), (49, 3), (49, 4), (49, 5), (49, 6), (49, 7), (50, 0), (51, 0), (52, 0), (53, 0), (54, 0), (55, 0), (56, 0), (57, 0), (58, 0), (59, 0), (60, 0), (61, 0), (62, 0), (63, 0), (64, 0), (65, 0), (66, 0), (67, 0), (68, 0), (69, 0), (70, 0), (71, 0), (66, 0), (67, 0), (68, 0), (69, 0), (70, 0), (71, 0), (66, 0), (67, 0), (68, 0), (69, 0), (70, 0), (71, 0), (66, 0), (67, 0), (68, 0), (69, 0), (70, 0), (71, 0), (1, 0), (2, 0), (3, 0), (4, 0), (5, 0), (5, 1), (5, 2), (5, 3), (5, 4), (5, 5), (6, 0), (7, 0), (7, 1), (7, 2), (7, 3), (7, 4), (8, 0), (9, 0), (10, 0), (11, 0), (12, 0), (13, 0), (14, 0), (15, 0), (16, 0), (17, 0), (18, 0), (19, 0), (20, 0), (21, 0), (22, 0), (23, 0), (1, 0), (2, 0), (3, 0), (4, 0), (5, 0), (5, 1), (5, 2), (5, 3), (5, 4), (5, 5), (6, 0), (7, 0), (7, 1), (7, 2), (7, 3), (7, 4), (8, 0), (9, 0), (10, 0), (11, 0), (12, 0), (13, 0), (14, 0), (15, 0), (16, 0), (17, 0), (18, 0), (19, 0), (20, 0), (21, 0), (22, 0), (23, 0)]
def tt_X11_init_0 : mv_TT := (ic_X11_init, fp_X11_init.map (fun x => x.2), [(5, 1), (16, 24), (27, 47), (38, 52), (49, 66), (60, 72), (79, 74), (98, 81), (117, 86), (140, 90)], [(9, [], 1, 2, id_1, 31, 1917), (20, [], 24, 2, id_24, 31, 1917), (31, [], 47, 6, id_47, 18, 518), (42, [], 52, 7, id_52, 13, 1774), (53, [], 66, 9, id_66, 5, 300), (72, [], 66, 9, id_66, 5, 300), (91, [], 66, 9, id_66, 5, 300), (110, [], 66, 9, id_66, 5, 300), (133, [], 1, 2, id_1, 31, 1917), (160, [], 1, 2, id_1, 31, 1917)], false, 185, 11246)
theorem nk_X11_init_0 : mv_nk RX11 tt_X11_init_0 [(5, 159, 160, 130), (16, 159, 160, 130), (27, 328, 329, 135), (38, 355, 356, 136), (49, 404, 405, 137), (60, 452, 453, 138), (79, 468, 469, 139), (98, 505, 506, 140), (117, 537, 538, 141), (140, 565, 566, 142)] = true := by decide +kernel
theorem ok_X11_init_0 : mv_ok2 RX11 tt_X11_init_0 156 157 158 0 = true := by decide +kernel
abbrev cX12_init : ByteArray := prog_14_method_1_code
def yX12_init : MethodName := ⟨RX12, "<init>", "()V"⟩
def ic_X12_init_0 : List (Nat × Instr × Nat) := [(0, .aload_n 0, 1), (1, .invokespecial 1, 3), (4, .aload_n 0, 1), (5, .bipush 72, 2), (7, .newarray .int, 2), (9, .putfield 7, 3), (12, .aload_n 0, 1), (13, .sipush 432, 3), (16, .newarray .int, 2), (18, .putfield 13, 3), (21, .aload_n 0, 1), (22, .bipush 72, 2), (24, .newarray .int, 2), (26, .putfield 16, 3), (29, .aload_n 0, 1), (30, .bipush 61, 2), (32, .newarray .boolean, 2), (34, .putfield 19, 3), (37, .aload_n 0, 1), (38, .bipush 10, 2), (40, .newarray .int, 2), (42, .putfield 23, 3), (45, .aload_n 0, 1), (46, .bipush 10, 2), (48, .newarray .int, 2), (50, .putfield 26, 3), (53, .aload_n 0, 1), (54, .bipush 10, 2), (56, .newarray .int, 2), (58, .putfield 29, 3), (61, .aload_n 0, 1), (62, .bipush 10, 2), (64, .newarray .int, 2), (66, .putfield 32, 3), (69, .aload_n 0, 1), (70, .bipush 10, 2), (72, .newarray .int, 2), (74, .putfield 35, 3), (77, .aload_n 0, 1), (78, .sipush 600, 3)]
theorem dk_X12_init_0 : mv_dk2 cX12_init ic_X12_init_0 = true := by decide +kernel
def ic_X12_init_1 : List (Nat × Instr × Nat) := [(81, .newarray .int, 2), (83, .putfield 38, 3), (86, .aload_n 0, 1), (87, .sipush 400, 3), (90, .newarray .int, 2), (92, .putfield 41, 3), (95, .aload_n 0, 1), (96, .bipush 104, 2), (98, .newarray .int, 2), (100, .dup, 1), (101, .iconst 0, 1), (102, .bipush 32, 2), (104, .iastore, 1), (105, .dup, 1), (106, .iconst 1, 1), (107, .bipush 115, 2), (109, .iastore, 1), (110, .dup, 1), (111, .iconst 2, 1), (112, .bipush 105, 2), (114, .iastore, 1), (115, .dup, 1), (116, .iconst 3, 1), (117, .bipush 116, 2), (119, .iastore, 1), (120, .dup, 1), (121, .iconst 4, 1), (122, .bipush 32, 2), (124, .iastore, 1), (125, .dup, 1), (126, .iconst 5, 1), (127, .bipush 99, 2), (129, .iastore, 1), (130, .dup, 1), (131, .bipush 6, 2), (133, .bipush 111, 2), (135, .iastore, 1), (136, .dup, 1), (137, .bipush 7, 2), (139, .bipush 115, 2)]
theorem dk_X12_init_1 : mv_dk2 cX12_init ic_X12_init_1 = true := by decide +kernel
def ic_X12_init_2 : List (Nat × Instr × Nat) := [(141, .iastore, 1), (142, .dup, 1), (143, .bipush 8, 2), (145, .bipush 116, 2), (147, .iastore, 1), (148, .dup, 1), (149, .bipush 9, 2), (151, .bipush 32, 2), (153, .iastore, 1), (154, .dup, 1), (155, .bipush 10, 2), (157, .bipush 119, 2), (159, .iastore, 1), (160, .dup, 1), (161, .bipush 11, 2), (163, .bipush 104, 2), (165, .iastore, 1), (166, .dup, 1), (167, .bipush 12, 2), (169, .bipush 101, 2), (171, .iastore, 1), (172, .dup, 1), (173, .bipush 13, 2), (175, .bipush 110, 2), (177, .iastore, 1), (178, .dup, 1), (179, .bipush 14, 2), (181, .bipush 32, 2), (183, .iastore, 1), (184, .dup, 1), (185, .bipush 15, 2), (187, .bipush 111, 2), (189, .iastore, 1), (190, .dup, 1), (191, .bipush 16, 2), (193, .bipush 114, 2), (195, .iastore, 1), (196, .dup, 1), (197, .bipush 17, 2), (199, .bipush 32, 2)]
theorem dk_X12_init_2 : mv_dk2 cX12_init ic_X12_init_2 = true := by decide +kernel
def ic_X12_init_3 : List (Nat × Instr × Nat) := [(201, .iastore, 1), (202, .dup, 1), (203, .bipush 18, 2), (205, .bipush 97, 2), (207, .iastore, 1), (208, .dup, 1), (209, .bipush 19, 2), (211, .bipush 110, 2), (213, .iastore, 1), (214, .dup, 1), (215, .bipush 20, 2), (217, .bipush 100, 2), (219, .iastore, 1), (220, .dup, 1), (221, .bipush 21, 2), (223, .bipush 32, 2), (225, .iastore, 1), (226, .dup, 1), (227, .bipush 22, 2), (229, .bipush 110, 2), (231, .iastore, 1), (232, .dup, 1), (233, .bipush 23, 2), (235, .bipush 111, 2), (237, .iastore, 1), (238, .dup, 1), (239, .bipush 24, 2), (241, .bipush 116, 2), (243, .iastore, 1), (244, .dup, 1), (245, .bipush 25, 2), (247, .bipush 32, 2), (249, .iastore, 1), (250, .dup, 1), (251, .bipush 26, 2), (253, .bipush 119, 2), (255, .iastore, 1), (256, .dup, 1), (257, .bipush 27, 2), (259, .bipush 105, 2)]
theorem dk_X12_init_3 : mv_dk2 cX12_init ic_X12_init_3 = true := by decide +kernel
def ic_X12_init_4 : List (Nat × Instr × Nat) := [(261, .iastore, 1), (262, .dup, 1), (263, .bipush 28, 2), (265, .bipush 100, 2), (267, .iastore, 1), (268, .dup, 1), (269, .bipush 29, 2), (271, .bipush 101, 2), (273, .iastore, 1), (274, .dup, 1), (275, .bipush 30, 2), (277, .bipush 32, 2), (279, .iastore, 1), (280, .dup, 1), (281, .bipush 31, 2), (283, .bipush 107, 2), (285, .iastore, 1), (286, .dup, 1), (287, .bipush 32, 2), (289, .bipush 101, 2), (291, .iastore, 1), (292, .dup, 1), (293, .bipush 33, 2), (295, .bipush 101, 2), (297, .iastore, 1), (298, .dup, 1), (299, .bipush 34, 2), (301, .bipush 112, 2), (303, .iastore, 1), (304, .dup, 1), (305, .bipush 35, 2), (307, .bipush 32, 2), (309, .iastore, 1), (310, .dup, 1), (311, .bipush 36, 2), (313, .bipush 98, 2), (315, .iastore, 1), (316, .dup, 1), (317, .bipush 37, 2), (319, .bipush 97, 2)]
theorem dk_X12_init_4 : mv_dk2 cX12_init ic_X12_init_4 = true := by decide +kernel
def ic_X12_init_5 : List (Nat × Instr × Nat) := [(321, .iastore, 1), (322, .dup, 1), (323, .bipush 38, 2), (325, .bipush 103, 2), (327, .iastore, 1), (328, .dup, 1), (329, .bipush 39, 2), (331, .bipush 32, 2), (333, .iastore, 1), (334, .dup, 1), (335, .bipush 40, 2), (337, .bipush 103, 2), (339, .iastore, 1), (340, .dup, 1), (341, .bipush 41, 2), (343, .bipush 114, 2), (345, .iastore, 1), (346, .dup, 1), (347, .bipush 42, 2), (349, .bipush 111, 2), (351, .iastore, 1), (352, .dup, 1), (353, .bipush 43, 2), (355, .bipush 117, 2), (357, .iastore, 1), (358, .dup, 1), (359, .bipush 44, 2), (361, .bipush 112, 2), (363, .iastore, 1), (364, .dup, 1), (365, .bipush 45, 2), (367, .bipush 32, 2), (369, .iastore, 1), (370, .dup, 1), (371, .bipush 46, 2), (373, .bipush 104, 2), (375, .iastore, 1), (376, .dup, 1), (377, .bipush 47, 2), (379, .bipush 111, 2)]
theorem dk_X12_init_5 : mv_dk2 cX12_init ic_X12_init_5 = true := by decide +kernel
def ic_X12_init_6 : List (Nat × Instr × Nat) := [(381, .iastore, 1), (382, .dup, 1), (383, .bipush 48, 2), (385, .bipush 117, 2), (387, .iastore, 1), (388, .dup, 1), (389, .bipush 49, 2), (391, .bipush 114, 2), (393, .iastore, 1), (394, .dup, 1), (395, .bipush 50, 2), (397, .bipush 32, 2), (399, .iastore, 1), (400, .dup, 1), (401, .bipush 51, 2), (403, .bipush 97, 2), (405, .iastore, 1), (406, .dup, 1), (407, .bipush 52, 2), (409, .bipush 116, 2), (411, .iastore, 1), (412, .dup, 1), (413, .bipush 53, 2), (415, .bipush 32, 2), (417, .iastore, 1), (418, .dup, 1), (419, .bipush 54, 2), (421, .bipush 108, 2), (423, .iastore, 1), (424, .dup, 1), (425, .bipush 55, 2), (427, .bipush 101, 2), (429, .iastore, 1), (430, .dup, 1), (431, .bipush 56, 2), (433, .bipush 102, 2), (435, .iastore, 1), (436, .dup, 1), (437, .bipush 57, 2), (439, .bipush 116, 2)]
theorem dk_X12_init_6 : mv_dk2 cX12_init ic_X12_init_6 = true := by decide +kernel
def ic_X12_init_7 : List (Nat × Instr × Nat) := [(441, .iastore, 1), (442, .dup, 1), (443, .bipush 58, 2), (445, .bipush 32, 2), (447, .iastore, 1), (448, .dup, 1), (449, .bipush 59, 2), (451, .bipush 114, 2), (453, .iastore, 1), (454, .dup, 1), (455, .bipush 60, 2), (457, .bipush 105, 2), (459, .iastore, 1), (460, .dup, 1), (461, .bipush 61, 2), (463, .bipush 103, 2), (465, .iastore, 1), (466, .dup, 1), (467, .bipush 62, 2), (469, .bipush 104, 2), (471, .iastore, 1), (472, .dup, 1), (473, .bipush 63, 2), (475, .bipush 116, 2), (477, .iastore, 1), (478, .dup, 1), (479, .bipush 64, 2), (481, .bipush 32, 2), (483, .iastore, 1), (484, .dup, 1), (485, .bipush 65, 2), (487, .bipush 119, 2), (489, .iastore, 1), (490, .dup, 1), (491, .bipush 66, 2), (493, .bipush 97, 2), (495, .iastore, 1), (496, .dup, 1), (497, .bipush 67, 2), (499, .bipush 114, 2)]
theorem dk_X12_init_7 : mv_dk2 cX12_init ic_X12_init_7 = true := by decide +kernel
def ic_X12_init_8 : List (Nat × Instr × Nat) := [(501, .iastore, 1), (502, .dup, 1), (503, .bipush 68, 2), (505, .bipush 109, 2), (507, .iastore, 1), (508, .dup, 1), (509, .bipush 69, 2), (511, .bipush 32, 2), (513, .iastore, 1), (514, .dup, 1), (515, .bipush 70, 2), (517, .bipush 102, 2), (519, .iastore, 1), (520, .dup, 1), (521, .bipush 71, 2), (523, .bipush 114, 2), (525, .iastore, 1), (526, .dup, 1), (527, .bipush 72, 2), (529, .bipush 105, 2), (531, .iastore, 1), (532, .dup, 1), (533, .bipush 73, 2), (535, .bipush 101, 2), (537, .iastore, 1), (538, .dup, 1), (539, .bipush 74, 2), (541, .bipush 110, 2), (543, .iastore, 1), (544, .dup, 1), (545, .bipush 75, 2), (547, .bipush 100, 2), (549, .iastore, 1), (550, .dup, 1), (551, .bipush 76, 2), (553, .bipush 115, 2), (555, .iastore, 1), (556, .dup, 1), (557, .bipush 77, 2), (559, .bipush 32, 2)]
theorem dk_X12_init_8 : mv_dk2 cX12_init ic_X12_init_8 = true := by decide +kernel
def ic_X12_init_9 : List (Nat × Instr × Nat) := [(561, .iastore, 1), (562, .dup, 1), (563, .bipush 78, 2), (565, .bipush 115, 2), (567, .iastore, 1), (568, .dup, 1), (569, .bipush 79, 2), (571, .bipush 105, 2), (573, .iastore, 1), (574, .dup, 1), (575, .bipush 80, 2), (577, .bipush 116, 2), (579, .iastore, 1), (580, .dup, 1), (581, .bipush 81, 2), (583, .bipush 116, 2), (585, .iastore, 1), (586, .dup, 1), (587, .bipush 82, 2), (589, .bipush 105, 2), (591, .iastore, 1), (592, .dup, 1), (593, .bipush 83, 2), (595, .bipush 110, 2), (597, .iastore, 1), (598, .dup, 1), (599, .bipush 84, 2), (601, .bipush 103, 2), (603, .iastore, 1), (604, .dup, 1), (605, .bipush 85, 2), (607, .bipush 32, 2), (609, .iastore, 1), (610, .dup, 1), (611, .bipush 86, 2), (613, .bipush 109, 2), (615, .iastore, 1), (616, .dup, 1), (617, .bipush 87, 2), (619, .bipush 111, 2)]
theorem dk_X12_init_9 : mv_dk2 cX12_init ic_X12_init_9 = true := by decide +kernel
def ic_X12_init_10 : List (Nat × Instr × Nat) := [(621, .iastore, 1), (622, .dup, 1), (623, .bipush 88, 2), (625, .bipush 118, 2), (627, .iastore, 1), (628, .dup, 1), (629, .bipush 89, 2), (631, .bipush 101, 2), (633, .iastore, 1), (634, .dup, 1), (635, .bipush 90, 2), (637, .bipush 100, 2), (639, .iastore, 1), (640, .dup, 1), (641, .bipush 91, 2), (643, .bipush 32, 2), (645, .iastore, 1), (646, .dup, 1), (647, .bipush 92, 2), (649, .bipush 99, 2), (651, .iastore, 1), (652, .dup, 1), (653, .bipush 93, 2), (655, .bipush 111, 2), (657, .iastore, 1), (658, .dup, 1), (659, .bipush 94, 2), (661, .bipush 109, 2), (663, .iastore, 1), (664, .dup, 1), (665, .bipush 95, 2), (667, .bipush 101, 2), (669, .iastore, 1), (670, .dup, 1), (671, .bipush 96, 2), (673, .bipush 32, 2), (675, .iastore, 1), (676, .dup, 1), (677, .bipush 97, 2), (679, .bipush 103, 2)]
theorem dk_X12_init_10 : mv_dk2 cX12_init ic_X12_init_10 = true := by decide +kernel
def ic_X12_init_11 : List (Nat × Instr × Nat) := [(681, .iastore, 1), (682, .dup, 1), (683, .bipush 98, 2), (685, .bipush 111, 2), (687, .iastore, 1), (688, .dup, 1), (689, .bipush 99, 2), (691, .bipush 32, 2), (693, .iastore, 1), (694, .dup, 1), (695, .bipush 100, 2), (697, .bipush 98, 2), (699, .iastore, 1), (700, .dup, 1), (701, .bipush 101, 2), (703, .bipush 101, 2), (705, .iastore, 1), (706, .dup, 1), (707, .bipush 102, 2), (709, .bipush 103, 2), (711, .iastore, 1), (712, .dup, 1), (713, .bipush 103, 2), (715, .bipush 32, 2), (717, .iastore, 1), (718, .putfield 44, 3), (721, .aload_n 0, 1), (722, .iconst 2, 1), (723, .newarray .int, 2), (725, .putfield 47, 3), (728, .aload_n 0, 1), (729, .bipush 48, 2), (731, .newarray .int, 2), (733, .putfield 50, 3), (736, .aload_n 0, 1), (737, .bipush 48, 2), (739, .newarray .int, 2), (741, .putfield 53, 3), (744, .aload_n 0, 1), (745, .bipush 48, 2)]
theorem dk_X12_init_11 : mv_dk2 cX12_init ic_X12_init_11 = true := by decide +kernel
def ic_X12_init_12 : List (Nat × Instr × Nat) := [(747, .newarray .int, 2), (749, .putfield 56, 3), (752, .aload_n 0, 1), (753, .sipush 1200, 3), (756, .newarray .int, 2), (758, .putfield 59, 3), (761, .aload_n 0, 1), (762, .sipush 1200, 3), (765, .newarray .int, 2), (767, .putfield 62, 3), (770, .aload_n 0, 1), (771, .bipush 40, 2), (773, .newarray .int, 2), (775, .putfield 65, 3), (778, .aload_n 0, 1), (779, .iconst (-1), 1), (780, .putfield 68, 3), (783, .aload_n 0, 1), (784, .sipush 144, 3), (787, .newarray .int, 2), (789, .putfield 72, 3), (792, .aload_n 0, 1), (793, .bipush 12, 2), (795, .newarray .int, 2), (797, .putfield 75, 3), (800, .aload_n 0, 1), (801, .sipush 420, 3), (804, .newarray .int, 2), (806, .putfield 78, 3), (809, .aload_n 0, 1), (810, .bipush 64, 2), (812, .newarray .int, 2), (814, .putfield 81, 3), (817, .aload_n 0, 1), (818, .bipush 64, 2), (820, .newarray .int, 2), (822, .putfield 84, 3), (825, .aload_n 0, 1), (826, .bipush 64, 2), (828, .newarray .int, 2)]
theorem dk_X12_init_12 : mv_dk2 cX12_init ic_X12_init_12 = true := by decide +kernel
def ic_X12_init_13 : List (Nat × Instr × Nat) := [(830, .putfield 87, 3), (833, .aload_n 0, 1), (834, .bipush 64, 2), (836, .newarray .int, 2), (838, .putfield 90, 3), (841, .aload_n 0, 1), (842, .bipush 64, 2), (844, .newarray .int, 2), (846, .putfield 93, 3), (849, .aload_n 0, 1), (850, .bipush 11, 2), (852, .newarray .int, 2), (854, .putfield 96, 3), (857, .aload_n 0, 1), (858, .bipush 11, 2), (860, .newarray .int, 2), (862, .putfield 99, 3), (865, .aload_n 0, 1), (866, .sipush 660, 3), (869, .newarray .int, 2), (871, .putfield 102, 3), (874, .aload_n 0, 1), (875, .bipush 11, 2), (877, .newarray .int, 2), (879, .putfield 105, 3), (882, .aload_n 0, 1), (883, .sipush 3844, 3), (886, .newarray .int, 2), (888, .putfield 108, 3), (891, .aload_n 0, 1), (892, .sipush 3844, 3), (895, .newarray .int, 2), (897, .putfield 111, 3), (900, .aload_n 0, 1), (901, .sipush 3844, 3), (904, .newarray .int, 2), (906, .putfield 114, 3), (909, .aload_n 0, 1), (910, .bipush 61, 2), (912, .newarray .int, 2)]
theorem dk_X12_init_13 : mv_dk2 cX12_init ic_X12_init_13 = true := by decide +kernel
def ic_X12_init_14 : List (Nat × Instr × Nat) := [(914, .putfield 117, 3), (917, .aload_n 0, 1), (918, .sipush 1024, 3), (921, .newarray .int, 2), (923, .putfield 120, 3), (926, .aload_n 0, 1), (927, .sipush 2700, 3), (930, .newarray .int, 2), (932, .putfield 123, 3)]
theorem dk_X12_init_14 : mv_dk2 cX12_init ic_X12_init_14 = true := by decide +kernel
def ic_X12_init : List (Nat × Instr × Nat) := ic_X12_init_0 ++ (ic_X12_init_1 ++ (ic_X12_init_2 ++ (ic_X12_init_3 ++ (ic_X12_init_4 ++ (ic_X12_init_5 ++ (ic_X12_init_6 ++ (ic_X12_init_7 ++ (ic_X12_init_8 ++ (ic_X12_init_9 ++ (ic_X12_init_10 ++ (ic_X12_init_11 ++ (ic_X12_init_12 ++ (ic_X12_init_13 ++ (ic_X12_init_14))))))))))))))
theorem dk_X12_init : mv_dk2 cX12_init ic_X12_init = true := mv_dk2_app dk_X12_init_0 (mv_dk2_app dk_X12_init_1 (mv_dk2_app dk_X12_init_2 (mv_dk2_app dk_X12_init_3 (mv_dk2_app dk_X12_init_4 (mv_dk2_app dk_X12_init_5 (mv_dk2_app dk_X12_init_6 (mv_dk2_app dk_X12_init_7 (mv_dk2_app dk_X12_init_8 (mv_dk2_app dk_X12_init_9 (mv_dk2_app dk_X12_init_10 (mv_dk2_app dk_X12_init_11 (mv_dk2_app dk_X12_init_12 (mv_dk2_app dk_X12_init_13 (dk_X12_init_14))))))))))))))
def fp_X12_init : List (Nat × Nat × Nat × Nat) := [(1313, 7, 1, 1), (1314, 13, 2, 1), (1316, 16, 4, 1), (1319, 19, 7, 1), (1321, 23, 9, 1), (1322, 26, 10, 1), (1323, 29, 11, 1), (1324, 32, 12, 1), (1325, 35, 13, 1), (1326, 38, 14, 1), (1327, 41, 15, 1), (1333, 44, 21, 1), (1334, 47, 22, 1), (1335, 50, 23, 1), (1336, 53, 24, 1), (1337, 56, 25, 1), (1338, 59, 26, 1), (1339, 62, 27, 1), (1343, 65, 31, 1), (1348, 68, 36, 0), (1350, 72, 38, 1), (1351, 75, 39, 1), (1352, 78, 40, 1), (1353, 81, 41, 1), (1354, 84, 42, 1), (1355, 87, 43, 1), (1356, 90, 44, 1), (1357, 93, 45, 1), (1365, 96, 53, 1), (1366, 99, 54, 1), (1367, 102, 55, 1), (1368, 105, 56, 1), (1370, 108, 58, 1), (1371, 111, 59, 1), (1372, 114, 60, 1), (1376, 117, 64, 1), (1377, 120, 65, 1), (1382, 123, 70, 1)]
theorem fk_X12_init : mv_fk2 RX12 (RX12, TX12, 71) fp_X12_init = true := by decide +kernel
def id_100 : List (Nat × Nat) := [(100, 0), (101, 0), (102, 0), (103, 0), (104, 0), (105, 0), (106, 0), (107, 0), (108, 0), (109, 0), (110, 0), (111, 0), (112, 0), (113, 0), (114, 0), (115, 0), (116, 0), (117, 0), (118, 0), (119, 0), (120, 0), (121, 0), (122, 0), (123, 0), (124, 0), (125, 0), (126, 0), (127, 0), (128, 0), (129, 0), (130, 0), (131, 0), (132, 0), (133, 0), (134, 0), (135, 0), (136, 0), (137, 0)]
def tt_X12_init_100 : mv_TT := (ic_X12_init, fp_X12_init.map (fun x => x.2), [(7, 101), (16, 102), (24, 103), (32, 104), (40, 105), (48, 106), (56, 107), (64, 108), (72, 109), (81, 110), (90, 111), (98, 112), (723, 113), (731, 114), (739, 115), (747, 116), (756, 117), (765, 118), (773, 119), (787, 120), (795, 121), (804, 122), (812, 123), (820, 124), (828, 125), (836, 126), (844, 127), (852, 128), (860, 129), (869, 130), (877, 131), (886, 132), (895, 133), (904, 134), (912, 135), (921, 136), (930, 137)], [], true, 37, 21283)
theorem nk_X12_init_100 : mv_nk RX12 tt_X12_init_100 [] = true := by decide +kernel
theorem ok_X12_init_100 : mv_ok2 RX12 tt_X12_init_100 1311 157 158 0 = true := by decide +kernel
end
