/-! An interpreter of the methods' bytecode over a fixed world of cells, in Int: its answers are shown once to be the machine's (part 02). -/
abbrev mv_A : Type := Int ⊕ (Nat × Nat)
abbrev mv_G : Type := Nat → Nat → Nat → Int
/-- a cell: an array (kind: 0 int, 1 boolean, 2 byte, 3 rows of ints; length; length of a row), or an object (class, its fields: none a number, some k the cell k) -/
abbrev mv_S : Type := (Nat × Nat × Nat) ⊕ (Nat × List (Option Nat))
abbrev mv_L : Type := List (Option mv_A)
abbrev mv_F : Type := List mv_A → mv_G → Option (Int × mv_G)
abbrev mv_O : Type := (Int × mv_G) ⊕ (Nat × mv_L × mv_G)
/-- code; fields (class, slot; 0 a number, 1 a boolean, 2 never written); constants; statics; calls (how many arguments, receiver's class, no answer, what it does); cuts (which locals are kept); the bounds of the answer -/
abbrev mv_M : Type := List (Nat × Instr × Nat) × List (Nat × Nat × Nat × Nat) × List (Nat × mv_A) × List (Nat × mv_A) × List (Nat × Nat × Option Nat × Bool × mv_F) × List (Nat × List Bool) × Option (Int × Int)
def mv_lk {α : Type} : List (Nat × α) → Nat → Option α
  | [], _ => none
  | (k, v) :: l, x => bif Nat.beq k x then some v else mv_lk l x
def mv_w (x : Int) : Int := Int.bmod x 4294967296
def mv_and (x y : Int) : Int := (Int32.ofInt x &&& Int32.ofInt y).toInt
def mv_or (x y : Int) : Int := (Int32.ofInt x ||| Int32.ofInt y).toInt
def mv_xor (x y : Int) : Int := (Int32.ofInt x ^^^ Int32.ofInt y).toInt
def mv_shl (x y : Int) : Int := (Int32.ofInt x <<< (Int32.ofInt y &&& 31)).toInt
def mv_shr (x y : Int) : Int := (Int32.ofInt x >>> (Int32.ofInt y &&& 31)).toInt
def mv_ushr (x y : Int) : Int := (((Int32.ofInt x).toUInt32 >>> ((Int32.ofInt y).toUInt32 &&& Int32.toUInt32 31)).toInt32).toInt
def mv_i2c (x : Int) : Int := (((Int32.ofInt x).toUInt32 % 65536).toInt32).toInt
def mv_i2b (x : Int) : Int := ((Int32.ofInt x).toInt8.toInt32).toInt
def mv_up (G : mv_G) (k i j : Nat) (v : Int) : mv_G := fun a b c => if a = k ∧ b = i ∧ c = j then v else G a b c
def mv_cmp (c : ClassFile.Cond) (x y : Int) : Bool := match c with
  | .eq => decide (x = y)
  | .ne => decide (¬ x = y)
  | .lt => decide (x < y)
  | .ge => decide (¬ x < y)
  | .gt => decide (y < x)
  | .le => decide (¬ y < x)
def mv_if (c : ClassFile.Cond) (x y : Int) (a b : Option mv_O) : Option mv_O := match c with
  | .eq => if x = y then a else b
  | .ne => if x = y then b else a
  | .lt => if x < y then a else b
  | .ge => if x < y then b else a
  | .gt => if y < x then a else b
  | .le => if y < x then b else a
def mv_op (i : Instr) (st : List mv_A) : Option (List mv_A) := match i with
  | .iconst n => some (.inl n :: st)
  | .bipush n => some (.inl n :: st)
  | .sipush n => some (.inl n :: st)
  | .iadd => match st with | .inl y :: .inl x :: r => some (.inl (mv_w (x + y)) :: r) | _ => none
  | .isub => match st with | .inl y :: .inl x :: r => some (.inl (mv_w (x - y)) :: r) | _ => none
  | .imul => match st with | .inl y :: .inl x :: r => some (.inl (mv_w (x * y)) :: r) | _ => none
  | .iand => match st with | .inl y :: .inl x :: r => some (.inl (mv_and x y) :: r) | _ => none
  | .ior => match st with | .inl y :: .inl x :: r => some (.inl (mv_or x y) :: r) | _ => none
  | .ixor => match st with | .inl y :: .inl x :: r => some (.inl (mv_xor x y) :: r) | _ => none
  | .ishl => match st with | .inl y :: .inl x :: r => some (.inl (mv_shl x y) :: r) | _ => none
  | .ishr => match st with | .inl y :: .inl x :: r => some (.inl (mv_shr x y) :: r) | _ => none
  | .iushr => match st with | .inl y :: .inl x :: r => some (.inl (mv_ushr x y) :: r) | _ => none
  | .ineg => match st with | .inl x :: r => some (.inl (mv_w (-x)) :: r) | _ => none
  | .i2c => match st with | .inl x :: r => some (.inl (mv_i2c x) :: r) | _ => none
  | .i2b => match st with | .inl x :: r => some (.inl (mv_i2b x) :: r) | _ => none
  | .dup => match st with | v :: r => some (v :: v :: r) | _ => none
  | .dup2 => match st with | v :: w :: r => some (v :: w :: v :: w :: r) | _ => none
  | .pop => match st with | _ :: r => some r | _ => none
  | _ => none
abbrev mv_K : Type := Nat → mv_L → List mv_A → mv_G → Option mv_O
def mv_tg (pc : Nat) (off : Int) : Nat := ((pc : Int) + off).toNat
def mv_ldi (K : mv_K) (ls : mv_L) (k : Nat) (pc : Nat) (st : List mv_A) (G : mv_G) : Option mv_O := match ls[k]? with
  | some (some (.inl x)) => K pc ls (.inl x :: st) G
  | _ => none
/-- references that nobody follows -/
def mv_no (k : Nat) : Bool := Nat.ble 990 k && !Nat.ble 1000 k
def mv_lda (K : mv_K) (ls : mv_L) (k : Nat) (pc : Nat) (st : List mv_A) (G : mv_G) : Option mv_O := match ls[k]? with
  | some (some (.inr q)) => bif mv_no q.1 then none else K pc ls (.inr q :: st) G
  | _ => none
def mv_sti (K : mv_K) (ls : mv_L) (k : Nat) (pc : Nat) (st : List mv_A) (G : mv_G) : Option mv_O := match ls[k]?, st with
  | some _, .inl x :: r => K pc (ls.set k (some (.inl x))) r G
  | _, _ => none
def mv_sta (K : mv_K) (ls : mv_L) (k : Nat) (pc : Nat) (st : List mv_A) (G : mv_G) : Option mv_O := match ls[k]?, st with
  | some _, .inr q :: r => bif mv_no q.1 then none else K pc (ls.set k (some (.inr q))) r G
  | _, _ => none
def mv_lks (K : Nat → Option mv_O) (pc : Nat) (x dflt : Int) : List (Int × Int) → Option mv_O
  | [] => K (mv_tg pc dflt)
  | (a, t) :: l => if x = a then K (mv_tg pc t) else mv_lks K pc x dflt l
def mv_tbs (K : Nat → Option mv_O) (pc : Nat) (x dflt : Int) : Int → List Int → Option mv_O
  | _, [] => K (mv_tg pc dflt)
  | a, t :: l => if x = a then K (mv_tg pc t) else mv_tbs K pc x dflt (a + 1) l
def mv_inb (x : Int) (n : Nat) : Prop := 0 ≤ x ∧ x < n
def mv_ck (x : Int) (n : Nat) (a : Option mv_O) : Option mv_O := if 0 ≤ x ∧ x < n then a else none
def mv_cn (o : Option (Int × mv_G)) (k : Int → mv_G → Option mv_O) : Option mv_O := match o with
  | some (r, G) => k r G
  | none => none
def mv_call (K : mv_K) (n : Nat) (rc : Option Nat) (vo : Bool) (f : mv_F) (sh : Nat → Option mv_S) (pc : Nat) (ls : mv_L) (st : List mv_A) (G : mv_G) : Option mv_O :=
  bif Nat.ble n st.length && Nat.ble (st.length - n) 8 && (match rc, (st.take n).reverse with
    | none, _ => true
    | some ci, .inr (k, 0) :: _ => (match sh k with | some (.inr (ci', _)) => Nat.beq ci ci' | _ => false)
    | _, _ => false) then
    mv_cn (f (st.take n).reverse G) fun r G' => K (pc + 3) ls (bif vo then st.drop n else .inl r :: st.drop n) G'
  else none
def mv_rd (rc : mv_G) (G : mv_G) : mv_G := fun k i j => bif Nat.ble 1000 k then rc k i j else G k i j
def mv_step (rc : mv_G) (M : mv_M) (sh : Nat → Option mv_S) (K : mv_K) (pc : Nat) (ls : mv_L) (st : List mv_A) (G : mv_G) : Option mv_O :=
  match mv_lk M.1 pc with
  | none => none
  | some (i, len) => match i with
    | .iload k => mv_ldi K ls k (pc + len) st G
    | .aload k => mv_lda K ls k (pc + len) st G
    | .iload_n k => mv_ldi K ls k.val (pc + len) st G
    | .aload_n k => mv_lda K ls k.val (pc + len) st G
    | .istore k => mv_sti K ls k (pc + len) st G
    | .astore k => mv_sta K ls k (pc + len) st G
    | .istore_n k => mv_sti K ls k.val (pc + len) st G
    | .astore_n k => mv_sta K ls k.val (pc + len) st G
    | .iinc k n => match ls[k]? with
      | some (some (.inl x)) => K (pc + len) (ls.set k (some (.inl (mv_w (x + n))))) st G
      | _ => none
    | .ldc x => match mv_lk M.2.2.1 x with | some v => K (pc + len) ls (v :: st) G | none => none
    | .ldc_w x => match mv_lk M.2.2.1 x with | some v => K (pc + len) ls (v :: st) G | none => none
    | .getstatic x => match mv_lk M.2.2.2.1 x with | some v => K (pc + len) ls (v :: st) G | none => none
    | .idiv => match st with | .inl y :: .inl x :: r => if y = 0 then none else K (pc + len) ls (.inl (mv_w (Int.tdiv x y)) :: r) G | _ => none
    | .irem => match st with | .inl y :: .inl x :: r => if y = 0 then none else K (pc + len) ls (.inl (mv_w (Int.tmod x y)) :: r) G | _ => none
    | .getfield x => match st with
      | .inr (k, 0) :: r => match sh k, mv_lk M.2.1 x with
        | some (.inr (ci, fs)), some (ci', j, _) => bif Nat.beq ci ci' then (match fs[j]? with
          | some none => K (pc + len) ls (.inl (mv_rd rc G k 0 j) :: r) G
          | some (some t) => K (pc + len) ls (.inr (t, 0) :: r) G
          | none => none) else none
        | _, _ => none
      | _ => none
    | .putfield x => match st with
      | .inl v :: .inr (k, 0) :: r => match sh k, mv_lk M.2.1 x with
        | some (.inr (ci, fs)), some (ci', j, z) => bif Nat.beq ci ci' then (match fs[j]? with
          | some none => bif Nat.ble 1000 k then none else (match z with | 0 => K (pc + len) ls r (mv_up G k 0 j v) | 1 => mv_ck v 2 (K (pc + len) ls r (mv_up G k 0 j v)) | _ => none)
          | _ => none) else none
        | _, _ => none
      | _ => none
    | .arraylength => match st with
      | .inr (k, i) :: r => match sh k, i with
        | some (.inl (0, n, _)), 0 => K (pc + len) ls (.inl (n : Int) :: r) G
        | some (.inl (2, n, _)), 0 => K (pc + len) ls (.inl (n : Int) :: r) G
        | some (.inl (3, n, _)), 0 => K (pc + len) ls (.inl (n : Int) :: r) G
        | some (.inl (3, _, m)), _ + 1 => K (pc + len) ls (.inl (m : Int) :: r) G
        | _, _ => none
      | _ => none
    | .iaload => match st with
      | .inl x :: .inr (k, i) :: r => match sh k, i with
        | some (.inl (0, n, _)), 0 => mv_ck x n (K (pc + len) ls (.inl (mv_rd rc G k 0 x.toNat) :: r) G)
        | some (.inl (3, _, m)), i + 1 => mv_ck x m (K (pc + len) ls (.inl (mv_rd rc G k (i + 1) x.toNat) :: r) G)
        | _, _ => none
      | _ => none
    | .iastore => match st with
      | .inl v :: .inl x :: .inr (k, i) :: r => match sh k, i with
        | some (.inl (0, n, _)), 0 => bif Nat.ble 1000 k then none else mv_ck x n (K (pc + len) ls r (mv_up G k 0 x.toNat v))
        | some (.inl (3, _, m)), i + 1 => bif Nat.ble 1000 k then none else mv_ck x m (K (pc + len) ls r (mv_up G k (i + 1) x.toNat v))
        | _, _ => none
      | _ => none
    | .baload => match st with
      | .inl x :: .inr (k, 0) :: r => match sh k with
        | some (.inl (1, n, _)) => mv_ck x n (K (pc + len) ls (.inl (mv_rd rc G k 0 x.toNat) :: r) G)
        | some (.inl (2, n, _)) => mv_ck x n (K (pc + len) ls (.inl (mv_rd rc G k 0 x.toNat) :: r) G)
        | _ => none
      | _ => none
    | .bastore => match st with
      | .inl v :: .inl x :: .inr (k, 0) :: r => match sh k with
        | some (.inl (1, n, _)) => bif Nat.ble 1000 k then none else mv_ck x n (mv_ck v 2 (K (pc + len) ls r (mv_up G k 0 x.toNat v)))
        | _ => none
      | _ => none
    | .aaload => match st with
      | .inl x :: .inr (k, 0) :: r => match sh k with
        | some (.inl (3, n, _)) => mv_ck x n (K (pc + len) ls (.inr (k, x.toNat + 1) :: r) G)
        | _ => none
      | _ => none
    | .goto off => K (mv_tg pc off) ls st G
    | .ifCond c off => match st with
      | .inl x :: r => mv_if c x 0 (K (mv_tg pc off) ls r G) (K (pc + len) ls r G)
      | _ => none
    | .if_icmp c off => match st with
      | .inl y :: .inl x :: r => mv_if c x y (K (mv_tg pc off) ls r G) (K (pc + len) ls r G)
      | _ => none
    | .lookupswitch d ps => match st with
      | .inl x :: r => mv_lks (fun t => K t ls r G) pc x d ps.toList
      | _ => none
    | .tableswitch d lo _ ofs => match st with
      | .inl x :: r => mv_tbs (fun t => K t ls r G) pc x d lo ofs.toList
      | _ => none
    | .invokevirtual x => match mv_lk M.2.2.2.2.1 x with
      | some (n, some ci, vo, f) => mv_call K n (some ci) vo f sh pc ls st G
      | _ => none
    | .invokestatic x => match mv_lk M.2.2.2.2.1 x with
      | some (n, none, vo, f) => mv_call K n none vo f sh pc ls st G
      | _ => none
    | .ireturn => match st, M.2.2.2.2.2.2 with
      | [.inl v], none => some (.inl (v, G))
      | [.inl v], some (lo, hi) => if lo ≤ v ∧ v ≤ hi then some (.inl (v, G)) else none
      | _, _ => none
    | .return_ => match st with
      | [] => some (.inl (0, G))
      | _ => none
    | i => match mv_op i st with
      | some r => K (pc + len) ls r G
      | none => none
def mv_msk : List Bool → mv_L → mv_L
  | true :: b, v :: l => v :: mv_msk b l
  | false :: b, _ :: l => none :: mv_msk b l
  | [], ls => ls
  | _, [] => []
def mv_nx (M : mv_M) (K : mv_K) : mv_K := fun pc ls st G => match mv_lk M.2.2.2.2.2.1 pc with
  | none => K pc ls st G
  | some mq => match st with
    | [] => some (.inr (pc, mv_msk mq ls, G))
    | _ => none
def mv_rg (rc : mv_G) (M : mv_M) (sh : Nat → Option mv_S) : Nat → mv_K
  | 0 => fun _ _ _ _ => none
  | n + 1 => fun pc ls st G => mv_step rc M sh (mv_nx M (mv_rg rc M sh n)) pc ls st G
