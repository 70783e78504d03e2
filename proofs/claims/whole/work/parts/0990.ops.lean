/-! The interpreter with its operations left open: what it answers is read off by program, at operations that nothing can unfold. -/
def mv_opo (w : Int → Int) (bo : Nat → Int → Int → Int) (i : Instr) (st : List mv_A) : Option (List mv_A) := match i with
  | .iconst n => some (.inl n :: st)
  | .bipush n => some (.inl n :: st)
  | .sipush n => some (.inl n :: st)
  | .iadd => match st with | .inl y :: .inl x :: r => some (.inl (w (x + y)) :: r) | _ => none
  | .isub => match st with | .inl y :: .inl x :: r => some (.inl (w (x - y)) :: r) | _ => none
  | .imul => match st with | .inl y :: .inl x :: r => some (.inl (w (x * y)) :: r) | _ => none
  | .iand => match st with | .inl y :: .inl x :: r => some (.inl (bo 0 x y) :: r) | _ => none
  | .ior => match st with | .inl y :: .inl x :: r => some (.inl (bo 1 x y) :: r) | _ => none
  | .ixor => match st with | .inl y :: .inl x :: r => some (.inl (bo 2 x y) :: r) | _ => none
  | .ishl => match st with | .inl y :: .inl x :: r => some (.inl (bo 3 x y) :: r) | _ => none
  | .ishr => match st with | .inl y :: .inl x :: r => some (.inl (bo 4 x y) :: r) | _ => none
  | .iushr => match st with | .inl y :: .inl x :: r => some (.inl (bo 5 x y) :: r) | _ => none
  | .ineg => match st with | .inl x :: r => some (.inl (w (-x)) :: r) | _ => none
  | .i2c => match st with | .inl x :: r => some (.inl (bo 6 x 0) :: r) | _ => none
  | .i2b => match st with | .inl x :: r => some (.inl (bo 7 x 0) :: r) | _ => none
  | .dup => match st with | v :: r => some (v :: v :: r) | _ => none
  | .dup2 => match st with | v :: w :: r => some (v :: w :: v :: w :: r) | _ => none
  | .pop => match st with | _ :: r => some r | _ => none
  | _ => none
def mv_lkso (jf : ClassFile.Cond → Int → Int → Option mv_O → Option mv_O → Option mv_O) (K : Nat → Option mv_O) (pc : Nat) (x dflt : Int) : List (Int × Int) → Option mv_O
  | [] => K (mv_tg pc dflt)
  | (a, t) :: l => jf .eq x a (K (mv_tg pc t)) <| mv_lkso jf K pc x dflt l
def mv_tbso (jf : ClassFile.Cond → Int → Int → Option mv_O → Option mv_O → Option mv_O) (K : Nat → Option mv_O) (pc : Nat) (x dflt : Int) : Int → List Int → Option mv_O
  | _, [] => K (mv_tg pc dflt)
  | a, t :: l => jf .eq x a (K (mv_tg pc t)) <| mv_tbso jf K pc x dflt (a + 1) l
def mv_callo (cn : Option (Int × mv_G) → (Int → mv_G → Option mv_O) → Option mv_O) (K : mv_K) (n : Nat) (rc : Option Nat) (vo : Bool) (f : mv_F) (sh : Nat → Option mv_S) (pc : Nat) (ls : mv_L) (st : List mv_A) (G : mv_G) : Option mv_O :=
  bif Nat.ble n st.length && Nat.ble (st.length - n) 8 && (match rc, (st.take n).reverse with
    | none, _ => true
    | some ci, .inr (k, 0) :: _ => (match sh k with | some (.inr (ci', _)) => Nat.beq ci ci' | _ => false)
    | _, _ => false) then
    cn (f (st.take n).reverse G) fun r G' => K (pc + 3) ls (bif vo then st.drop n else .inl r :: st.drop n) G'
  else none
def mv_stepo (w : Int → Int) (bo : Nat → Int → Int → Int) (up : mv_G → Nat → Nat → Nat → Int → mv_G) (jf : ClassFile.Cond → Int → Int → Option mv_O → Option mv_O → Option mv_O) (ck : Int → Nat → Option mv_O → Option mv_O) (cn : Option (Int × mv_G) → (Int → mv_G → Option mv_O) → Option mv_O) (dv : Int → Option mv_O → Option mv_O) (rz : Int → Int → Int → Option mv_O → Option mv_O) (rc : mv_G) (M : mv_M) (sh : Nat → Option mv_S) (K : mv_K) (pc : Nat) (ls : mv_L) (st : List mv_A) (G : mv_G) : Option mv_O :=
  match mv_lk M.1 pc with
  | none => none
  | some (i, len) => match i with
    | .iload k => mv_ldi K ls k (pc + len) st G
    | .aload k => mv_lda K ls k (pc + len) st G
    | .iload_n k => mv_ldi K ls k.val (pc + len) st G
    | .aload_n k => mv_lda K ls k.val (pc + len) st G
    | .istore k => mv_sti K ls k (pc + len) st G
    | .astore k => mv_sta K ls k (pc + len) st G
    | .istore_n k => mv_sti K ls k.val (pc + len) st G
    | .astore_n k => mv_sta K ls k.val (pc + len) st G
    | .iinc k n => match ls[k]? with
      | some (some (.inl x)) => K (pc + len) (ls.set k (some (.inl (w (x + n))))) st G
      | _ => none
    | .ldc x => match mv_lk M.2.2.1 x with | some v => K (pc + len) ls (v :: st) G | none => none
    | .ldc_w x => match mv_lk M.2.2.1 x with | some v => K (pc + len) ls (v :: st) G | none => none
    | .getstatic x => match mv_lk M.2.2.2.1 x with | some v => K (pc + len) ls (v :: st) G | none => none
    | .idiv => match st with | .inl y :: .inl x :: r => dv y (K (pc + len) ls (.inl (w (Int.tdiv x y)) :: r) G) | _ => none
    | .irem => match st with | .inl y :: .inl x :: r => dv y (K (pc + len) ls (.inl (w (Int.tmod x y)) :: r) G) | _ => none
    | .getfield x => match st with
      | .inr (k, 0) :: r => match sh k, mv_lk M.2.1 x with
        | some (.inr (ci, fs)), some (ci', j, _) => bif Nat.beq ci ci' then (match fs[j]? with
          | some none => K (pc + len) ls (.inl (mv_rd rc G k 0 j) :: r) G
          | some (some t) => K (pc + len) ls (.inr (t, 0) :: r) G
          | none => none) else none
        | _, _ => none
      | _ => none
    | .putfield x => match st with
      | .inl v :: .inr (k, 0) :: r => match sh k, mv_lk M.2.1 x with
        | some (.inr (ci, fs)), some (ci', j, z) => bif Nat.beq ci ci' then (match fs[j]? with
          | some none => bif Nat.ble 1000 k then none else (match z with | 0 => K (pc + len) ls r (up G k 0 j v) | 1 => ck v 2 (K (pc + len) ls r (up G k 0 j v)) | _ => none)
          | _ => none) else none
        | _, _ => none
      | _ => none
    | .arraylength => match st with
      | .inr (k, i) :: r => match sh k, i with
        | some (.inl (0, n, _)), 0 => K (pc + len) ls (.inl (n : Int) :: r) G
        | some (.inl (2, n, _)), 0 => K (pc + len) ls (.inl (n : Int) :: r) G
        | some (.inl (3, n, _)), 0 => K (pc + len) ls (.inl (n : Int) :: r) G
        | some (.inl (3, _, m)), _ + 1 => K (pc + len) ls (.inl (m : Int) :: r) G
        | _, _ => none
      | _ => none
    | .iaload => match st with
      | .inl x :: .inr (k, i) :: r => match sh k, i with
        | some (.inl (0, n, _)), 0 => ck x n (K (pc + len) ls (.inl (mv_rd rc G k 0 x.toNat) :: r) G)
        | some (.inl (3, _, m)), i + 1 => ck x m (K (pc + len) ls (.inl (mv_rd rc G k (i + 1) x.toNat) :: r) G)
        | _, _ => none
      | _ => none
    | .iastore => match st with
      | .inl v :: .inl x :: .inr (k, i) :: r => match sh k, i with
        | some (.inl (0, n, _)), 0 => bif Nat.ble 1000 k then none else ck x n (K (pc + len) ls r (up G k 0 x.toNat v))
        | some (.inl (3, _, m)), i + 1 => bif Nat.ble 1000 k then none else ck x m (K (pc + len) ls r (up G k (i + 1) x.toNat v))
        | _, _ => none
      | _ => none
    | .baload => match st with
      | .inl x :: .inr (k, 0) :: r => match sh k with
        | some (.inl (1, n, _)) => ck x n (K (pc + len) ls (.inl (mv_rd rc G k 0 x.toNat) :: r) G)
        | some (.inl (2, n, _)) => ck x n (K (pc + len) ls (.inl (mv_rd rc G k 0 x.toNat) :: r) G)
        | _ => none
      | _ => none
    | .bastore => match st with
      | .inl v :: .inl x :: .inr (k, 0) :: r => match sh k with
        | some (.inl (1, n, _)) => bif Nat.ble 1000 k then none else ck x n (ck v 2 (K (pc + len) ls r (up G k 0 x.toNat v)))
        | _ => none
      | _ => none
    | .aaload => match st with
      | .inl x :: .inr (k, 0) :: r => match sh k with
        | some (.inl (3, n, _)) => ck x n (K (pc + len) ls (.inr (k, x.toNat + 1) :: r) G)
        | _ => none
      | _ => none
    | .goto off => K (mv_tg pc off) ls st G
    | .ifCond c off => match st with
      | .inl x :: r => jf c x 0 (K (mv_tg pc off) ls r G) (K (pc + len) ls r G)
      | _ => none
    | .if_icmp c off => match st with
      | .inl y :: .inl x :: r => jf c x y (K (mv_tg pc off) ls r G) (K (pc + len) ls r G)
      | _ => none
    | .lookupswitch d ps => match st with
      | .inl x :: r => mv_lkso jf (fun t => K t ls r G) pc x d ps.toList
      | _ => none
    | .tableswitch d lo _ ofs => match st with
      | .inl x :: r => mv_tbso jf (fun t => K t ls r G) pc x d lo ofs.toList
      | _ => none
    | .invokevirtual x => match mv_lk M.2.2.2.2.1 x with
      | some (n, some ci, vo, f) => mv_callo cn K n (some ci) vo f sh pc ls st G
      | _ => none
    | .invokestatic x => match mv_lk M.2.2.2.2.1 x with
      | some (n, none, vo, f) => mv_callo cn K n none vo f sh pc ls st G
      | _ => none
    | .ireturn => match st, M.2.2.2.2.2.2 with
      | [.inl v], none => some (.inl (v, G))
      | [.inl v], some (lo, hi) => rz lo hi v (some (.inl (v, G)))
      | _, _ => none
    | .return_ => match st with
      | [] => some (.inl (0, G))
      | _ => none
    | i => match mv_opo w bo i st with
      | some r => K (pc + len) ls r G
      | none => none
def mv_rgo (w : Int → Int) (bo : Nat → Int → Int → Int) (up : mv_G → Nat → Nat → Nat → Int → mv_G) (jf : ClassFile.Cond → Int → Int → Option mv_O → Option mv_O → Option mv_O) (ck : Int → Nat → Option mv_O → Option mv_O) (cn : Option (Int × mv_G) → (Int → mv_G → Option mv_O) → Option mv_O) (dv : Int → Option mv_O → Option mv_O) (rz : Int → Int → Int → Option mv_O → Option mv_O) (rc : mv_G) (M : mv_M) (sh : Nat → Option mv_S) : Nat → mv_K
  | 0 => fun _ _ _ _ => none
  | n + 1 => fun pc ls st G => mv_stepo w bo up jf ck cn dv rz rc M sh (mv_nx M (mv_rgo w bo up jf ck cn dv rz rc M sh n)) pc ls st G
def mv_bo (n : Nat) (x y : Int) : Int := match n with | 0 => mv_and x y | 1 => mv_or x y | 2 => mv_xor x y | 3 => mv_shl x y | 4 => mv_shr x y | 5 => mv_ushr x y | 6 => mv_i2c x | _ => mv_i2b x
def mv_dv (y : Int) (a : Option mv_O) : Option mv_O := if y = 0 then none else a
def mv_rzc (lo hi v : Int) (a : Option mv_O) : Option mv_O := if lo ≤ v ∧ v ≤ hi then a else none
theorem mv_lkso_eq (K : Nat → Option mv_O) (pc : Nat) (x d : Int) : ∀ l, mv_lkso mv_if K pc x d l = mv_lks K pc x d l
  | [] => rfl
  | (a, t) :: l => by simp only [mv_lkso, mv_lks, mv_if, mv_lkso_eq K pc x d l]
theorem mv_tbso_eq (K : Nat → Option mv_O) (pc : Nat) (x d : Int) : ∀ l a, mv_tbso mv_if K pc x d a l = mv_tbs K pc x d a l
  | [], _ => rfl
  | t :: l, a => by simp only [mv_tbso, mv_tbs, mv_if, mv_tbso_eq K pc x d l]
theorem mv_stepo_eq (rc : mv_G) (M : mv_M) (sh : Nat → Option mv_S) (K : mv_K) (pc : Nat) (ls : mv_L) (st : List mv_A) (G : mv_G) : mv_stepo mv_w mv_bo mv_up mv_if mv_ck mv_cn mv_dv mv_rzc rc M sh K pc ls st G = mv_step rc M sh K pc ls st G := by
  unfold mv_stepo mv_step
  cases mv_lk M.1 pc with
  | none => rfl
  | some q =>
    obtain ⟨i, len⟩ := q
    cases i <;> first | rfl | (simp only [mv_lkso_eq, mv_tbso_eq]; rfl)
theorem mv_rgo_eq (rc : mv_G) (M : mv_M) (sh : Nat → Option mv_S) : ∀ n, mv_rgo mv_w mv_bo mv_up mv_if mv_ck mv_cn mv_dv mv_rzc rc M sh n = mv_rg rc M sh n
  | 0 => rfl
  | n + 1 => by
    funext pc ls st G
    simp only [mv_rgo, mv_rg, mv_rgo_eq rc M sh n, mv_stepo_eq]
