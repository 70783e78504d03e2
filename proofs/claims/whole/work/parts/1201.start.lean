/-! What the law's entry gives: classes, kinds of arrays, statics, strings. -/
def R_law : String := "MoveUpLaw"
def lw_At (p : Program) (s : State) (m : MethodId) (meth : Method) (c : Code) (b L : Nat) (xs : Nat → Int32) : Prop :=
  p.tables.exec = Jvm.exec ∧ c.code = code ∧ meth.sig.returnType = ret ∧ c.maxLocals = 4 ∧ s.vm.findClass R_law = some m.cls ∧ (∀ w ∈ lw_tbl, w.before #[Value.ref b] s = true) ∧ va_X b L xs s s.heap ∧ b < s.heap.size ∧ meth.locks = false ∧ (Jvm.Cond.and given_1 narrow_1).before #[Value.ref b] s = true
theorem mv_str {args : Array Value} {s : State} {idx n : Nat} {byt : List Int} {A : Nat → Prop} (hn : n < 2 ^ 31) (hex : (Cond.exactly (.string "MoveUp$Reader" idx) "java/lang/String").before args s = true) (hco : (Cond.eq (.field (.string "MoveUp$Reader" idx) "java/lang/String" "coder" "B") (.int 0)).before args s = true)
    (har : (Cond.arrayOf (.field (.string "MoveUp$Reader" idx) "java/lang/String" "value" "[B") .byte).before args s = true) (hle : (Cond.eq (.length (.field (.string "MoveUp$Reader" idx) "java/lang/String" "value" "[B")) (.int (Int32.ofNat n))).before args s = true)
    (hel : ∀ j : Nat, j < n → (Cond.eq (.elem (.field (.string "MoveUp$Reader" idx) "java/lang/String" "value" "[B") (.int (Int32.ofNat j))) (.int (Int32.ofInt (byt.getD j 0)))).before args s = true) (hA : ∀ a : Nat, a < s.heap.size → ¬ A a) :
    ∃ a t : Nat, (Term.string "MoveUp$Reader" idx).eval args s none [] s = some (.ref a) ∧ va_O "java/lang/String" a A s s.heap ∧ va_OF "java/lang/String" "coder" "B" (.int 0) a A s s.heap ∧ va_OF "java/lang/String" "value" "[B" (.ref t) a A s s.heap ∧ va_T .byte t n (fun j => .int (Int32.ofInt (byt.getD j 0))) A s s.heap := by
  obtain ⟨a, c, cA, kA, q1, q2, q3, q4, q5, q6, -⟩ := Cond.exactly_spec (args := args) (first := s) (o := none) (s := s) (idx := []) (t := .string "MoveUp$Reader" idx) (cls := "java/lang/String") hex
  obtain ⟨t, ht, hT⟩ := va_Tof (f := fun j => .int (Int32.ofInt (byt.getD j 0))) (A := A) hn har (va_eqt hle) (fun j hj => va_eqt (hel j hj)) hA
  exact ⟨a, t, q1, ⟨cA, q3, q5, by rw [q6]; exact q2, hA a (Array.getElem?_eq_some_iff.mp q3).1⟩, vk_OFof q1 (va_eqt hco) hA, vk_OFof q1 ht hA, hT⟩
theorem mv_stq {args : Array Value} {s : State} {n : String} {N : Nat} {vals : List Int} {A : Nat → Prop} (hN : N < 2 ^ 31) (hl : (Cond.laysStatic "MoveUp" n "[I").before args s = true) (hini : (Cond.initialized "MoveUp").before args s = true) (har : (Cond.arrayOf (.static "MoveUp" n "[I") .int).before args s = true) (hle : (Cond.eq (.length (.static "MoveUp" n "[I")) (.int (Int32.ofNat N))).before args s = true)
    (hel : ∀ j : Nat, j < N → (Cond.eq (.elem (.static "MoveUp" n "[I") (.int (Int32.ofNat j))) (.int (Int32.ofInt (vals.getD j 0)))).before args s = true) (hA : ∀ a : Nat, a < s.heap.size → ¬ A a) :
    ∃ t : Nat, va_Z "MoveUp" n "[I" (.ref t) A s s.heap ∧ va_T .int t N (fun j => .int (Int32.ofInt (vals.getD j 0))) A s s.heap := by
  obtain ⟨t, ht, hT⟩ := va_Tof (f := fun j => .int (Int32.ofInt (vals.getD j 0))) (A := A) hN har (va_eqt hle) (fun j hj => va_eqt (hel j hj)) hA
  exact ⟨t, va_Zof hl hini ht hA, hT⟩
def mv_adz (b tL tM a1 t1 a2 t2 : Nat) (vF : Value) : Nat → Nat → Value := fun k _ =>
  if k = 1006 then .ref b else if k = 1000 then .ref tL else if k = 1001 then .ref tM else if k = 1002 then .ref a1 else if k = 1003 then .ref t1 else if k = 1004 then .ref a2 else if k = 1005 then .ref t2 else if k = 999 then vF else .null
set_option maxRecDepth 100000 in
theorem mv_start {p : Program} {s : State} {m : MethodId} {meth : Method} {c : Code} {b L : Nat} {xs : Nat → Int32} (C0 : lw_At p s m meth c b L xs) : ∃ (cA : Nat → ClassId) (D : va_G) (tys : List (ClassId × FieldType)) (ad : Nat → Nat → Value), va_K D mv_cl tys s ∧ mv_tyw cA tys ∧
    mv_RO mv_sh mv_ros ad (fun q => s.heap.size ≤ q) mv_rc mv_cr s ∧ mv_EX ad (fun q => s.heap.size ≤ q) s ∧ mv_NS s ∧ mv_AO s ∧ (∀ q ∈ mv_ros, ∃ a, ad q.1 q.2 = .ref a) ∧ ad 1006 0 = .ref b ∧ ∀ a b, (ad a b).category = 1 := by
  obtain ⟨hx, hb, hr, hml, hown, hts, hX, hbl, hlocks, hgv⟩ := C0
  have hs := flat_of_before _ hgv
  have hA : ∀ a : Nat, a < s.heap.size → ¬ (fun q => s.heap.size ≤ q) a := fun a h h2 => by omega
  obtain ⟨c0, k0, comp0, g1, g2, g3⟩ := Cond.arrayClass_spec (hts (.arrayClass .int) (List.mem_of_getElem? (i := 203) (by decide +kernel)))
  obtain ⟨c1, k1, comp1, g4, g5, g6⟩ := Cond.arrayClass_spec (hts (.arrayClass .boolean) (List.mem_of_getElem? (i := 1526) (by decide +kernel)))
  have hAO : (Cond.arrayOver (.array .int)).before #[Value.ref b] s = true := hts _ (List.mem_of_getElem? (i := 168) (by decide +kernel))
  obtain ⟨comp3, c3, k3, g7, g8, g9, g10⟩ := Cond.arrayOver_specA hAO
  have hcls : ∀ c : Nat, ∃ x : ClassId × (Nat → Nat), ∀ q, mv_cl[c]? = some q → u_Kn s q.1 q.2.1 q.2.2 x.1 x.2 := by
    intro c
    cases hq : mv_cl[c]? with
    | none => exact ⟨(0, fun _ => 0), fun q h => by cases h⟩
    | some q =>
      have h1 : ∀ q ∈ mv_cl, Cond.instantiable q.1 q.2.2 ∈ lw_tbl := by
        have h2 : mv_cl.all (fun q => decide (Cond.instantiable q.1 q.2.2 ∈ lw_tbl)) = true := by decide +kernel
        exact fun q hq => of_decide_eq_true (List.all_eq_true.mp h2 q hq)
      obtain ⟨cC, iS, h3⟩ := u_known (C := q.1) (T := q.2.1) (N := q.2.2) (n := q.2.2) (fun w hw => hts w (List.mem_filter.mp hw).1) (mv_clok c q hq).1 (hts _ (h1 q (List.mem_of_getElem? hq)))
      exact ⟨(cC, iS), fun q2 h => by cases h; exact h3⟩
  obtain ⟨Df, hDf⟩ := Classical.axiomOfChoice hcls
  have hMi : (Cond.initialized "MoveUp").before #[Value.ref b] s = true := hts _ (List.mem_of_getElem? (i := 129) (by decide +kernel))
  obtain ⟨tM, zM, oM⟩ := mv_stq (n := "MOST") (N := 5) (vals := [20, 15, 10, 9, 1]) (A := fun q => s.heap.size ≤ q) (by decide) (hts _ (List.mem_of_getElem? (i := 166) (by decide +kernel))) hMi (hs _ (by decide +kernel)) (hs _ (by decide +kernel)) (fun j hj => hs _ ((show ∀ j : Nat, j < 5 → (Cond.eq (.elem (.static "MoveUp" "MOST" "[I") (.int (Int32.ofNat j))) (.int (Int32.ofInt (([20, 15, 10, 9, 1] : List Int).getD j 0)))) ∈ flatC (Jvm.Cond.and given_1 narrow_1) by decide +kernel) j hj)) hA
  obtain ⟨tL, zL, oL⟩ := mv_stq (n := "LEAST") (N := 5) (vals := [1, 0, 0, 0, 0]) (A := fun q => s.heap.size ≤ q) (by decide) (hts _ (List.mem_of_getElem? (i := 656) (by decide +kernel))) hMi (hs _ (by decide +kernel)) (hs _ (by decide +kernel)) (fun j hj => hs _ ((show ∀ j : Nat, j < 5 → (Cond.eq (.elem (.static "MoveUp" "LEAST" "[I") (.int (Int32.ofNat j))) (.int (Int32.ofInt (([1, 0, 0, 0, 0] : List Int).getD j 0)))) ∈ flatC (Jvm.Cond.and given_1 narrow_1) by decide +kernel) j hj)) hA
  obtain ⟨l1, hl1⟩ : ∃ l1 : List Int, mv_lk mv_rcl 1003 = some l1 := ⟨_, rfl⟩
  obtain ⟨a1, t1, e1, o1, f1, v1, r1⟩ := mv_str (idx := 90) (n := 103) (byt := (mv_lk mv_rcl 1003).getD []) (A := fun q => s.heap.size ≤ q) (by decide) (hs _ (by decide +kernel)) (hs _ (by decide +kernel)) (hs _ (by decide +kernel)) (hs _ (by decide +kernel)) (fun j hj => hs _ ((show ∀ j : Nat, j < 103 → (Cond.eq (.elem (.field (.string "MoveUp$Reader" 90) "java/lang/String" "value" "[B") (.int (Int32.ofNat j))) (.int (Int32.ofInt (((mv_lk mv_rcl 1003).getD []).getD j 0)))) ∈ flatC (Jvm.Cond.and given_1 narrow_1) by decide +kernel) j hj)) hA
  obtain ⟨a2, t2, e2, o2, f2, v2, r2⟩ := mv_str (idx := 82) (n := 10) (byt := (mv_lk mv_rcl 1005).getD []) (A := fun q => s.heap.size ≤ q) (by decide) (hs _ (by decide +kernel)) (hs _ (by decide +kernel)) (hs _ (by decide +kernel)) (hs _ (by decide +kernel)) (fun j hj => hs _ ((show ∀ j : Nat, j < 10 → (Cond.eq (.elem (.field (.string "MoveUp$Reader" 82) "java/lang/String" "value" "[B") (.int (Int32.ofNat j))) (.int (Int32.ofInt (((mv_lk mv_rcl 1005).getD []).getD j 0)))) ∈ flatC (Jvm.Cond.and given_1 narrow_1) by decide +kernel) j hj)) hA
  obtain ⟨vF, eF, hF⟩ := Cond.isRef_spec (hs (.isRef (.static "jdk/internal/util/Preconditions" "SIOOBE_FORMATTER" "Ljava/util/function/BiFunction;")) (by decide +kernel))
  refine ⟨fun t => if t = 0 then c0 else if t = 1 then c1 else c3, (fun c => (Df c).1, fun c => (Df c).2), [(c0, .int), (c1, .boolean), (c0, .int), (c3, .array .int)], mv_adz b tL tM a1 t1 a2 t2 vF, ⟨fun c q hq => hDf c q hq, fun k q hq => ?_⟩, ⟨rfl, rfl, rfl⟩, ?_, ?_, ?_, hAO, ?_, rfl, ?_⟩
  · match k, hq with
    | 0, hq => cases hq; exact ⟨fun n z => ⟨fun k h => (by cases h), k0, g2, comp0, g3⟩, g1⟩
    | 1, hq => cases hq; exact ⟨fun n z => ⟨fun k h => (by cases h), k1, g5, comp1, g6⟩, g4⟩
    | 2, hq => cases hq; exact ⟨fun n z => ⟨fun k h => (by cases h), k0, g2, comp0, g3⟩, g1⟩
    | 3, hq => cases hq; exact ⟨fun n z => ⟨fun k h => (by cases h), k3, g8, comp3, g9⟩, g10⟩
    | k + 4, hq => simp at hq
  · intro k hk
    simp only [mv_ros, List.mem_cons, Prod.mk.injEq, and_true, List.not_mem_nil, or_false] at hk
    rcases hk with rfl | rfl | rfl | rfl | rfl | rfl
    · exact oL
    · exact oM
    · refine ⟨o1, fun j r hj => ?_⟩
      match j, hj with
      | 0, hj => cases hj; exact v1
      | 1, hj => cases hj; exact f1
      | j + 2, hj => simp at hj
    · exact r1
    · refine ⟨o2, fun j r hj => ?_⟩
      match j, hj with
      | 0, hj => cases hj; exact v2
      | 1, hj => cases hj; exact f2
      | j + 2, hj => simp at hj
    · exact r2
  · refine ⟨zM, zL, va_Zof (hts _ (List.mem_of_getElem? (i := 889) (by decide +kernel))) (hts _ (List.mem_of_getElem? (i := 145) (by decide +kernel))) (va_eqi (hs _ (by decide +kernel))) hA, va_Zof (hts _ (List.mem_of_getElem? (i := 905) (by decide +kernel))) (hts _ (List.mem_of_getElem? (i := 147) (by decide +kernel))) eF hA, ⟨a1, rfl, ?_⟩, ⟨a2, rfl, ?_⟩⟩
    · exact vk_R.of (hts (.stringRef "MoveUp$Reader" 90 mv_tx90) (List.mem_of_getElem? (i := 879) (by decide +kernel))) e1
    · exact vk_R.of (hts (.stringRef "MoveUp$Reader" 82 mv_tx82) (List.mem_of_getElem? (i := 928) (by decide +kernel))) e2
  · have h1 : ∀ w ∈ mv_nsl, w ∈ lw_tbl ∧ w.onTables = true := by decide +kernel
    exact fun w hw => va_Nw.of (h1 w hw).2 (hts w (h1 w hw).1)
  · intro q hq
    simp only [mv_ros, List.mem_cons, List.not_mem_nil, or_false] at hq
    rcases hq with rfl | rfl | rfl | rfl | rfl | rfl
    · exact ⟨_, rfl⟩
    · exact ⟨_, rfl⟩
    · exact ⟨_, rfl⟩
    · exact ⟨_, rfl⟩
    · exact ⟨_, rfl⟩
    · exact ⟨_, rfl⟩
  · intro a b'
    unfold mv_adz
    repeat' split
    all_goals first | rfl | (cases vF <;> first | rfl | (cases hF))
