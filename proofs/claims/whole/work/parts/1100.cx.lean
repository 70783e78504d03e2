/-! Constructors' contracts: what is fixed where the body runs, out of the tables. -/
section MV
variable {l : Launch} {cc : ByteArray} {nL : Nat} {cA : Nat → ClassId} {D : va_G} {tys : List (ClassId × FieldType)}
/-- a constructor that is called -/
def mv_In (l : Launch) (cA : Nat → ClassId) (D : va_G) (tys : List (ClassId × FieldType)) (own : String) (R : Room) (Gs : mv_G) (T : mv_TT) (x : Nat × List mv_A × Nat × Nat × List (Nat × Nat) × Nat × Nat) : Prop :=
  ∀ idx len, mv_lk T.1 x.1 = some (.invokespecial idx, len) → ∃ (y : MethodName) (by2 : ByteArray) (mL : Nat) (rm : Room), mv_Ini l y by2 mL rm cA D tys Gs x.2.2.1 x.2.2.2.1 x.2.1 x.2.2.2.2.1 ∧ rm.cells = x.2.2.2.2.2.1 ∧ rm.slots = x.2.2.2.2.2.2 ∧ rm.frames + 1 ≤ R.frames ∧ 8 + (mL + 11) + rm.locals ≤ R.locals ∧
    Cond.code y by2 mL none ∈ mv_Ts ∧ Cond.initialized y.cls ∈ mv_Ts ∧ Cond.instanceMethod y ∈ mv_Ts ∧ y.name = "<init>" ∧ (y.cls ≠ "java/lang/invoke/MethodHandle" ∧ y.cls ≠ "java/lang/invoke/VarHandle" ∧ (parseMethodDescriptor y.desc).map (fun d => d.parameters.length) = some x.2.1.length) ∧
    (Cond.methodLink own idx y ∈ mv_Ts ∨ ∃ host, Cond.methodLinkNest own idx y host ∈ mv_nsl) ∧ (x.2.2.1, 0) ∈ x.2.2.2.2.1
def mv_tyw (cA : Nat → ClassId) (tys : List (ClassId × FieldType)) : Prop := tys[0]? = some (cA 0, .int) ∧ tys[1]? = some (cA 1, .boolean) ∧ tys[3]? = some (cA 3, .array .int)
theorem mv_aci : Cond.arrayClass .int ∈ mv_Ts := mv_Td (i := 203) (by decide +kernel)
theorem mv_acb : Cond.arrayClass .boolean ∈ mv_Ts := mv_Td (i := 1526) (by decide +kernel)
theorem mv_Cx_of {own : String} {q : vw_C} {ci a b c2 d : Nat} {T : mv_TT} {fp pl : List (Nat × Nat × Nat × Nat)} {rm : Room} {Gs : mv_G} (hdk : mv_dk2 cc T.1 = true) (hq : mv_cl[ci]? = some q) (hfk : mv_fk2 own q fp = true) (hT : T.2.1 = fp.map (fun x => x.2)) (hnk : mv_nk own T pl = true) (hok : mv_ok2 own T a b c2 d = true)
    (hty : mv_tyw cA tys) (hsub : ∀ x ∈ T.2.2.2.1, mv_In l cA D tys own rm Gs T x) (hrm : T.2.2.2.2.2.1 ≤ rm.cells ∧ T.2.2.2.2.2.2 ≤ rm.slots ∧ 1 ≤ rm.frames ∧ 32 ≤ rm.locals) (hz : T.2.2.2.2.1 = true → ∀ k i j, Gs k i j = 0) :
    ∀ (p : Program) (s : State) (m : MethodId) (args : Array Value) (meth : Method) (c : Code), mv_Bg p s m args c cc nL own mv_Ts → va_K D mv_cl tys s → meth.name = "<init>" → mv_NS s → mv_AO s → mv_Cx l p s m args meth c cc nL own rm cA D tys Gs ci T := by
  intro p s m args meth c hBg hK hn hNS hAO
  refine ⟨hBg, hK, hn, hNS, hty, mv_dk2_ok hdk, ⟨q, hq, by rw [hT]; exact mv_fk2_ok hfk⟩, mv_nk_ok hnk, mv_ok2_a hok, fun pc idx len as k cj ids nc ns h1 h2 => hsub _ (mv_lk_mem h2) idx len h1, hAO, mv_ok2_m hok, mv_ok2_g hok, mv_aci, mv_acb, hrm.1, hrm.2.1, hrm.2.2.1, hrm.2.2.2, hz⟩
/-- a contract at other contents, alike on its own cells -/
theorem mv_Ini.cg {y : MethodName} {by2 : ByteArray} {mL : Nat} {rm : Room} {Gs G2 : mv_G} {k ci : Nat} {as : List mv_A} {ids : List (Nat × Nat)} (h : mv_Ini l y by2 mL rm cA D tys Gs k ci as ids) (hG : ∀ q ∈ ids, Gs q.1 q.2 = G2 q.1 q.2) (hin : ∀ k i j, mv_in (G2 k i j)) : mv_Ini l y by2 mL rm cA D tys G2 k ci as ids := by
  intro ad sz h1 h2 h3 h4
  refine MetFree.mono (h ad sz h1 h2 h3 h4) (fun _ _ q => q) (fun _ _ _ _ _ q => q) ?_
  rintro a st o t - ⟨⟨⟨ad2, e, h5, h6⟩, h7⟩, h8⟩
  exact ⟨⟨⟨ad2, e, h5, by rw [← mv_wd_cg hG]; exact h6.1, by rw [← mv_wd_cg hG]; exact h6.2.1, hin⟩, h7⟩, h8⟩
theorem mv_Zin : ∀ k i j, mv_in (mv_Z k i j) := fun _ _ _ => mv_in0
end MV
