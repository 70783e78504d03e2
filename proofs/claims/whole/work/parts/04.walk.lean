section MV
variable {p : Program} {l : Launch} {e : Env} {R : Room} {s : State} {m : MethodId} {args : Array Value} {below : List Frame} {meth : Method} {c : Code} {cells slots : Nat} {Q : State → Prop}
variable {cc : ByteArray} {nL : Nat} {sh : Nat → Option mv_S} {ids ros : List (Nat × Nat)} {ad : Nat → Nat → Value} {cA : Nat → ClassId} {cl : List vw_C} {D : va_G} {tys : List (ClassId × FieldType)} {A : Nat → Prop} {rc : mv_G} {M : mv_M}
variable {H : Heap} {locs : List Loc} {lsC : Array Slot} {pc : Nat} {ls : mv_L} {st : List mv_A} {G : mv_G} {out : mv_O} {K : mv_K}
theorem mv_ref_of {q : Nat × Nat} (hF : mv_Fix sh ids ros ad cA tys A rc) (h : q ∈ ids ++ ros) : ad q.1 q.2 = .ref (mv_ra (ad q.1 q.2)) := by
  obtain ⟨a, ha⟩ := hF.2.2.1 q h
  rw [ha]
  rfl
theorem mv_ild {k : Nat} {i : Instr} {len : Nat} (hx : p.tables.exec = Jvm.exec) (hb : c.code = cc) (hF : mv_Fix sh ids ros ad cA tys A rc) (hL : mv_LR ids ros ad nL ls lsC) (hi : mv_iok pc i len = true)
    (hd : (i = .iload k ∨ ∃ q : Fin 4, i = .iload_n q ∧ q.val = k)) (hdg : decode cc pc = .ok (i, len)) {x : Int} (hv : ls[k]? = some (some (.inl x)))
    (kk : mv_okV ids ros (.inl x) → W p l e R s m args below meth c H locs cells slots Q (F0 m (pc + len) lsC (mv_V ad (.inl x) :: st.map (mv_V ad)))) : W p l e R s m args below meth c H locs cells slots Q (F0 m pc lsC (st.map (mv_V ad))) := by
  obtain ⟨h1, h2⟩ := hL.2.2.2 k _ hv
  rcases hd with rfl | ⟨q, rfl, rfl⟩
  · cases Nat.eq_of_beq_eq_true hi
    exact lv_iload hx hb hdg h1 (kk h2)
  · cases Nat.eq_of_beq_eq_true hi
    exact lv_iload_n hx hb hdg rfl h1 (kk h2)
theorem mv_ald {k : Nat} {i : Instr} {len : Nat} (hx : p.tables.exec = Jvm.exec) (hb : c.code = cc) (hF : mv_Fix sh ids ros ad cA tys A rc) (hL : mv_LR ids ros ad nL ls lsC) (hi : mv_iok pc i len = true)
    (hd : (i = .aload k ∨ ∃ q : Fin 4, i = .aload_n q ∧ q.val = k)) (hdg : decode cc pc = .ok (i, len)) {x : Nat × Nat} (hv : ls[k]? = some (some (.inr x))) (h9 : mv_no x.1 = false)
    (kk : mv_okV ids ros (.inr x) → W p l e R s m args below meth c H locs cells slots Q (F0 m (pc + len) lsC (mv_V ad (.inr x) :: st.map (mv_V ad)))) : W p l e R s m args below meth c H locs cells slots Q (F0 m pc lsC (st.map (mv_V ad))) := by
  obtain ⟨h1, h2⟩ := hL.2.2.2 k _ hv
  have hr := mv_ref_of hF (h2.resolve_right (fun q => by unfold mv_no at h9; rw [q.1, q.2] at h9; cases h9))
  have h3 : lsC[k]? = some (.val (.ref (mv_ra (ad x.1 x.2)))) := by rw [h1]; show some (Slot.val (ad x.1 x.2)) = _; rw [← hr]
  have kk' := kk h2
  have e : mv_V ad (.inr x) = .ref (mv_ra (ad x.1 x.2)) := hr
  rw [e] at kk'
  rcases hd with rfl | ⟨q, rfl, rfl⟩
  · cases Nat.eq_of_beq_eq_true hi
    exact lv_aload hx hb hdg h3 kk'
  · cases Nat.eq_of_beq_eq_true hi
    exact lv_aload_n hx hb hdg rfl h3 kk'
theorem mv_ist {k : Nat} {i : Instr} {len : Nat} (hx : p.tables.exec = Jvm.exec) (hb : c.code = cc) (hF : mv_Fix sh ids ros ad cA tys A rc) (hL : mv_LR ids ros ad nL ls lsC) (hi : mv_iok pc i len = true)
    (hd : (i = .istore k ∨ ∃ q : Fin 4, i = .istore_n q ∧ q.val = k)) (hdg : decode cc pc = .ok (i, len)) {x : Int} {r : List mv_A} (hk : k < ls.length) (hv : mv_okV ids ros (.inl x))
    (kk : ∀ lsC', mv_LR ids ros ad nL (ls.set k (some (.inl x))) lsC' → W p l e R s m args below meth c H locs cells slots Q (F0 m (pc + len) lsC' (r.map (mv_V ad)))) : W p l e R s m args below meth c H locs cells slots Q (F0 m pc lsC (mv_V ad (.inl x) :: r.map (mv_V ad))) := by
  have hn : k < nL := by rw [← hL.1]; exact hk
  rcases hd with rfl | ⟨q, rfl, rfl⟩
  · cases Nat.eq_of_beq_eq_true hi
    exact lv_istore hx hb hdg (mv_ll_has hL) hn rfl fun lsC' h' => kk lsC' (mv_LR_set hF hL hv (fun i w hw => mv_ll_mem hw) h')
  · cases Nat.eq_of_beq_eq_true hi
    exact lv_istore_n hx hb hdg rfl (mv_ll_has hL) hn rfl fun lsC' h' => kk lsC' (mv_LR_set hF hL hv (fun i w hw => mv_ll_mem hw) h')
theorem mv_ast {k : Nat} {i : Instr} {len : Nat} (hx : p.tables.exec = Jvm.exec) (hb : c.code = cc) (hF : mv_Fix sh ids ros ad cA tys A rc) (hL : mv_LR ids ros ad nL ls lsC) (hi : mv_iok pc i len = true)
    (hd : (i = .astore k ∨ ∃ q : Fin 4, i = .astore_n q ∧ q.val = k)) (hdg : decode cc pc = .ok (i, len)) {x : Nat × Nat} {r : List mv_A} (hk : k < ls.length) (hv : mv_okV ids ros (.inr x)) (h9 : mv_no x.1 = false)
    (kk : ∀ lsC', mv_LR ids ros ad nL (ls.set k (some (.inr x))) lsC' → W p l e R s m args below meth c H locs cells slots Q (F0 m (pc + len) lsC' (r.map (mv_V ad)))) : W p l e R s m args below meth c H locs cells slots Q (F0 m pc lsC (mv_V ad (.inr x) :: r.map (mv_V ad))) := by
  have hn : k < nL := by rw [← hL.1]; exact hk
  have hr := mv_ref_of hF (hv.resolve_right (fun q => by unfold mv_no at h9; rw [q.1, q.2] at h9; cases h9))
  have e : mv_V ad (.inr x) = .ref (mv_ra (ad x.1 x.2)) := hr
  rw [e]
  rcases hd with rfl | ⟨q, rfl, rfl⟩
  · cases Nat.eq_of_beq_eq_true hi
    exact lv_astore hx hb hdg (mv_ll_has hL) hn rfl fun lsC' h' => kk lsC' (mv_LR_set hF hL hv (fun i w hw => mv_ll_mem hw) (by rw [e]; exact h'))
  · cases Nat.eq_of_beq_eq_true hi
    exact lv_astore_n hx hb hdg rfl (mv_ll_has hL) hn rfl fun lsC' h' => kk lsC' (mv_LR_set hF hL hv (fun i w hw => mv_ll_mem hw) (by rw [e]; exact h'))
theorem mv_iin {k : Nat} {n : Int} (hx : p.tables.exec = Jvm.exec) (hb : c.code = cc) (hF : mv_Fix sh ids ros ad cA tys A rc) (hL : mv_LR ids ros ad nL ls lsC) (hdg : decode cc pc = .ok (.iinc k n, 3)) {x : Int} {rest : List Value} (hv : ls[k]? = some (some (.inl x)))
    (kk : ∀ lsC', mv_LR ids ros ad nL (ls.set k (some (.inl (mv_w (x + n))))) lsC' → W p l e R s m args below meth c H locs cells slots Q (F0 m (pc + 3) lsC' rest)) : W p l e R s m args below meth c H locs cells slots Q (F0 m pc lsC rest) := by
  have hn : k < nL := by rw [← hL.1]; exact (List.getElem?_eq_some_iff.mp hv).1
  have h0 := mv_ll_has hL
  have h1 : lv_has lsC nL ((k, .int (Int32.ofInt x)) :: mv_ll ad ls) := ⟨h0.1, h0.2.1, fun q hq => by
    rcases List.mem_cons.mp hq with rfl | hq
    · exact (hL.2.2.2 k _ hv).1
    · exact h0.2.2 q hq⟩
  exact lv_iinc (v := Int32.ofInt (mv_w (x + n))) hx hb hdg h1 (k := 0) rfl (by rw [mv_w_of, Int32.ofInt_add]) hn rfl fun lsC' h' => kk lsC' (mv_LR_set hF hL (mv_w_in _) (fun i w hw => List.mem_cons_of_mem _ (mv_ll_mem hw)) h')
theorem mv_rd_in (hF : mv_Fix sh ids ros ad cA tys A rc) (hW : mv_Wd sh ids ad cA cl D A G H) (k i j : Nat) : mv_in (mv_rd rc G k i j) := by
  unfold mv_rd
  cases Nat.ble 1000 k
  · exact hW.2.2 _ _ _
  · exact hF.2.2.2.2.2.2.2.1 _ _ _
/-- a written cell -/
theorem mv_Wd_put {k i j q0 : Nat} {v : Int} {H1 : Heap} {x : Nat × va_E} (hF : mv_Fix sh ids ros ad cA tys A rc) (hW : mv_Wd sh ids ad cA cl D A G H) (hv : mv_in v) (hq : ids[q0]? = some (k, i)) (hx : x = mv_cel sh ad cA (mv_up G k i j v) k i)
    (hP1 : va_P D cl ((mv_wd sh ad cA ids G).set q0 x) H1) (hD1 : va_D A ((mv_wd sh ad cA ids G).set q0 x)) : mv_Wd sh ids ad cA cl D A (mv_up G k i j v) H1 := by
  rw [mv_wd_set hF.2.2.2.2.1 hq hx] at hP1 hD1
  refine ⟨hP1, hD1, fun a b c => ?_⟩
  unfold mv_up
  split
  · exact hv
  · exact hW.2.2 _ _ _
theorem mv_in0 : mv_in 0 := by unfold mv_in; decide
theorem mv_if_h {x y : Int} {cnd : ClassFile.Cond} {a b : Option mv_O} (hx : mv_in x) (hy : mv_in y) (h : mv_if cnd x y a b = some out) : (Op.if_icmp.holds cnd (Int32.ofInt x) (Int32.ofInt y) = true ∧ a = some out) ∨ (Op.if_icmp.holds cnd (Int32.ofInt x) (Int32.ofInt y) = false ∧ b = some out) :=
  mv_if_snd hx hy h (fun h1 h2 => Or.inl ⟨h2, h1⟩) (fun h1 h2 => Or.inr ⟨h2, h1⟩)
/-- a call's answer: none, or the callee's -/
def mv_cst (p : Program) (l : Launch) (e : Env) (R : Room) (s : State) (m : MethodId) (args : Array Value) (below : List Frame) (meth : Method) (c : Code) (cells slots : Nat) (Q : State → Prop) (cc : ByteArray) (ids ros : List (Nat × Nat)) (ad : Nat → Nat → Value) (A : Nat → Prop) (M : mv_M) : Prop :=
  (∀ x ∈ M.2.2.1, mv_okV ids ros x.2 ∧ ∀ (pc : Nat) (H : Heap) (locs : List Loc) (lsC : Array Slot) (rest : List Value), va_S A s.heap H locs →
    ((pc, Instr.ldc x.1, 2) ∈ M.1 → decode cc pc = .ok (.ldc x.1, 2) → W p l e R s m args below meth c H locs cells slots Q (F0 m (pc + 2) lsC (mv_V ad x.2 :: rest)) → W p l e R s m args below meth c H locs cells slots Q (F0 m pc lsC rest)) ∧
    ((pc, Instr.ldc_w x.1, 3) ∈ M.1 → decode cc pc = .ok (.ldc_w x.1, 3) → W p l e R s m args below meth c H locs cells slots Q (F0 m (pc + 3) lsC (mv_V ad x.2 :: rest)) → W p l e R s m args below meth c H locs cells slots Q (F0 m pc lsC rest))) ∧
  (∀ x ∈ M.2.2.2.1, mv_okV ids ros x.2 ∧ ∀ (pc : Nat) (H : Heap) (locs : List Loc) (lsC : Array Slot) (rest : List Value), va_S A s.heap H locs →
    (decode cc pc = .ok (.getstatic x.1, 3) → W p l e R s m args below meth c H locs cells slots Q (F0 m (pc + 3) lsC (mv_V ad x.2 :: rest)) → W p l e R s m args below meth c H locs cells slots Q (F0 m pc lsC rest)))
theorem mv_upd {G : mv_G} {k i j : Nat} {v : Int} : (fun a => Int32.ofInt (mv_up G k i j v k i a)) = upd (fun a => Int32.ofInt (G k i a)) j (Int32.ofInt v) := by
  funext a
  simp only [upd, mv_up, true_and]
  split <;> rfl
theorem mv_lks_h {KK : Nat → Option mv_O} {x d : Int} : ∀ {l : List (Int × Int)}, mv_lks KK pc x d l = some out → 0 ≤ (pc : Int) + d → l.all (fun q => decide (0 ≤ (pc : Int) + q.2)) = true → KK (mv_tg pc (Op.lookupswitch.offset l d x)) = some out ∧ 0 ≤ (pc : Int) + Op.lookupswitch.offset l d x
  | [], h, hd, _ => ⟨h, hd⟩
  | (a, t) :: l, h, hd, hl => by
    simp only [List.all_cons, Bool.and_eq_true, decide_eq_true_eq] at hl
    simp only [mv_lks] at h
    rw [Op.lookupswitch.offset_cons]
    split at h
    · next e =>
      subst e
      rw [if_pos rfl]
      exact ⟨h, hl.1⟩
    · next e =>
      rw [if_neg (fun q => e q.symm)]
      exact mv_lks_h h hd hl.2
theorem mv_tbs_h {KK : Nat → Option mv_O} {x d : Int} : ∀ {l : List Int} {lo : Int}, mv_tbs KK pc x d lo l = some out → (x < lo ∨ lo + l.length ≤ x ∧ KK (mv_tg pc d) = some out) ∨ (lo ≤ x ∧ ∃ t, l[(x - lo).toNat]? = some t ∧ KK (mv_tg pc t) = some out)
  | [], lo, h => by
    by_cases e : x < lo
    · exact Or.inl (Or.inl e)
    · exact Or.inl (Or.inr ⟨by simp; omega, h⟩)
  | t :: l, lo, h => by
    simp only [mv_tbs] at h
    split at h
    · next e =>
      exact Or.inr ⟨by omega, t, by rw [e, Int.sub_self]; rfl, h⟩
    · next e =>
      rcases mv_tbs_h h with (h1 | ⟨h1, h2⟩) | ⟨h1, t', h2, h3⟩
      · exact Or.inl (Or.inl (by omega))
      · exact Or.inl (Or.inr ⟨by simp only [List.length_cons]; omega, h2⟩)
      · refine Or.inr ⟨by omega, t', ?_, h3⟩
        rw [show (x - lo).toNat = (x - (lo + 1)).toNat + 1 by omega]
        exact h2
theorem mv_tbs_lo {KK : Nat → Option mv_O} {x d : Int} : ∀ {l : List Int} {lo : Int}, x < lo → mv_tbs KK pc x d lo l = some out → KK (mv_tg pc d) = some out
  | [], lo, _, h => h
  | t :: l, lo, h0, h => by
    simp only [mv_tbs] at h
    rw [if_neg (by omega)] at h
    exact mv_tbs_lo (by omega) h
theorem mv_ck_h {x : Int} {n : Nat} {a : Option mv_O} (h : mv_ck x n a = some out) : (0 ≤ x ∧ x < n) ∧ a = some out := by
  unfold mv_ck at h
  split at h
  · next h1 => exact ⟨h1, h⟩
  · cases h
theorem mv_no999 (hF : mv_Fix sh ids ros ad cA tys A rc) {k i : Nat} {q : mv_S} (h : sh k = some q) (ho : mv_okV ids ros (.inr (k, i))) : (k, i) ∈ ids ++ ros := by
  refine ho.resolve_right fun e => ?_
  have := hF.2.2.2.2.2.2.2.2 _ e.1 e.2
  dsimp only at this
  rw [h] at this
  cases this
theorem mv_call_snd {n idx : Nat} {rv : Option Nat} {vo : Bool} {f : mv_F} (hF : mv_Fix sh ids ros ad cA tys A rc) (hL : mv_LR ids ros ad nL ls lsC) (hW : mv_Wd sh ids ad cA cl D A G H) (hS : va_S A s.heap H locs) (hst : ∀ v ∈ st, mv_okV ids ros v)
    (hc : mv_Cal p l e R s m args below meth c cells slots Q cc nL sh ids ros ad cA cl D A idx n rv vo f) (hdg : decode cc pc = .ok (mv_inv rv idx, 3)) (h : mv_call K n rv vo f sh pc ls st G = some out)
    (kk : ∀ {G' : mv_G} (H1 : Heap) (locs1 : List Loc), mv_Wd sh ids ad cA cl D A G' H1 → va_S A s.heap H1 locs1 → ∀ st' : List mv_A, (∀ v ∈ st', mv_okV ids ros v) → K (pc + 3) ls st' G' = some out → W p l e R s m args below meth c H1 locs1 cells slots Q (F0 m (pc + 3) lsC (st'.map (mv_V ad)))) :
    W p l e R s m args below meth c H locs cells slots Q (F0 m pc lsC (st.map (mv_V ad))) := by
  unfold mv_call at h
  generalize hg : (Nat.ble n st.length && Nat.ble (st.length - n) 8 && _) = g at h
  cases g with
  | false => cases h
  | true =>
    simp only [Bool.and_eq_true] at hg
    obtain ⟨⟨g1, g2⟩, g3⟩ := hg
    have g1 := Nat.le_of_ble_eq_true g1
    have g2 := Nat.le_of_ble_eq_true g2
    dsimp only [cond] at h
    unfold mv_cn at h
    split at h <;> try contradiction
    next r G' hf =>
    have est : st.map (mv_V ad) = (((st.take n).reverse).map (mv_V ad)).reverse ++ (st.drop n).map (mv_V ad) := by
      rw [List.map_reverse, List.reverse_reverse, ← List.map_append, List.take_append_drop]
    rw [est]
    refine hc pc lsC (st.take n).reverse ((st.drop n).map (mv_V ad)) G G' r H locs hL.2.1 hdg (by simp; omega) (fun v hv => hst v (List.mem_of_mem_take (List.mem_reverse.mp hv))) (fun ci hci => ?_) (by simp; omega) (fun v hv => ?_) hf hW hS (fun H1 locs1 h1 h2 h3 => ?_)
    · subst hci
      generalize hta : (st.take n).reverse = ta at g3
      split at g3 <;> try contradiction
      next ci2 k as' hci2 =>
      cases hci2
      split at g3 <;> try contradiction
      next ci' fs hs =>
      cases Nat.eq_of_beq_eq_true g3
      exact ⟨k, as', fs, rfl, mv_no999 hF hs (hst _ (List.mem_of_mem_take (List.mem_reverse.mp (by rw [hta]; exact List.mem_cons_self)))), hs⟩
    · obtain ⟨w, -, rfl⟩ := List.mem_map.mp hv
      exact mv_okcat hF
    · cases vo with
      | true => exact kk H1 locs1 h1 h2 _ (fun v hv => hst v (List.mem_of_mem_drop hv)) h
      | false => exact kk H1 locs1 h1 h2 _ (mv_oks (show mv_okV ids ros (.inl r) from h3 rfl) (fun v hv => hst v (List.mem_of_mem_drop hv))) h
theorem mv_step_snd {own : String} {Ts : List Cond} {cr : mv_R} (hX : mv_Ctx p s m args c cc nL sh cl D tys own Ts cr M) (hF : mv_Fix sh ids ros ad cA tys A rc) (hR : mv_RO sh ros ad A rc cr s) (hro100 : ∀ k ci fs, sh k = some (.inr (ci, fs)) → Nat.ble 1000 k = true → Nat.ble 100 ci = true) (hro3 : ∀ k, Nat.ble 1000 k = true → ∀ n w, ¬ sh k = some (.inl (3, n, w))) (hrw2 : ∀ k, Nat.ble 1000 k = false → ∀ n w, ¬ sh k = some (.inl (2, n, w))) (hro1 : ∀ k, Nat.ble 1000 k = true → ∀ n w, ¬ sh k = some (.inl (1, n, w))) (hrw100 : ∀ k ci fs, sh k = some (.inr (ci, fs)) → Nat.ble 1000 k = false → Nat.ble 100 ci = false)
    (hC : mv_cst p l e R s m args below meth c cells slots Q cc ids ros ad A M) (hCal : ∀ x ∈ M.2.2.2.2.1, mv_Cal p l e R s m args below meth c cells slots Q cc nL sh ids ros ad cA cl D A x.1 x.2.1 x.2.2.1 x.2.2.2.1 x.2.2.2.2)
    (hK : ∀ pc ls st G, mv_Snd p l e R s m args below meth c cells slots Q cc nL sh ids ros ad cA cl D A M pc ls st G (K pc ls st G)) :
    mv_Snd p l e R s m args below meth c cells slots Q cc nL sh ids ros ad cA cl D A M pc ls st G (mv_step rc M sh K pc ls st G) := by
  obtain ⟨hx, hb, hown, hts, hKn, hml, hcls, hcode, hfld⟩ := hX
  intro out h hfin H locs lsC hW hS hL hst
  unfold mv_step at h
  split at h
  · cases h
  next i len hlk =>
  obtain ⟨hdg, hi⟩ := hcode _ (mv_lk_mem hlk)
  dsimp only at hdg hi
  have go : ∀ {pc' : Nat} {ls' : mv_L} {st' : List mv_A} {G' : mv_G}, K pc' ls' st' G' = some out → ∀ (H : Heap) (locs : List Loc) (lsC : Array Slot), mv_Wd sh ids ad cA cl D A G' H → va_S A s.heap H locs → mv_LR ids ros ad nL ls' lsC → (∀ v ∈ st', mv_okV ids ros v) → W p l e R s m args below meth c H locs cells slots Q (F0 m pc' lsC (st'.map (mv_V ad))) := fun h => hK _ _ _ _ out h hfin
  cases i
  case iload k =>
    dsimp only [mv_ldi] at h
    split at h <;> try contradiction
    next x hv => exact mv_ild hx hb hF hL hi (Or.inl rfl) hdg hv (fun ho => go h H locs lsC hW hS hL (mv_oks ho hst))
  case iload_n k =>
    dsimp only [mv_ldi] at h
    split at h <;> try contradiction
    next x hv => exact mv_ild hx hb hF hL hi (Or.inr ⟨k, rfl, rfl⟩) hdg hv (fun ho => go h H locs lsC hW hS hL (mv_oks ho hst))
  case aload k =>
    dsimp only [mv_lda] at h
    split at h <;> try contradiction
    next q hv =>
    cases h9 : mv_no q.1 with
    | true => rw [h9] at h; cases h
    | false =>
      rw [h9] at h
      exact mv_ald hx hb hF hL hi (Or.inl rfl) hdg hv h9 (fun ho => go h H locs lsC hW hS hL (mv_oks ho hst))
  case aload_n k =>
    dsimp only [mv_lda] at h
    split at h <;> try contradiction
    next q hv =>
    cases h9 : mv_no q.1 with
    | true => rw [h9] at h; cases h
    | false =>
      rw [h9] at h
      exact mv_ald hx hb hF hL hi (Or.inr ⟨k, rfl, rfl⟩) hdg hv h9 (fun ho => go h H locs lsC hW hS hL (mv_oks ho hst))
  case istore k =>
    dsimp only [mv_sti] at h
    split at h <;> try contradiction
    next x r hv => exact mv_ist hx hb hF hL hi (Or.inl rfl) hdg (List.getElem?_eq_some_iff.mp hv).1 (mv_okc hst).1 (fun lsC' hL' => go h H locs lsC' hW hS hL' (mv_okc hst).2)
  case istore_n k =>
    dsimp only [mv_sti] at h
    split at h <;> try contradiction
    next x r hv => exact mv_ist hx hb hF hL hi (Or.inr ⟨k, rfl, rfl⟩) hdg (List.getElem?_eq_some_iff.mp hv).1 (mv_okc hst).1 (fun lsC' hL' => go h H locs lsC' hW hS hL' (mv_okc hst).2)
  case astore k =>
    dsimp only [mv_sta] at h
    split at h <;> try contradiction
    next q r hv =>
    cases h9 : mv_no q.1 with
    | true => rw [h9] at h; cases h
    | false =>
      rw [h9] at h
      exact mv_ast hx hb hF hL hi (Or.inl rfl) hdg (List.getElem?_eq_some_iff.mp hv).1 (mv_okc hst).1 h9 (fun lsC' hL' => go h H locs lsC' hW hS hL' (mv_okc hst).2)
  case astore_n k =>
    dsimp only [mv_sta] at h
    split at h <;> try contradiction
    next q r hv =>
    cases h9 : mv_no q.1 with
    | true => rw [h9] at h; cases h
    | false =>
      rw [h9] at h
      exact mv_ast hx hb hF hL hi (Or.inr ⟨k, rfl, rfl⟩) hdg (List.getElem?_eq_some_iff.mp hv).1 (mv_okc hst).1 h9 (fun lsC' hL' => go h H locs lsC' hW hS hL' (mv_okc hst).2)
  case iinc k n =>
    dsimp only at h
    split at h <;> try contradiction
    next x hv =>
    simp only [mv_iok, Bool.and_eq_true] at hi
    cases Nat.eq_of_beq_eq_true hi.2
    exact mv_iin hx hb hF hL hdg hv (fun lsC' hL' => go h H locs lsC' hW hS hL' hst)
  case ldc k =>
    dsimp only at h
    split at h <;> try contradiction
    next v hv =>
    cases Nat.eq_of_beq_eq_true hi
    obtain ⟨ho, hc⟩ := hC.1 _ (mv_lk_mem hv)
    exact (hc pc H locs lsC _ hS).1 (mv_lk_mem hlk) hdg (go h H locs lsC hW hS hL (mv_oks ho hst))
  case ldc_w k =>
    dsimp only at h
    split at h <;> try contradiction
    next v hv =>
    cases Nat.eq_of_beq_eq_true hi
    obtain ⟨ho, hc⟩ := hC.1 _ (mv_lk_mem hv)
    exact (hc pc H locs lsC _ hS).2 (mv_lk_mem hlk) hdg (go h H locs lsC hW hS hL (mv_oks ho hst))
  case getstatic k =>
    dsimp only at h
    split at h <;> try contradiction
    next v hv =>
    cases Nat.eq_of_beq_eq_true hi
    obtain ⟨ho, hc⟩ := hC.2 _ (mv_lk_mem hv)
    exact (hc pc H locs lsC _ hS) hdg (go h H locs lsC hW hS hL (mv_oks ho hst))
  case goto off =>
    simp only [mv_iok, Bool.and_eq_true, decide_eq_true_eq] at hi
    cases Nat.eq_of_beq_eq_true hi.2
    exact lv_goto hx hb hdg (mv_tg_of hi.1) (go h H locs lsC hW hS hL hst)
  case ifCond cnd off =>
    dsimp only at h
    split at h <;> try contradiction
    next x r =>
    simp only [mv_iok, Bool.and_eq_true, decide_eq_true_eq] at hi
    cases Nat.eq_of_beq_eq_true hi.2
    rcases mv_if_h (mv_okc hst).1 mv_in0 h with ⟨h1, h2⟩ | ⟨h1, h2⟩
    · exact mv_ifc hx hb hdg (mv_tg_of hi.1) (fun _ => go h2 H locs lsC hW hS hL (mv_okc hst).2) (fun h3 => absurd (h3.symm.trans h1) (by decide))
    · exact mv_ifc hx hb hdg (mv_tg_of hi.1) (fun h3 => absurd (h3.symm.trans h1) (by decide)) (fun _ => go h2 H locs lsC hW hS hL (mv_okc hst).2)
  case if_icmp cnd off =>
    dsimp only at h
    split at h <;> try contradiction
    next y x r =>
    simp only [mv_iok, Bool.and_eq_true, decide_eq_true_eq] at hi
    cases Nat.eq_of_beq_eq_true hi.2
    obtain ⟨hy, hst⟩ := mv_okc hst
    rcases mv_if_h (mv_okc hst).1 hy h with ⟨h1, h2⟩ | ⟨h1, h2⟩
    · exact mv_icmp hx hb hdg (mv_tg_of hi.1) (fun _ => go h2 H locs lsC hW hS hL (mv_okc hst).2) (fun h3 => absurd (h3.symm.trans h1) (by decide))
    · exact mv_icmp hx hb hdg (mv_tg_of hi.1) (fun h3 => absurd (h3.symm.trans h1) (by decide)) (fun _ => go h2 H locs lsC hW hS hL (mv_okc hst).2)
  case idiv =>
    dsimp only at h
    split at h <;> try contradiction
    next y x r =>
    split at h <;> try contradiction
    next hy =>
    obtain ⟨ho1, hst⟩ := mv_okc hst
    obtain ⟨ho2, hst⟩ := mv_okc hst
    cases Nat.eq_of_beq_eq_true hi
    refine lv_idiv hx hb hdg (fun e => hy ((mv_eq ho1 mv_in0).mp e)) ?_
    have := go h H locs lsC hW hS hL (mv_oks (mv_w_in _) hst)
    rw [List.map_cons, mv_V, mv_w_of] at this
    have e : Int32.ofInt x / Int32.ofInt y = Int32.ofInt (x.tdiv y) := by
      apply Int32.toInt_inj.mp
      rw [Int32.toInt_div, mv_toInt ho2, mv_toInt ho1, Int32.toInt_ofInt]
    rw [e]
    exact this
  case irem =>
    dsimp only at h
    split at h <;> try contradiction
    next y x r =>
    split at h <;> try contradiction
    next hy =>
    obtain ⟨ho1, hst⟩ := mv_okc hst
    obtain ⟨ho2, hst⟩ := mv_okc hst
    cases Nat.eq_of_beq_eq_true hi
    refine lv_irem hx hb hdg (fun e => hy ((mv_eq ho1 mv_in0).mp e)) ?_
    have := go h H locs lsC hW hS hL (mv_oks (mv_w_in _) hst)
    rw [List.map_cons, mv_V, mv_w_of] at this
    have e0 : Int32.ofInt x / Int32.ofInt y = Int32.ofInt (x.tdiv y) := by
      apply Int32.toInt_inj.mp
      rw [Int32.toInt_div, mv_toInt ho2, mv_toInt ho1, Int32.toInt_ofInt]
    have e : Int32.ofInt x - Int32.ofInt x / Int32.ofInt y * Int32.ofInt y = Int32.ofInt (x.tmod y) := by
      rw [e0, ← Int32.ofInt_mul, ← Int32.ofInt_sub, Int.tmod_def, Int.mul_comm]
    rw [e]
    exact this
  case getfield k =>
    dsimp only at h
    split at h <;> try contradiction
    next q r =>
    split at h <;> try contradiction
    next ci fs ci' j z hs hf =>
    cases Nat.eq_of_beq_eq_true hi
    obtain ⟨ho, hst⟩ := mv_okc hst
    cases hc : Nat.beq ci ci' with
    | false => rw [hc] at h; cases h
    | true =>
      rw [hc] at h
      cases Nat.eq_of_beq_eq_true hc
      have hm := mv_no999 hF hs ho
      rw [List.map_cons, show mv_V ad (.inr (q, 0)) = .ref (mv_ra (ad q 0)) from mv_ref_of hF hm]
      dsimp only [cond] at h
      cases hro : Nat.ble 1000 q with
      | true =>
        have hR1 := hR q (mv_getro hF hm hro).1
        simp only [hs] at hR1
        rw [mv_rd_ro hro] at h
        have hlk2 : Nat.ble 100 ci = true := hro100 _ _ _ hs hro
        have e3 := (hfld _ (mv_lk_mem hf)).1 hlk2
        split at h <;> try contradiction
        · next hj => exact vk_getf hx hb (hR1.2 j _ hj) hS hown e3 (fun _ h => h) hdg (go h H locs lsC hW hS hL (mv_oks (hF.2.2.2.2.2.2.2.1 _ _ _) hst))
        · next t hj => exact vk_getf hx hb (hR1.2 j _ hj) hS hown e3 (fun _ h => h) hdg (go h H locs lsC hW hS hL (mv_oks (Or.inl (hF.2.1 _ _ _ hm hs _ _ hj)) hst))
      | false =>
        have hlk2 : Nat.ble 100 ci = false := hrw100 _ _ _ hs hro
        obtain ⟨q1, e1, e2, e3, -⟩ := (hfld _ (mv_lk_mem hf)).2 hlk2
        obtain ⟨q0, hq0, hg⟩ := mv_getcell hF hW hm hro
        simp only [mv_cel, hs] at hg
        rw [mv_rd_rw hro] at h
        split at h <;> try contradiction
        · next hj => exact va_get (C := q1.1) (T := q1.2.1) (N := q1.2.2) hx hb hts (hcls _ _ e1).1 hown hKn hW.1 q0 hg e1 j e2 e3 (fun _ h => h) (mv_fs_get hj) hdg (go h H locs lsC hW hS hL (mv_oks (hW.2.2 _ _ _) hst))
        · next t hj => exact va_get (C := q1.1) (T := q1.2.1) (N := q1.2.2) hx hb hts (hcls _ _ e1).1 hown hKn hW.1 q0 hg e1 j e2 e3 (fun _ h => h) (mv_fs_get hj) hdg (go h H locs lsC hW hS hL (mv_oks (Or.inl (hF.2.1 _ _ _ hm hs _ _ hj)) hst))
  case putfield k =>
    dsimp only at h
    split at h <;> try contradiction
    next v q r =>
    split at h <;> try contradiction
    next ci fs ci' j z hs hf =>
    cases Nat.eq_of_beq_eq_true hi
    obtain ⟨hov, hst⟩ := mv_okc hst
    obtain ⟨ho, hst⟩ := mv_okc hst
    cases hc : Nat.beq ci ci' with
    | false => rw [hc] at h; cases h
    | true =>
      rw [hc] at h
      cases Nat.eq_of_beq_eq_true hc
      have hm := mv_no999 hF hs ho
      have eV : mv_V ad (.inr (q, 0)) = .ref (mv_ra (ad q 0)) := mv_ref_of hF hm
      rw [List.map_cons, List.map_cons, eV]
      dsimp only [cond] at h
      split at h <;> try contradiction
      next hj =>
      cases hro : Nat.ble 1000 q with
      | true => rw [hro] at h; cases h
      | false =>
        rw [hro] at h
        obtain ⟨q1, e1, e2, e3, e4⟩ := (hfld _ (mv_lk_mem hf)).2 (hrw100 _ _ _ hs hro)
        obtain ⟨q0, hq0, hg⟩ := mv_getcell hF hW hm hro
        have hg' : (mv_wd sh ad cA ids G)[q0]? = some (mv_ra (ad q 0), .inr (ci, mv_fs ad (G q 0) fs)) := by rw [hg]; simp only [mv_cel, hs]
        obtain ⟨c1, ⟨ty0, c2⟩, c3⟩ := hcls _ _ e1
        have hxe : (mv_ra (ad q 0), (.inr (ci, (mv_fs ad (G q 0) fs).set j (.int (Int32.ofInt v))) : va_E)) = mv_cel sh ad cA (mv_up G q 0 j v) q 0 := by
          simp only [mv_cel, hs]
          rw [mv_fs_set hj]
        have key : K (pc + 3) ls r (mv_up G q 0 j v) = some out → (z = 0 ∨ z = 1) → (z = 1 → 0 ≤ v ∧ v < 2) → W p l e R s m args below meth c H locs cells slots Q (F0 m pc lsC (mv_V ad (.inl v) :: .ref (mv_ra (ad q 0)) :: r.map (mv_V ad))) := by
          intro h hz0 hz
          obtain ⟨f1, f2⟩ := e4 hz0
          refine va_put (C := q1.1) (T := q1.2.1) (N := q1.2.2) (ty := if z = 1 then .boolean else .int) hx hb hts c1 ty0 c2 c3 hown hKn hW.1 hW.2.1 hS q0 hg' e1 j e2 e3 (fun _ h => h) f1 f2 ?_ ?_ (by rw [mv_fs_len]; exact (List.getElem?_eq_some_iff.mp hj).1) hdg (fun H1 locs1 hP1 hD1 hS1 => ?_)
          · rcases hz0 with rfl | rfl
            · rfl
            · obtain ⟨z1, z2⟩ := hz rfl
              rcases (show v = 0 ∨ v = 1 by omega) with rfl | rfl <;> rfl
          · rcases hz0 with rfl | rfl
            · rfl
            · obtain ⟨z1, z2⟩ := hz rfl
              rcases (show v = 0 ∨ v = 1 by omega) with rfl | rfl <;> rfl
          · exact go h H1 locs1 lsC (mv_Wd_put hF hW hov hq0 hxe hP1 hD1) hS1 hL hst
        dsimp only [cond] at h
        split at h <;> try contradiction
        · exact key h (Or.inl rfl) (fun h => by cases h)
        · obtain ⟨z1, z2⟩ := mv_ck_h h
          exact key z2 (Or.inr rfl) (fun _ => z1)
  case arraylength =>
    dsimp only at h
    split at h <;> try contradiction
    next q i r =>
    have ho := (mv_okc hst).1
    cases Nat.eq_of_beq_eq_true hi
    split at h <;> try contradiction
    · rename sh q = some _ => hs
      have hm := mv_no999 hF hs ho
      rw [List.map_cons, show mv_V ad (.inr (q, 0)) = .ref (mv_ra (ad q 0)) from mv_ref_of hF hm]
      obtain ⟨hn, hw, h3⟩ := hF.1 _ _ _ _ _ hm hs
      cases hro : Nat.ble 1000 q with
      | true =>
        have hR1 := hR q (mv_getro hF hm hro).1
        simp only [hs] at hR1
        exact va_tlen hx hb hR1 hS rfl hdg (go h H locs lsC hW hS hL (mv_oks (by show mv_in _; unfold mv_in; omega) (mv_okc hst).2))
      | false =>
        obtain ⟨q0, hq0, hg⟩ := mv_getcell hF hW hm hro
        simp only [mv_cel, hs] at hg
        exact va_alen hx hb hKn hW.1 q0 _ hg (h3 hro).1 rfl hdg (go h H locs lsC hW hS hL (mv_oks (by show mv_in _; unfold mv_in; omega) (mv_okc hst).2))
    · rename sh q = some _ => hs
      have hm := mv_no999 hF hs ho
      rw [List.map_cons, show mv_V ad (.inr (q, 0)) = .ref (mv_ra (ad q 0)) from mv_ref_of hF hm]
      obtain ⟨hn, hw, h3⟩ := hF.1 _ _ _ _ _ hm hs
      cases hro : Nat.ble 1000 q with
      | true =>
        have hR1 := hR q (mv_getro hF hm hro).1
        simp only [hs] at hR1
        exact va_tlen hx hb hR1 hS rfl hdg (go h H locs lsC hW hS hL (mv_oks (by show mv_in _; unfold mv_in; omega) (mv_okc hst).2))
      | false =>
        obtain ⟨q0, hq0, hg⟩ := mv_getcell hF hW hm hro
        simp only [mv_cel, hs] at hg
        exact va_alen hx hb hKn hW.1 q0 _ hg (h3 hro).1 rfl hdg (go h H locs lsC hW hS hL (mv_oks (by show mv_in _; unfold mv_in; omega) (mv_okc hst).2))
    · rename sh q = some _ => hs
      have hm := mv_no999 hF hs ho
      rw [List.map_cons, show mv_V ad (.inr (q, 0)) = .ref (mv_ra (ad q 0)) from mv_ref_of hF hm]
      obtain ⟨hn, hw, h3⟩ := hF.1 _ _ _ _ _ hm hs
      cases hro : Nat.ble 1000 q with
      | true =>
        exact absurd hs (hro3 _ hro _ _)
      | false =>
        obtain ⟨q0, hq0, hg⟩ := mv_getcell hF hW hm hro
        simp only [mv_cel, hs] at hg
        exact va_alen hx hb hKn hW.1 q0 _ hg (h3 hro).1 rfl hdg (go h H locs lsC hW hS hL (mv_oks (by show mv_in _; unfold mv_in; omega) (mv_okc hst).2))
    · rename sh q = some _ => hs
      have hm := mv_no999 hF hs ho
      rw [List.map_cons, show ∀ i', (q, i') ∈ ids ++ ros → mv_V ad (.inr (q, i')) = .ref (mv_ra (ad q i')) from fun i' h => mv_ref_of hF h]
      · obtain ⟨hn, hw, h3⟩ := hF.1 _ _ _ _ _ hm hs
        cases hro : Nat.ble 1000 q with
        | true => exact absurd hs (hro3 _ hro _ _)
        | false =>
          obtain ⟨q0, hq0, hg⟩ := mv_getcell hF hW hm hro
          simp only [mv_cel, hs] at hg
          exact va_alen hx hb hKn hW.1 q0 0 hg ((h3 hro).2 rfl).1 rfl hdg (go h H locs lsC hW hS hL (mv_oks (by show mv_in _; unfold mv_in; omega) (mv_okc hst).2))
      · exact hm
  case iaload =>
    dsimp only at h
    split at h <;> try contradiction
    next x q i r =>
    have hox := (mv_okc hst).1
    have ho := (mv_okc (mv_okc hst).2).1
    have hst' := (mv_okc (mv_okc hst).2).2
    cases Nat.eq_of_beq_eq_true hi
    split at h <;> try contradiction
    · rename sh q = some _ => hs
      have hm := mv_no999 hF hs ho
      rw [List.map_cons, List.map_cons, show mv_V ad (.inr (q, 0)) = .ref (mv_ra (ad q 0)) from mv_ref_of hF hm]
      obtain ⟨hn, hw, h3⟩ := hF.1 _ _ _ _ _ hm hs
      obtain ⟨hin, h⟩ := mv_ck_h h
      cases hro : Nat.ble 1000 q with
      | true =>
        have hR1 := hR q (mv_getro hF hm hro).1
        simp only [hs] at hR1
        rw [mv_rd_ro hro] at h
        exact va_ti hx hb hR1 hS (mv_vpin hox hin) (by rw [mv_clamp hox hin.1]; rfl) hdg (go h H locs lsC hW hS hL (mv_oks (hF.2.2.2.2.2.2.2.1 _ _ _) hst'))
      | false =>
        obtain ⟨q0, hq0, hg⟩ := mv_getcell hF hW hm hro
        simp only [mv_cel, hs] at hg
        rw [mv_rd_rw hro] at h
        refine va_iald hx hb hKn hW.1 q0 0 hg (h3 hro).1 (mv_vpin hox hin) hdg ?_
        rw [mv_clamp hox hin.1]
        exact go h H locs lsC hW hS hL (mv_oks (hW.2.2 _ _ _) hst')
    · rename sh q = some _ => hs
      have hm := mv_no999 hF hs ho
      rw [List.map_cons, List.map_cons, show ∀ i', (q, i') ∈ ids ++ ros → mv_V ad (.inr (q, i')) = .ref (mv_ra (ad q i')) from fun i' h => mv_ref_of hF h]
      · obtain ⟨hn, hw, h3⟩ := hF.1 _ _ _ _ _ hm hs
        obtain ⟨hin, h⟩ := mv_ck_h h
        cases hro : Nat.ble 1000 q with
        | true => exact absurd hs (hro3 _ hro _ _)
        | false =>
          obtain ⟨q0, hq0, hg⟩ := mv_getcell hF hW hm hro
          simp only [mv_cel, hs] at hg
          rw [mv_rd_rw hro] at h
          refine va_iald hx hb hKn hW.1 q0 0 hg ((h3 hro).2 rfl).1 (mv_vpin hox hin) hdg ?_
          rw [mv_clamp hox hin.1]
          exact go h H locs lsC hW hS hL (mv_oks (hW.2.2 _ _ _) hst')
      · exact hm
  case iastore =>
    dsimp only at h
    split at h <;> try contradiction
    next v x q i r =>
    obtain ⟨hov, hst⟩ := mv_okc hst
    obtain ⟨hox, hst⟩ := mv_okc hst
    obtain ⟨ho, hst⟩ := mv_okc hst
    cases Nat.eq_of_beq_eq_true hi
    split at h <;> try contradiction
    · rename sh q = some _ => hs
      have hm := mv_no999 hF hs ho
      rw [List.map_cons, List.map_cons, List.map_cons, show mv_V ad (.inr (q, 0)) = .ref (mv_ra (ad q 0)) from mv_ref_of hF hm]
      obtain ⟨hn, hw, h3⟩ := hF.1 _ _ _ _ _ hm hs
      cases hro : Nat.ble 1000 q with
      | true => rw [hro] at h; cases h
      | false =>
        rw [hro] at h
        obtain ⟨hin, h⟩ := mv_ck_h h
        obtain ⟨q0, hq0, hg⟩ := mv_getcell hF hW hm hro
        simp only [mv_cel, hs] at hg
        refine va_iast hx hb hKn hW.1 hW.2.1 hS q0 0 hg (h3 hro).1 (mv_vpin hox hin) hdg (fun H1 locs1 hP1 hD1 hS1 => ?_)
        rw [mv_clamp hox hin.1] at hP1 hD1
        refine go h H1 locs1 lsC (mv_Wd_put hF hW hov hq0 ?_ hP1 hD1) hS1 hL (mv_okc hst).2
        simp only [mv_cel, hs, mv_upd]
    · rename sh q = some _ => hs
      have hm := mv_no999 hF hs ho
      rw [List.map_cons, List.map_cons, List.map_cons, show ∀ i', (q, i') ∈ ids ++ ros → mv_V ad (.inr (q, i')) = .ref (mv_ra (ad q i')) from fun i' h => mv_ref_of hF h]
      · obtain ⟨hn, hw, h3⟩ := hF.1 _ _ _ _ _ hm hs
        cases hro : Nat.ble 1000 q with
        | true => rw [hro] at h; cases h
        | false =>
          rw [hro] at h
          obtain ⟨hin, h⟩ := mv_ck_h h
          obtain ⟨q0, hq0, hg⟩ := mv_getcell hF hW hm hro
          simp only [mv_cel, hs] at hg
          refine va_iast hx hb hKn hW.1 hW.2.1 hS q0 0 hg ((h3 hro).2 rfl).1 (mv_vpin hox hin) hdg (fun H1 locs1 hP1 hD1 hS1 => ?_)
          rw [mv_clamp hox hin.1] at hP1 hD1
          refine go h H1 locs1 lsC (mv_Wd_put hF hW hov hq0 ?_ hP1 hD1) hS1 hL (mv_okc hst).2
          simp only [mv_cel, hs, mv_upd]
      · exact hm
  case baload =>
    dsimp only at h
    split at h <;> try contradiction
    next x q r =>
    obtain ⟨hox, hst⟩ := mv_okc hst
    obtain ⟨ho, hst⟩ := mv_okc hst
    cases Nat.eq_of_beq_eq_true hi
    split at h <;> try contradiction
    · rename sh q = some _ => hs
      have hm := mv_no999 hF hs ho
      rw [List.map_cons, List.map_cons, show mv_V ad (.inr (q, 0)) = .ref (mv_ra (ad q 0)) from mv_ref_of hF hm]
      obtain ⟨hn, hw, h3⟩ := hF.1 _ _ _ _ _ hm hs
      obtain ⟨hin, h⟩ := mv_ck_h h
      cases hro : Nat.ble 1000 q with
      | true => exact absurd hs (hro1 _ hro _ _)
      | false =>
        obtain ⟨q0, hq0, hg⟩ := mv_getcell hF hW hm hro
        simp only [mv_cel, hs] at hg
        rw [mv_rd_rw hro] at h
        refine va_zald hx hb hKn hW.1 q0 1 hg (h3 hro).1 (mv_vpin hox hin) hdg ?_
        rw [mv_clamp hox hin.1]
        exact go h H locs lsC hW hS hL (mv_oks (hW.2.2 _ _ _) hst)
    · rename sh q = some _ => hs
      have hm := mv_no999 hF hs ho
      rw [List.map_cons, List.map_cons, show mv_V ad (.inr (q, 0)) = .ref (mv_ra (ad q 0)) from mv_ref_of hF hm]
      obtain ⟨hn, hw, h3⟩ := hF.1 _ _ _ _ _ hm hs
      obtain ⟨hin, h⟩ := mv_ck_h h
      cases hro : Nat.ble 1000 q with
      | false => exact absurd hs (hrw2 _ hro _ _)
      | true =>
        have hR1 := hR q (mv_getro hF hm hro).1
        simp only [hs] at hR1
        rw [mv_rd_ro hro] at h
        exact va_tb hx hb hR1 hS (mv_vpin hox hin) (by rw [mv_clamp hox hin.1]; rfl) hdg (go h H locs lsC hW hS hL (mv_oks (hF.2.2.2.2.2.2.2.1 _ _ _) hst))
  case bastore =>
    dsimp only at h
    split at h <;> try contradiction
    next v x q r =>
    obtain ⟨hov, hst⟩ := mv_okc hst
    obtain ⟨hox, hst⟩ := mv_okc hst
    obtain ⟨ho, hst⟩ := mv_okc hst
    cases Nat.eq_of_beq_eq_true hi
    split at h <;> try contradiction
    rename sh q = some _ => hs
    have hm := mv_no999 hF hs ho
    rw [List.map_cons, List.map_cons, List.map_cons, show mv_V ad (.inr (q, 0)) = .ref (mv_ra (ad q 0)) from mv_ref_of hF hm]
    obtain ⟨hn, hw, h3⟩ := hF.1 _ _ _ _ _ hm hs
    cases hro : Nat.ble 1000 q with
    | true => rw [hro] at h; cases h
    | false =>
      rw [hro] at h
      obtain ⟨hin, h⟩ := mv_ck_h h
      obtain ⟨hin2, h⟩ := mv_ck_h h
      obtain ⟨q0, hq0, hg⟩ := mv_getcell hF hW hm hro
      simp only [mv_cel, hs] at hg
      refine va_zast hx hb hKn hW.1 hW.2.1 hS q0 1 hg (h3 hro).1 (mv_vpin hox hin) hdg (fun H1 locs1 hP1 hD1 hS1 => ?_)
      have e1 : vp_nar .boolean (Int32.ofInt v) = Int32.ofInt v := by
        rcases (show v = 0 ∨ v = 1 by omega) with rfl | rfl <;> rfl
      rw [mv_clamp hox hin.1, e1] at hP1 hD1
      refine go h H1 locs1 lsC (mv_Wd_put hF hW hov hq0 ?_ hP1 hD1) hS1 hL hst
      simp only [mv_cel, hs, mv_upd]
  case aaload =>
    dsimp only at h
    split at h <;> try contradiction
    next x q r =>
    obtain ⟨hox, hst⟩ := mv_okc hst
    obtain ⟨ho, hst⟩ := mv_okc hst
    cases Nat.eq_of_beq_eq_true hi
    split at h <;> try contradiction
    rename sh q = some _ => hs
    have hm := mv_no999 hF hs ho
    rw [List.map_cons, List.map_cons, show mv_V ad (.inr (q, 0)) = .ref (mv_ra (ad q 0)) from mv_ref_of hF hm]
    obtain ⟨hn, hw, h3⟩ := hF.1 _ _ _ _ _ hm hs
    obtain ⟨hin, h⟩ := mv_ck_h h
    cases hro : Nat.ble 1000 q with
    | true => exact absurd hs (hro3 _ hro _ _)
    | false =>
    obtain ⟨q0, hq0, hg⟩ := mv_getcell hF hW hm hro
    simp only [mv_cel, hs] at hg
    have hm2 := ((h3 hro).2 rfl).2 x.toNat (by omega)
    have hlt : (Int32.ofInt x).toNatClampNeg < _ := Nat.not_le.mp fun q => mv_vpin hox hin (Or.inr q)
    refine W.aald (v := ad q (x.toNat + 1)) (ty := .array .int) hx hb (hW.1 q0 _ hg) ((hKn.2 3 _ (h3 hro).1).1 _ (fun j => va_rf (if j < _ then some (mv_ra (ad q (j + 1))) else none))) rfl (fun q => by cases q) (by show ¬ (_ < 0 ∨ (arrV _ _ _).slots.size ≤ _); rw [arrV_size]; exact mv_vpin hox hin) (by show (arrV _ _ _).slots[_]? = _; rw [arrV_read _ _ hlt]; simp only [hlt, if_true]; rw [mv_clamp hox hin.1]; exact congrArg some (mv_ref_of hF (List.mem_append_left _ hm2)).symm) rfl rfl hdg ?_
    exact go h H locs lsC hW hS hL (mv_oks (Or.inl (List.mem_append_left _ hm2)) hst)
  case ireturn =>
    dsimp only at h
    cases Nat.eq_of_beq_eq_true hi
    split at h <;> try contradiction
    · next v hb0 =>
      cases h
      exact (hfin H locs lsC pc hW hS).1 (mv_okc hst).1 (fun lo hi h => by rw [hb0] at h; cases h) (mv_lk_mem hlk) hdg
    · next v lo hi hb0 =>
      split at h <;> try contradiction
      next hv =>
      cases h
      exact (hfin H locs lsC pc hW hS).1 (mv_okc hst).1 (fun lo' hi' h => by rw [hb0] at h; cases h; exact hv) (mv_lk_mem hlk) hdg
  case return_ =>
    dsimp only at h
    cases Nat.eq_of_beq_eq_true hi
    split at h <;> try contradiction
    cases h
    exact (hfin H locs lsC pc hW hS).2 rfl (mv_lk_mem hlk) hdg
  case lookupswitch d ps =>
    dsimp only at h
    split at h <;> try contradiction
    next x r =>
    simp only [mv_iok, Bool.and_eq_true, decide_eq_true_eq] at hi
    obtain ⟨⟨i1, i2⟩, i3⟩ := hi
    obtain ⟨h1, h2⟩ := mv_lks_h h i1 i2
    exact lv_lookup hx hb hdg i3 (by rw [mv_toInt (mv_okc hst).1]) (mv_tg_of h2) (go h1 H locs lsC hW hS hL (mv_okc hst).2)
  case tableswitch d lo hi0 ofs =>
    dsimp only at h
    split at h <;> try contradiction
    next x r =>
    simp only [mv_iok, Bool.and_eq_true, decide_eq_true_eq] at hi
    obtain ⟨⟨i1, i2⟩, i3⟩ := hi
    by_cases hlo : x < lo
    · exact lv_tableOut hx hb hdg (Or.inl (by rw [mv_toInt (mv_okc hst).1]; exact hlo)) (mv_tg_of i1) (go (mv_tbs_lo hlo h) H locs lsC hW hS hL (mv_okc hst).2)
    · rcases mv_tbs_h h with (h1 | ⟨h1, h2⟩) | ⟨h1, t', h2, h3⟩
      · exact absurd h1 hlo
      · exact lv_tableOut hx hb hdg (Or.inr (by rw [mv_toInt (mv_okc hst).1]; omega)) (mv_tg_of i1) (go h2 H locs lsC hW hS hL (mv_okc hst).2)
      · have hl := (List.getElem?_eq_some_iff.mp h2).1
        have h0 := List.all_eq_true.mp i2 t' (List.mem_of_getElem? h2)
        exact lv_tableIn hx hb hdg (by rw [mv_toInt (mv_okc hst).1]; exact hlo) (by rw [mv_toInt (mv_okc hst).1]; omega) (by rw [mv_toInt (mv_okc hst).1, ← Array.getElem?_toList]; exact h2) (mv_tg_of (of_decide_eq_true h0)) (go h3 H locs lsC hW hS hL (mv_okc hst).2)
  case invokevirtual k =>
    dsimp only at h
    split at h <;> try contradiction
    next n ci vo f hf =>
    cases Nat.eq_of_beq_eq_true hi
    exact mv_call_snd hF hL hW hS hst (hCal _ (mv_lk_mem hf)) hdg h (fun H1 locs1 h1 h2 st' h3 h4 => go h4 H1 locs1 lsC h1 h2 hL h3)
  case invokestatic k =>
    dsimp only at h
    split at h <;> try contradiction
    next n vo f hf =>
    cases Nat.eq_of_beq_eq_true hi
    exact mv_call_snd hF hL hW hS hst (hCal _ (mv_lk_mem hf)) hdg h (fun H1 locs1 h1 h2 st' h3 h4 => go h4 H1 locs1 lsC h1 h2 hL h3)
  all_goals first
    | (simp [mv_op] at h; done)
    | (dsimp only at h
       split at h
       · next r hop => exact mv_op_snd hF hx hb hdg hi hop hst (fun hst' => go h H locs lsC hW hS hL hst')
       · contradiction)
end MV
