/-! The law from its entry: what is left is pure. -/
def lw_Q (_ : Array Value) (s : State) (o : Outcome) (t : State) : Prop := o = .returned (some (.int 1)) ∧ Framed s o t [] 600000 7302250
def lw_Z (below : List Frame) (a : Array Value) (s : State) : State → Prop := fun t => ∃ o, t.status = .running ∧ Ended t below o ∧ lw_Q a s o t
/-- the law's own end, with 1 on the stack, nothing written that was there before, its room as the claim has it -/
theorem lw_ret {p : Program} {l : Launch} {e : Env} {s : State} {m : MethodId} {below : List Frame} {meth : Method} {c : Code} {b : Nat} (hx : p.tables.exec = Jvm.exec) (hb : c.code = code) (hr : meth.sig.returnType = ret) (hlocks : meth.locks = false) {pc : Nat} {H : Heap} {ls : Array Slot} (hdg : decode code pc = .ok (.ireturn, 1)) : W p l e room_1 s m #[Value.ref b] below meth c H [] 600000 7302250 (lw_Z below #[Value.ref b] s) (F0 m pc ls [.int 1]) := by
  intro T hT X
  obtain ⟨fs, hret, hrun, hended, hW, hframe⟩ := X.leave (v := some (.int 1)) (hlocks := hlocks) (fun h => by rw [hr] at h; cases h)
  have hmeth' : T.vm.method? m = some meth := X.method'
  refine ⟨T.setFrames fs, ?_, .returned (some (.int 1)), hrun, hended, rfl, ⟨_, rfl⟩, hW, hframe⟩
  jvm_step X.here [X.here.top, hx, hb, hdg, hmeth', hr, ret, narrow_b1]
  (try refine ⟨rfl, ?_⟩); (try refine ⟨rfl, ?_⟩)
  first | (intro acts; rw [hret _ acts rfl rfl rfl]) | rw [hret _ _ rfl rfl rfl]
  exact Steps.refl _

section MV
variable {l : Launch} {ad : Nat → Nat → Value} {cA : Nat → ClassId} {D : va_G} {tys : List (ClassId × FieldType)} {A : Nat → Prop} {H : Heap}
def mv_has (l : List (Nat × Nat)) (a b : Nat) : Bool := l.any fun q => Nat.beq q.1 a && Nat.beq q.2 b
theorem mv_has_eq (l : List (Nat × Nat)) (a b : Nat) : l.contains (a, b) = mv_has l a b := by
  rw [List.contains_eq_any_beq]
  unfold mv_has
  congr 1
  funext q
  rw [Bool.eq_iff_iff]
  simp only [beq_iff_eq, Bool.and_eq_true]
  constructor
  · intro h
    cases h
    exact ⟨Nat.beq_refl _, Nat.beq_refl _⟩
  · rintro ⟨h1, h2⟩
    exact Prod.ext (Nat.eq_of_beq_eq_true h1).symm (Nat.eq_of_beq_eq_true h2).symm
def mv_inc : List (Nat × Nat) → Bool
  | a :: b :: l => Nat.ble (a.1 * 1000 + a.2 + 1) (b.1 * 1000 + b.2) && mv_inc (b :: l)
  | _ => true
theorem mv_inc_lt : ∀ {l : List (Nat × Nat)} {a : Nat × Nat}, mv_inc (a :: l) = true → ∀ b ∈ l, a.1 * 1000 + a.2 < b.1 * 1000 + b.2
  | [], _, _, b, hb => by cases hb
  | c :: l, a, h, b, hb => by
    simp only [mv_inc, Bool.and_eq_true] at h
    have h1 := Nat.le_of_ble_eq_true h.1
    rcases List.mem_cons.mp hb with rfl | hb
    · exact h1
    · exact Nat.lt_trans h1 (mv_inc_lt h.2 b hb)
theorem mv_inc_nd : ∀ {l : List (Nat × Nat)}, mv_inc l = true → l.Nodup
  | [], _ => List.nodup_nil
  | [a], _ => List.nodup_cons.mpr ⟨List.not_mem_nil, List.nodup_nil⟩
  | a :: b :: l, h => by
    refine List.nodup_cons.mpr ⟨fun hm => Nat.lt_irrefl _ (mv_inc_lt h a hm), mv_inc_nd (by simp only [mv_inc, Bool.and_eq_true] at h; exact h.2)⟩
def mv_ky : List Nat := mv_wl.map fun x => x.1
theorem mv_ky_all {P : Nat → Bool} {l : List (Nat × Nat)} (h : mv_ky.all P = true) (hl : (l.all fun q => mv_ky.any fun k => Nat.beq k q.1) = true) : (l.all fun q => P q.1) = true := by
  refine List.all_eq_true.mpr fun q hq => ?_
  obtain ⟨k, hk, e⟩ := List.any_eq_true.mp (List.all_eq_true.mp hl q hq)
  rw [← Nat.eq_of_beq_eq_true e]
  exact List.all_eq_true.mp h k hk
theorem mv_fxk : mv_fxq mv_ids = true := by
  have h1 : mv_ids.Nodup := mv_inc_nd (by decide +kernel)
  unfold mv_fxq
  rw [decide_eq_true h1]
  simp only [mv_has_eq]
  rw [Bool.and_true, Bool.and_eq_true]
  exact ⟨mv_ky_all (P := fun k => match mv_sh k with
  | some (.inl (t, n, w)) => decide (n < 2147483648) && decide (w < 2147483648) && (Nat.ble 1000 k || ((Nat.beq t 0 || Nat.beq t 1 || Nat.beq t 3) && (!Nat.beq t 3 || (List.range n).all fun i => mv_has mv_ids k (i + 1))))
  | some (.inr (_, fs)) => fs.all fun r => match r with | some t => mv_has (mv_ids ++ mv_ros) t 0 | none => true
  | none => true) (by decide +kernel) (by decide +kernel), by decide +kernel⟩
theorem mv_Fix_all (hty : mv_tyw cA tys) (hW : mv_WV ad cA D A mv_G0 mv_ids H) (hro : ∀ q ∈ mv_ros, ∃ a, ad q.1 q.2 = .ref a) : mv_Fix mv_sh mv_ids mv_ros ad cA tys A mv_rc :=
  mv_Fix_of mv_fxk hty hW.2.2.2.1 hro hW.2.2.2.2 (fun q hq => hW.2.1.2 (mv_cel mv_sh ad cA mv_G0 q.1 q.2) (List.mem_map.mpr ⟨q, hq, rfl⟩))
theorem mv_ids6 : ∀ q ∈ mv_ids, q.1 ≠ 1006 := by
  have h : mv_ids.all (fun q => decide (q.1 ≠ 1006)) = true := by decide +kernel
  exact fun q hq => of_decide_eq_true (List.all_eq_true.mp h q hq)
theorem mv_Fix2 {L : Nat} {xs : Nat → Int} (h : mv_Fix mv_sh mv_ids mv_ros ad cA tys A mv_rc) (hb : ∃ a, ad 1006 0 = .ref a) (hL : L ≤ 3072) (hxs : ∀ j, mv_in (xs j)) : mv_Fix (mv_sh2 L) mv_ids mv_ro2 ad cA tys A (mv_rc2 xs) := by
  obtain ⟨f1, f2, f3, f4, f5, f6, f7, f8, f9⟩ := h
  have hsp : ∀ q, q ∈ mv_ids ++ mv_ro2 → q ∈ mv_ids ++ mv_ros ∨ q = (1006, 0) := fun q hq => by
    rw [mv_ro2, ← List.append_assoc] at hq
    rcases List.mem_append.mp hq with hq | hq
    · exact Or.inl hq
    · exact Or.inr (List.mem_singleton.mp hq)
  have h6 : ∀ q ∈ mv_ids ++ mv_ros, q.1 ≠ 1006 := fun q hq => by
    rcases List.mem_append.mp hq with hq | hq
    · exact mv_ids6 q hq
    · exact mv_ros6 q hq
  have hin : ∀ q, q ∈ mv_ids ++ mv_ros → q ∈ mv_ids ++ mv_ro2 := fun q hq => by
    rw [mv_ro2, ← List.append_assoc]
    exact List.mem_append_left _ hq
  refine ⟨fun k i t n w hk hs => ?_, fun k ci fs hk hs j t hj => ?_, fun q hq => ?_, f4, f5, f6, fun q hq => ?_, fun k i j => ?_, fun k h1 h2 => ?_⟩
  · rcases hsp _ hk with hk | hk
    · rw [mv_sh2_ne (h6 _ hk)] at hs
      exact f1 k i t n w hk hs
    · cases hk
      cases hs
      exact ⟨by omega, by decide, fun h => by cases h⟩
  · rcases hsp _ hk with hk | hk
    · rw [mv_sh2_ne (h6 _ hk)] at hs
      exact hin _ (f2 k ci fs hk hs j t hj)
    · cases hk
      cases hs
  · rcases hsp _ hq with hq | hq
    · exact f3 q hq
    · subst hq; exact hb
  · rcases List.mem_append.mp hq with hq | hq
    · exact f7 q hq
    · rw [List.mem_singleton] at hq
      subst hq
      exact ⟨rfl, rfl⟩
  · unfold mv_rc2
    cases Nat.beq k 1006 with
    | true => exact hxs j
    | false => exact f8 k i j
  · rw [mv_sh2_ne (fun e => by rw [e] at h2; cases h2)]
    exact f9 k h1 h2
theorem mv_st2 {L : Nat} : mv_St (mv_sh2 L) := by
  obtain ⟨s1, s2, s3, s4, s5⟩ := mv_stok
  have h6 : ∀ {k : Nat} {q : mv_S}, mv_sh2 L k = some q → mv_sh k = some q ∨ (k = 1006 ∧ q = .inl (0, L, 0)) := fun {k q} h => by
    by_cases e : k = 1006
    · subst e; cases h; exact Or.inr ⟨rfl, rfl⟩
    · rw [mv_sh2_ne e] at h; exact Or.inl h
  refine ⟨fun k ci fs h b => ?_, fun k b n w h => ?_, fun k b n w h => ?_, fun k b n w h => ?_, fun k ci fs h b => ?_⟩
  · rcases h6 h with h | ⟨-, h⟩
    · exact s1 k ci fs h b
    · cases h
  · rcases h6 h with h | ⟨-, h⟩
    · exact s2 k b n w h
    · cases h
  · rcases h6 h with h | ⟨-, h⟩
    · exact s3 k b n w h
    · cases h
  · rcases h6 h with h | ⟨-, h⟩
    · exact s4 k b n w h
    · cases h
  · rcases h6 h with h | ⟨-, h⟩
    · exact s5 k ci fs h b
    · cases h
/-- the contracts of the two benches -/
def mv_IB (l : Launch) : Prop := ∀ (cA : Nat → ClassId) (D : va_G) (tys : List (ClassId × FieldType)), mv_tyw cA tys → mv_Ini l yX2_init cX2_init 1 { frames := 8, cells := 31, slots := 1917, locals := 512 } cA D tys mv_G0 1 2 [] id_1 ∧ mv_Ini l yX2_init cX2_init 1 { frames := 8, cells := 31, slots := 1917, locals := 512 } cA D tys mv_G0 24 2 [] id_24
/-- what is left, pure -/
def mv_Pure (L : Nat) (xs : Nat → Int) : Prop := ∃ G', mv_Ev (mv_rc2 xs) mm_law (mv_sh2 L) 400 18 [some (.inr (1006, 0)), some (.inr (0, 0)), some (.inr (100, 0)), some (.inl 0)] mv_G0 (1, G')
theorem mv_i32in (x : Int32) : mv_in x.toInt := ⟨x.le_toInt, x.toInt_lt⟩
set_option maxHeartbeats 4000000 in
set_option maxRecDepth 100000 in
theorem law_run {p : Program} {e : Env} {s : State} {m : MethodId} {below : List Frame} {meth : Method} {c : Code} (l : Launch) {b L : Nat} {xs : Nat → Int32} (hL : L ≤ 3072) (C0 : lw_At p s m meth c b L xs) (hB : mv_IB l) (hp : mv_Pure L (fun j => (xs j).toInt)) : W p l e room_1 s m #[Value.ref b] below meth c s.heap [] 0 0 (lw_Z below #[Value.ref b] s) (entryFrame m ([Value.ref b] : List Value).toArray 4) := by
  obtain ⟨hx, hb, hr, hml, hown, hts, hX, hbl, hlocks, hgv⟩ := id C0
  obtain ⟨cA, D, tys, ad, hK, hty, hR, hE, hNS, hAO, hro, had6, hcat⟩ := mv_start C0
  obtain ⟨hB1, hB24⟩ := hB cA D tys hty
  have hBg : mv_Bg p s m #[.ref b] c code 4 R_law mv_Ts := ⟨hx, hb, hown, fun w hw => hts w (List.mem_filter.mp hw).1, hml⟩
  have hA : ∀ q : Nat, s.heap.size ≤ q → (fun q : Nat => s.heap.size ≤ q) q := fun _ h => h
  have hl := lv_entry ([.ref b]) (n := 4) (Nat.le_of_ble_eq_true rfl)
  rw [lg_entry_eq]
  generalize (lg_sl ([.ref b]) ++ List.replicate (4 - (lg_sl ([.ref b])).length) Slot.unset).toArray = ls at hl ⊢
  have hl : lv_has ls 4 [(0, .ref b)] := hl
  have hW0 : mv_WV ad cA D (fun q : Nat => s.heap.size ≤ q) mv_G0 [] s.heap := ⟨fun x hx => (by cases hx), ⟨List.Pairwise.nil, fun x hx => (by cases hx)⟩, mv_G0in, fun q hq => (by cases hq), hcat⟩
  obtain ⟨ty11, t11, d11⟩ := mv_nf_def (cj := 11) (q := (RX11, TX11, 11)) rfl
  obtain ⟨ty12, t12, d12⟩ := mv_nf_def (cj := 12) (q := (RX12, TX12, 71)) rfl
  refine mv_l_new (idx := 7) (idx2 := 9) (k := 0) (cj := 11) (q := (RX11, TX11, 11)) (own := R_law) (ci_0 hty hB1 hB24) hBg hK hA hNS hR hE hAO hro ⟨Nat.le_of_ble_eq_true rfl, Nat.le_of_ble_eq_true rfl⟩ ⟨mv_Td (i := 155) (by decide +kernel), mv_Td (i := 129) (by decide +kernel), mv_Td (i := 154) (by decide +kernel), rfl⟩ (by decide +kernel) (mv_Td (i := 153) (by decide +kernel)) hW0 va_S.rf (by rfl) (by decide) (by decide +kernel) rfl (mv_Td (i := 151) (by decide +kernel)) (mv_Td (i := 152) (by decide +kernel)) (mv_Td (i := 129) (by decide +kernel)) t11 d11 (Nat.le_of_ble_eq_true rfl) (Nat.le_of_ble_eq_true rfl) hl.1 (by decide +kernel) (by decide +kernel) (by decide +kernel) (fun ad2 H1 locs1 hag hW1 hS1 => ?_)
  have n0 : ∀ a, Nat.ble 990 a = true → a ∉ id_0b.map fun q => q.1 := by
    have h : (id_0b.map fun q => q.1).all (fun a => !Nat.ble 990 a) = true := by decide +kernel
    intro a ha hm
    have := List.all_eq_true.mp h a hm
    rw [ha] at this
    cases this
  have h990 : ∀ a, Nat.ble 990 a = true → ∀ b, ad2 a b = ad a b := fun a ha b => hag a (n0 a ha) b
  obtain ⟨q0, hq0⟩ := hW1.2.2.2.1 (0, 0) (by decide)
  dsimp only at hq0
  rw [show mv_V ad2 (.inr (0, 0)) = .ref q0 from hq0]
  refine lv_astore_n (k := 1) (lv' := [(1, .ref q0), (0, .ref b)]) hx hb (by decide +kernel) rfl hl (by decide) rfl (fun ls hl => ?_)
  have hro2 : ∀ q ∈ mv_ros, ∃ a, ad2 q.1 q.2 = .ref a := fun q hq => by
    obtain ⟨a2, h2⟩ := hro q hq
    refine ⟨a2, (h990 _ ?_ _).trans h2⟩
    revert hq
    simp only [mv_ros, List.mem_cons, List.not_mem_nil, or_false]
    rintro (rfl | rfl | rfl | rfl | rfl | rfl) <;> rfl
  have hR2 := mv_RO_ag h990 hR
  have hE2 := mv_EX_ag h990 hE
  refine mv_l_new (idx := 10) (idx2 := 12) (k := 100) (cj := 12) (q := (RX12, TX12, 71)) (own := R_law) (ci_100 hty) hBg hK hA hNS hR2 hE2 hAO hro2 ⟨Nat.le_of_ble_eq_true rfl, Nat.le_of_ble_eq_true rfl⟩ ⟨mv_T 1310 rfl rfl, mv_Td (i := 143) (by decide +kernel), mv_Td (i := 1309) (by decide +kernel), rfl⟩ (by decide +kernel) (mv_Td (i := 1308) (by decide +kernel)) hW1 hS1 (by decide +kernel) (by decide) (by decide +kernel) rfl (mv_Td (i := 1306) (by decide +kernel)) (mv_Td (i := 1307) (by decide +kernel)) (mv_Td (i := 143) (by decide +kernel)) t12 d12 (Nat.le_of_ble_eq_true rfl) (Nat.le_of_ble_eq_true rfl) hl.1 (by decide +kernel) (by decide +kernel) (by decide +kernel) (fun ad3 H2 locs2 hag3 hW2 hS2 => ?_)
  have n100 : ∀ a, a ∈ [0, 999, 1000, 1001, 1002, 1003, 1004, 1005, 1006] → a ∉ id_100.map fun q => q.1 := by decide +kernel
  have n100b : ∀ a, Nat.ble 990 a = true → a ∉ id_100.map fun q => q.1 := by
    have h : (id_100.map fun q => q.1).all (fun a => !Nat.ble 990 a) = true := by decide +kernel
    intro a ha hm
    have := List.all_eq_true.mp h a hm
    rw [ha] at this
    cases this
  have h9903 : ∀ a, Nat.ble 990 a = true → ∀ b, ad3 a b = ad2 a b := fun a ha b => hag3 a (n100b a ha) b
  obtain ⟨q1, hq1⟩ := hW2.2.2.2.1 (100, 0) (by decide +kernel)
  dsimp only at hq1
  rw [show mv_V ad3 (.inr (100, 0)) = .ref q1 from hq1]
  refine lv_astore_n (k := 2) (lv' := [(2, .ref q1), (1, .ref q0), (0, .ref b)]) hx hb (by decide +kernel) rfl hl (by decide) rfl (fun ls hl => ?_)
  refine lv_iconst (v := 0) hx hb (n := 0) (by decide +kernel) (by decide) ?_
  refine lv_istore_n (k := 3) (lv' := [(3, .int 0), (2, .ref q1), (1, .ref q0), (0, .ref b)]) hx hb (by decide +kernel) rfl hl (by decide) rfl (fun ls hl => ?_)
  have hids : [] ++ id_0b ++ id_100 = mv_ids := by decide +kernel
  rw [hids] at hW2
  have hro3 : ∀ q ∈ mv_ros, ∃ a, ad3 q.1 q.2 = .ref a := fun q hq => by
    obtain ⟨a2, h2⟩ := hro2 q hq
    refine ⟨a2, (h9903 _ ?_ _).trans h2⟩
    revert hq
    simp only [mv_ros, List.mem_cons, List.not_mem_nil, or_false]
    rintro (rfl | rfl | rfl | rfl | rfl | rfl) <;> rfl
  have hR3 := mv_RO_ag h9903 hR2
  have hE3 := mv_EX_ag h9903 hE2
  have e6 : ad3 1006 0 = .ref b := (h9903 1006 rfl 0).trans ((h990 1006 rfl 0).trans had6)
  have e0 : ad3 0 0 = .ref q0 := (hag3 0 (n100 0 (by decide)) 0).trans hq0
  have hF := mv_Fix_all hty hW2 hro3
  have hF2 : mv_Fix (mv_sh2 L) mv_ids mv_ro2 ad3 cA tys (fun q : Nat => s.heap.size ≤ q) (mv_rc2 fun j => (xs j).toInt) := mv_Fix2 hF ⟨b, e6⟩ hL (fun j => mv_i32in _)
  have hR4 : mv_RO (mv_sh2 L) mv_ro2 ad3 (fun q : Nat => s.heap.size ≤ q) (mv_rc2 fun j => (xs j).toInt) mv_cr s := by
    intro k hk
    rcases List.mem_append.mp hk with hk | hk
    · have h6 : k ≠ 1006 := mv_ros6 _ hk
      have h1 := hR3 k hk
      rw [mv_sh2_ne h6]
      have e2 : mv_rc2 (fun j => (xs j).toInt) k 0 = mv_rc k 0 := funext fun j => by unfold mv_rc2; rw [mv_nb h6]; rfl
      simp only [e2]
      exact h1
    · rw [List.mem_singleton] at hk
      cases hk
      show va_T .int (mv_ra (ad3 1006 0)) L (fun j => .int (Int32.ofInt ((xs j).toInt))) _ s s.heap
      rw [e6]
      obtain ⟨scr, x1, x2, x3, x4, x5⟩ := hX
      refine ⟨scr, x1, x2, x3, by omega, by rw [x4], fun j hj => ?_, fun h => Nat.lt_irrefl _ (Nat.lt_of_lt_of_le hbl h)⟩
      rw [x5 j hj]
      dsimp only
      rw [Int32.ofInt_toInt]
  have hWd : mv_Wd (mv_sh2 L) mv_ids ad3 cA mv_cl D (fun q : Nat => s.heap.size ≤ q) mv_G0 H2 := ⟨by rw [mv_wd2 mv_ids6]; exact mv_PP_iff.mpr hW2.1, by rw [mv_wd2 mv_ids6]; exact mv_DD_iff.mpr hW2.2.1, mv_G0in⟩
  have hLR : mv_LR mv_ids mv_ro2 ad3 4 [some (.inr (1006, 0)), some (.inr (0, 0)), some (.inr (100, 0)), some (.inl 0)] ls := by
    refine ⟨rfl, hl.1, hl.2.1, fun i v hi => ?_⟩
    match i, hi with
    | 0, hi => cases hi; exact ⟨by rw [show mv_V ad3 (.inr (1006, 0)) = .ref b from e6]; exact hl.2.2 (0, .ref b) (by simp), Or.inl (by decide +kernel)⟩
    | 1, hi => cases hi; exact ⟨by rw [show mv_V ad3 (.inr (0, 0)) = .ref q0 from e0]; exact hl.2.2 (1, .ref q0) (by simp), Or.inl (by decide +kernel)⟩
    | 2, hi => cases hi; exact ⟨by rw [show mv_V ad3 (.inr (100, 0)) = .ref q1 from hq1]; exact hl.2.2 (2, .ref q1) (by simp), Or.inl (by decide +kernel)⟩
    | 3, hi => cases hi; exact ⟨hl.2.2 (3, .int 0) (by simp), mv_in0⟩
    | i + 4, hi => simp at hi
  obtain ⟨G', fu, hgo⟩ := hp
  refine mv_go_snd (own := R_law) (Ts := mv_Ts) (cr := mv_cr) (M := mm_law) (cc := code) (nL := 4) ⟨hx, hb, hown, hBg.2.2.2.1, hK, hml, mv_clok, mv_dk_ok dk_law, fun x h => absurd h List.not_mem_nil⟩ hF2 hR4 mv_st2 ⟨fun _ h => absurd h List.not_mem_nil, fun _ h => absurd h List.not_mem_nil⟩ (lw_cals mv_ids6 hF hF2 mv_st2 hBg hE3 hR4 hK ⟨Nat.le_of_ble_eq_true rfl, Nat.le_of_ble_eq_true rfl⟩) hgo ?_ H2 locs2 ls hWd hS2 hLR
  intro H3 locs3 lsC pc hW3 hS3
  refine ⟨fun hin hbd hm hdg => ?_, fun h => absurd h (by decide)⟩
  exact va_forget hS3.2.2 (W.widen (k := 600000) (n := 7302250) (Nat.le_of_ble_eq_true rfl) (Nat.le_of_ble_eq_true rfl) (lw_ret hx hb hr hlocks hdg))
end MV
