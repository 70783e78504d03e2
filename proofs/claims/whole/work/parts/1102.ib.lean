/-! The benches' constructors: they end with a call of clear. -/
set_option maxRecDepth 20000 in
theorem ib_cw : mv_Cw RX2 52 yX2_clear cX2_clear 2 none (some 2) 2 := mv_cw_of (a := 230) (b := 130) (c := 231) (d := 232) (mv_T 233 rfl rfl) (by decide +kernel)
def mv_fxq (ids : List (Nat × Nat)) : Bool := (ids ++ mv_ros).all (fun q => match mv_sh q.1 with
  | some (.inl (t, n, w)) => decide (n < 2147483648) && decide (w < 2147483648) && (Nat.ble 1000 q.1 || ((Nat.beq t 0 || Nat.beq t 1 || Nat.beq t 3) && (!Nat.beq t 3 || (List.range n).all fun i => ids.contains (q.1, i + 1))))
  | some (.inr (_, fs)) => fs.all fun r => match r with | some t => (ids ++ mv_ros).contains (t, 0) | none => true
  | none => true) && ids.all (fun q => !Nat.ble 1000 q.1) && decide ids.Nodup
theorem mv_rcin : ∀ k i j, mv_in (mv_rc k i j) := by
  intro k i j
  unfold mv_rc
  have h : mv_rcl.all (fun x => x.2.all fun v => decide (-2147483648 ≤ v ∧ v < 2147483648)) = true := by decide +kernel
  cases hl : mv_lk mv_rcl k with
  | none => exact mv_in0
  | some q =>
    have h1 := List.all_eq_true.mp h _ (mv_lk_mem hl)
    dsimp only
    rw [List.getD_eq_getElem?_getD]
    cases hv : q[j]? with
    | none => exact mv_in0
    | some v => exact (of_decide_eq_true (List.all_eq_true.mp h1 v (List.mem_of_getElem? hv)) : -2147483648 ≤ v ∧ v < 2147483648)
theorem mv_sh99 : ∀ k, Nat.ble 990 k = true → Nat.ble 1000 k = false → mv_sh k = none := by
  intro k h1 h2
  cases hs : mv_sh k with
  | none => rfl
  | some q =>
    have h : mv_wl.all (fun x => !(Nat.ble 990 x.1) || Nat.ble 1000 x.1) = true := by decide +kernel
    have h3 := List.all_eq_true.mp h (k, q) (mv_lk_mem hs)
    dsimp only at h3
    rw [h1, h2] at h3
    cases h3
theorem mv_Fix_of {ids : List (Nat × Nat)} {ad : Nat → Nat → Value} {cA : Nat → ClassId} {tys : List (ClassId × FieldType)} {A : Nat → Prop} (hb : mv_fxq ids = true) (hty : mv_tyw cA tys) (hi : ∀ q ∈ ids, ∃ a, ad q.1 q.2 = .ref a) (hro : ∀ q ∈ mv_ros, ∃ a, ad q.1 q.2 = .ref a) (hc : ∀ a b, (ad a b).category = 1) (hA : ∀ q ∈ ids, A (mv_ra (ad q.1 q.2))) : mv_Fix mv_sh ids mv_ros ad cA tys A mv_rc := by
  unfold mv_fxq at hb
  simp only [Bool.and_eq_true] at hb
  obtain ⟨⟨b1, b2⟩, b3⟩ := hb
  have hx : ∀ q ∈ ids ++ mv_ros, _ := fun q hq => List.all_eq_true.mp b1 q hq
  refine ⟨fun k i t n w hk hs => ?_, fun k ci fs hk hs j t hj => ?_, fun q hq => ?_, hc, of_decide_eq_true b3, fun q hq => ⟨hA q hq, ?_⟩, by decide, mv_rcin, mv_sh99⟩
  · have h := hx _ hk
    simp only [hs, Bool.and_eq_true, decide_eq_true_eq] at h
    obtain ⟨⟨h1, h2⟩, h3⟩ := h
    refine ⟨h1, h2, fun hb => ?_⟩
    rw [hb, Bool.false_or] at h3
    simp only [Bool.and_eq_true, Bool.or_eq_true] at h3
    obtain ⟨h3, h4⟩ := h3
    refine ⟨?_, fun e => ⟨hty.1, fun i hi => ?_⟩⟩
    · rcases h3 with (h3 | h3) | h3
      · rw [Nat.eq_of_beq_eq_true h3]; exact hty.1
      · rw [Nat.eq_of_beq_eq_true h3]; exact hty.2.1
      · rw [Nat.eq_of_beq_eq_true h3]; exact hty.2.2
    · rw [e] at h4
      rcases h4 with h4 | h4
      · cases h4
      · exact List.contains_iff_mem.mp (List.all_eq_true.mp h4 i (List.mem_range.mpr hi))
  · have h := hx _ hk
    simp only [hs] at h
    have h1 := List.all_eq_true.mp h (some t) (List.mem_of_getElem? hj)
    exact List.contains_iff_mem.mp h1
  · rcases List.mem_append.mp hq with hq | hq
    · exact hi q hq
    · exact hro q hq
  · have := List.all_eq_true.mp b2 q hq
    rwa [Bool.not_eq_true'] at this
section MV
variable {l : Launch} {cc : ByteArray} {nL : Nat} {cA : Nat → ClassId} {D : va_G} {tys : List (ClassId × FieldType)}
theorem mv_ini_clr {rm : Room} {k N : Nat} {ids ids0 : List (Nat × Nat)} {fs : List (Option mv_A)} {Gb Gk : mv_G} {T : mv_TT} {fsh : List (Option Nat)} (hty : mv_tyw cA tys) (hfx : mv_fxq ids = true)
    (hCx : ∀ (p : Program) (s : State) (m : MethodId) (args : Array Value) (meth : Method) (c : Code), mv_Bg p s m args c cX2_init 1 RX2 mv_Ts → va_K D mv_cl tys s → meth.name = "<init>" → mv_NS s → mv_AO s → mv_Cx l p s m args meth c cX2_init 1 RX2 rm cA D tys mv_Z 2 T)
    (hrmf : 3 ≤ rm.frames ∧ 149 ≤ rm.locals) (hks : ∀ a ∈ mv_ks T, Nat.ble 990 a = false ∧ a ≠ k ∧ ∀ v ∈ (.inr (k, 0) :: [] : List mv_A), mv_kn [a] (some v) = true) (hGb : ∀ k i j, mv_in (Gb k i j)) (hGk : ∀ k i j, mv_in (Gk k i j))
    (hrun : mv_cs T k (.inr (k, 0) :: []) N 0 [] (mv_nf 2, [], [], [], 0, 0) = (98, [.inl 40, .inr (k, 0)], (fs, [], ids0, [], rm.cells, rm.slots)))
    (hids : ids = (k, 0) :: ids0) (hsub : ∀ a ∈ mv_ks T, a ∈ ids.map fun q => q.1) (hsh : mv_sh k = some (.inr (2, fsh))) (hfs : ∀ ad : Nat → Nat → Value, fs.map (mv_Vo ad) = mv_fs ad (mv_Z k 0) fsh)
    (hclr : ∃ G', ff_X2_clear [.inr (k, 0), .inl 40] mv_Z = some (0, G') ∧ ∀ q ∈ ids, G' q.1 q.2 = Gk q.1 q.2) :
    mv_Ini l yX2_init cX2_init 1 rm cA D tys Gk k 2 [] ids := by
  intro ad sz hk hcat hga hro
  refine Met.ofW (cc := cX2_init) (maxL := 1) (ret := none) (by decide +kernel) rfl ?_
  intro p e s m args below meth c s₁ B hml hv
  obtain ⟨rfl, hsz, hPP, hK, hR, hE, hNS, hAO⟩ := hv
  subst hsz
  have hx := B.exec
  have hb := B.bytes
  have hr := B.returns
  have hlocks := B.notSynchronized
  have hin : meth.name = "<init>" := (name_of_methodNamed B.named B.method).1
  have hts0 := atoms_spec (ws := .code yX2_init cX2_init 1 none :: mv_Ts) B.pre
  have hts : ∀ w ∈ mv_Ts, w.before ((.inr (k, 0) :: [] : List mv_A).map (mv_V ad)).toArray s = true := fun w h => hts0 w (List.mem_cons_of_mem _ h)
  have hown : s.vm.findClass RX2 = some m.cls := findClass_of_methodNamed B.named
  have hBg : mv_Bg p s m ((.inr (k, 0) :: [] : List mv_A).map (mv_V ad)).toArray c cX2_init 1 RX2 mv_Ts := ⟨hx, hb, hown, hts, hml⟩
  have hgl : ∀ v ∈ (.inr (k, 0) :: [] : List mv_A), mv_gv ad v := fun v hv => by
    rcases List.mem_cons.mp hv with rfl | hv
    · exact hk
    · exact hga v hv
  have hcatl : ∀ v ∈ (.inr (k, 0) :: [] : List mv_A).map (mv_V ad), v.category = 1 := fun v hv => by
    obtain ⟨w, hw, rfl⟩ := List.mem_map.mp hv
    exact mv_gv_cat (hgl w hw)
  have hlsl : (lg_sl ((.inr (k, 0) :: [] : List mv_A).map (mv_V ad))).length = 1 := by rw [mv_sl hcatl]; simp
  have hl := lv_entry ((.inr (k, 0) :: [] : List mv_A).map (mv_V ad)) (n := 1) (by rw [hlsl]; exact Nat.le_refl _)
  rw [lg_entry_eq]
  generalize hA : (fun a => a = mv_ra (ad k 0) ∨ s.heap.size ≤ a) = A at *
  have hA1 : ∀ q, s.heap.size ≤ q → A q := fun q h => by rw [← hA]; exact Or.inr h
  have hA2 : A (mv_ra (ad k 0)) := by rw [← hA]; exact Or.inl rfl
  have hW0 : mv_WU ad cA D A mv_Z k 2 (mv_nf 2, [], [], [], 0, 0) s.heap := by
    refine ⟨fun x hx => ?_, ⟨by simp [mv_ow, mv_wd], fun x hx => ?_⟩, mv_Zin, hk, fun q hq => (by cases hq), fun q hq => (by cases hq), fun v hv => mv_nf_go (ci := 2) v hv, hcat⟩
    · exact hPP x (by simpa [mv_ow, mv_wd] using hx)
    · simp only [mv_ow, mv_wd, List.map_nil, List.append_nil, List.mem_singleton] at hx
      rw [hx]
      exact hA2
  refine mv_cs_snd (R := rm) (ls := .inr (k, 0) :: []) (hCx p s m _ meth c hBg hK hin hNS hAO) hA1 hl.1 hks N 0 [] (mv_nf 2, [], [], [], 0, 0) ad s.heap [] hW0 va_S.rf hro hR hE (fun i v hi => ?_) (fun v hv => by cases hv) (fun ad2 H2 locs2 hag hW2 hS2 hst2 => ?_)
  · have h1 := (List.getElem?_eq_some_iff.mp hi).1
    refine ⟨?_, hgl v (List.mem_of_getElem? hi)⟩
    rw [List.getElem?_toArray, mv_sl hcatl, List.getElem?_append_left (by simpa using h1)]
    simp only [List.getElem?_map, hi, Option.map_some]
  · rw [hrun] at hW2 ⊢
    have eG : mv_Gu mv_Z [] = mv_Z := rfl
    have hids2 : mv_wd mv_sh ad2 cA ids mv_Z = mv_ow ad2 k 2 (fs, [], ids0, [], rm.cells, rm.slots) ++ mv_wd mv_sh ad2 cA ids0 (mv_Gu mv_Z []) := by
      rw [hids]
      show mv_cel mv_sh ad2 cA mv_Z k 0 :: _ = _ :: _
      congr 1
      simp only [mv_cel, hsh]
      rw [hfs]
    have hrefs : ∀ q ∈ ids, ∃ a, ad2 q.1 q.2 = .ref a := fun q hq => by
      rw [hids] at hq
      rcases List.mem_cons.mp hq with rfl | hq
      · exact hW2.2.2.2.1
      · exact hW2.2.2.2.2.2.1 q hq
    have hWd : mv_Wd mv_sh ids ad2 cA mv_cl D A mv_Z H2 := ⟨by rw [hids2]; exact mv_PP_iff.mpr hW2.1, by rw [hids2]; exact mv_DD_iff.mpr hW2.2.1, mv_Zin⟩
    have h990 : ∀ a, Nat.ble 990 a = true → ∀ b, ad2 a b = ad a b := fun a ha b => hag a (fun h => by have := (hks a h).1; rw [ha] at this; cases this) b
    have hro2 : ∀ q ∈ mv_ros, ∃ a, ad2 q.1 q.2 = .ref a := fun q hq => by
      obtain ⟨a2, h2⟩ := hro q hq
      refine ⟨a2, (h990 _ ?_ _).trans h2⟩
      revert hq
      simp only [mv_ros, List.mem_cons, List.not_mem_nil, or_false]
      rintro (rfl | rfl | rfl | rfl | rfl | rfl) <;> rfl
    have hF : mv_Fix mv_sh ids mv_ros ad2 cA tys A mv_rc := mv_Fix_of hfx hty hrefs hro2 hW2.2.2.2.2.2.2.2 (fun q hq => (mv_DD_iff.mp hWd.2.1).2 (mv_cel mv_sh ad2 cA mv_Z q.1 q.2) (List.mem_map.mpr ⟨q, hq, rfl⟩))
    obtain ⟨G', hff, hGe⟩ := hclr
    have hcal := mv_cal_of (R := rm) (p := p) (e := e) (m := m) (args := ((.inr (k, 0) :: [] : List mv_A).map (mv_V ad)).toArray) (below := below) (meth := meth) (c := c) (cells := rm.cells) (slots := rm.slots) (Q := MQ below (va_Qv (fun ad3 : Nat → Nat → Value => (∀ b, ad3 k b = ad k b) ∧ (∀ a, a ∉ ids.map (fun q => q.1) → ∀ b, ad3 a b = ad a b) ∧ (∀ q ∈ ids, ∃ a, ad3 q.1 q.2 = .ref a) ∧ ∀ a b, (ad3 a b).category = 1)
        (fun ad3 t => mv_Wd mv_sh ids ad3 cA mv_cl D A Gk t.heap) A) ((.inr (k, 0) :: [] : List mv_A).map (mv_V ad)).toArray s rm.cells rm.slots A) (cc := cX2_init) (nL := 1) (cc_X2_clear l hF) hBg (mv_EX_ag h990 hE) (mv_RO_ag h990 hR) hK mv_EX_ok hF mv_good mv_stok ib_cw.1 ib_cw.2.1 ib_cw.2.2 ⟨rfl, rfl, hrmf.1, hrmf.2⟩ ⟨Nat.le_refl _, Nat.le_refl _⟩
    refine hcal 98 _ [.inr (k, 0), .inl 40] [] mv_Z G' 0 H2 locs2 hl.1 (by decide +kernel) rfl (fun v hv => ?_) (fun ci h => ?_) (by decide) (fun v h => by cases h) hff hWd hS2 (fun H3 locs3 hW3 hS3 _ => ?_)
    · simp only [List.mem_cons, List.not_mem_nil, or_false] at hv
      rcases hv with rfl | rfl
      · exact Or.inl (by rw [hids]; exact List.mem_append_left _ List.mem_cons_self)
      · show mv_in 40
        unfold mv_in
        decide
    · cases h
      exact ⟨k, [.inl 40], fsh, rfl, by rw [hids]; exact List.mem_append_left _ List.mem_cons_self, hsh⟩
    · refine W.vret hx hb hr (fun t ht hW => ⟨⟨ad2, rfl, ⟨fun b => hag k (fun h => (hks k h).2.1 rfl) b, fun a ha b => hag a (fun h => ha (hsub a h)) b, hrefs, hW2.2.2.2.2.2.2.2⟩, ?_⟩, hS3.F ht⟩) hS3.2.2 (by decide +kernel)
      show mv_Wd mv_sh ids ad2 cA mv_cl D A Gk t.heap
      rw [ht]
      exact ⟨by rw [← mv_wd_cg hGe]; exact hW3.1, by rw [← mv_wd_cg hGe]; exact hW3.2.1, hGk⟩
theorem ru_1 : mv_cs tt_X2_init_1 1 (.inr (1, 0) :: []) 50 0 [] (mv_nf 2, [], [], [], 0, 0) = (98, [.inl 40, .inr (1, 0)], ([some (.inl 0), some (.inl 0), some (.inl 0), some (.inl 0), some (.inr (2, 0)), some (.inr (3, 0)), some (.inr (4, 0)), some (.inr (5, 0)), some (.inr (6, 0)), some (.inr (7, 0)), some (.inr (8, 0)), some (.inr (14, 0)), some (.inr (20, 0))], [], id_1.tail, [], 31, 1917)) := @of_decide_eq_true _ (mv_d6 _ _) (by decide +kernel)
theorem cl_1 : ∃ G', ff_X2_clear [.inr (1, 0), .inl 40] mv_Z = some (0, G') ∧ ∀ q ∈ id_1, G' q.1 q.2 = mv_G0 q.1 q.2 := by
  obtain ⟨r, G', e, h0, hc, ⟨s0, s1, s2, s3, s4, s5, s6, s7, s8⟩, h1, h3, h5, h13, h15, hi, hR, hO⟩ := fx_X2_clear 40 (by decide) (by decide) mv_Z
  subst h0
  refine ⟨G', e, fun q hq => ?_⟩
  have hall : ∀ q ∈ id_1, (q = (1, 0)) ∨ (q = (2, 0)) ∨ (q = (3, 0)) ∨ (q = (4, 0)) ∨ (q = (6, 0)) ∨ (q = (8, 0)) ∨ (q = (14, 0)) ∨ (q = (20, 0)) ∨ (([1, 2, 3, 4, 6, 8, 14, 20].contains q.1) = false ∧ (Nat.ble 1 q.2 || !([1, 24, 3, 26, 4, 27, 6, 29, 52, 81, 90, 100, 112].contains q.1)) = true) := by decide +kernel
  have hq2 := hall q hq
  rcases hq2 with rfl | rfl | rfl | rfl | rfl | rfl | rfl | rfl | ⟨hq3, hq4⟩
  · funext j
    match j with
    | 0 => exact s0
    | 1 => exact s1
    | 2 => exact s2
    | 3 => exact s3
    | j + 4 => exact (hc 1 0 (j + 4) rfl (by simp)).trans rfl
  · funext j
    by_cases hj : j < 60
    · exact h1 j hj
    · exact (h13 j (by omega)).1
  · funext j
    show G' 3 0 j = if j < 40 then 40 else 0
    by_cases hj : j < 40
    · rw [if_pos hj]
      obtain ⟨r1, r2, r3, r4⟩ := hR j (by omega)
      rcases r4 with r4 | r4
      · exact r4
      · rw [h1 _ (by omega)] at r4
        cases r4
    · rw [if_neg hj, hO 0 j (Or.inr (by omega))]
      rfl
  · funext j
    show G' 4 0 j = if j < 60 then -1 else 0
    by_cases hj : j < 60
    · rw [if_pos hj]; exact h3 j hj
    · rw [if_neg hj]; exact (h13 j (by omega)).2
  · funext j
    show G' 6 0 j = if j < 10 then -1 else 0
    by_cases hj : j < 10
    · rw [if_pos hj]; exact h5 j hj
    · rw [if_neg hj]; exact h15 j (by omega)
  · funext j
    match j with
    | 0 => exact s4
    | 1 => exact s5
    | j + 2 => exact (hc 8 0 (j + 2) rfl (by simp)).trans rfl
  · funext j
    match j with
    | 0 => exact s6
    | 1 => exact s7
    | j + 2 => exact (hc 14 0 (j + 2) rfl (by simp)).trans rfl
  · funext j
    match j with
    | 0 => exact s8
    | j + 1 => exact (hc 20 0 (j + 1) rfl (by simp)).trans rfl
  · rw [← mv_gz1 hq4]
    refine congrFun (hc.cell q.1 ?_) q.2
    simp only [List.contains_eq_any_beq, List.any_cons, List.any_nil, Bool.or_false, Bool.or_eq_false_iff, beq_eq_false_iff_ne] at hq3 ⊢
    omega
theorem ci_1 (hty : mv_tyw cA tys) : mv_Ini l yX2_init cX2_init 1 { frames := 8, cells := 31, slots := 1917, locals := 512 } cA D tys mv_G0 1 2 [] id_1 :=
  mv_ini_clr (T := tt_X2_init_1) (N := 50) (ids0 := id_1.tail) (fs := [some (.inl 0), some (.inl 0), some (.inl 0), some (.inl 0), some (.inr (2, 0)), some (.inr (3, 0)), some (.inr (4, 0)), some (.inr (5, 0)), some (.inr (6, 0)), some (.inr (7, 0)), some (.inr (8, 0)), some (.inr (14, 0)), some (.inr (20, 0))]) (fsh := [none, none, none, none, some 2, some 3, some 4, some 5, some 6, some 7, some 8, some 14, some 20]) (Gb := mv_Z) hty (by decide +kernel)
    (mv_Cx_of (fp := fp_X2_init) dk_X2_init (show mv_cl[2]? = some _ from rfl) fk_X2_init rfl nk_X2_init_1 ok_X2_init_1 hty (List.forall_mem_cons.mpr ⟨fun idx len h => by
      obtain ⟨rfl, rfl⟩ := (show idx = 37 ∧ len = 3 by have h1 : (some (Instr.invokespecial 37, 3) : Option (Instr × Nat)) = some (.invokespecial idx, len) := h; cases h1; exact ⟨rfl, rfl⟩)
      exact ⟨yX5_init, _, _, _, ci_8 hty, rfl, rfl, by decide, by decide, mv_Td (i := 173) (by decide +kernel), mv_Td (i := 131) (by decide +kernel), mv_Td (i := 172) (by decide +kernel), rfl, by decide +kernel, Or.inr ⟨"MoveUp", by decide +kernel⟩, by decide +kernel⟩,
    (List.forall_mem_cons.mpr ⟨fun idx len h => by
      obtain ⟨rfl, rfl⟩ := (show idx = 37 ∧ len = 3 by have h1 : (some (Instr.invokespecial 37, 3) : Option (Instr × Nat)) = some (.invokespecial idx, len) := h; cases h1; exact ⟨rfl, rfl⟩)
      exact ⟨yX5_init, _, _, _, ci_14 hty, rfl, rfl, by decide, by decide, mv_Td (i := 173) (by decide +kernel), mv_Td (i := 131) (by decide +kernel), mv_Td (i := 172) (by decide +kernel), rfl, by decide +kernel, Or.inr ⟨"MoveUp", by decide +kernel⟩, by decide +kernel⟩,
    (List.forall_mem_cons.mpr ⟨fun idx len h => by
      obtain ⟨rfl, rfl⟩ := (show idx = 47 ∧ len = 3 by have h1 : (some (Instr.invokespecial 47, 3) : Option (Instr × Nat)) = some (.invokespecial idx, len) := h; cases h1; exact ⟨rfl, rfl⟩)
      exact ⟨yX3_init, _, _, _, ci_20 hty, rfl, rfl, by decide, by decide, mv_Td (i := 208) (by decide +kernel), mv_Td (i := 132) (by decide +kernel), mv_Td (i := 207) (by decide +kernel), rfl, by decide +kernel, Or.inr ⟨"MoveUp", by decide +kernel⟩, by decide +kernel⟩,
    (fun _ h => absurd h List.not_mem_nil)⟩)⟩)⟩) ⟨by decide, by decide, by decide, by decide⟩ (fun _ _ _ _ => rfl))
    ⟨by decide, by decide⟩ (by decide +kernel) mv_Zin mv_G0in ru_1 rfl (by decide +kernel) (show mv_sh 1 = some (.inr (2, [none, none, none, none, some 2, some 3, some 4, some 5, some 6, some 7, some 8, some 14, some 20])) from rfl) (fun ad => rfl) cl_1
theorem ru_24 : mv_cs tt_X2_init_24 24 (.inr (24, 0) :: []) 50 0 [] (mv_nf 2, [], [], [], 0, 0) = (98, [.inl 40, .inr (24, 0)], ([some (.inl 0), some (.inl 0), some (.inl 0), some (.inl 0), some (.inr (25, 0)), some (.inr (26, 0)), some (.inr (27, 0)), some (.inr (28, 0)), some (.inr (29, 0)), some (.inr (30, 0)), some (.inr (31, 0)), some (.inr (37, 0)), some (.inr (43, 0))], [], id_24.tail, [], 31, 1917)) := @of_decide_eq_true _ (mv_d6 _ _) (by decide +kernel)
theorem cl_24 : ∃ G', ff_X2_clear [.inr (24, 0), .inl 40] mv_Z = some (0, G') ∧ ∀ q ∈ id_24, G' q.1 q.2 = mv_G0 q.1 q.2 := by
  obtain ⟨r, G', e, h0, hc, ⟨s0, s1, s2, s3, s4, s5, s6, s7, s8⟩, h1, h3, h5, h13, h15, hi, hR, hO⟩ := fx_X2_clear_24 40 (by decide) (by decide) mv_Z
  subst h0
  refine ⟨G', e, fun q hq => ?_⟩
  have hall : ∀ q ∈ id_24, (q = (24, 0)) ∨ (q = (25, 0)) ∨ (q = (26, 0)) ∨ (q = (27, 0)) ∨ (q = (29, 0)) ∨ (q = (31, 0)) ∨ (q = (37, 0)) ∨ (q = (43, 0)) ∨ (([24, 25, 26, 27, 29, 31, 37, 43].contains q.1) = false ∧ (Nat.ble 1 q.2 || !([1, 24, 3, 26, 4, 27, 6, 29, 52, 81, 90, 100, 112].contains q.1)) = true) := by decide +kernel
  have hq2 := hall q hq
  rcases hq2 with rfl | rfl | rfl | rfl | rfl | rfl | rfl | rfl | ⟨hq3, hq4⟩
  · funext j
    match j with
    | 0 => exact s0
    | 1 => exact s1
    | 2 => exact s2
    | 3 => exact s3
    | j + 4 => exact (hc 24 0 (j + 4) rfl (by simp)).trans rfl
  · funext j
    by_cases hj : j < 60
    · exact h1 j hj
    · exact (h13 j (by omega)).1
  · funext j
    show G' 26 0 j = if j < 40 then 40 else 0
    by_cases hj : j < 40
    · rw [if_pos hj]
      obtain ⟨r1, r2, r3, r4⟩ := hR j (by omega)
      rcases r4 with r4 | r4
      · exact r4
      · rw [h1 _ (by omega)] at r4
        cases r4
    · rw [if_neg hj, hO 0 j (Or.inr (by omega))]
      rfl
  · funext j
    show G' 27 0 j = if j < 60 then -1 else 0
    by_cases hj : j < 60
    · rw [if_pos hj]; exact h3 j hj
    · rw [if_neg hj]; exact (h13 j (by omega)).2
  · funext j
    show G' 29 0 j = if j < 10 then -1 else 0
    by_cases hj : j < 10
    · rw [if_pos hj]; exact h5 j hj
    · rw [if_neg hj]; exact h15 j (by omega)
  · funext j
    match j with
    | 0 => exact s4
    | 1 => exact s5
    | j + 2 => exact (hc 31 0 (j + 2) rfl (by simp)).trans rfl
  · funext j
    match j with
    | 0 => exact s6
    | 1 => exact s7
    | j + 2 => exact (hc 37 0 (j + 2) rfl (by simp)).trans rfl
  · funext j
    match j with
    | 0 => exact s8
    | j + 1 => exact (hc 43 0 (j + 1) rfl (by simp)).trans rfl
  · rw [← mv_gz1 hq4]
    refine congrFun (hc.cell q.1 ?_) q.2
    simp only [List.contains_eq_any_beq, List.any_cons, List.any_nil, Bool.or_false, Bool.or_eq_false_iff, beq_eq_false_iff_ne] at hq3 ⊢
    omega
theorem ci_24 (hty : mv_tyw cA tys) : mv_Ini l yX2_init cX2_init 1 { frames := 8, cells := 31, slots := 1917, locals := 512 } cA D tys mv_G0 24 2 [] id_24 :=
  mv_ini_clr (T := tt_X2_init_24) (N := 50) (ids0 := id_24.tail) (fs := [some (.inl 0), some (.inl 0), some (.inl 0), some (.inl 0), some (.inr (25, 0)), some (.inr (26, 0)), some (.inr (27, 0)), some (.inr (28, 0)), some (.inr (29, 0)), some (.inr (30, 0)), some (.inr (31, 0)), some (.inr (37, 0)), some (.inr (43, 0))]) (fsh := [none, none, none, none, some 25, some 26, some 27, some 28, some 29, some 30, some 31, some 37, some 43]) (Gb := mv_Z) hty (by decide +kernel)
    (mv_Cx_of (fp := fp_X2_init) dk_X2_init (show mv_cl[2]? = some _ from rfl) fk_X2_init rfl nk_X2_init_24 ok_X2_init_24 hty (List.forall_mem_cons.mpr ⟨fun idx len h => by
      obtain ⟨rfl, rfl⟩ := (show idx = 37 ∧ len = 3 by have h1 : (some (Instr.invokespecial 37, 3) : Option (Instr × Nat)) = some (.invokespecial idx, len) := h; cases h1; exact ⟨rfl, rfl⟩)
      exact ⟨yX5_init, _, _, _, ci_31 hty, rfl, rfl, by decide, by decide, mv_Td (i := 173) (by decide +kernel), mv_Td (i := 131) (by decide +kernel), mv_Td (i := 172) (by decide +kernel), rfl, by decide +kernel, Or.inr ⟨"MoveUp", by decide +kernel⟩, by decide +kernel⟩,
    (List.forall_mem_cons.mpr ⟨fun idx len h => by
      obtain ⟨rfl, rfl⟩ := (show idx = 37 ∧ len = 3 by have h1 : (some (Instr.invokespecial 37, 3) : Option (Instr × Nat)) = some (.invokespecial idx, len) := h; cases h1; exact ⟨rfl, rfl⟩)
      exact ⟨yX5_init, _, _, _, ci_37 hty, rfl, rfl, by decide, by decide, mv_Td (i := 173) (by decide +kernel), mv_Td (i := 131) (by decide +kernel), mv_Td (i := 172) (by decide +kernel), rfl, by decide +kernel, Or.inr ⟨"MoveUp", by decide +kernel⟩, by decide +kernel⟩,
    (List.forall_mem_cons.mpr ⟨fun idx len h => by
      obtain ⟨rfl, rfl⟩ := (show idx = 47 ∧ len = 3 by have h1 : (some (Instr.invokespecial 47, 3) : Option (Instr × Nat)) = some (.invokespecial idx, len) := h; cases h1; exact ⟨rfl, rfl⟩)
      exact ⟨yX3_init, _, _, _, ci_43 hty, rfl, rfl, by decide, by decide, mv_Td (i := 208) (by decide +kernel), mv_Td (i := 132) (by decide +kernel), mv_Td (i := 207) (by decide +kernel), rfl, by decide +kernel, Or.inr ⟨"MoveUp", by decide +kernel⟩, by decide +kernel⟩,
    (fun _ h => absurd h List.not_mem_nil)⟩)⟩)⟩) ⟨by decide, by decide, by decide, by decide⟩ (fun _ _ _ _ => rfl))
    ⟨by decide, by decide⟩ (by decide +kernel) mv_Zin mv_G0in ru_24 rfl (by decide +kernel) (show mv_sh 24 = some (.inr (2, [none, none, none, none, some 25, some 26, some 27, some 28, some 29, some 30, some 31, some 37, some 43])) from rfl) (fun ad => rfl) cl_24
end MV
