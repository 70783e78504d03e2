/-! Constructors: the contract of each instance. -/
/-- the first contents -/
def mv_wo : List Int := [32, 115, 105, 116, 32, 99, 111, 115, 116, 32, 119, 104, 101, 110, 32, 111, 114, 32, 97, 110, 100, 32, 110, 111, 116, 32, 119, 105, 100, 101, 32, 107, 101, 101, 112, 32, 98, 97, 103, 32, 103, 114, 111, 117, 112, 32, 104, 111, 117, 114, 32, 97, 116, 32, 108, 101, 102, 116, 32, 114, 105, 103, 104, 116, 32, 119, 97, 114, 109, 32, 102, 114, 105, 101, 110, 100, 115, 32, 115, 105, 116, 116, 105, 110, 103, 32, 109, 111, 118, 101, 100, 32, 99, 111, 109, 101, 32, 103, 111, 32, 98, 101, 103, 32]
def mv_g0 (k j : Nat) : Int :=
  bif Nat.beq k 1 || Nat.beq k 24 then (if j = 0 then 40 else 0)
  else bif Nat.beq k 3 || Nat.beq k 26 then (if j < 40 then 40 else 0)
  else bif Nat.beq k 4 || Nat.beq k 27 then (if j < 60 then -1 else 0)
  else bif Nat.beq k 6 || Nat.beq k 29 then (if j < 10 then -1 else 0)
  else bif Nat.beq k 52 then (if j = 2 then -1 else 0)
  else bif Nat.beq k 81 then (if j = 6 then 1 else 0)
  else bif Nat.beq k 90 then (if j = 1 then -1 else 0)
  else bif Nat.beq k 100 then (if j = 36 then -1 else 0)
  else bif Nat.beq k 112 then mv_wo.getD j 0 else 0
def mv_G0 : mv_G := fun k i j => if i = 0 then mv_g0 k j else 0
theorem mv_wo_in : ∀ j, mv_in (mv_wo.getD j 0) := by
  intro j
  rw [List.getD_eq_getElem?_getD]
  cases h : mv_wo[j]? with
  | none => exact mv_in0
  | some v =>
    have h1 : mv_wo.all (fun v => decide (-2147483648 ≤ v ∧ v < 2147483648)) = true := by decide +kernel
    have h2 := List.all_eq_true.mp h1 v (List.mem_of_getElem? h)
    exact (of_decide_eq_true h2 : -2147483648 ≤ v ∧ v < 2147483648)
theorem mv_G0in : ∀ k i j, mv_in (mv_G0 k i j) := by
  intro k i j
  unfold mv_G0 mv_g0
  repeat' first | exact mv_in0 | exact mv_wo_in j | (unfold mv_in; omega) | (rw [cond_eq_ite]; split) | split
theorem mv_nb {k a : Nat} (h : k ≠ a) : Nat.beq k a = false := Bool.eq_false_iff.mpr fun e => h (Nat.eq_of_beq_eq_true e)
theorem mv_gz1 {q : Nat × Nat} (h : (Nat.ble 1 q.2 || !([1, 24, 3, 26, 4, 27, 6, 29, 52, 81, 90, 100, 112].contains q.1)) = true) : mv_Z q.1 q.2 = mv_G0 q.1 q.2 := by
  funext j
  show (0 : Int) = if q.2 = 0 then mv_g0 q.1 j else 0
  by_cases h0 : q.2 = 0
  · rw [if_pos h0]
    rw [h0] at h
    simp only [show Nat.ble 1 0 = false from rfl, Bool.false_or, Bool.not_eq_true'] at h
    have h1 : ∀ a ∈ [1, 24, 3, 26, 4, 27, 6, 29, 52, 81, 90, 100, 112], q.1 ≠ a := fun a ha e => by
      rw [← e] at ha
      rw [List.contains_iff_mem.mpr ha] at h
      cases h
    unfold mv_g0
    rw [mv_nb (h1 1 (by decide)), mv_nb (h1 24 (by decide)), mv_nb (h1 3 (by decide)), mv_nb (h1 26 (by decide)), mv_nb (h1 4 (by decide)), mv_nb (h1 27 (by decide)), mv_nb (h1 6 (by decide)), mv_nb (h1 29 (by decide)), mv_nb (h1 52 (by decide)), mv_nb (h1 81 (by decide)), mv_nb (h1 90 (by decide)), mv_nb (h1 100 (by decide)), mv_nb (h1 112 (by decide))]
    rfl
  · rw [if_neg h0]
theorem mv_gz {ids : List (Nat × Nat)} (h : ids.all (fun q => Nat.ble 1 q.2 || !([1, 24, 3, 26, 4, 27, 6, 29, 52, 81, 90, 100, 112].contains q.1)) = true) : ∀ q ∈ ids, mv_Z q.1 q.2 = mv_G0 q.1 q.2 := fun q hq => mv_gz1 (List.all_eq_true.mp h q hq)
def mv_d1 : DecidableEq (List (Nat × Nat × Int) × Nat × Nat) := inferInstance
def mv_d2 : DecidableEq (List (Nat × Nat) × List (Nat × Nat × Int) × Nat × Nat) := fun a b => @instDecidableEqProd _ _ inferInstance mv_d1 a b
def mv_d3 : DecidableEq (List (Nat × Nat) × List (Nat × Nat) × List (Nat × Nat × Int) × Nat × Nat) := fun a b => @instDecidableEqProd _ _ inferInstance mv_d2 a b
def mv_d4 : DecidableEq mv_U := fun a b => @instDecidableEqProd _ _ inferInstance mv_d3 a b
def mv_d5 : DecidableEq (List mv_A × mv_U) := fun a b => @instDecidableEqProd _ _ inferInstance mv_d4 a b
def mv_d6 : DecidableEq (Nat × List mv_A × mv_U) := fun a b => @instDecidableEqProd _ _ inferInstance mv_d5 a b
def id_0b : List (Nat × Nat) := [(0, 0), (1, 0), (2, 0), (3, 0), (4, 0), (5, 0), (5, 1), (5, 2), (5, 3), (5, 4), (5, 5), (6, 0), (7, 0), (7, 1), (7, 2), (7, 3), (7, 4), (8, 0), (9, 0), (10, 0), (11, 0), (12, 0), (13, 0), (14, 0), (15, 0), (16, 0), (17, 0), (18, 0), (19, 0), (20, 0), (21, 0), (22, 0), (23, 0), (24, 0), (25, 0), (26, 0), (27, 0), (28, 0), (28, 1), (28, 2), (28, 3), (28, 4), (28, 5), (29, 0), (30, 0), (30, 1), (30, 2), (30, 3), (30, 4), (31, 0), (32, 0), (33, 0), (34, 0), (35, 0), (36, 0), (37, 0), (38, 0), (39, 0), (40, 0), (41, 0), (42, 0), (43, 0), (44, 0), (45, 0), (46, 0), (47, 0), (48, 0), (48, 1), (48, 2), (48, 3), (48, 4), (48, 5), (48, 6), (48, 7), (49, 0), (49, 1), (49, 2), (49, 3), (49, 4), (49, 5), (49, 6), (49, 7), (50, 0), (51, 0), (52, 0), (53, 0), (54, 0), (55, 0), (56, 0), (57, 0), (58, 0), (59, 0), (60, 0), (61, 0), (62, 0), (63, 0), (64, 0), (65, 0), (66, 0), (67, 0), (68, 0), (69, 0), (70, 0), (71, 0), (72, 0), (73, 0), (74, 0), (75, 0), (76, 0), (77, 0), (77, 1), (77, 2), (77, 3), (77, 4), (77, 5), (77, 6), (77, 7), (77, 8), (77, 9), (77, 10), (78, 0), (78, 1), (78, 2), (78, 3), (78, 4), (78, 5), (78, 6), (78, 7), (78, 8), (78, 9), (78, 10), (79, 0), (79, 1), (79, 2), (79, 3), (79, 4), (79, 5), (79, 6), (79, 7), (79, 8), (79, 9), (79, 10), (80, 0), (81, 0), (82, 0), (83, 0), (84, 0), (84, 1), (84, 2), (84, 3), (84, 4), (84, 5), (84, 6), (84, 7), (84, 8), (84, 9), (84, 10), (84, 11), (84, 12), (84, 13), (84, 14), (84, 15), (84, 16), (84, 17), (84, 18), (84, 19), (84, 20), (84, 21), (84, 22), (84, 23), (84, 24), (84, 25), (84, 26), (84, 27), (84, 28), (84, 29), (84, 30), (84, 31), (84, 32), (84, 33), (84, 34), (84, 35), (84, 36), (84, 37), (84, 38), (84, 39), (84, 40), (84, 41), (84, 42), (84, 43), (84, 44), (84, 45), (84, 46), (84, 47), (84, 48), (84, 49), (84, 50), (84, 51), (84, 52), (84, 53), (84, 54), (84, 55), (84, 56), (84, 57), (84, 58), (84, 59), (84, 60), (84, 61), (85, 0), (86, 0), (87, 0), (88, 0), (89, 0), (90, 0)]
def tt_X11_init_0b : mv_TT := (ic_X11_init, fp_X11_init.map (fun x => x.2), [(5, 1), (16, 24), (27, 47), (38, 52), (49, 66), (60, 72), (79, 74), (98, 81), (117, 86), (140, 90)], [(9, [], 1, 2, id_1, 31, 1917), (20, [], 24, 2, id_24, 31, 1917), (31, [], 47, 6, id_47, 18, 518), (42, [], 52, 7, id_52, 13, 1774), (53, [], 66, 9, id_66, 5, 300), (72, [.inr (1, 0), .inr (66, 0)], 72, 10, id_72, 1, 12), (91, [.inr (1, 0), .inr (66, 0)], 74, 8, id_74, 36, 1882), (110, [.inr (1, 0), .inr (66, 0)], 81, 4, id_81, 65, 3964), (133, [.inr (1, 0), .inr (66, 0), .inr (72, 0)], 86, 1, id_86, 3, 520), (160, [.inr (1, 0), .inr (66, 0), .inr (72, 0), .inr (74, 0)], 90, 0, id_90, 0, 0)], false, 213, 12890)
theorem nk_X11_init_0b : mv_nk RX11 tt_X11_init_0b [(5, 159, 160, 130), (16, 159, 160, 130), (27, 328, 329, 135), (38, 355, 356, 136), (49, 404, 405, 137), (60, 452, 453, 138), (79, 468, 469, 139), (98, 505, 506, 140), (117, 537, 538, 141), (140, 565, 566, 142)] = true := by decide +kernel
theorem ok_X11_init_0b : mv_ok2 RX11 tt_X11_init_0b 156 157 158 0 = true := by decide +kernel
section MV
variable {l : Launch} {cA : Nat → ClassId} {D : va_G} {tys : List (ClassId × FieldType)}
theorem ru_8 : mv_cs tt_X5_init_8 8 (.inr (8, 0) :: []) 25 0 [] (mv_nf 5, [], [], [], 0, 0) = (45, [], ([some (.inl 0), some (.inl 0), some (.inr (9, 0)), some (.inr (10, 0)), some (.inr (11, 0)), some (.inr (12, 0)), some (.inr (13, 0))], [], id_8.tail, [], 5, 489)) := @of_decide_eq_true _ (mv_d6 _ _) (by decide +kernel)
theorem ci_8 (hty : mv_tyw cA tys) : mv_Ini l yX5_init cX5_init 1 { frames := 1, cells := 5, slots := 489, locals := 64 } cA D tys mv_Z 8 5 [] id_8 :=
  mv_ini_of (Gs := mv_Z) (T := tt_X5_init_8) (N := 25) (pcE := 45) (ids0 := id_8.tail) (ups := []) (fs := [some (.inl 0), some (.inl 0), some (.inr (9, 0)), some (.inr (10, 0)), some (.inr (11, 0)), some (.inr (12, 0)), some (.inr (13, 0))]) (fsh := [none, none, some 9, some 10, some 11, some 12, some 13]) (by decide +kernel)
    (mv_Cx_of (fp := fp_X5_init) dk_X5_init (show mv_cl[5]? = some _ from rfl) fk_X5_init rfl nk_X5_init_8 ok_X5_init_8 hty (fun _ h => absurd h List.not_mem_nil) ⟨by decide, by decide, by decide, by decide⟩ (fun _ _ _ _ => rfl))
    rfl (by decide) (by decide +kernel) mv_Zin mv_Zin
    ru_8 (by decide +kernel) rfl (by decide +kernel) (show mv_sh 8 = some (.inr (5, [none, none, some 9, some 10, some 11, some 12, some 13])) from rfl) (fun ad => rfl) (fun q hq => rfl)
theorem ru_14 : mv_cs tt_X5_init_14 14 (.inr (14, 0) :: []) 25 0 [] (mv_nf 5, [], [], [], 0, 0) = (45, [], ([some (.inl 0), some (.inl 0), some (.inr (15, 0)), some (.inr (16, 0)), some (.inr (17, 0)), some (.inr (18, 0)), some (.inr (19, 0))], [], id_14.tail, [], 5, 489)) := @of_decide_eq_true _ (mv_d6 _ _) (by decide +kernel)
theorem ci_14 (hty : mv_tyw cA tys) : mv_Ini l yX5_init cX5_init 1 { frames := 1, cells := 5, slots := 489, locals := 64 } cA D tys mv_Z 14 5 [] id_14 :=
  mv_ini_of (Gs := mv_Z) (T := tt_X5_init_14) (N := 25) (pcE := 45) (ids0 := id_14.tail) (ups := []) (fs := [some (.inl 0), some (.inl 0), some (.inr (15, 0)), some (.inr (16, 0)), some (.inr (17, 0)), some (.inr (18, 0)), some (.inr (19, 0))]) (fsh := [none, none, some 15, some 16, some 17, some 18, some 19]) (by decide +kernel)
    (mv_Cx_of (fp := fp_X5_init) dk_X5_init (show mv_cl[5]? = some _ from rfl) fk_X5_init rfl nk_X5_init_14 ok_X5_init_14 hty (fun _ h => absurd h List.not_mem_nil) ⟨by decide, by decide, by decide, by decide⟩ (fun _ _ _ _ => rfl))
    rfl (by decide) (by decide +kernel) mv_Zin mv_Zin
    ru_14 (by decide +kernel) rfl (by decide +kernel) (show mv_sh 14 = some (.inr (5, [none, none, some 15, some 16, some 17, some 18, some 19])) from rfl) (fun ad => rfl) (fun q hq => rfl)
theorem ru_31 : mv_cs tt_X5_init_31 31 (.inr (31, 0) :: []) 25 0 [] (mv_nf 5, [], [], [], 0, 0) = (45, [], ([some (.inl 0), some (.inl 0), some (.inr (32, 0)), some (.inr (33, 0)), some (.inr (34, 0)), some (.inr (35, 0)), some (.inr (36, 0))], [], id_31.tail, [], 5, 489)) := @of_decide_eq_true _ (mv_d6 _ _) (by decide +kernel)
theorem ci_31 (hty : mv_tyw cA tys) : mv_Ini l yX5_init cX5_init 1 { frames := 1, cells := 5, slots := 489, locals := 64 } cA D tys mv_Z 31 5 [] id_31 :=
  mv_ini_of (Gs := mv_Z) (T := tt_X5_init_31) (N := 25) (pcE := 45) (ids0 := id_31.tail) (ups := []) (fs := [some (.inl 0), some (.inl 0), some (.inr (32, 0)), some (.inr (33, 0)), some (.inr (34, 0)), some (.inr (35, 0)), some (.inr (36, 0))]) (fsh := [none, none, some 32, some 33, some 34, some 35, some 36]) (by decide +kernel)
    (mv_Cx_of (fp := fp_X5_init) dk_X5_init (show mv_cl[5]? = some _ from rfl) fk_X5_init rfl nk_X5_init_31 ok_X5_init_31 hty (fun _ h => absurd h List.not_mem_nil) ⟨by decide, by decide, by decide, by decide⟩ (fun _ _ _ _ => rfl))
    rfl (by decide) (by decide +kernel) mv_Zin mv_Zin
    ru_31 (by decide +kernel) rfl (by decide +kernel) (show mv_sh 31 = some (.inr (5, [none, none, some 32, some 33, some 34, some 35, some 36])) from rfl) (fun ad => rfl) (fun q hq => rfl)
theorem ru_37 : mv_cs tt_X5_init_37 37 (.inr (37, 0) :: []) 25 0 [] (mv_nf 5, [], [], [], 0, 0) = (45, [], ([some (.inl 0), some (.inl 0), some (.inr (38, 0)), some (.inr (39, 0)), some (.inr (40, 0)), some (.inr (41, 0)), some (.inr (42, 0))], [], id_37.tail, [], 5, 489)) := @of_decide_eq_true _ (mv_d6 _ _) (by decide +kernel)
theorem ci_37 (hty : mv_tyw cA tys) : mv_Ini l yX5_init cX5_init 1 { frames := 1, cells := 5, slots := 489, locals := 64 } cA D tys mv_Z 37 5 [] id_37 :=
  mv_ini_of (Gs := mv_Z) (T := tt_X5_init_37) (N := 25) (pcE := 45) (ids0 := id_37.tail) (ups := []) (fs := [some (.inl 0), some (.inl 0), some (.inr (38, 0)), some (.inr (39, 0)), some (.inr (40, 0)), some (.inr (41, 0)), some (.inr (42, 0))]) (fsh := [none, none, some 38, some 39, some 40, some 41, some 42]) (by decide +kernel)
    (mv_Cx_of (fp := fp_X5_init) dk_X5_init (show mv_cl[5]? = some _ from rfl) fk_X5_init rfl nk_X5_init_37 ok_X5_init_37 hty (fun _ h => absurd h List.not_mem_nil) ⟨by decide, by decide, by decide, by decide⟩ (fun _ _ _ _ => rfl))
    rfl (by decide) (by decide +kernel) mv_Zin mv_Zin
    ru_37 (by decide +kernel) rfl (by decide +kernel) (show mv_sh 37 = some (.inr (5, [none, none, some 38, some 39, some 40, some 41, some 42])) from rfl) (fun ad => rfl) (fun q hq => rfl)
theorem ru_53 : mv_cs tt_X5_init_53 53 (.inr (53, 0) :: []) 25 0 [] (mv_nf 5, [], [], [], 0, 0) = (45, [], ([some (.inl 0), some (.inl 0), some (.inr (54, 0)), some (.inr (55, 0)), some (.inr (56, 0)), some (.inr (57, 0)), some (.inr (58, 0))], [], id_53.tail, [], 5, 489)) := @of_decide_eq_true _ (mv_d6 _ _) (by decide +kernel)
theorem ci_53 (hty : mv_tyw cA tys) : mv_Ini l yX5_init cX5_init 1 { frames := 1, cells := 5, slots := 489, locals := 64 } cA D tys mv_Z 53 5 [] id_53 :=
  mv_ini_of (Gs := mv_Z) (T := tt_X5_init_53) (N := 25) (pcE := 45) (ids0 := id_53.tail) (ups := []) (fs := [some (.inl 0), some (.inl 0), some (.inr (54, 0)), some (.inr (55, 0)), some (.inr (56, 0)), some (.inr (57, 0)), some (.inr (58, 0))]) (fsh := [none, none, some 54, some 55, some 56, some 57, some 58]) (by decide +kernel)
    (mv_Cx_of (fp := fp_X5_init) dk_X5_init (show mv_cl[5]? = some _ from rfl) fk_X5_init rfl nk_X5_init_53 ok_X5_init_53 hty (fun _ h => absurd h List.not_mem_nil) ⟨by decide, by decide, by decide, by decide⟩ (fun _ _ _ _ => rfl))
    rfl (by decide) (by decide +kernel) mv_Zin mv_Zin
    ru_53 (by decide +kernel) rfl (by decide +kernel) (show mv_sh 53 = some (.inr (5, [none, none, some 54, some 55, some 56, some 57, some 58])) from rfl) (fun ad => rfl) (fun q hq => rfl)
theorem ru_20 : mv_cs tt_X3_init_20 20 (.inr (20, 0) :: []) 17 0 [] (mv_nf 3, [], [], [], 0, 0) = (28, [], ([some (.inl 0), some (.inr (21, 0)), some (.inr (22, 0)), some (.inr (23, 0))], [], id_20.tail, [], 3, 72)) := @of_decide_eq_true _ (mv_d6 _ _) (by decide +kernel)
theorem ci_20 (hty : mv_tyw cA tys) : mv_Ini l yX3_init cX3_init 1 { frames := 1, cells := 3, slots := 72, locals := 64 } cA D tys mv_Z 20 3 [] id_20 :=
  mv_ini_of (Gs := mv_Z) (T := tt_X3_init_20) (N := 17) (pcE := 28) (ids0 := id_20.tail) (ups := []) (fs := [some (.inl 0), some (.inr (21, 0)), some (.inr (22, 0)), some (.inr (23, 0))]) (fsh := [none, some 21, some 22, some 23]) (by decide +kernel)
    (mv_Cx_of (fp := fp_X3_init) dk_X3_init (show mv_cl[3]? = some _ from rfl) fk_X3_init rfl nk_X3_init_20 ok_X3_init_20 hty (fun _ h => absurd h List.not_mem_nil) ⟨by decide, by decide, by decide, by decide⟩ (fun _ _ _ _ => rfl))
    rfl (by decide) (by decide +kernel) mv_Zin mv_Zin
    ru_20 (by decide +kernel) rfl (by decide +kernel) (show mv_sh 20 = some (.inr (3, [none, some 21, some 22, some 23])) from rfl) (fun ad => rfl) (fun q hq => rfl)
theorem ru_43 : mv_cs tt_X3_init_43 43 (.inr (43, 0) :: []) 17 0 [] (mv_nf 3, [], [], [], 0, 0) = (28, [], ([some (.inl 0), some (.inr (44, 0)), some (.inr (45, 0)), some (.inr (46, 0))], [], id_43.tail, [], 3, 72)) := @of_decide_eq_true _ (mv_d6 _ _) (by decide +kernel)
theorem ci_43 (hty : mv_tyw cA tys) : mv_Ini l yX3_init cX3_init 1 { frames := 1, cells := 3, slots := 72, locals := 64 } cA D tys mv_Z 43 3 [] id_43 :=
  mv_ini_of (Gs := mv_Z) (T := tt_X3_init_43) (N := 17) (pcE := 28) (ids0 := id_43.tail) (ups := []) (fs := [some (.inl 0), some (.inr (44, 0)), some (.inr (45, 0)), some (.inr (46, 0))]) (fsh := [none, some 44, some 45, some 46]) (by decide +kernel)
    (mv_Cx_of (fp := fp_X3_init) dk_X3_init (show mv_cl[3]? = some _ from rfl) fk_X3_init rfl nk_X3_init_43 ok_X3_init_43 hty (fun _ h => absurd h List.not_mem_nil) ⟨by decide, by decide, by decide, by decide⟩ (fun _ _ _ _ => rfl))
    rfl (by decide) (by decide +kernel) mv_Zin mv_Zin
    ru_43 (by decide +kernel) rfl (by decide +kernel) (show mv_sh 43 = some (.inr (3, [none, some 44, some 45, some 46])) from rfl) (fun ad => rfl) (fun q hq => rfl)
theorem ru_59 : mv_cs tt_X3_init_59 59 (.inr (59, 0) :: []) 17 0 [] (mv_nf 3, [], [], [], 0, 0) = (28, [], ([some (.inl 0), some (.inr (60, 0)), some (.inr (61, 0)), some (.inr (62, 0))], [], id_59.tail, [], 3, 72)) := @of_decide_eq_true _ (mv_d6 _ _) (by decide +kernel)
theorem ci_59 (hty : mv_tyw cA tys) : mv_Ini l yX3_init cX3_init 1 { frames := 1, cells := 3, slots := 72, locals := 64 } cA D tys mv_Z 59 3 [] id_59 :=
  mv_ini_of (Gs := mv_Z) (T := tt_X3_init_59) (N := 17) (pcE := 28) (ids0 := id_59.tail) (ups := []) (fs := [some (.inl 0), some (.inr (60, 0)), some (.inr (61, 0)), some (.inr (62, 0))]) (fsh := [none, some 60, some 61, some 62]) (by decide +kernel)
    (mv_Cx_of (fp := fp_X3_init) dk_X3_init (show mv_cl[3]? = some _ from rfl) fk_X3_init rfl nk_X3_init_59 ok_X3_init_59 hty (fun _ h => absurd h List.not_mem_nil) ⟨by decide, by decide, by decide, by decide⟩ (fun _ _ _ _ => rfl))
    rfl (by decide) (by decide +kernel) mv_Zin mv_Zin
    ru_59 (by decide +kernel) rfl (by decide +kernel) (show mv_sh 59 = some (.inr (3, [none, some 60, some 61, some 62])) from rfl) (fun ad => rfl) (fun q hq => rfl)
theorem ru_47 : mv_cs tt_X6_init_47 47 (.inr (47, 0) :: []) 23 0 [] (mv_nf 6, [], [], [], 0, 0) = (44, [], ([some (.inl 0), some (.inl 0), some (.inr (48, 0)), some (.inr (49, 0)), some (.inr (50, 0)), some (.inr (51, 0))], [], id_47.tail, [], 18, 518)) := @of_decide_eq_true _ (mv_d6 _ _) (by decide +kernel)
theorem ci_47 (hty : mv_tyw cA tys) : mv_Ini l yX6_init cX6_init 1 { frames := 1, cells := 18, slots := 518, locals := 64 } cA D tys mv_Z 47 6 [] id_47 :=
  mv_ini_of (Gs := mv_Z) (T := tt_X6_init_47) (N := 23) (pcE := 44) (ids0 := id_47.tail) (ups := []) (fs := [some (.inl 0), some (.inl 0), some (.inr (48, 0)), some (.inr (49, 0)), some (.inr (50, 0)), some (.inr (51, 0))]) (fsh := [none, none, some 48, some 49, some 50, some 51]) (by decide +kernel)
    (mv_Cx_of (fp := fp_X6_init) dk_X6_init (show mv_cl[6]? = some _ from rfl) fk_X6_init rfl nk_X6_init_47 ok_X6_init_47 hty (fun _ h => absurd h List.not_mem_nil) ⟨by decide, by decide, by decide, by decide⟩ (fun _ _ _ _ => rfl))
    rfl (by decide) (by decide +kernel) mv_Zin mv_Zin
    ru_47 (by decide +kernel) rfl (by decide +kernel) (show mv_sh 47 = some (.inr (6, [none, none, some 48, some 49, some 50, some 51])) from rfl) (fun ad => rfl) (fun q hq => rfl)
theorem ru_52 : mv_cs tt_X7_init_52 52 (.inr (52, 0) :: []) 30 0 [] (mv_nf 7, [], [], [], 0, 0) = (58, [], ([some (.inl 0), some (.inl 0), some (.inl (-1)), some (.inr (53, 0)), some (.inr (59, 0)), some (.inl 0), some (.inl 0), some (.inl 0), some (.inr (63, 0)), some (.inr (64, 0)), some (.inr (65, 0))], [], id_52.tail, [], 13, 1774)) := @of_decide_eq_true _ (mv_d6 _ _) (by decide +kernel)
theorem ci_52 (hty : mv_tyw cA tys) : mv_Ini l yX7_init cX7_init 1 { frames := 2, cells := 13, slots := 1774, locals := 128 } cA D tys mv_G0 52 7 [] id_52 :=
  mv_ini_of (Gs := mv_Z) (T := tt_X7_init_52) (N := 30) (pcE := 58) (ids0 := id_52.tail) (ups := []) (fs := [some (.inl 0), some (.inl 0), some (.inl (-1)), some (.inr (53, 0)), some (.inr (59, 0)), some (.inl 0), some (.inl 0), some (.inl 0), some (.inr (63, 0)), some (.inr (64, 0)), some (.inr (65, 0))]) (fsh := [none, none, none, some 53, some 59, none, none, none, some 63, some 64, some 65]) (by decide +kernel)
    (mv_Cx_of (fp := fp_X7_init) dk_X7_init (show mv_cl[7]? = some _ from rfl) fk_X7_init rfl nk_X7_init_52 ok_X7_init_52 hty (List.forall_mem_cons.mpr ⟨fun idx len h => by
      obtain ⟨rfl, rfl⟩ := (show idx = 17 ∧ len = 3 by have h1 : (some (Instr.invokespecial 17, 3) : Option (Instr × Nat)) = some (.invokespecial idx, len) := h; cases h1; exact ⟨rfl, rfl⟩)
      exact ⟨yX5_init, _, _, _, ci_53 hty, rfl, rfl, by decide, by decide, mv_Td (i := 173) (by decide +kernel), mv_Td (i := 131) (by decide +kernel), mv_Td (i := 172) (by decide +kernel), rfl, by decide +kernel, Or.inr ⟨"MoveUp", by decide +kernel⟩, by decide +kernel⟩,
    (List.forall_mem_cons.mpr ⟨fun idx len h => by
      obtain ⟨rfl, rfl⟩ := (show idx = 24 ∧ len = 3 by have h1 : (some (Instr.invokespecial 24, 3) : Option (Instr × Nat)) = some (.invokespecial idx, len) := h; cases h1; exact ⟨rfl, rfl⟩)
      exact ⟨yX3_init, _, _, _, ci_59 hty, rfl, rfl, by decide, by decide, mv_Td (i := 208) (by decide +kernel), mv_Td (i := 132) (by decide +kernel), mv_Td (i := 207) (by decide +kernel), rfl, by decide +kernel, Or.inr ⟨"MoveUp", by decide +kernel⟩, by decide +kernel⟩,
    (fun _ h => absurd h List.not_mem_nil)⟩)⟩) ⟨by decide, by decide, by decide, by decide⟩ (fun _ _ _ _ => rfl))
    rfl (by decide) (by decide +kernel) mv_Zin mv_G0in
    ru_52 (by decide +kernel) rfl (by decide +kernel) (show mv_sh 52 = some (.inr (7, [none, none, none, some 53, some 59, none, none, none, some 63, some 64, some 65])) from rfl) (fun ad => rfl) (mv_gz (by decide +kernel))
theorem ru_66 : mv_cs tt_X9_init_66 66 (.inr (66, 0) :: []) 25 0 [] (mv_nf 9, [], [], [], 0, 0) = (44, [], ([some (.inl 0), some (.inr (67, 0)), some (.inr (68, 0)), some (.inr (69, 0)), some (.inr (70, 0)), some (.inr (71, 0)), some (.inl 0), some (.inl 0), some (.inl 0), some (.inl 0)], [], id_66.tail, [], 5, 300)) := @of_decide_eq_true _ (mv_d6 _ _) (by decide +kernel)
theorem ci_66 (hty : mv_tyw cA tys) : mv_Ini l yX9_init cX9_init 1 { frames := 1, cells := 5, slots := 300, locals := 64 } cA D tys mv_Z 66 9 [] id_66 :=
  mv_ini_of (Gs := mv_Z) (T := tt_X9_init_66) (N := 25) (pcE := 44) (ids0 := id_66.tail) (ups := []) (fs := [some (.inl 0), some (.inr (67, 0)), some (.inr (68, 0)), some (.inr (69, 0)), some (.inr (70, 0)), some (.inr (71, 0)), some (.inl 0), some (.inl 0), some (.inl 0), some (.inl 0)]) (fsh := [none, some 67, some 68, some 69, some 70, some 71, none, none, none, none]) (by decide +kernel)
    (mv_Cx_of (fp := fp_X9_init) dk_X9_init (show mv_cl[9]? = some _ from rfl) fk_X9_init rfl nk_X9_init_66 ok_X9_init_66 hty (fun _ h => absurd h List.not_mem_nil) ⟨by decide, by decide, by decide, by decide⟩ (fun _ _ _ _ => rfl))
    rfl (by decide) (by decide +kernel) mv_Zin mv_Zin
    ru_66 (by decide +kernel) rfl (by decide +kernel) (show mv_sh 66 = some (.inr (9, [none, some 67, some 68, some 69, some 70, some 71, none, none, none, none])) from rfl) (fun ad => rfl) (fun q hq => rfl)
theorem ru_72 : mv_cs tt_X10_init_72 72 (.inr (72, 0) :: [.inr (1, 0), .inr (66, 0)]) 15 0 [] (mv_nf 10, [], [], [], 0, 0) = (22, [], ([some (.inr (1, 0)), some (.inr (66, 0)), some (.inr (73, 0))], [], id_72.tail, [], 1, 12)) := @of_decide_eq_true _ (mv_d6 _ _) (by decide +kernel)
theorem ci_72 (hty : mv_tyw cA tys) : mv_Ini l yX10_init cX10_init 3 { frames := 1, cells := 1, slots := 12, locals := 64 } cA D tys mv_Z 72 10 [.inr (1, 0), .inr (66, 0)] id_72 :=
  mv_ini_of (Gs := mv_Z) (T := tt_X10_init_72) (N := 15) (pcE := 22) (ids0 := id_72.tail) (ups := []) (fs := [some (.inr (1, 0)), some (.inr (66, 0)), some (.inr (73, 0))]) (fsh := [some 1, some 66, some 73]) (by decide +kernel)
    (mv_Cx_of (fp := fp_X10_init) dk_X10_init (show mv_cl[10]? = some _ from rfl) fk_X10_init rfl nk_X10_init_72 ok_X10_init_72 hty (fun _ h => absurd h List.not_mem_nil) ⟨by decide, by decide, by decide, by decide⟩ (fun _ _ _ _ => rfl))
    rfl (by decide) (by decide +kernel) mv_Zin mv_Zin
    ru_72 (by decide +kernel) rfl (by decide +kernel) (show mv_sh 72 = some (.inr (10, [some 1, some 66, some 73])) from rfl) (fun ad => rfl) (fun q hq => rfl)
theorem ru_74 : mv_cs tt_X8_init_74 74 (.inr (74, 0) :: [.inr (1, 0), .inr (66, 0)]) 38 0 [] (mv_nf 8, [], [], [], 0, 0) = (74, [], ([some (.inr (75, 0)), some (.inr (1, 0)), some (.inr (66, 0)), some (.inr (76, 0)), some (.inr (77, 0)), some (.inr (78, 0)), some (.inr (79, 0)), some (.inr (80, 0)), some (.inl 0)], [], id_74.tail, [], 36, 1882)) := @of_decide_eq_true _ (mv_d6 _ _) (by decide +kernel)
theorem ci_74 (hty : mv_tyw cA tys) : mv_Ini l yX8_init cX8_init 3 { frames := 1, cells := 36, slots := 1882, locals := 64 } cA D tys mv_Z 74 8 [.inr (1, 0), .inr (66, 0)] id_74 :=
  mv_ini_of (Gs := mv_Z) (T := tt_X8_init_74) (N := 38) (pcE := 74) (ids0 := id_74.tail) (ups := []) (fs := [some (.inr (75, 0)), some (.inr (1, 0)), some (.inr (66, 0)), some (.inr (76, 0)), some (.inr (77, 0)), some (.inr (78, 0)), some (.inr (79, 0)), some (.inr (80, 0)), some (.inl 0)]) (fsh := [some 75, some 1, some 66, some 76, some 77, some 78, some 79, some 80, none]) (by decide +kernel)
    (mv_Cx_of (fp := fp_X8_init) dk_X8_init (show mv_cl[8]? = some _ from rfl) fk_X8_init rfl nk_X8_init_74 ok_X8_init_74 hty (fun _ h => absurd h List.not_mem_nil) ⟨by decide, by decide, by decide, by decide⟩ (fun _ _ _ _ => rfl))
    rfl (by decide) (by decide +kernel) mv_Zin mv_Zin
    ru_74 (by decide +kernel) rfl (by decide +kernel) (show mv_sh 74 = some (.inr (8, [some 75, some 1, some 66, some 76, some 77, some 78, some 79, some 80, none])) from rfl) (fun ad => rfl) (fun q hq => rfl)
theorem ru_81 : mv_cs tt_X4_init_81 81 (.inr (81, 0) :: [.inr (1, 0), .inr (66, 0)]) 31 0 [] (mv_nf 4, [], [], [], 0, 0) = (55, [], ([some (.inr (1, 0)), some (.inr (66, 0)), some (.inr (82, 0)), some (.inr (83, 0)), some (.inr (84, 0)), some (.inr (85, 0)), some (.inl 1), some (.inl 0)], [], id_81.tail, [], 65, 3964)) := @of_decide_eq_true _ (mv_d6 _ _) (by decide +kernel)
theorem ci_81 (hty : mv_tyw cA tys) : mv_Ini l yX4_init cX4_init 3 { frames := 1, cells := 65, slots := 3964, locals := 64 } cA D tys mv_G0 81 4 [.inr (1, 0), .inr (66, 0)] id_81 :=
  mv_ini_of (Gs := mv_Z) (T := tt_X4_init_81) (N := 31) (pcE := 55) (ids0 := id_81.tail) (ups := []) (fs := [some (.inr (1, 0)), some (.inr (66, 0)), some (.inr (82, 0)), some (.inr (83, 0)), some (.inr (84, 0)), some (.inr (85, 0)), some (.inl 1), some (.inl 0)]) (fsh := [some 1, some 66, some 82, some 83, some 84, some 85, none, none]) (by decide +kernel)
    (mv_Cx_of (fp := fp_X4_init) dk_X4_init (show mv_cl[4]? = some _ from rfl) fk_X4_init rfl nk_X4_init_81 ok_X4_init_81 hty (fun _ h => absurd h List.not_mem_nil) ⟨by decide, by decide, by decide, by decide⟩ (fun _ _ _ _ => rfl))
    rfl (by decide) (by decide +kernel) mv_Zin mv_G0in
    ru_81 (by decide +kernel) rfl (by decide +kernel) (show mv_sh 81 = some (.inr (4, [some 1, some 66, some 82, some 83, some 84, some 85, none, none])) from rfl) (fun ad => rfl) (mv_gz (by decide +kernel))
theorem ru_86 : mv_cs tt_X1_init_86 86 (.inr (86, 0) :: [.inr (1, 0), .inr (66, 0), .inr (72, 0)]) 26 0 [] (mv_nf 1, [], [], [], 0, 0) = (45, [], ([some (.inr (1, 0)), some (.inr (66, 0)), some (.inr (72, 0)), some (.inr (87, 0)), some (.inr (88, 0)), some (.inr (89, 0)), some (.inl 0)], [], id_86.tail, [], 3, 520)) := @of_decide_eq_true _ (mv_d6 _ _) (by decide +kernel)
theorem ci_86 (hty : mv_tyw cA tys) : mv_Ini l yX1_init cX1_init 4 { frames := 1, cells := 3, slots := 520, locals := 64 } cA D tys mv_Z 86 1 [.inr (1, 0), .inr (66, 0), .inr (72, 0)] id_86 :=
  mv_ini_of (Gs := mv_Z) (T := tt_X1_init_86) (N := 26) (pcE := 45) (ids0 := id_86.tail) (ups := []) (fs := [some (.inr (1, 0)), some (.inr (66, 0)), some (.inr (72, 0)), some (.inr (87, 0)), some (.inr (88, 0)), some (.inr (89, 0)), some (.inl 0)]) (fsh := [some 1, some 66, some 72, some 87, some 88, some 89, none]) (by decide +kernel)
    (mv_Cx_of (fp := fp_X1_init) dk_X1_init (show mv_cl[1]? = some _ from rfl) fk_X1_init rfl nk_X1_init_86 ok_X1_init_86 hty (fun _ h => absurd h List.not_mem_nil) ⟨by decide, by decide, by decide, by decide⟩ (fun _ _ _ _ => rfl))
    rfl (by decide) (by decide +kernel) mv_Zin mv_Zin
    ru_86 (by decide +kernel) rfl (by decide +kernel) (show mv_sh 86 = some (.inr (1, [some 1, some 66, some 72, some 87, some 88, some 89, none])) from rfl) (fun ad => rfl) (fun q hq => rfl)
theorem ru_90 : mv_cs tt_X0_init_90 90 (.inr (90, 0) :: [.inr (1, 0), .inr (66, 0), .inr (72, 0), .inr (74, 0)]) 20 0 [] (mv_nf 0, [], [], [], 0, 0) = (30, [], ([some (.inl 0), some (.inl (-1)), some (.inr (1, 0)), some (.inr (66, 0)), some (.inr (72, 0)), some (.inr (74, 0))], [], id_90.tail, [], 0, 0)) := @of_decide_eq_true _ (mv_d6 _ _) (by decide +kernel)
theorem ci_90 (hty : mv_tyw cA tys) : mv_Ini l yX0_init cX0_init 5 { frames := 1, cells := 0, slots := 0, locals := 64 } cA D tys mv_G0 90 0 [.inr (1, 0), .inr (66, 0), .inr (72, 0), .inr (74, 0)] id_90 :=
  mv_ini_of (Gs := mv_Z) (T := tt_X0_init_90) (N := 20) (pcE := 30) (ids0 := id_90.tail) (ups := []) (fs := [some (.inl 0), some (.inl (-1)), some (.inr (1, 0)), some (.inr (66, 0)), some (.inr (72, 0)), some (.inr (74, 0))]) (fsh := [none, none, some 1, some 66, some 72, some 74]) (by decide +kernel)
    (mv_Cx_of (fp := fp_X0_init) dk_X0_init (show mv_cl[0]? = some _ from rfl) fk_X0_init rfl nk_X0_init_90 ok_X0_init_90 hty (fun _ h => absurd h List.not_mem_nil) ⟨by decide, by decide, by decide, by decide⟩ (fun _ _ _ _ => rfl))
    rfl (by decide) (by decide +kernel) mv_Zin mv_G0in
    ru_90 (by decide +kernel) rfl (by decide +kernel) (show mv_sh 90 = some (.inr (0, [none, none, some 1, some 66, some 72, some 74])) from rfl) (fun ad => rfl) (mv_gz (by decide +kernel))
theorem ru_0 : mv_cs tt_X11_init_0b 0 (.inr (0, 0) :: []) 81 0 [] (mv_nf 11, [], [], [], 0, 0) = (166, [], ([some (.inr (1, 0)), some (.inr (24, 0)), some (.inr (47, 0)), some (.inr (52, 0)), some (.inr (66, 0)), some (.inr (72, 0)), some (.inr (74, 0)), some (.inr (81, 0)), some (.inr (86, 0)), some (.inr (90, 0)), some (.inl 0)], [], id_0b.tail, [], 213, 12890)) := @of_decide_eq_true _ (mv_d6 _ _) (by decide +kernel)
theorem ci_0 (hty : mv_tyw cA tys) (h1 : mv_Ini l yX2_init cX2_init 1 { frames := 8, cells := 31, slots := 1917, locals := 512 } cA D tys mv_G0 1 2 [] id_1) (h24 : mv_Ini l yX2_init cX2_init 1 { frames := 8, cells := 31, slots := 1917, locals := 512 } cA D tys mv_G0 24 2 [] id_24) : mv_Ini l yX11_init cX11_init 1 { frames := 9, cells := 213, slots := 12890, locals := 576 } cA D tys mv_G0 0 11 [] id_0b :=
  mv_ini_of (Gs := mv_G0) (T := tt_X11_init_0b) (N := 81) (pcE := 166) (ids0 := id_0b.tail) (ups := []) (fs := [some (.inr (1, 0)), some (.inr (24, 0)), some (.inr (47, 0)), some (.inr (52, 0)), some (.inr (66, 0)), some (.inr (72, 0)), some (.inr (74, 0)), some (.inr (81, 0)), some (.inr (86, 0)), some (.inr (90, 0)), some (.inl 0)]) (fsh := [some 1, some 24, some 47, some 52, some 66, some 72, some 74, some 81, some 86, some 90, none]) (by decide +kernel)
    (mv_Cx_of (fp := fp_X11_init) dk_X11_init (show mv_cl[11]? = some _ from rfl) fk_X11_init rfl nk_X11_init_0b ok_X11_init_0b hty (List.forall_mem_cons.mpr ⟨fun idx len h => by
      obtain ⟨rfl, rfl⟩ := (show idx = 11 ∧ len = 3 by have h1 : (some (Instr.invokespecial 11, 3) : Option (Instr × Nat)) = some (.invokespecial idx, len) := h; cases h1; exact ⟨rfl, rfl⟩)
      exact ⟨yX2_init, _, _, _, h1, rfl, rfl, by decide, by decide, mv_Td (i := 163) (by decide +kernel), mv_Td (i := 130) (by decide +kernel), mv_Td (i := 162) (by decide +kernel), rfl, by decide +kernel, Or.inl (mv_Td (i := 161) (by decide +kernel)), by decide +kernel⟩,
    (List.forall_mem_cons.mpr ⟨fun idx len h => by
      obtain ⟨rfl, rfl⟩ := (show idx = 11 ∧ len = 3 by have h1 : (some (Instr.invokespecial 11, 3) : Option (Instr × Nat)) = some (.invokespecial idx, len) := h; cases h1; exact ⟨rfl, rfl⟩)
      exact ⟨yX2_init, _, _, _, h24, rfl, rfl, by decide, by decide, mv_Td (i := 163) (by decide +kernel), mv_Td (i := 130) (by decide +kernel), mv_Td (i := 162) (by decide +kernel), rfl, by decide +kernel, Or.inl (mv_Td (i := 161) (by decide +kernel)), by decide +kernel⟩,
    (List.forall_mem_cons.mpr ⟨fun idx len h => by
      obtain ⟨rfl, rfl⟩ := (show idx = 21 ∧ len = 3 by have h1 : (some (Instr.invokespecial 21, 3) : Option (Instr × Nat)) = some (.invokespecial idx, len) := h; cases h1; exact ⟨rfl, rfl⟩)
      exact ⟨yX6_init, _, _, _, (ci_47 hty).cg (mv_gz (by decide +kernel)) mv_G0in, rfl, rfl, by decide, by decide, mv_Td (i := 332) (by decide +kernel), mv_Td (i := 135) (by decide +kernel), mv_Td (i := 331) (by decide +kernel), rfl, by decide +kernel, Or.inr ⟨"MoveUp", by decide +kernel⟩, by decide +kernel⟩,
    (List.forall_mem_cons.mpr ⟨fun idx len h => by
      obtain ⟨rfl, rfl⟩ := (show idx = 28 ∧ len = 3 by have h1 : (some (Instr.invokespecial 28, 3) : Option (Instr × Nat)) = some (.invokespecial idx, len) := h; cases h1; exact ⟨rfl, rfl⟩)
      exact ⟨yX7_init, _, _, _, ci_52 hty, rfl, rfl, by decide, by decide, mv_Td (i := 359) (by decide +kernel), mv_Td (i := 136) (by decide +kernel), mv_Td (i := 358) (by decide +kernel), rfl, by decide +kernel, Or.inr ⟨"MoveUp", by decide +kernel⟩, by decide +kernel⟩,
    (List.forall_mem_cons.mpr ⟨fun idx len h => by
      obtain ⟨rfl, rfl⟩ := (show idx = 35 ∧ len = 3 by have h1 : (some (Instr.invokespecial 35, 3) : Option (Instr × Nat)) = some (.invokespecial idx, len) := h; cases h1; exact ⟨rfl, rfl⟩)
      exact ⟨yX9_init, _, _, _, (ci_66 hty).cg (mv_gz (by decide +kernel)) mv_G0in, rfl, rfl, by decide, by decide, mv_Td (i := 408) (by decide +kernel), mv_Td (i := 137) (by decide +kernel), mv_Td (i := 407) (by decide +kernel), rfl, by decide +kernel, Or.inr ⟨"MoveUp", by decide +kernel⟩, by decide +kernel⟩,
    (List.forall_mem_cons.mpr ⟨fun idx len h => by
      obtain ⟨rfl, rfl⟩ := (show idx = 42 ∧ len = 3 by have h1 : (some (Instr.invokespecial 42, 3) : Option (Instr × Nat)) = some (.invokespecial idx, len) := h; cases h1; exact ⟨rfl, rfl⟩)
      exact ⟨yX10_init, _, _, _, (ci_72 hty).cg (mv_gz (by decide +kernel)) mv_G0in, rfl, rfl, by decide, by decide, mv_Td (i := 456) (by decide +kernel), mv_Td (i := 138) (by decide +kernel), mv_Td (i := 455) (by decide +kernel), rfl, by decide +kernel, Or.inl (mv_Td (i := 454) (by decide +kernel)), by decide +kernel⟩,
    (List.forall_mem_cons.mpr ⟨fun idx len h => by
      obtain ⟨rfl, rfl⟩ := (show idx = 51 ∧ len = 3 by have h1 : (some (Instr.invokespecial 51, 3) : Option (Instr × Nat)) = some (.invokespecial idx, len) := h; cases h1; exact ⟨rfl, rfl⟩)
      exact ⟨yX8_init, _, _, _, (ci_74 hty).cg (mv_gz (by decide +kernel)) mv_G0in, rfl, rfl, by decide, by decide, mv_Td (i := 472) (by decide +kernel), mv_Td (i := 139) (by decide +kernel), mv_Td (i := 471) (by decide +kernel), rfl, by decide +kernel, Or.inl (mv_Td (i := 470) (by decide +kernel)), by decide +kernel⟩,
    (List.forall_mem_cons.mpr ⟨fun idx len h => by
      obtain ⟨rfl, rfl⟩ := (show idx = 58 ∧ len = 3 by have h1 : (some (Instr.invokespecial 58, 3) : Option (Instr × Nat)) = some (.invokespecial idx, len) := h; cases h1; exact ⟨rfl, rfl⟩)
      exact ⟨yX4_init, _, _, _, ci_81 hty, rfl, rfl, by decide, by decide, mv_Td (i := 509) (by decide +kernel), mv_Td (i := 140) (by decide +kernel), mv_Td (i := 508) (by decide +kernel), rfl, by decide +kernel, Or.inl (mv_Td (i := 507) (by decide +kernel)), by decide +kernel⟩,
    (List.forall_mem_cons.mpr ⟨fun idx len h => by
      obtain ⟨rfl, rfl⟩ := (show idx = 65 ∧ len = 3 by have h1 : (some (Instr.invokespecial 65, 3) : Option (Instr × Nat)) = some (.invokespecial idx, len) := h; cases h1; exact ⟨rfl, rfl⟩)
      exact ⟨yX1_init, _, _, _, (ci_86 hty).cg (mv_gz (by decide +kernel)) mv_G0in, rfl, rfl, by decide, by decide, mv_Td (i := 541) (by decide +kernel), mv_Td (i := 141) (by decide +kernel), mv_Td (i := 540) (by decide +kernel), rfl, by decide +kernel, Or.inl (mv_Td (i := 539) (by decide +kernel)), by decide +kernel⟩,
    (List.forall_mem_cons.mpr ⟨fun idx len h => by
      obtain ⟨rfl, rfl⟩ := (show idx = 74 ∧ len = 3 by have h1 : (some (Instr.invokespecial 74, 3) : Option (Instr × Nat)) = some (.invokespecial idx, len) := h; cases h1; exact ⟨rfl, rfl⟩)
      exact ⟨yX0_init, _, _, _, ci_90 hty, rfl, rfl, by decide, by decide, mv_Td (i := 569) (by decide +kernel), mv_Td (i := 142) (by decide +kernel), mv_Td (i := 568) (by decide +kernel), rfl, by decide +kernel, Or.inl (mv_Td (i := 567) (by decide +kernel)), by decide +kernel⟩,
    (fun _ h => absurd h List.not_mem_nil)⟩)⟩)⟩)⟩)⟩)⟩)⟩)⟩)⟩)⟩) ⟨by decide, by decide, by decide, by decide⟩ (fun h => by cases h))
    rfl (by decide) (by decide +kernel) mv_G0in mv_G0in
    ru_0 (by decide +kernel) rfl (by decide +kernel) (show mv_sh 0 = some (.inr (11, [some 1, some 24, some 47, some 52, some 66, some 72, some 74, some 81, some 86, some 90, none])) from rfl) (fun ad => rfl) (fun q hq => rfl)
theorem mv_wo_get : ∀ (l : List Int) (n j : Nat) (G : mv_G), mv_Gu G (l.mapIdx fun i v => (112, n + i, v)) 112 0 j = if n ≤ j ∧ j < n + l.length then l.getD (j - n) 0 else G 112 0 j
  | [], n, j, G => by
    rw [if_neg (by simp)]
    rfl
  | v :: l, n, j, G => by
    have h := mv_wo_get l (n + 1) j (mv_up G 112 0 n v)
    have e : (fun (i : Nat) (v : Int) => ((112 : Nat), n + 1 + i, v)) = (fun (i : Nat) (v : Int) => ((112 : Nat), n + (i + 1), v)) := by
      funext i v
      rw [Nat.add_assoc, Nat.add_comm 1 i]
    rw [List.mapIdx_cons]
    show mv_Gu (mv_up G 112 0 (n + 0) v) _ 112 0 j = _
    rw [← e]
    rw [Nat.add_zero, h]
    show _ = if n ≤ j ∧ j < n + (l.length + 1) then _ else _
    by_cases e1 : j = n
    · subst e1
      rw [if_neg (by omega), if_pos (by omega), Nat.sub_self]
      show (if 112 = 112 ∧ 0 = 0 ∧ j = j then v else G 112 0 j) = v
      rw [if_pos ⟨rfl, rfl, rfl⟩]
    · by_cases e2 : n + 1 ≤ j ∧ j < n + 1 + l.length
      · rw [if_pos e2, if_pos (by omega)]
        have : j - n = j - (n + 1) + 1 := by omega
        rw [this]
        rfl
      · rw [if_neg e2, if_neg (by omega)]
        show (if 112 = 112 ∧ 0 = 0 ∧ j = n then v else G 112 0 j) = _
        rw [if_neg (fun h => e1 h.2.2)]
theorem mv_Gu_no {k : Nat} : ∀ {l : List (Nat × Nat × Int)} {G : mv_G}, (∀ x ∈ l, x.1 ≠ k) → mv_Gu G l k = G k
  | [], _, _ => rfl
  | x :: l, G, h => by
    show mv_Gu (mv_up G x.1 0 x.2.1 x.2.2) l k = _
    rw [mv_Gu_no (fun y hy => h y (List.mem_cons_of_mem _ hy))]
    funext i j
    show (if k = x.1 ∧ i = 0 ∧ j = x.2.1 then x.2.2 else G k i j) = _
    rw [if_neg (fun e => h x List.mem_cons_self e.1.symm)]
def mv_upw : List (Nat × Nat × Int) := mv_wo.mapIdx fun i v => (112, 0 + i, v)
theorem mv_g100 : ∀ q ∈ id_100.tail, mv_Gu mv_Z mv_upw q.1 q.2 = mv_G0 q.1 q.2 := by
  intro q hq
  have h : ∀ q ∈ id_100.tail, q.2 = 0 ∧ (q.1 = 112 ∨ (Nat.ble 1 q.2 || !([1, 24, 3, 26, 4, 27, 6, 29, 52, 81, 90, 100, 112].contains q.1)) = true) := by decide +kernel
  obtain ⟨h0, h1⟩ := h q hq
  rcases h1 with h1 | h1
  · rw [h0, h1]
    funext j
    unfold mv_upw
    rw [mv_wo_get mv_wo 0 j mv_Z]
    show _ = mv_wo.getD j 0
    rw [Nat.sub_zero, Nat.zero_add]
    split
    · rfl
    · next e =>
      rw [List.getD_eq_getElem?_getD, List.getElem?_eq_none (by omega)]
      rfl
  · rw [mv_Gu_no (fun x hx => ?_)]
    · exact mv_gz1 h1
    · intro e
      unfold mv_upw at hx
      obtain ⟨i, hi, rfl⟩ := List.mem_mapIdx.mp hx
      rw [← e, h0] at h1
      exact absurd (show (Nat.ble 1 0 || !([1, 24, 3, 26, 4, 27, 6, 29, 52, 81, 90, 100, 112].contains 112)) = true from h1) (by decide)
theorem ru_100 : mv_cs tt_X12_init_100 100 (.inr (100, 0) :: []) 572 0 [] (mv_nf 12, [], [], [], 0, 0) = (935, [], ([some (.inl 0), some (.inr (101, 0)), some (.inr (102, 0)), some (.inl 0), some (.inr (103, 0)), some (.inl 0), some (.inl 0), some (.inr (104, 0)), some (.inl 0), some (.inr (105, 0)), some (.inr (106, 0)), some (.inr (107, 0)), some (.inr (108, 0)), some (.inr (109, 0)), some (.inr (110, 0)), some (.inr (111, 0)), some (.inl 0), some (.inl 0), some (.inl 0), some (.inl 0), some (.inl 0), some (.inr (112, 0)), some (.inr (113, 0)), some (.inr (114, 0)), some (.inr (115, 0)), some (.inr (116, 0)), some (.inr (117, 0)), some (.inr (118, 0)), some (.inl 0), some (.inl 0), some (.inl 0), some (.inr (119, 0)), some (.inl 0), some (.inl 0), some (.inl 0), some (.inl 0), some (.inl (-1)), some (.inl 0), some (.inr (120, 0)), some (.inr (121, 0)), some (.inr (122, 0)), some (.inr (123, 0)), some (.inr (124, 0)), some (.inr (125, 0)), some (.inr (126, 0)), some (.inr (127, 0)), some (.inl 0), some (.inl 0), some (.inl 0), some (.inl 0), some (.inl 0), some (.inl 0), some (.inl 0), some (.inr (128, 0)), some (.inr (129, 0)), some (.inr (130, 0)), some (.inr (131, 0)), some (.inl 0), some (.inr (132, 0)), some (.inr (133, 0)), some (.inr (134, 0)), some (.inl 0), some (.inl 0), some (.inl 0), some (.inr (135, 0)), some (.inr (136, 0)), some (.inl 0), some (.inl 0), some (.inl 0), some (.inl 0), some (.inr (137, 0))], [], id_100.tail, mv_upw, 37, 21283)) := @of_decide_eq_true _ (mv_d6 _ _) (by decide +kernel)
theorem ci_100 (hty : mv_tyw cA tys) : mv_Ini l yX12_init cX12_init 1 { frames := 1, cells := 37, slots := 21283, locals := 64 } cA D tys mv_G0 100 12 [] id_100 :=
  mv_ini_of (Gs := mv_Z) (T := tt_X12_init_100) (N := 572) (pcE := 935) (ids0 := id_100.tail) (ups := mv_upw) (fs := [some (.inl 0), some (.inr (101, 0)), some (.inr (102, 0)), some (.inl 0), some (.inr (103, 0)), some (.inl 0), some (.inl 0), some (.inr (104, 0)), some (.inl 0), some (.inr (105, 0)), some (.inr (106, 0)), some (.inr (107, 0)), some (.inr (108, 0)), some (.inr (109, 0)), some (.inr (110, 0)), some (.inr (111, 0)), some (.inl 0), some (.inl 0), some (.inl 0), some (.inl 0), some (.inl 0), some (.inr (112, 0)), some (.inr (113, 0)), some (.inr (114, 0)), some (.inr (115, 0)), some (.inr (116, 0)), some (.inr (117, 0)), some (.inr (118, 0)), some (.inl 0), some (.inl 0), some (.inl 0), some (.inr (119, 0)), some (.inl 0), some (.inl 0), some (.inl 0), some (.inl 0), some (.inl (-1)), some (.inl 0), some (.inr (120, 0)), some (.inr (121, 0)), some (.inr (122, 0)), some (.inr (123, 0)), some (.inr (124, 0)), some (.inr (125, 0)), some (.inr (126, 0)), some (.inr (127, 0)), some (.inl 0), some (.inl 0), some (.inl 0), some (.inl 0), some (.inl 0), some (.inl 0), some (.inl 0), some (.inr (128, 0)), some (.inr (129, 0)), some (.inr (130, 0)), some (.inr (131, 0)), some (.inl 0), some (.inr (132, 0)), some (.inr (133, 0)), some (.inr (134, 0)), some (.inl 0), some (.inl 0), some (.inl 0), some (.inr (135, 0)), some (.inr (136, 0)), some (.inl 0), some (.inl 0), some (.inl 0), some (.inl 0), some (.inr (137, 0))]) (fsh := [none, some 101, some 102, none, some 103, none, none, some 104, none, some 105, some 106, some 107, some 108, some 109, some 110, some 111, none, none, none, none, none, some 112, some 113, some 114, some 115, some 116, some 117, some 118, none, none, none, some 119, none, none, none, none, none, none, some 120, some 121, some 122, some 123, some 124, some 125, some 126, some 127, none, none, none, none, none, none, none, some 128, some 129, some 130, some 131, none, some 132, some 133, some 134, none, none, none, some 135, some 136, none, none, none, none, some 137]) (by decide +kernel)
    (mv_Cx_of (fp := fp_X12_init) dk_X12_init (show mv_cl[12]? = some _ from rfl) fk_X12_init rfl nk_X12_init_100 ok_X12_init_100 hty (fun _ h => absurd h List.not_mem_nil) ⟨by decide, by decide, by decide, by decide⟩ (fun _ _ _ _ => rfl))
    rfl (by decide) (by decide +kernel) mv_Zin mv_G0in
    ru_100 (by decide +kernel) rfl (by decide +kernel) (show mv_sh 100 = some (.inr (12, [none, some 101, some 102, none, some 103, none, none, some 104, none, some 105, some 106, some 107, some 108, some 109, some 110, some 111, none, none, none, none, none, some 112, some 113, some 114, some 115, some 116, some 117, some 118, none, none, none, some 119, none, none, none, none, none, none, some 120, some 121, some 122, some 123, some 124, some 125, some 126, some 127, none, none, none, none, none, none, none, some 128, some 129, some 130, some 131, none, some 132, some 133, some 134, none, none, none, some 135, some 136, none, none, none, none, some 137])) from rfl) (fun ad => rfl) mv_g100
end MV
