/-! The law makes an object: new, dup, its constructor, in one row. -/
section MV
variable {p : Program} {l : Launch} {e : Env} {R : Room} {s : State} {m : MethodId} {args : Array Value} {below : List Frame} {meth : Method} {c : Code} {cells slots : Nat} {Q : State → Prop}
variable {cc : ByteArray} {nL : Nat} {ad ad2 : Nat → Nat → Value} {cA : Nat → ClassId} {D : va_G} {tys : List (ClassId × FieldType)} {A : Nat → Prop} {H : Heap} {locs : List Loc} {ids : List (Nat × Nat)} {G : mv_G}
def mv_WV (ad : Nat → Nat → Value) (cA : Nat → ClassId) (D : va_G) (A : Nat → Prop) (G : mv_G) (ids : List (Nat × Nat)) (H : Heap) : Prop :=
  mv_PP D (mv_wd mv_sh ad cA ids G) H ∧ mv_DD A (mv_wd mv_sh ad cA ids G) ∧ (∀ k i j, mv_in (G k i j)) ∧ (∀ q ∈ ids, ∃ a, ad q.1 q.2 = .ref a) ∧ ∀ a b, (ad a b).category = 1
theorem mv_l_new {k cj pc idx idx2 mL : Nat} {ids0 : List (Nat × Nat)} {lsC : Array Slot} {own : String} {q : vw_C} {ty0 : Nat → FieldType} {y : MethodName} {by2 : ByteArray} {rm : Room} (hI : mv_Ini l y by2 mL rm cA D tys G k cj [] ids) (hBg : mv_Bg p s m args c cc nL own mv_Ts) (hK : va_K D mv_cl tys s) (hA : ∀ q, s.heap.size ≤ q → A q) (hNS : mv_NS s) (hR : mv_RO mv_sh mv_ros ad A mv_rc mv_cr s) (hX : mv_EX ad A s) (hAO : mv_AO s) (hro : ∀ q ∈ mv_ros, ∃ a, ad q.1 q.2 = .ref a)
    (hrm : rm.frames + 1 ≤ R.frames ∧ 8 + (mL + 11) + rm.locals ≤ R.locals) (hw : Cond.code y by2 mL none ∈ mv_Ts ∧ Cond.initialized y.cls ∈ mv_Ts ∧ Cond.instanceMethod y ∈ mv_Ts ∧ y.name = "<init>") (hy : y.cls ≠ "java/lang/invoke/MethodHandle" ∧ y.cls ≠ "java/lang/invoke/VarHandle" ∧ (parseMethodDescriptor y.desc).map (fun d => d.parameters.length) = some 0) (hl : Cond.methodLink own idx2 y ∈ mv_Ts)
    (hW : mv_WV ad cA D A G ids0 H) (hS : va_S A s.heap H locs) (hfr : mv_fr (ids.map fun q => q.1) ids0 = true) (hki : (k, 0) ∈ ids) (hk9 : ∀ q ∈ ids, Nat.ble 990 q.1 = false)
    (hq : mv_cl[cj]? = some q) (hcl : Cond.classLink own idx q.1 ∈ mv_Ts) (hin : Cond.instantiable q.1 q.2.2 ∈ mv_Ts) (hini : Cond.initialized q.1 ∈ mv_Ts) (hty : ∀ j, j < q.2.2 → parseFieldDescriptor (q.2.1 j).2.2.1 = some (ty0 j)) (hdef : ∀ (ad : Nat → Nat → Value) j, j < q.2.2 → defaultValue (ty0 j) = vp_V ((mv_nf cj).map (mv_Vo ad)) j)
    (hc : cells + 1 + rm.cells ≤ R.cells) (hs : slots + q.2.2 + rm.slots ≤ R.slots) (hsz : lsC.size = nL) (hd1 : decode cc pc = .ok (.new idx, 3)) (hd2 : decode cc (pc + 3) = .ok (.dup, 1)) (hd3 : decode cc (pc + 4) = .ok (.invokespecial idx2, 3))
    (kk : ∀ (ad2 : Nat → Nat → Value) (H1 : Heap) (locs1 : List Loc), (∀ a, a ∉ (ids.map fun q => q.1) → ∀ b, ad2 a b = ad a b) → mv_WV ad2 cA D A G (ids0 ++ ids) H1 → va_S A s.heap H1 locs1 → W p l e R s m args below meth c H1 locs1 (cells + 1 + rm.cells) (slots + q.2.2 + rm.slots) Q (F0 m (pc + 7) lsC [mv_V ad2 (.inr (k, 0))])) :
    W p l e R s m args below meth c H locs cells slots Q (F0 m pc lsC []) := by
  obtain ⟨hx, hb, hown, hts, hml⟩ := hBg
  obtain ⟨w1, w2, w3, w6, w8⟩ := hW
  refine va_new (ci := cj) (fs := (mv_nf cj).map (mv_Vo ad)) (C := q.1) (T := q.2.1) (N := q.2.2) hx hb hts (mv_clok cj q hq).1 ty0 hty hown (hts _ hcl) (hts _ hin) (hts _ hini) hK (mv_PP_iff.mpr w1) (mv_DD_iff.mpr w2) hS hA hq (hdef ad) (by omega) (by omega) hd1 (fun a H1 hP1 hD1 hS1 => ?_)
  refine lv_dup hx hb hd2 rfl ?_
  have hkm : k ∈ ids.map fun q => q.1 := List.mem_map.mpr ⟨(k, 0), hki, rfl⟩
  have hk99 : Nat.ble 990 k = false := hk9 _ hki
  obtain ⟨ad1, had1⟩ : ∃ ad1 : Nat → Nat → Value, ad1 = fun a' b => if a' = k then .ref a else ad a' b := ⟨_, rfl⟩
  have e1 : ∀ a', a' ≠ k → ∀ b, ad1 a' b = ad a' b := fun a' h b => by rw [had1]; exact if_neg h
  have ek : ∀ b, ad1 k b = .ref a := fun b => by rw [had1]; exact if_pos rfl
  have hag1 : ∀ a', a' ∉ (ids.map fun q => q.1) → ∀ b, ad1 a' b = ad a' b := fun a' h b => e1 a' (fun h2 => h (h2 ▸ hkm)) b
  have h990 : ∀ a', Nat.ble 990 a' = true → ∀ b, ad1 a' b = ad a' b := fun a' h b => e1 a' (fun h2 => by rw [h2, hk99] at h; cases h) b
  have c1 : ∀ a' b, (ad1 a' b).category = 1 := fun a' b => by
    rw [had1]
    dsimp only
    split
    · rfl
    · exact w8 a' b
  have hro1 : ∀ q ∈ mv_ros, ∃ a, ad1 q.1 q.2 = .ref a := fun q hq2 => by
    obtain ⟨a2, h2⟩ := hro q hq2
    refine ⟨a2, (h990 _ ?_ _).trans h2⟩
    revert hq2
    simp only [mv_ros, List.mem_cons, List.not_mem_nil, or_false]
    rintro (rfl | rfl | rfl | rfl | rfl | rfl) <;> rfl
  have hMet := hI ad1 H1.size ⟨a, ek 0⟩ c1 (fun v h => by cases h) hro1
  have hPP := mv_PP_iff.mp hP1
  have hDD := mv_DD_iff.mp hD1
  have eV : mv_V ad1 (.inr (k, 0)) = .ref a := ek 0
  have eN : (mv_nf cj).map (mv_Vo ad1) = (mv_nf cj).map (mv_Vo ad) := by
    refine List.map_congr_left fun v hv => ?_
    unfold mv_nf at hv
    split at hv
    · obtain ⟨j, -, rfl⟩ := List.mem_map.mp hv
      split <;> rfl
    · cases hv
  have hra : mv_ra (ad1 k 0) = a := by rw [ek]; rfl
  have hB : ∀ a', a' = mv_ra (ad1 k 0) ∨ H1.size ≤ a' → A a' := fun a' h => by
    rcases h with rfl | h
    · rw [hra]
      exact hDD.2 _ (List.mem_append_right _ (List.mem_singleton.mpr rfl))
    · exact hA _ (Nat.le_trans hS1.1 h)
  have hgi : GoodIn mv_Ts (.code y by2 mL none :: mv_Ts) := fun w h => by
    rcases List.mem_cons.mp h with rfl | h
    · exact ⟨hw.1, good_of_word (mv_good _ hw.1)⟩
    · exact ⟨h, good_of_word (mv_good _ h)⟩
  have hroom : 2 * (F0 m (pc + 4) lsC (([] : List Value).reverse ++ .ref a :: [.ref a])).monitorRoom + (([.ref a] : List Value).map fun v => v.category).sum ≤ 8 := by
    refine lv_room ?_
    show 1 ≤ 8
    omega
  have hpre : PreS s H1 (va_Pc ([.ref a]) (mv_Pi ad1 D tys (fun a' => a' = mv_ra (ad1 k 0) ∨ H1.size ≤ a') k cj H1.size)) [.ref a] :=
    ⟨mv_Pi_blind, fun U hU hW1 => ⟨rfl, by rw [hU], fun x hx2 => by
      rw [List.mem_singleton] at hx2
      subst hx2
      rw [hU, hra, eN]
      exact hPP _ (List.mem_append_right _ (List.mem_singleton.mpr rfl)), va_K.moved hW1.alike hK, (mv_RO.go (mv_RO_ag h990 hR) hW1.alike (fun a h1 h2 => by rw [hU]; exact hS1.2.1 a h1 h2)).narrow hB, (mv_EX_ok.2 s U (mv_EX_ag h990 hX) hW1 (fun a h1 h2 => by rw [hU]; exact hS1.2.1 a h1 h2)).narrow hB, hNS.warm hW1, hAO.moved hW1.alike⟩⟩
  have run : va_Run p l e R s m args below meth c H1 locs (cells + 1) (slots + q.2.2) rm.cells rm.slots (F0 m (pc + 4) lsC (([] : List Value).reverse ++ .ref a :: [.ref a])) [.ref a] ((va_Qv (fun ad2 : Nat → Nat → Value => (∀ b, ad2 k b = ad1 k b) ∧ (∀ a, a ∉ ids.map (fun q => q.1) → ∀ b, ad2 a b = ad1 a b) ∧ (∀ q ∈ ids, ∃ a, ad2 q.1 q.2 = .ref a) ∧ ∀ a b, (ad2 a b).category = 1)
        (fun ad2 t => mv_Wd mv_sh ids ad2 cA mv_cl D (fun a => a = mv_ra (ad1 k 0) ∨ H1.size ≤ a) G t.heap) (fun a => a = mv_ra (ad1 k 0) ∨ H1.size ≤ a)) (Value.ref a :: ([] : List Value)).toArray) (fun a => a = mv_ra (ad1 k 0) ∨ H1.size ≤ a) := by
    rw [List.map_cons, eV] at hMet
    exact va_runI (As := []) (own := own) (Ts := mv_Ts) (n := 0) ⟨hx, hb, hml, hown, hts⟩ hMet ⟨callB_of 0 hts hgi rfl rfl rfl (hts _ hw.2.1) (hts _ hl) hy hrm, hw.2.2.2, hts _ hw.2.2.1⟩ hpre rfl (by simp) hsz rfl hroom hd3 ⟨hc, hs⟩
  refine va_callv run hS1 (fun a _ h => hB a h) hB fun ad2 t H2 locs1 ht hvm hp hBt hz hk hS2 => ?_
  obtain ⟨p1, p2, p3, p4⟩ := hp
  have hWd : mv_Wd mv_sh ids ad2 cA mv_cl D (fun a => a = mv_ra (ad1 k 0) ∨ H1.size ≤ a) G H2 := by rw [← ht]; exact hBt
  have hag : ∀ a, a ∉ (ids.map fun q => q.1) → ∀ b, ad2 a b = ad a b := fun a h b => (p2 a h b).trans (hag1 a h b)
  have ew : mv_wd mv_sh ad2 cA ids0 G = mv_wd mv_sh ad cA ids0 G := mv_wd_ag hfr hag
  have hPn := mv_PP_iff.mp hWd.1
  have hDn := mv_DD_iff.mp hWd.2.1
  have hn := hDD.1
  have hlt : ∀ x ∈ mv_wd mv_sh ad2 cA ids0 G, x.1 < H1.size ∧ x.1 ≠ a := fun x hx2 => by
    rw [ew] at hx2
    refine ⟨(hPP x (List.mem_append_left _ hx2)).lt, fun e => ?_⟩
    rw [List.map_append] at hn
    exact (List.nodup_append.mp hn).2.2 _ (List.mem_map.mpr ⟨x, hx2, rfl⟩) a (by simp) e
  have enw : mv_wd mv_sh ad2 cA (ids0 ++ ids) G = mv_wd mv_sh ad2 cA ids0 G ++ mv_wd mv_sh ad2 cA ids G := List.map_append
  have key := kk ad2 H2 locs1 hag ⟨by
      rw [enw]
      intro x hx2
      rcases List.mem_append.mp hx2 with hx2 | hx2
      · obtain ⟨h1, h2⟩ := hlt x hx2
        rw [ew] at hx2
        exact (hPP x (List.mem_append_left _ hx2)).kept (hk x.1 h1 (fun h => by rw [hra] at h; rcases h with h | h; exact h2 h; omega))
      · exact hPn x hx2, by
      rw [enw]
      refine ⟨?_, fun x hx2 => ?_⟩
      · rw [List.map_append]
        refine List.nodup_append.mpr ⟨?_, hDn.1, fun b hb2 b2 hb3 e2 => ?_⟩
        · rw [ew]
          rw [List.map_append] at hn
          exact (List.nodup_append.mp hn).1
        · obtain ⟨x, hx2, rfl⟩ := List.mem_map.mp hb2
          obtain ⟨y2, hy2, rfl⟩ := List.mem_map.mp hb3
          obtain ⟨h1, h2⟩ := hlt x hx2
          have h3 := hDn.2 y2 hy2
          dsimp only at h3
          rw [← e2, hra] at h3
          rcases h3 with h3 | h3
          · exact h2 h3
          · omega
      · rcases List.mem_append.mp hx2 with hx2 | hx2
        · rw [ew] at hx2
          exact hDD.2 x (List.mem_append_left _ hx2)
        · exact hB _ (hDn.2 x hx2), w3, fun q2 hq2 => by
      rcases List.mem_append.mp hq2 with hq2 | hq2
      · obtain ⟨a2, ha2⟩ := w6 q2 hq2
        exact ⟨a2, (hag _ (mv_fr_no hfr hq2) _).trans ha2⟩
      · exact p3 q2 hq2, p4⟩ hS2
  have eV2 : mv_V ad2 (.inr (k, 0)) = .ref a := (p1 0).trans (ek 0)
  rw [eV2] at key
  exact key
end MV
