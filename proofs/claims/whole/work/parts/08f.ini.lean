/-! Constructors' contracts, out of their tables. -/
section MV
variable {p : Program} {l : Launch} {e : Env} {R : Room} {s : State} {m : MethodId} {args : Array Value} {below : List Frame} {meth : Method} {c : Code} {cells slots : Nat} {Q : State → Prop}
variable {cc : ByteArray} {nL : Nat} {ad ad2 : Nat → Nat → Value} {cA : Nat → ClassId} {D : va_G} {tys : List (ClassId × FieldType)} {A : Nat → Prop} {H : Heap} {locs : List Loc} {ids : List (Nat × Nat)} {G : mv_G}
theorem mv_wd_cg {ids : List (Nat × Nat)} {G G2 : mv_G} (h : ∀ q ∈ ids, G q.1 q.2 = G2 q.1 q.2) : mv_wd mv_sh ad cA ids G = mv_wd mv_sh ad cA ids G2 := List.map_congr_left fun q hq => mv_cel_cg (h q hq)
theorem mv_nf_go {ci : Nat} : ∀ v ∈ mv_nf ci, mv_go1 ad v := by
  intro v hv
  unfold mv_nf at hv
  split at hv
  · obtain ⟨j, -, rfl⟩ := List.mem_map.mp hv
    split
    · exact mv_in0
    · exact mv_in0
    · trivial
  · cases hv
theorem mv_ini_of {y : MethodName} {by2 : ByteArray} {mL : Nat} {rm : Room} {k ci N pcE : Nat} {as : List mv_A} {ids0 : List (Nat × Nat)} {ups : List (Nat × Nat × Int)} {fs : List (Option mv_A)} {Gs Gk : mv_G} {T : mv_TT} (hy : plainName y.cls = true)
    (hCx : ∀ (p : Program) (s : State) (m : MethodId) (args : Array Value) (meth : Method) (c : Code), mv_Bg p s m args c by2 mL y.cls mv_Ts → va_K D mv_cl tys s → meth.name = "<init>" → mv_NS s → mv_AO s → mv_Cx l p s m args meth c by2 mL y.cls rm cA D tys Gs ci T)
    (hname : y.name = "<init>") (hn : as.length + 1 ≤ mL) (hks : ∀ a ∈ mv_ks T, Nat.ble 990 a = false ∧ a ≠ k ∧ ∀ v ∈ (.inr (k, 0) :: as : List mv_A), mv_kn [a] (some v) = true) (hGs : ∀ k i j, mv_in (Gs k i j)) (hGk : ∀ k i j, mv_in (Gk k i j))
    (hrun : mv_cs T k (.inr (k, 0) :: as) N 0 [] (mv_nf ci, [], [], [], 0, 0) = (pcE, [], (fs, [], ids0, ups, rm.cells, rm.slots))) (hend : decode by2 pcE = .ok (.return_, 1))
    (hids : ids = (k, 0) :: ids0) (hsub : ∀ a ∈ mv_ks T, a ∈ ids.map fun q => q.1) {fsh : List (Option Nat)} (hsh : mv_sh k = some (.inr (ci, fsh))) (hfs : ∀ ad : Nat → Nat → Value, fs.map (mv_Vo ad) = mv_fs ad (Gk k 0) fsh) (hG : ∀ q ∈ ids0, mv_Gu Gs ups q.1 q.2 = Gk q.1 q.2) :
    mv_Ini l y by2 mL rm cA D tys Gk k ci as ids := by
  intro ad sz hk hcat hga hro
  refine Met.ofW (cc := by2) (maxL := mL) (ret := none) hy rfl ?_
  intro p e s m args below meth c s₁ B hml hv
  obtain ⟨rfl, hsz, hPP, hK, hR, hE, hNS, hAO⟩ := hv
  subst hsz
  have hx := B.exec
  have hb := B.bytes
  have hr := B.returns
  have hlocks := B.notSynchronized
  have hin : meth.name = "<init>" := hname ▸ (name_of_methodNamed B.named B.method).1
  have hts0 := atoms_spec (ws := .code y by2 mL none :: mv_Ts) B.pre
  have hts : ∀ w ∈ mv_Ts, w.before ((.inr (k, 0) :: as).map (mv_V ad)).toArray s = true := fun w h => hts0 w (List.mem_cons_of_mem _ h)
  have hown : s.vm.findClass y.cls = some m.cls := findClass_of_methodNamed B.named
  have hBg : mv_Bg p s m ((.inr (k, 0) :: as).map (mv_V ad)).toArray c by2 mL y.cls mv_Ts := ⟨hx, hb, hown, hts, hml⟩
  have hgl : ∀ v ∈ (.inr (k, 0) :: as : List mv_A), mv_gv ad v := fun v hv => by
    rcases List.mem_cons.mp hv with rfl | hv
    · exact hk
    · exact hga v hv
  have hcatl : ∀ v ∈ (.inr (k, 0) :: as : List mv_A).map (mv_V ad), v.category = 1 := fun v hv => by
    obtain ⟨w, hw, rfl⟩ := List.mem_map.mp hv
    exact mv_gv_cat (hgl w hw)
  have hlsl : (lg_sl ((.inr (k, 0) :: as : List mv_A).map (mv_V ad))).length = as.length + 1 := by rw [mv_sl hcatl]; simp
  have hl := lv_entry ((.inr (k, 0) :: as : List mv_A).map (mv_V ad)) (n := mL) (by rw [hlsl]; exact hn)
  rw [lg_entry_eq]
  generalize hA : (fun a => a = mv_ra (ad k 0) ∨ s.heap.size ≤ a) = A at *
  have hA1 : ∀ q, s.heap.size ≤ q → A q := fun q h => by rw [← hA]; exact Or.inr h
  have hA2 : A (mv_ra (ad k 0)) := by rw [← hA]; exact Or.inl rfl
  have hW0 : mv_WU ad cA D A Gs k ci (mv_nf ci, [], [], [], 0, 0) s.heap := by
    refine ⟨fun x hx => ?_, ⟨by simp [mv_ow, mv_wd], fun x hx => ?_⟩, hGs, hk, fun q hq => (by cases hq), fun q hq => (by cases hq), mv_nf_go, hcat⟩
    · exact hPP x (by simpa [mv_ow, mv_wd] using hx)
    · simp only [mv_ow, mv_wd, List.map_nil, List.append_nil, List.mem_singleton] at hx
      rw [hx]
      exact hA2
  refine mv_cs_snd (R := rm) (ls := .inr (k, 0) :: as) (hCx p s m _ meth c hBg hK hin hNS hAO) hA1 hl.1 hks N 0 [] (mv_nf ci, [], [], [], 0, 0) ad s.heap [] hW0 va_S.rf hro hR hE (fun i v hi => ?_) (fun v hv => by cases hv) (fun ad2 H2 locs2 hag hW2 hS2 hst2 => ?_)
  · have h1 := (List.getElem?_eq_some_iff.mp hi).1
    refine ⟨?_, hgl v (List.mem_of_getElem? hi)⟩
    rw [List.getElem?_toArray, mv_sl hcatl, List.getElem?_append_left (by simpa using h1)]
    simp only [List.getElem?_map, hi, Option.map_some]
  · rw [hrun] at hW2 ⊢
    have hids2 : mv_wd mv_sh ad2 cA ids Gk = mv_ow ad2 k ci (fs, [], ids0, ups, rm.cells, rm.slots) ++ mv_wd mv_sh ad2 cA ids0 (mv_Gu Gs ups) := by
      rw [hids, mv_wd_cg hG]
      show mv_cel mv_sh ad2 cA Gk k 0 :: _ = _ :: _
      congr 1
      simp only [mv_cel, hsh]
      rw [hfs]
    refine W.vret hx hb hr (fun t ht hW => ⟨⟨ad2, rfl, ⟨fun b => hag k (fun h => (hks k h).2.1 rfl) b, fun a ha b => hag a (fun h => ha (hsub a h)) b, fun q hq => ?_, hW2.2.2.2.2.2.2.2⟩, ?_⟩, hS2.F ht⟩) hS2.2.2 hend
    · rw [hids] at hq
      rcases List.mem_cons.mp hq with rfl | hq
      · exact hW2.2.2.2.1
      · exact hW2.2.2.2.2.2.1 q hq
    · show mv_Wd mv_sh ids ad2 cA mv_cl D A Gk t.heap
      rw [ht]
      exact ⟨by rw [hids2]; exact mv_PP_iff.mpr hW2.1, by rw [hids2]; exact mv_DD_iff.mpr hW2.2.1, hGk⟩
end MV
