def mv_max : mv_F := fun as G => match as with | [.inl x, .inl y] => some (if x < y then y else x, G) | _ => none
def mv_min : mv_F := fun as G => match as with | [.inl x, .inl y] => some (if y < x then y else x, G) | _ => none
def mv_abs : mv_F := fun as G => match as with | [.inl x] => some (if 0 ≤ x then x else mv_w (0 - x), G) | _ => none
section MV
variable {p : Program} {l : Launch} {e : Env} {R : Room} {s : State} {m : MethodId} {args : Array Value} {below : List Frame} {meth : Method} {c : Code} {cells slots : Nat} {Q : State → Prop}
variable {cc : ByteArray} {nL : Nat} {sh : Nat → Option mv_S} {ids ros : List (Nat × Nat)} {ad : Nat → Nat → Value} {cA : Nat → ClassId} {cl : List vw_C} {D : va_G} {tys : List (ClassId × FieldType)} {A : Nat → Prop} {rc : mv_G} {M : mv_M} {own : String} {Ts : List Cond}
theorem mv_sum1 : ∀ r : List Value, (∀ v ∈ r, v.category = 1) → (r.map fun v => v.category).sum = r.length := by
  intro r
  induction r with
  | nil => intro _; rfl
  | cons v r ih =>
    intro h
    simp only [List.map_cons, List.sum_cons, List.length_cons]
    rw [h v List.mem_cons_self, ih fun w hw => h w (List.mem_cons_of_mem _ hw)]
    omega
theorem mv_cal_max {idx : Nat} (hBg : mv_Bg p s m args c cc nL own Ts) (hw : Cond.methodLink own idx Lib.Math.max.name ∈ Ts ∧ Cond.static Lib.Math.max.name ∈ Ts ∧ Cond.initialized "java/lang/Math" ∈ Ts ∧ Cond.code Lib.Math.max.name Lib.Math.max.code 2 (some .int) ∈ Ts)
    (hR : 1 ≤ R.frames ∧ 21 ≤ R.locals) (hro : cells ≤ R.cells ∧ slots ≤ R.slots) : mv_Cal p l e R s m args below meth c cells slots Q cc nL sh ids ros ad cA cl D A idx 2 none false mv_max := by
  intro pc lsC as rest G G' r H locs hsz hdg hlen has hrv hrl hrc hf hW hS kk
  unfold mv_max at hf
  split at hf <;> try contradiction
  next x y =>
  cases hf
  have o1 := has (.inl x) (by simp)
  have o2 := has (.inl y) (by simp)
  have hl := mv_sum1 rest hrc
  have := kk H locs hW hS (fun _ => by split; exact o2; exact o1)
  refine va_mmax (rest := rest) hBg.1 hBg.2.1 (hBg.2.2.2.2.trans hsz.symm) hBg.2.2.1 (hBg.2.2.2.1 _ hw.1) (hBg.2.2.2.1 _ hw.2.1) (hBg.2.2.2.1 _ hw.2.2.1) (hBg.2.2.2.1 _ hw.2.2.2) hR.1 (by omega) hro.1 hro.2 (x := Int32.ofInt x) (y := Int32.ofInt y) hdg ?_
  have e : (if Int32.ofInt x < Int32.ofInt y then Int32.ofInt y else Int32.ofInt x) = Int32.ofInt (if x < y then y else x) := by
    by_cases h : x < y
    · rw [if_pos h, if_pos ((mv_lt o1 o2).mpr h)]
    · rw [if_neg h, if_neg (fun q => h ((mv_lt o1 o2).mp q))]
  rw [e]
  exact this
theorem mv_cal_min {idx : Nat} (hBg : mv_Bg p s m args c cc nL own Ts) (hw : Cond.methodLink own idx Lib.Math.min.name ∈ Ts ∧ Cond.static Lib.Math.min.name ∈ Ts ∧ Cond.initialized "java/lang/Math" ∈ Ts ∧ Cond.code Lib.Math.min.name Lib.Math.min.code 2 (some .int) ∈ Ts)
    (hR : 1 ≤ R.frames ∧ 21 ≤ R.locals) (hro : cells ≤ R.cells ∧ slots ≤ R.slots) : mv_Cal p l e R s m args below meth c cells slots Q cc nL sh ids ros ad cA cl D A idx 2 none false mv_min := by
  intro pc lsC as rest G G' r H locs hsz hdg hlen has hrv hrl hrc hf hW hS kk
  unfold mv_min at hf
  split at hf <;> try contradiction
  next x y =>
  cases hf
  have o1 := has (.inl x) (by simp)
  have o2 := has (.inl y) (by simp)
  have hl := mv_sum1 rest hrc
  have := kk H locs hW hS (fun _ => by split; exact o2; exact o1)
  refine va_mmin (rest := rest) hBg.1 hBg.2.1 (hBg.2.2.2.2.trans hsz.symm) hBg.2.2.1 (hBg.2.2.2.1 _ hw.1) (hBg.2.2.2.1 _ hw.2.1) (hBg.2.2.2.1 _ hw.2.2.1) (hBg.2.2.2.1 _ hw.2.2.2) hR.1 (by omega) hro.1 hro.2 (x := Int32.ofInt x) (y := Int32.ofInt y) hdg ?_
  have e : (if Int32.ofInt y < Int32.ofInt x then Int32.ofInt y else Int32.ofInt x) = Int32.ofInt (if y < x then y else x) := by
    by_cases h : y < x
    · rw [if_pos h, if_pos ((mv_lt o2 o1).mpr h)]
    · rw [if_neg h, if_neg (fun q => h ((mv_lt o2 o1).mp q))]
  rw [e]
  exact this
theorem mv_cal_abs {idx : Nat} (hBg : mv_Bg p s m args c cc nL own Ts) (hw : Cond.methodLink own idx Lib.Math.abs.name ∈ Ts ∧ Cond.static Lib.Math.abs.name ∈ Ts ∧ Cond.initialized "java/lang/Math" ∈ Ts ∧ Cond.code Lib.Math.abs.name Lib.Math.abs.code 1 (some .int) ∈ Ts)
    (hR : 1 ≤ R.frames ∧ 21 ≤ R.locals) (hro : cells ≤ R.cells ∧ slots ≤ R.slots) : mv_Cal p l e R s m args below meth c cells slots Q cc nL sh ids ros ad cA cl D A idx 1 none false mv_abs := by
  intro pc lsC as rest G G' r H locs hsz hdg hlen has hrv hrl hrc hf hW hS kk
  unfold mv_abs at hf
  split at hf <;> try contradiction
  next x =>
  cases hf
  have o1 := has (.inl x) (by simp)
  have hl := mv_sum1 rest hrc
  have := kk H locs hW hS (fun _ => by split; exact o1; exact mv_w_in _)
  refine va_mabs (rest := rest) hBg.1 hBg.2.1 (hBg.2.2.2.2.trans hsz.symm) hBg.2.2.1 (hBg.2.2.2.1 _ hw.1) (hBg.2.2.2.1 _ hw.2.1) (hBg.2.2.2.1 _ hw.2.2.1) (hBg.2.2.2.1 _ hw.2.2.2) hR.1 (by omega) hro.1 hro.2 (x := Int32.ofInt x) hdg ?_
  have e : (if 0 ≤ Int32.ofInt x then Int32.ofInt x else 0 - Int32.ofInt x) = Int32.ofInt (if 0 ≤ x then x else mv_w (0 - x)) := by
    have h1 : 0 ≤ Int32.ofInt x ↔ 0 ≤ x := by
      have := mv_lt o1 mv_in0
      rw [← Int32.not_lt, show (0 : Int32) = Int32.ofInt 0 from rfl, this]
      omega
    by_cases h : 0 ≤ x
    · rw [if_pos h, if_pos (h1.mpr h)]
    · rw [if_neg h, if_neg (fun q => h (h1.mp q)), mv_w_of, Int32.ofInt_sub]
      rfl
  rw [e]
  exact this
end MV
