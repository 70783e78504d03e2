/-! TEXT: its tokens, the class. -/
def mv_ltr (c : Int) : Bool := decide ((97 ≤ c ∧ c ≤ 122) ∨ (65 ≤ c ∧ c ≤ 90))
def mv_dgt (c : Int) : Bool := decide (48 ≤ c ∧ c ≤ 57)
def mv_blk (c : Int) : Bool := decide (c = 32 ∨ c = 10)
def mv_sgn (c : Int) : Bool := decide (c = 59 ∨ c = 43 ∨ c = 45 ∨ c = 42 ∨ c = 47 ∨ c = 40 ∨ c = 41 ∨ c = 60 ∨ c = 61 ∨ c = 62)
def mv_run (p : Int → Bool) (t : Nat → Int) : Nat → Nat → Nat
  | 0, i => i
  | k + 1, i => if p (t i) = true then mv_run p t k (i + 1) else i
/-- where a run of signs of a kind ends -/
def mv_rn (p : Int → Bool) (t : Nat → Int) (n i : Nat) : Nat := mv_run p t (n - i) i
theorem mv_rn_e {p : Int → Bool} {t : Nat → Int} {n i : Nat} (h : n ≤ i) : mv_rn p t n i = i := by
  unfold mv_rn
  rw [show n - i = 0 by omega]
  rfl
theorem mv_rn_t {p : Int → Bool} {t : Nat → Int} {n i : Nat} (h : i < n) (h2 : p (t i) = true) : mv_rn p t n i = mv_rn p t n (i + 1) := by
  unfold mv_rn
  rw [show n - i = n - (i + 1) + 1 by omega]
  exact if_pos h2
theorem mv_rn_f {p : Int → Bool} {t : Nat → Int} {n i : Nat} (h : i < n) (h2 : ¬ p (t i) = true) : mv_rn p t n i = i := by
  unfold mv_rn
  rw [show n - i = n - (i + 1) + 1 by omega]
  exact if_neg h2
theorem mv_rn_b {p : Int → Bool} {t : Nat → Int} {n : Nat} : ∀ d i, i + d = n → i ≤ mv_rn p t n i ∧ mv_rn p t n i ≤ n ∧ (∀ j, i ≤ j → j < mv_rn p t n i → p (t j) = true) ∧ (mv_rn p t n i < n → ¬ p (t (mv_rn p t n i)) = true)
  | 0, i, h => by
    rw [mv_rn_e (by omega)]
    exact ⟨Nat.le_refl _, by omega, fun j h1 h2 => by omega, fun h1 => by omega⟩
  | d + 1, i, h => by
    by_cases c : p (t i) = true
    · obtain ⟨a1, a2, a3, a4⟩ := mv_rn_b (p := p) (t := t) (n := n) d (i + 1) (by omega)
      rw [mv_rn_t (by omega) c]
      refine ⟨by omega, a2, fun j h1 h2 => ?_, a4⟩
      by_cases e : j = i
      · exact e ▸ c
      · exact a3 j (by omega) h2
    · rw [mv_rn_f (by omega) c]
      exact ⟨Nat.le_refl _, by omega, fun j h1 h2 => by omega, fun _ => c⟩
/-- where the token from i on ends -/
def mv_te (t : Nat → Int) (n i : Nat) : Nat := if mv_ltr (t i) = true then mv_rn mv_ltr t n (i + 1) else if mv_dgt (t i) = true then mv_rn mv_dgt t n (i + 1) else i + 1
theorem mv_te_b {t : Nat → Int} {n i : Nat} (h : i < n) : i < mv_te t n i ∧ mv_te t n i ≤ n := by
  have h1 := mv_rn_b (p := mv_ltr) (t := t) (n := n) (n - (i + 1)) (i + 1) (by omega)
  have h2 := mv_rn_b (p := mv_dgt) (t := t) (n := n) (n - (i + 1)) (i + 1) (by omega)
  unfold mv_te
  split
  · omega
  · split <;> omega
/-- where the k-th token begins -/
def mv_tbg (t : Nat → Int) (n : Nat) : Nat → Nat
  | 0 => mv_rn mv_blk t n 0
  | k + 1 => if mv_tbg t n k < n then mv_rn mv_blk t n (mv_te t n (mv_tbg t n k)) else mv_tbg t n k
theorem mv_tb_le {t : Nat → Int} {n : Nat} : ∀ k, mv_tbg t n k ≤ n ∧ (mv_tbg t n k < n → ¬ mv_blk (t (mv_tbg t n k)) = true)
  | 0 => by
    have := mv_rn_b (p := mv_blk) (t := t) (n := n) n 0 (by omega)
    exact ⟨this.2.1, this.2.2.2⟩
  | k + 1 => by
    have ih := mv_tb_le (t := t) (n := n) k
    unfold mv_tbg
    by_cases c : mv_tbg t n k < n
    · rw [if_pos c]
      have h1 := mv_te_b (t := t) c
      have := mv_rn_b (p := mv_blk) (t := t) (n := n) (n - mv_te t n (mv_tbg t n k)) (mv_te t n (mv_tbg t n k)) (by omega)
      exact ⟨this.2.1, this.2.2.2⟩
    · rw [if_neg c]; exact ih
/-- the words -/
def mv_Wl : List (List Int) := [[115, 105, 116], [99, 111, 115, 116], [119, 104, 101, 110], [111, 114], [97, 110, 100], [110, 111, 116], [99, 111, 109, 101], [103, 111], [98, 101, 103], [119, 105, 100, 101], [107, 101, 101, 112], [98, 97, 103], [103, 114, 111, 117, 112], [104, 111, 117, 114], [97, 116], [108, 101, 102, 116], [114, 105, 103, 104, 116], [119, 97, 114, 109], [102, 114, 105, 101, 110, 100, 115], [115, 105, 116, 116, 105, 110, 103], [109, 111, 118, 101, 100]]
def mv_wln (w : Nat) : Nat := (mv_Wl.getD w []).length
def mv_wc (w j : Nat) : Int := (mv_Wl.getD w []).getD j 32
def mv_wst : Nat → Nat
  | 0 => 0
  | w + 1 => mv_wst w + mv_wln w + 1
theorem mv_wc_tb : ∀ w : Nat, w < 21 → 0 < mv_wln w ∧ mv_wst w + mv_wln w < 103 ∧ mv_wc w (mv_wln w) = 32 ∧ ∀ j : Nat, j < mv_wln w → mv_wc w j ≠ 32 := by decide +kernel
theorem mv_wc_rc : ∀ w : Nat, w < 21 → ∀ j : Nat, j < mv_wln w + 1 → mv_i2c (mv_and (mv_rc 1003 0 (mv_wst w + j)) 255) = mv_wc w j ∧ 0 ≤ mv_wc w j ∧ mv_wc w j < 65536 := by decide +kernel
def mv_mtc (t : Nat → Int) (a w o : Nat) : Prop := ∀ j, j < o → t (a + j) = mv_wc w j
/-- the signs from a on are word w -/
def mv_isw (t : Nat → Int) (a b w : Nat) : Prop := b = a + mv_wln w ∧ mv_mtc t a w (mv_wln w)
noncomputable def mv_wf (t : Nat → Int) (a b : Nat) : Nat → Nat → Int
  | 0, _ => -1
  | k + 1, w => @ite _ (mv_isw t a b w) (Classical.propDecidable _) (w : Int) (mv_wf t a b k (w + 1))
/-- the number of the word -/
noncomputable def mv_wdx (t : Nat → Int) (a b : Nat) : Int := mv_wf t a b 21 0
theorem mv_wf_sp {t : Nat → Int} {a b : Nat} : ∀ k w, (mv_wf t a b k w = -1 ∧ ∀ x, w ≤ x → x < w + k → ¬ mv_isw t a b x) ∨ ∃ x : Nat, mv_wf t a b k w = x ∧ w ≤ x ∧ x < w + k ∧ mv_isw t a b x
  | 0, w => Or.inl ⟨rfl, fun x h1 h2 => by omega⟩
  | k + 1, w => by
    unfold mv_wf
    by_cases c : mv_isw t a b w
    · rw [if_pos c]
      exact Or.inr ⟨w, rfl, Nat.le_refl _, by omega, c⟩
    · rw [if_neg c]
      rcases mv_wf_sp (t := t) (a := a) (b := b) k (w + 1) with ⟨h1, h2⟩ | ⟨x, h1, h2, h3, h4⟩
      · refine Or.inl ⟨h1, fun x h3 h4 => ?_⟩
        by_cases e : x = w
        · exact e ▸ c
        · exact h2 x (by omega) (by omega)
      · exact Or.inr ⟨x, h1, by omega, by omega, h4⟩
theorem mv_isw_1 {t : Nat → Int} {a b w x : Nat} (hw : w < 21) (hx : x < 21) (h1 : mv_isw t a b w) (h2 : mv_isw t a b x) : w = x := by
  have tab : ∀ w : Nat, w < 21 → ∀ x : Nat, x < 21 → mv_wln w = mv_wln x → (∀ j : Nat, j < mv_wln w → mv_wc w j = mv_wc x j) → w = x := by decide +kernel
  have e : mv_wln w = mv_wln x := by have := h1.1; have := h2.1; omega
  exact tab w hw x hx e (fun j hj => (h1.2 j hj).symm.trans (h2.2 j (by omega)))
/-- the number that digits tell -/
def mv_nm (t : Nat → Int) : Nat → Nat → Int → Int
  | 0, _, v => v
  | k + 1, i, v => mv_nm t k (i + 1) (v * 10 + t i - 48)
def mv_9 : Nat → Int
  | 0 => 0
  | k + 1 => mv_9 k * 10 + 9
theorem mv_9_b : ∀ k : Nat, k ≤ 4 → 0 ≤ mv_9 k ∧ mv_9 k ≤ 9999 := by decide
theorem mv_nm_b {t : Nat → Int} : ∀ k i d (v : Int), 0 ≤ v → v ≤ mv_9 d → (∀ j, i ≤ j → j < i + k → 48 ≤ t j ∧ t j ≤ 57) → 0 ≤ mv_nm t k i v ∧ mv_nm t k i v ≤ mv_9 (d + k)
  | 0, i, d, v, h1, h2, _ => ⟨h1, h2⟩
  | k + 1, i, d, v, h1, h2, h3 => by
    have := h3 i (Nat.le_refl _) (by omega)
    have e9 : mv_9 (d + 1) = mv_9 d * 10 + 9 := rfl
    have := mv_nm_b (t := t) k (i + 1) (d + 1) (v * 10 + t i - 48) (by omega) (by omega) (fun j g1 g2 => h3 j (by omega) (by omega))
    rw [show d + (k + 1) = d + 1 + k by omega]
    exact this
theorem mv_nm_l {t : Nat → Int} : ∀ k i (v : Int), mv_nm t (k + 1) i v = mv_nm t k i v * 10 + t (i + k) - 48
  | 0, i, v => rfl
  | k + 1, i, v => by
    have := mv_nm_l (t := t) k (i + 1) (v * 10 + t i - 48)
    rw [show i + 1 + k = i + (k + 1) by omega] at this
    exact this
/-- the token from a on: END -2, none -1, a number, a word 20000 .., a sign 30000 .. -/
noncomputable def mv_tk1 (t : Nat → Int) (n a : Nat) : Int := if n ≤ a then -2 else if mv_ltr (t a) = true then (if mv_wdx t a (mv_te t n a) = -1 then -1 else 20000 + mv_wdx t a (mv_te t n a)) else if mv_dgt (t a) = true then (if 4 < mv_te t n a - a then -1 else mv_nm t (mv_te t n a - a) a 0) else if mv_sgn (t a) = true then 30000 + t a else -1
theorem fx_isLetter (G : mv_G) (c : Int) : ff_X7_isLetter [.inl c] G = some (if mv_ltr c = true then 1 else 0, G) := by
  refine mv_Kp.eq (mv_Kp.of (mv_JP.of (rg_X7_isLetter_0 c G) ?_))
  unfold mv_ltr
  have y : (97 ≤ c ∧ c ≤ 122) ∨ (65 ≤ c ∧ c ≤ 90) → mv_J mm_X7_isLetter (fun a b => a = (if decide ((97 ≤ c ∧ c ≤ 122) ∨ (65 ≤ c ∧ c ≤ 90)) = true then 1 else 0) ∧ b = G) (mv_rzc 0 1 1 (some (.inl (1, G)))) := fun h => mv_J.r0 (Or.inr rfl) ⟨(if_pos (decide_eq_true h)).symm, rfl⟩
  have n : ¬ ((97 ≤ c ∧ c ≤ 122) ∨ (65 ≤ c ∧ c ≤ 90)) → mv_J mm_X7_isLetter (fun a b => a = (if decide ((97 ≤ c ∧ c ≤ 122) ∨ (65 ≤ c ∧ c ≤ 90)) = true then 1 else 0) ∧ b = G) (mv_rzc 0 1 0 (some (.inl (0, G)))) := fun h => mv_J.r0 (Or.inl rfl) ⟨(if_neg (fun h2 => h (of_decide_eq_true h2))).symm, rfl⟩
  refine mv_J.i (fun h1 => mv_J.i (fun h2 => n (by omega)) (fun h2 => mv_J.i (fun h3 => n (by omega)) (fun h3 => y (by omega)))) (fun h1 => mv_J.i (fun h4 => mv_J.i (fun h2 => n (by omega)) (fun h2 => mv_J.i (fun h3 => n (by omega)) (fun h3 => y (by omega)))) (fun h4 => y (by omega)))
theorem fx_isDigit (G : mv_G) (c : Int) : ff_X7_isDigit [.inl c] G = some (if mv_dgt c = true then 1 else 0, G) := by
  refine mv_Kp.eq (mv_Kp.of (mv_JP.of (rg_X7_isDigit_0 c G) ?_))
  unfold mv_dgt
  have no : ¬ (48 ≤ c ∧ c ≤ 57) → mv_J mm_X7_isDigit (fun a b => a = (if decide (48 ≤ c ∧ c ≤ 57) = true then 1 else 0) ∧ b = G) (mv_rzc 0 1 0 (some (.inl (0, G)))) := fun h => mv_J.r0 (Or.inl rfl) ⟨(if_neg (fun h2 => h (of_decide_eq_true h2))).symm, rfl⟩
  refine mv_J.i (fun h1 => no (by omega)) (fun h1 => mv_J.i (fun h2 => no (by omega)) (fun h2 => mv_J.r0 (Or.inr rfl) ⟨(if_pos (decide_eq_true (by omega))).symm, rfl⟩))
theorem mv_J.it {M : mv_M} {P : Int → mv_G → Prop} {b : Bool} {A B : Option mv_O} (h1 : ¬ b = true → mv_J M P A) (h2 : b = true → mv_J M P B) : mv_J M P (if (if b = true then (1 : Int) else 0) = 0 then A else B) := by
  cases b with
  | false => exact mv_J.t rfl (h1 (by decide))
  | true => exact mv_J.f (by decide) (h2 rfl)
theorem fx_len (G : mv_G) : ff_J0_length_8abf5 [.inr (1002, 0)] G = some (103, G) := by
  have h : ff_J0_coder_7d493 [.inr (1002, 0)] G = some (0, G) := mv_Kp.eq (mv_Kp.of (mv_JP.of (rg_J0_coder_7d493_0_1002 G) (mv_J.f (by decide) (mv_J.rz (by decide +kernel) (mv_J.ret ⟨by decide +kernel, rfl⟩)))))
  exact mv_Kp.eq (mv_Kp.of (mv_JP.of (rg_J0_length_8abf5_0_1002 G) (mv_J.ce h (mv_J.ret ⟨by decide +kernel, rfl⟩))))
theorem fx_len4 (G : mv_G) : ff_J0_length_8abf5 [.inr (1004, 0)] G = some (10, G) := by
  have h : ff_J0_coder_7d493 [.inr (1004, 0)] G = some (0, G) := mv_Kp.eq (mv_Kp.of (mv_JP.of (rg_J0_coder_7d493_0_1004 G) (mv_J.f (by decide) (mv_J.rz (by decide +kernel) (mv_J.ret ⟨by decide +kernel, rfl⟩)))))
  exact mv_Kp.eq (mv_Kp.of (mv_JP.of (rg_J0_length_8abf5_0_1004 G) (mv_J.ce h (mv_J.ret ⟨by decide +kernel, rfl⟩))))
theorem fx_charAt (G : mv_G) (i : Nat) (v : Int) (h : i < 103) (hv : mv_i2c (mv_and (mv_rc 1003 0 i) 255) = v) (hb : 0 ≤ v ∧ v < 65536) : ff_J0_charAt_5068e [.inr (1002, 0), .inl i] G = some (v, G) := by
  have h1 : ff_J0_isLatin1_aae02 [.inr (1002, 0)] G = some (1, G) := mv_Kp.eq (mv_Kp.of (mv_JP.of (rg_J0_isLatin1_aae02_0_1002 G) (mv_J.f (by decide) (mv_J.t (by decide +kernel) (mv_J.r0 (Or.inr rfl) ⟨rfl, rfl⟩)))))
  have h2 : ff_J3_checkIndex_8e157 [.inl i, .inl 103, .inr (999, 0)] G = some ((i : Int), G) := mv_Kp.eq (mv_Kp.of (mv_JP.of (rg_J3_checkIndex_8e157_0 i 103 G) (mv_J.f (by omega) (mv_J.t (by omega) (mv_J.ret ⟨rfl, rfl⟩)))))
  have h3 : ff_J0_checkIndex_df160 [.inl i, .inl 103] G = some (0, G) := mv_Kp.eq (mv_Kp.of (mv_JP.of (rg_J0_checkIndex_df160_0 i 103 G) (mv_J.ce h2 (mv_J.ret ⟨rfl, rfl⟩))))
  have h4 : ff_J1_charAt_3b067 [.inr (1003, 0), .inl i] G = some (v, G) := by
    refine mv_Kp.eq (mv_Kp.of (mv_JP.of (rg_J1_charAt_3b067_0 i G) (mv_J.ce h3 (mv_J.ck (by omega) ?_))))
    rw [Int.toNat_natCast, hv]
    exact mv_J.rz (by omega) (mv_J.ret ⟨rfl, rfl⟩)
  exact mv_Kp.eq (mv_Kp.of (mv_JP.of (rg_J0_charAt_5068e_0 i G) (mv_J.ce h1 (mv_J.f (by decide) (mv_J.ce h4 (mv_J.rz (by omega) (mv_J.ret ⟨rfl, rfl⟩)))))))
section TO
variable {G : mv_G} {t : Nat → Int} {n : Nat}
set_option maxHeartbeats 1000000 in
set_option maxRecDepth 100000 in
theorem fx_wordOf (hn : n ≤ 400) (hT : ∀ j, j < n → G 63 0 j = t j) (a b : Nat) (hab : a < b) (hbn : b ≤ n) : ff_X7_wordOf [.inr (52, 0), .inl a, .inl b] G = some (mv_wdx t a b, G) := by
  have words : ∀ (k w : Nat), w + k = 21 → mv_JP mm_X7_wordOf (fun r G' => r = mv_wf t a b k w ∧ G' = G) 8 [some (.inr (52, 0)), some (.inl (a : Int)), some (.inl (b : Int)), some (.inl (w : Int)), some (.inl 0), some (.inl ((mv_wst w : Nat) : Int)), none] G := by
    intro k
    induction k with
    | zero =>
      intro w hw
      have e : mv_wst w = 103 := by rw [show w = 21 by omega]; decide
      refine mv_JP.of (rg_X7_wordOf_8 _ _ _ _ _ G) (mv_J.ce (fx_len G) ?_)
      rw [e]
      exact mv_J.f (by omega) (mv_J.ret ⟨rfl, rfl⟩)
    | succ k ih =>
      intro w hw
      obtain ⟨t1, t2, t3, t4⟩ := mv_wc_tb w (by omega)
      have rcw := mv_wc_rc w (by omega)
      have inner : ∀ (d o : Nat) (al : Int), o + d = mv_wln w → (al = o ∧ a + o ≤ b ∧ mv_mtc t a w o) ∨ (al = -1 ∧ ¬ (a + o ≤ b ∧ mv_mtc t a w o)) → mv_JP mm_X7_wordOf (fun r G' => r = mv_wf t a b (k + 1) w ∧ G' = G) 8 [some (.inr (52, 0)), some (.inl (a : Int)), some (.inl (b : Int)), some (.inl (w : Int)), some (.inl al), some (.inl ((mv_wst w + o : Nat) : Int)), none] G := by
        intro d
        induction d with
        | zero =>
          intro o al ho hal
          have eo : o = mv_wln w := by omega
          obtain ⟨r1, r2⟩ := rcw o (by omega)
          rw [eo, t3] at r1
          refine mv_JP.of (rg_X7_wordOf_8 _ _ _ _ _ G) (mv_J.ce (fx_len G) ?_)
          refine mv_J.t (by omega) (mv_J.ce (fx_charAt G (mv_wst w + o) 32 (by omega) (by rw [eo]; exact r1) (by decide)) ?_)
          rw [mv_ws (x := (b : Int) - a) (by omega), mv_ws (x := (w : Int) + 1) (by omega), mv_ws (x := ((mv_wst w + o : Nat) : Int) + 1) (by omega)]
          refine mv_J.t rfl (mv_J.i (fun h1 => mv_J.ret ⟨?_, rfl⟩) (fun h1 => mv_J.cut ?_))
          · rcases hal with ⟨h2, h3, h4⟩ | ⟨h2, h3⟩
            · have : mv_isw t a b w := ⟨by omega, eo ▸ h4⟩
              unfold mv_wf
              rw [if_pos this]
            · omega
          · have hno : ¬ mv_isw t a b w := fun h => by
              rcases hal with ⟨h2, h3, h4⟩ | ⟨h2, h3⟩
              · have := h.1; omega
              · exact h3 ⟨by have := h.1; omega, eo ▸ h.2⟩
            have e : mv_wf t a b (k + 1) w = mv_wf t a b k (w + 1) := if_neg hno
            rw [e]
            have := ih (w + 1) (by omega)
            rw [show ((mv_wst (w + 1) : Nat) : Int) = ((mv_wst w + o : Nat) : Int) + 1 by rw [show mv_wst (w + 1) = mv_wst w + mv_wln w + 1 from rfl]; omega] at this
            exact this
        | succ d ihd =>
          intro o al ho hal
          obtain ⟨r1, r2⟩ := rcw o (by omega)
          have r3 := t4 o (by omega)
          have nx := ihd (o + 1)
          refine mv_JP.of (rg_X7_wordOf_8 _ _ _ _ _ G) (mv_J.ce (fx_len G) ?_)
          refine mv_J.t (by omega) (mv_J.ce (fx_charAt G (mv_wst w + o) _ (by omega) r1 r2) ?_)
          rw [mv_ws (x := ((mv_wst w + o : Nat) : Int) + 1) (by omega)]
          have no : ¬ (a + (o + 1) ≤ b ∧ mv_mtc t a w (o + 1)) → mv_JP mm_X7_wordOf (fun r G' => r = mv_wf t a b (k + 1) w ∧ G' = G) 8 [some (.inr (52, 0)), some (.inl (a : Int)), some (.inl (b : Int)), some (.inl (w : Int)), some (.inl (-1)), some (.inl (((mv_wst w + o : Nat) : Int) + 1)), none] G := fun h => nx (-1) (by omega) (Or.inr ⟨rfl, h⟩)
          refine mv_J.f r3 (mv_J.i (fun h1 => mv_J.cut (no ?_)) (fun h1 => ?_))
          · rcases hal with ⟨h2, h3, h4⟩ | ⟨h2, h3⟩
            · omega
            · exact fun h => h3 ⟨by omega, fun j hj => h.2 j (by omega)⟩
          · rcases hal with ⟨h2, h3, h4⟩ | ⟨h2, h3⟩
            · rw [h2, mv_ws (x := (a : Int) + o) (by omega), mv_ws (x := (o : Int) + 1) (by omega)]
              refine mv_J.i (fun h5 => mv_J.ck (by omega) ?_) (fun h5 => mv_J.cut (no (fun h => by omega)))
              rw [show Int.toNat ((a : Int) + o) = a + o by omega, hT (a + o) (by omega)]
              refine mv_J.i (fun h6 => mv_J.cut ?_) (fun h6 => mv_J.cut (no (fun h => h6 (h.2 o (by omega)))))
              have := nx ((o + 1 : Nat) : Int) (by omega) (Or.inl ⟨rfl, by omega, fun j hj => by
                by_cases e : j = o
                · exact e ▸ h6
                · exact h4 j (by omega)⟩)
              exact this
            · omega
      have := inner (mv_wln w) 0 0 (by omega) (Or.inl ⟨rfl, by omega, fun j hj => absurd hj (Nat.not_lt_zero j)⟩)
      exact this
  exact mv_Kp.eq (mv_Kp.of (mv_JP.of (rg_X7_wordOf_0 a b G) (mv_J.cut (words 21 0 rfl))))
theorem mv_sgn_rc : ∀ c : Nat, c < 256 → (mv_sgn (c : Int) = true ↔ ∃ i : Nat, i < 10 ∧ mv_rc 1005 0 i = mv_i2b (mv_i2c (c : Int))) ∧ 0 ≤ mv_i2c (c : Int) ∧ mv_i2c (c : Int) ≤ 255 := by decide +kernel
set_option maxHeartbeats 1000000 in
theorem fx_indexOf (G : mv_G) (c : Int) (hc : 0 ≤ c ∧ c ≤ 255) : mv_Kp (ff_J0_indexOf_0f7a4 [.inr (1004, 0), .inl (mv_i2c c)] G) (fun r G' => (mv_sgn c = true ↔ 0 ≤ r) ∧ G' = G) := by
  obtain ⟨x, rfl⟩ : ∃ x : Nat, c = x := ⟨c.toNat, by omega⟩
  obtain ⟨h1, h2, h3⟩ := mv_sgn_rc x (by omega)
  generalize mv_i2c (x : Int) = d at h1 h2 h3
  have e1 : ff_J0_isLatin1_aae02 [.inr (1004, 0)] G = some (1, G) := mv_Kp.eq (mv_Kp.of (mv_JP.of (rg_J0_isLatin1_aae02_0_1004 G) (mv_J.f (by decide) (mv_J.t (by decide +kernel) (mv_J.r0 (Or.inr rfl) ⟨rfl, rfl⟩)))))
  have e2 : ff_J1_canEncode_9a6ad [.inl d] G = some (1, G) := mv_Kp.eq (mv_Kp.of (mv_JP.of (rg_J1_canEncode_9a6ad_0 d G) (mv_J.f (by omega) (mv_J.f (by omega) (mv_J.r0 (Or.inr rfl) ⟨rfl, rfl⟩)))))
  have e3 : mv_Kp (ff_J1_indexOfChar_4cfef [.inr (1005, 0), .inl d, .inl 0, .inl 10] G) (fun r G' => (mv_sgn (x : Int) = true ↔ 0 ≤ r) ∧ G' = G) := by
    have key : ∀ k i : Nat, i + k = 10 → (∀ j, j < i → mv_rc 1005 0 j ≠ mv_i2b d) → mv_JP mm_J1_indexOfChar_4cfef (fun r G' => (mv_sgn (x : Int) = true ↔ 0 ≤ r) ∧ G' = G) 7 [some (.inr (1005, 0)), none, none, some (.inl 10), some (.inl (mv_i2b d)), some (.inl (i : Int))] G := by
      intro k
      induction k with
      | zero =>
        intro i hi hno
        refine mv_JP.of (rg_J1_indexOfChar_4cfef_7 _ _ _ G) (mv_J.f (by omega) (mv_J.ret ⟨⟨fun h => ?_, fun h => by omega⟩, rfl⟩))
        obtain ⟨j, g1, g2⟩ := h1.mp h
        exact absurd g2 (hno j (by omega))
      | succ k ih =>
        intro i hi hno
        refine mv_JP.of (rg_J1_indexOfChar_4cfef_7 _ _ _ G) (mv_J.t (by omega) (mv_J.ck (by omega) ?_))
        rw [Int.toNat_natCast, mv_ws (x := (i : Int) + 1) (by omega)]
        refine mv_J.i (fun h => mv_J.ret ⟨⟨fun _ => by omega, fun _ => h1.mpr ⟨i, by omega, h⟩⟩, rfl⟩) (fun h => mv_J.cut (ih (i + 1) (by omega) (fun j hj => ?_)))
        by_cases e : j = i
        · exact e ▸ h
        · exact hno j (by omega)
    exact mv_Kp.of (mv_JP.of (rg_J1_indexOfChar_4cfef_0 d 0 10 G) (mv_J.cut (key 10 0 rfl (fun j hj => absurd hj (Nat.not_lt_zero j)))))
  have e4 : mv_Kp (ff_J1_indexOf_4cfef [.inr (1005, 0), .inl d, .inl 0, .inl 10] G) (fun r G' => (mv_sgn (x : Int) = true ↔ 0 ≤ r) ∧ G' = G) := by
    refine mv_Kp.of (mv_JP.of (rg_J1_indexOf_4cfef_0 d 0 10 G) (mv_J.ce e2 (mv_J.f (by decide) ?_)))
    refine mv_J.ce (show mv_max [.inl 0, .inl 0] G = some (0, G) from rfl) (mv_J.ce (show mv_min [.inl 10, .inl 10] G = some (10, G) from rfl) (mv_J.t (by decide) (mv_J.cn e3 (fun r G' h => mv_J.ret h))))
  have e5 : mv_Kp (ff_J0_indexOf_7cf53 [.inr (1004, 0), .inl d, .inl 0] G) (fun r G' => (mv_sgn (x : Int) = true ↔ 0 ≤ r) ∧ G' = G) :=
    mv_Kp.of (mv_JP.of (rg_J0_indexOf_7cf53_0 d 0 G) (mv_J.ce e1 (mv_J.f (by decide) (mv_J.ce (fx_len4 G) (mv_J.cn e4 (fun r G' h => mv_J.ret h))))))
  exact mv_Kp.of (mv_JP.of (rg_J0_indexOf_0f7a4_0 d G) (mv_J.cn e5 (fun r G' h => mv_J.ret h)))
set_option maxHeartbeats 1000000 in
theorem fx_tokenOf (hn : n ≤ 400) (hT : ∀ j, j < n → G 63 0 j = t j) (hb : ∀ j, j < n → 0 ≤ t j ∧ t j ≤ 255) (a : Nat) (ha : a < n) : ff_X7_tokenOf [.inr (52, 0), .inl a, .inl ((mv_te t n a : Nat) : Int)] G = some (mv_tk1 t n a, G) := by
  obtain ⟨b1, b2⟩ := mv_te_b (t := t) ha
  have hta := hT a ha
  have hba := hb a ha
  refine mv_Kp.eq (mv_Kp.of (mv_JP.of (rg_X7_tokenOf_0 a _ G) ?_))
  rw [mv_ckp (n := 400) (by omega), Int.toNat_natCast, hta]
  unfold mv_tk1
  rw [if_neg (show ¬ n ≤ a by omega)]
  refine mv_J.ce (fx_isLetter G _) (mv_J.it (fun h1 => ?_) (fun h1 => ?_))
  · rw [if_neg h1]
    refine mv_J.ce (fx_isDigit G _) (mv_J.it (fun h2 => ?_) (fun h2 => ?_))
    · rw [if_neg h2]
      refine mv_J.cn (fx_indexOf G (t a) hba) (fun r G' h3 => ?_)
      obtain ⟨h3, rfl⟩ := h3
      rw [mv_ws (x := 30000 + t a) (by omega)]
      refine mv_J.i (fun h4 => mv_J.ret ⟨?_, rfl⟩) (fun h4 => mv_J.ret ⟨?_, rfl⟩)
      · rw [if_neg (fun h => by have := h3.mp h; omega)]
      · rw [if_pos (h3.mpr (by omega))]
    · rw [if_pos h2, mv_ws (x := ((mv_te t n a : Nat) : Int) - a) (by omega)]
      refine mv_J.i (fun h3 => mv_J.ret ⟨?_, rfl⟩) (fun h3 => mv_J.cut ?_)
      · rw [if_pos (by omega)]
      · rw [if_neg (by omega)]
        have e : mv_te t n a = mv_rn mv_dgt t n (a + 1) := by unfold mv_te; rw [if_neg h1, if_pos h2]
        have rb := mv_rn_b (p := mv_dgt) (t := t) (n := n) (n - (a + 1)) (a + 1) (by omega)
        have dg : ∀ j, a ≤ j → j < mv_te t n a → 48 ≤ t j ∧ t j ≤ 57 := fun j g1 g2 => by
          have : mv_dgt (t j) = true := by
            by_cases e2 : j = a
            · exact e2 ▸ h2
            · exact rb.2.2.1 j (by omega) (by omega)
          exact of_decide_eq_true this
        have key : ∀ (k i : Nat) (v : Int), i + k = mv_te t n a → a ≤ i → 0 ≤ v → v ≤ mv_9 (i - a) → mv_JP mm_X7_tokenOf (fun r G' => r = mv_nm t k i v ∧ G' = G) 81 [some (.inr (52, 0)), none, some (.inl ((mv_te t n a : Nat) : Int)), none, some (.inl v), some (.inl (i : Int))] G := by
          intro k
          induction k with
          | zero =>
            intro i v hi _ _ _
            exact mv_JP.of (rg_X7_tokenOf_81 _ _ _ G) (mv_J.f (by omega) (mv_J.ret ⟨rfl, rfl⟩))
          | succ k ih =>
            intro i v hi hai h0 hv
            have d1 := dg i hai (by omega)
            have h9 := mv_9_b (i - a) (by omega)
            have e9 : mv_9 (i + 1 - a) = mv_9 (i - a) * 10 + 9 := by rw [show i + 1 - a = i - a + 1 by omega]; rfl
            refine mv_JP.of (rg_X7_tokenOf_81 _ _ _ G) (mv_J.t (by omega) ?_)
            rw [mv_ckp (n := 400) (by omega), Int.toNat_natCast, hT i (by omega), mv_ws (x := v * 10) (by omega), mv_ws (x := v * 10 + t i) (by omega), mv_ws (x := v * 10 + t i - 48) (by omega), mv_ws (x := (i : Int) + 1) (by omega)]
            exact mv_J.cut (ih (i + 1) _ (by omega) (by omega) (by omega) (by omega))
        exact key (mv_te t n a - a) a 0 (by omega) (Nat.le_refl _) (Int.le_refl _) (by rw [Nat.sub_self]; exact Int.le_refl _)
  · rw [if_pos h1]
    have := fx_wordOf hn hT a (mv_te t n a) b1 b2
    refine mv_J.ce this ?_
    have hw : mv_wdx t a (mv_te t n a) = -1 ∨ (0 ≤ mv_wdx t a (mv_te t n a) ∧ mv_wdx t a (mv_te t n a) < 21) := by
      rcases mv_wf_sp (t := t) (a := a) (b := mv_te t n a) 21 0 with h | ⟨x, h3, h4, h5, h6⟩
      · exact Or.inl h.1
      · refine Or.inr ?_
        unfold mv_wdx
        omega
    generalize mv_wdx t a (mv_te t n a) = z at hw
    refine mv_J.i (fun h2 => mv_J.ret ⟨?_, rfl⟩) (fun h2 => mv_J.ret ⟨?_, rfl⟩)
    · rw [if_pos h2]
    · rw [if_neg h2, mv_ws (by omega)]
end TO
