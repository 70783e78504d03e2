/-! The law: its table, its calls; the world with the script beside. -/
section MV
variable {l : Launch} {ids : List (Nat × Nat)} {ad : Nat → Nat → Value} {cA : Nat → ClassId} {D : va_G} {tys : List (ClassId × FieldType)} {A : Nat → Prop} {G : mv_G}
def mv_sh2 (L : Nat) : Nat → Option mv_S := fun k => bif Nat.beq k 1006 then some (.inl (0, L, 0)) else mv_sh k
def mv_ro2 : List (Nat × Nat) := mv_ros ++ [(1006, 0)]
def mv_rc2 (xs : Nat → Int) : mv_G := fun k i j => bif Nat.beq k 1006 then xs j else mv_rc k i j
def mv_l6 (v : mv_A) : Bool := match v with | .inr (a, _) => !Nat.beq a 1006 | _ => true
noncomputable def mv_lf (f : mv_F) : mv_F := fun as G => bif as.all mv_l6 then f as G else none
theorem mv_sh2_ne {L k : Nat} (h : k ≠ 1006) : mv_sh2 L k = mv_sh k := by
  unfold mv_sh2
  rw [mv_nb h]
  rfl
theorem mv_wd2 {L : Nat} (hi : ∀ q ∈ ids, q.1 ≠ 1006) : mv_wd (mv_sh2 L) ad cA ids G = mv_wd mv_sh ad cA ids G := List.map_congr_left fun q hq => by
  unfold mv_cel
  rw [mv_sh2_ne (hi q hq)]
theorem mv_ros6 : ∀ q ∈ mv_ros, q.1 ≠ 1006 := by decide
theorem mv_RO2 {L : Nat} {xs : Nat → Int} {s : State} (h : mv_RO (mv_sh2 L) mv_ro2 ad A (mv_rc2 xs) mv_cr s) : mv_RO mv_sh mv_ros ad A mv_rc mv_cr s := by
  intro k hk
  have h6 : k ≠ 1006 := mv_ros6 _ hk
  have h1 := h k (List.mem_append_left _ hk)
  rw [mv_sh2_ne h6] at h1
  have e : ∀ i j, mv_rc2 xs k i j = mv_rc k i j := fun i j => by unfold mv_rc2; rw [mv_nb h6]; rfl
  have e2 : mv_rc2 xs k 0 = mv_rc k 0 := funext fun j => e 0 j
  simp only [e2] at h1
  exact h1
theorem mv_lift {y : MethodName} {b : ByteArray} {mL n L : Nat} {ret : Option FieldType} {rm : Room} {vo : Bool} {f : mv_F} {xs : Nat → Int} (hi : ∀ q ∈ ids, q.1 ≠ 1006) (h : mv_Met l y b mL ret mv_Ts rm n vo mv_sh ids mv_ros ad cA mv_cl D tys A mv_rc mv_cr (mv_EX ad A) f) :
    mv_Met l y b mL ret mv_Ts rm n vo (mv_sh2 L) ids mv_ro2 ad cA mv_cl D tys A (mv_rc2 xs) mv_cr (mv_EX ad A) (mv_lf f) := by
  intro as G G' r hlen has hf
  unfold mv_lf at hf
  cases ha : as.all mv_l6 with
  | false => rw [ha] at hf; cases hf
  | true =>
    rw [ha] at hf
    have h0 := h as G G' r hlen (fun v hv => by
      have h1 := has v hv
      have h2 := List.all_eq_true.mp ha v hv
      cases v with
      | inl x => exact h1
      | inr q =>
        rcases h1 with h1 | h1
        · rw [mv_ro2, ← List.append_assoc] at h1
          rcases List.mem_append.mp h1 with h1 | h1
          · exact Or.inl h1
          · rw [List.mem_singleton] at h1
            subst h1
            cases h2
        · exact Or.inr h1) hf
    cases vo with
    | true =>
      refine MetFree.mono h0 (fun a s q => ⟨q.1, ⟨by rw [← mv_wd2 hi]; exact q.2.1.1, by rw [← mv_wd2 hi]; exact q.2.1.2.1, q.2.1.2.2⟩, q.2.2.1, mv_RO2 q.2.2.2.1, q.2.2.2.2⟩) (fun _ _ _ _ _ q => q) ?_
      rintro a st o t - ⟨⟨⟨u, e, h5, h6⟩, h7⟩, h8⟩
      exact ⟨⟨⟨u, e, h5, by rw [mv_wd2 hi]; exact h6.1, by rw [mv_wd2 hi]; exact h6.2.1, h6.2.2⟩, h7⟩, h8⟩
    | false =>
      refine MetFree.mono h0 (fun a s q => ⟨q.1, ⟨by rw [← mv_wd2 hi]; exact q.2.1.1, by rw [← mv_wd2 hi]; exact q.2.1.2.1, q.2.1.2.2⟩, q.2.2.1, mv_RO2 q.2.2.2.1, q.2.2.2.2⟩) (fun _ _ _ _ _ q => q) ?_
      rintro a st o t - ⟨⟨⟨q, u, e, h5, h6⟩, h7⟩, h8⟩
      exact ⟨⟨⟨q, u, e, h5, by rw [mv_wd2 hi]; exact h6.1, by rw [mv_wd2 hi]; exact h6.2.1, h6.2.2⟩, h7⟩, h8⟩
set_option maxRecDepth 20000 in
theorem lw_cw_13 : mv_Cw R_law 13 yX11_bench cX11_bench 2 (some .boolean) (some 11) 2 := mv_cw_of (a := 626) (b := 129) (c := 627) (d := 628) (mv_T 629 rfl rfl) (by decide +kernel)
set_option maxRecDepth 20000 in
theorem lw_cw_17 : mv_Cw R_law 17 yX12_bench cX12_bench 3 (some .boolean) (some 12) 2 := mv_cw_of (a := 1531) (b := 143) (c := 1532) (d := 1533) (mv_T 1534 rfl rfl) (by decide +kernel)
set_option maxRecDepth 20000 in
theorem lw_cw_18 : mv_Cw R_law 18 yX11_rest cX11_rest 3 (some .boolean) (some 11) 3 := mv_cw_of (a := 635) (b := 129) (c := 636) (d := 637) (mv_T 638 rfl rfl) (by decide +kernel)
set_option maxRecDepth 20000 in
theorem lw_cw_22 : mv_Cw R_law 22 yX12_rest cX12_rest 4 (some .boolean) (some 12) 3 := mv_cw_of (a := 1539) (b := 143) (c := 1540) (d := 1541) (mv_T 1542 rfl rfl) (by decide +kernel)
set_option maxRecDepth 20000 in
theorem lw_cw_23 : mv_Cw R_law 23 yX11_person cX11_person 7 (some .int) (some 11) 6 := mv_cw_of (a := 647) (b := 129) (c := 648) (d := 649) (mv_T 650 rfl rfl) (by decide +kernel)
set_option maxRecDepth 20000 in
theorem lw_cw_27 : mv_Cw R_law 27 yX12_person cX12_person 7 (some .int) (some 12) 6 := mv_cw_of (a := 1555) (b := 143) (c := 1556) (d := 1557) (mv_T 1558 rfl rfl) (by decide +kernel)
set_option maxRecDepth 20000 in
theorem lw_cw_28 : mv_Cw R_law 28 yX11_set cX11_set 4 (some .boolean) (some 11) 4 := mv_cw_of (a := 657) (b := 129) (c := 658) (d := 659) (mv_T 660 rfl rfl) (by decide +kernel)
set_option maxRecDepth 20000 in
theorem lw_cw_32 : mv_Cw R_law 32 yX12_set cX12_set 5 (some .boolean) (some 12) 4 := mv_cw_of (a := 1559) (b := 143) (c := 1560) (d := 1561) (mv_T 1562 rfl rfl) (by decide +kernel)
set_option maxRecDepth 20000 in
theorem lw_cw_33 : mv_Cw R_law 33 yX11_come cX11_come 2 (some .int) (some 11) 2 := mv_cw_of (a := 670) (b := 129) (c := 671) (d := 672) (mv_T 673 rfl rfl) (by decide +kernel)
set_option maxRecDepth 20000 in
theorem lw_cw_37 : mv_Cw R_law 37 yX12_come cX12_come 2 (some .int) (some 12) 2 := mv_cw_of (a := 1760) (b := 143) (c := 1761) (d := 1762) (mv_T 1763 rfl rfl) (by decide +kernel)
set_option maxRecDepth 20000 in
theorem lw_cw_38 : mv_Cw R_law 38 yX11_go cX11_go 2 (some .boolean) (some 11) 2 := mv_cw_of (a := 781) (b := 129) (c := 782) (d := 783) (mv_T 784 rfl rfl) (by decide +kernel)
set_option maxRecDepth 20000 in
theorem lw_cw_41 : mv_Cw R_law 41 yX12_go cX12_go 2 (some .boolean) (some 12) 2 := mv_cw_of (a := 1784) (b := 143) (c := 1785) (d := 1786) (mv_T 1787 rfl rfl) (by decide +kernel)
set_option maxRecDepth 20000 in
theorem lw_cw_42 : mv_Cw R_law 42 yX11_beg cX11_beg 2 (some .int) (some 11) 2 := mv_cw_of (a := 790) (b := 129) (c := 791) (d := 792) (mv_T 793 rfl rfl) (by decide +kernel)
set_option maxRecDepth 20000 in
theorem lw_cw_45 : mv_Cw R_law 45 yX12_beg cX12_beg 2 (some .int) (some 12) 2 := mv_cw_of (a := 1792) (b := 143) (c := 1793) (d := 1794) (mv_T 1795 rfl rfl) (by decide +kernel)
set_option maxRecDepth 20000 in
theorem lw_cw_46 : mv_Cw R_law 46 yX11_feed cX11_feed 6 (some .int) (some 11) 6 := mv_cw_of (a := 841) (b := 129) (c := 842) (d := 843) (mv_T 844 rfl rfl) (by decide +kernel)
set_option maxRecDepth 20000 in
theorem lw_cw_49 : mv_Cw R_law 49 yX12_feed cX12_feed 6 (some .int) (some 12) 6 := mv_cw_of (a := 1567) (b := 143) (c := 1568) (d := 1569) (mv_T 1570 rfl rfl) (by decide +kernel)
set_option maxRecDepth 20000 in
theorem lw_cw_50 : mv_Cw R_law 50 yX11_end cX11_end 2 (some .boolean) (some 11) 2 := mv_cw_of (a := 849) (b := 129) (c := 850) (d := 851) (mv_T 852 rfl rfl) (by decide +kernel)
set_option maxRecDepth 20000 in
theorem lw_cw_53 : mv_Cw R_law 53 yX12_end cX12_end 2 (some .boolean) (some 12) 2 := mv_cw_of (a := 1575) (b := 143) (c := 1576) (d := 1577) (mv_T 1578 rfl rfl) (by decide +kernel)
set_option maxRecDepth 20000 in
theorem lw_cw_54 : mv_Cw R_law 54 yX11_text cX11_text 4 (some .int) (some 11) 2 := mv_cw_of (a := 853) (b := 129) (c := 854) (d := 855) (mv_T 856 rfl rfl) (by decide +kernel)
set_option maxRecDepth 20000 in
theorem lw_cw_57 : mv_Cw R_law 57 yX12_text cX12_text 3 (some .int) (some 12) 2 := mv_cw_of (a := 1579) (b := 143) (c := 1580) (d := 1581) (mv_T 1582 rfl rfl) (by decide +kernel)
set_option maxRecDepth 20000 in
theorem lw_cw_58 : mv_Cw R_law 58 yX11_fault cX11_fault 2 (some .int) (some 11) 2 := mv_cw_of (a := 1052) (b := 129) (c := 1053) (d := 1054) (mv_T 1055 rfl rfl) (by decide +kernel)
set_option maxRecDepth 20000 in
theorem lw_cw_61 : mv_Cw R_law 61 yX12_fault cX12_fault 2 (some .int) (some 12) 2 := mv_cw_of (a := 1683) (b := 143) (c := 1684) (d := 1685) (mv_T 1686 rfl rfl) (by decide +kernel)
set_option maxRecDepth 20000 in
theorem lw_cw_62 : mv_Cw R_law 62 yX11_hours cX11_hours 4 (some .int) (some 11) 2 := mv_cw_of (a := 1056) (b := 129) (c := 1057) (d := 1058) (mv_T 1059 rfl rfl) (by decide +kernel)
set_option maxRecDepth 20000 in
theorem lw_cw_65 : mv_Cw R_law 65 yX12_hours cX12_hours 4 (some .int) (some 12) 2 := mv_cw_of (a := 1837) (b := 143) (c := 1838) (d := 1839) (mv_T 1840 rfl rfl) (by decide +kernel)
set_option maxRecDepth 20000 in
theorem lw_cw_66 : mv_Cw R_law 66 yX11_of cX11_of 3 (some .int) (some 11) 3 := mv_cw_of (a := 1071) (b := 129) (c := 1072) (d := 1073) (mv_T 1074 rfl rfl) (by decide +kernel)
set_option maxRecDepth 20000 in
theorem lw_cw_70 : mv_Cw R_law 70 yX12_of cX12_of 3 (some .int) (some 12) 3 := mv_cw_of (a := 1865) (b := 143) (c := 1866) (d := 1867) (mv_T 1868 rfl rfl) (by decide +kernel)
set_option maxRecDepth 20000 in
theorem lw_cw_71 : mv_Cw R_law 71 yX11_at cX11_at 3 (some .int) (some 11) 3 := mv_cw_of (a := 1080) (b := 129) (c := 1081) (d := 1082) (mv_T 1083 rfl rfl) (by decide +kernel)
set_option maxRecDepth 20000 in
theorem lw_cw_74 : mv_Cw R_law 74 yX12_at cX12_at 3 (some .int) (some 12) 3 := mv_cw_of (a := 1873) (b := 143) (c := 1874) (d := 1875) (mv_T 1876 rfl rfl) (by decide +kernel)
set_option maxRecDepth 20000 in
theorem lw_cw_75 : mv_Cw R_law 75 yX11_tells cX11_tells 3 (some .int) (some 11) 3 := mv_cw_of (a := 1089) (b := 129) (c := 1090) (d := 1091) (mv_T 1092 rfl rfl) (by decide +kernel)
set_option maxRecDepth 20000 in
theorem lw_cw_78 : mv_Cw R_law 78 yX12_tells cX12_tells 3 (some .int) (some 12) 3 := mv_cw_of (a := 1687) (b := 143) (c := 1688) (d := 1689) (mv_T 1690 rfl rfl) (by decide +kernel)
set_option maxRecDepth 20000 in
theorem lw_cw_79 : mv_Cw R_law 79 yX11_book cX11_book 3 (some .int) (some 11) 3 := mv_cw_of (a := 1108) (b := 129) (c := 1109) (d := 1110) (mv_T 1111 rfl rfl) (by decide +kernel)
set_option maxRecDepth 20000 in
theorem lw_cw_82 : mv_Cw R_law 82 yX12_book cX12_book 3 (some .int) (some 12) 3 := mv_cw_of (a := 1881) (b := 143) (c := 1882) (d := 1883) (mv_T 1884 rfl rfl) (by decide +kernel)
set_option maxRecDepth 20000 in
theorem lw_cw_83 : mv_Cw R_law 83 yX11_room cX11_room 4 (some .int) (some 11) 3 := mv_cw_of (a := 1112) (b := 129) (c := 1113) (d := 1114) (mv_T 1115 rfl rfl) (by decide +kernel)
set_option maxRecDepth 20000 in
theorem lw_cw_86 : mv_Cw R_law 86 yX12_room cX12_room 3 (some .int) (some 12) 3 := mv_cw_of (a := 1885) (b := 143) (c := 1886) (d := 1887) (mv_T 1888 rfl rfl) (by decide +kernel)
set_option maxRecDepth 20000 in
theorem lw_cw_87 : mv_Cw R_law 87 yX11_rise cX11_rise 6 (some .int) (some 11) 3 := mv_cw_of (a := 1126) (b := 129) (c := 1127) (d := 1128) (mv_T 1129 rfl rfl) (by decide +kernel)
set_option maxRecDepth 20000 in
theorem lw_cw_90 : mv_Cw R_law 90 yX12_rise cX12_rise 6 (some .int) (some 12) 3 := mv_cw_of (a := 1893) (b := 143) (c := 1894) (d := 1895) (mv_T 1896 rfl rfl) (by decide +kernel)
set_option maxRecDepth 20000 in
theorem lw_cw_91 : mv_Cw R_law 91 yX11_fill cX11_fill 4 (some .int) (some 11) 4 := mv_cw_of (a := 1130) (b := 129) (c := 1131) (d := 1132) (mv_T 1133 rfl rfl) (by decide +kernel)
set_option maxRecDepth 20000 in
theorem lw_cw_95 : mv_Cw R_law 95 yX12_fill cX12_fill 4 (some .int) (some 12) 4 := mv_cw_of (a := 1897) (b := 143) (c := 1898) (d := 1899) (mv_T 1900 rfl rfl) (by decide +kernel)
set_option maxRecDepth 20000 in
theorem lw_cw_96 : mv_Cw R_law 96 yX11_bestRest cX11_bestRest 3 (some .int) (some 11) 3 := mv_cw_of (a := 1178) (b := 129) (c := 1179) (d := 1180) (mv_T 1181 rfl rfl) (by decide +kernel)
set_option maxRecDepth 20000 in
theorem lw_cw_99 : mv_Cw R_law 99 yX12_bestRest cX12_bestRest 7 (some .int) (some 12) 3 := mv_cw_of (a := 1929) (b := 143) (c := 1930) (d := 1931) (mv_T 1932 rfl rfl) (by decide +kernel)
set_option maxRecDepth 20000 in
theorem lw_cw_100 : mv_Cw R_law 100 yX11_block cX11_block 8 (some .int) (some 11) 4 := mv_cw_of (a := 1192) (b := 129) (c := 1193) (d := 1194) (mv_T 1195 rfl rfl) (by decide +kernel)
set_option maxRecDepth 20000 in
theorem lw_cw_103 : mv_Cw R_law 103 yX12_block cX12_block 7 (some .int) (some 12) 4 := mv_cw_of (a := 1945) (b := 143) (c := 1946) (d := 1947) (mv_T 1948 rfl rfl) (by decide +kernel)
set_option maxRecDepth 20000 in
theorem lw_cw_104 : mv_Cw R_law 104 yX11_orders cX11_orders 2 (some .int) (some 11) 2 := mv_cw_of (a := 1197) (b := 129) (c := 1198) (d := 1199) (mv_T 1200 rfl rfl) (by decide +kernel)
set_option maxRecDepth 20000 in
theorem lw_cw_107 : mv_Cw R_law 107 yX12_orders cX12_orders 6 (some .int) (some 12) 2 := mv_cw_of (a := 1953) (b := 143) (c := 1954) (d := 1955) (mv_T 1956 rfl rfl) (by decide +kernel)
set_option maxRecDepth 20000 in
theorem lw_cw_108 : mv_Cw R_law 108 yX11_gives cX11_gives 7 (some .int) (some 11) 3 := mv_cw_of (a := 1234) (b := 129) (c := 1235) (d := 1236) (mv_T 1237 rfl rfl) (by decide +kernel)
set_option maxRecDepth 20000 in
theorem lw_cw_111 : mv_Cw R_law 111 yX12_gives cX12_gives 6 (some .int) (some 12) 3 := mv_cw_of (a := 1949) (b := 143) (c := 1950) (d := 1951) (mv_T 1952 rfl rfl) (by decide +kernel)
set_option maxRecDepth 20000 in
theorem lw_cw_112 : mv_Cw R_law 112 yX11_stands cX11_stands 4 (some .int) (some 11) 2 := mv_cw_of (a := 1238) (b := 129) (c := 1239) (d := 1240) (mv_T 1241 rfl rfl) (by decide +kernel)
set_option maxRecDepth 20000 in
theorem lw_cw_115 : mv_Cw R_law 115 yX12_stands cX12_stands 2 (some .int) (some 12) 2 := mv_cw_of (a := 1853) (b := 143) (c := 1854) (d := 1855) (mv_T 1856 rfl rfl) (by decide +kernel)
set_option maxRecDepth 20000 in
theorem lw_cw_116 : mv_Cw R_law 116 yX11_undo cX11_undo 1 (some .boolean) (some 11) 1 := mv_cw_of (a := 1266) (b := 129) (c := 1267) (d := 1268) (mv_T 1269 rfl rfl) (by decide +kernel)
set_option maxRecDepth 20000 in
theorem lw_cw_120 : mv_Cw R_law 120 yX12_undo cX12_undo 2 (some .boolean) (some 12) 1 := mv_cw_of (a := 1527) (b := 143) (c := 1528) (d := 1529) (mv_T 1530 rfl rfl) (by decide +kernel)
set_option maxRecDepth 20000 in
theorem lw_cw_121 : mv_Cw R_law 121 yX11_image cX11_image 2 (some .boolean) (some 11) 2 := mv_cw_of (a := 1274) (b := 129) (c := 1275) (d := 1276) (mv_T 1277 rfl rfl) (by decide +kernel)
set_option maxRecDepth 20000 in
theorem lw_cw_125 : mv_Cw R_law 125 yX12_image cX12_image 3 (some .boolean) (some 12) 2 := mv_cw_of (a := 1977) (b := 143) (c := 1978) (d := 1979) (mv_T 1980 rfl rfl) (by decide +kernel)
set_option maxRecDepth 20000 in
theorem lw_cw_126 : mv_Cw R_law 126 yX11_look cX11_look 2 (some .int) (some 11) 2 := mv_cw_of (a := 1285) (b := 129) (c := 1286) (d := 1287) (mv_T 1288 rfl rfl) (by decide +kernel)
set_option maxRecDepth 20000 in
theorem lw_cw_129 : mv_Cw R_law 129 yX12_look cX12_look 2 (some .int) (some 12) 2 := mv_cw_of (a := 1993) (b := 143) (c := 1994) (d := 1995) (mv_T 1996 rfl rfl) (by decide +kernel)
def ic_law_0 : List (Nat × Instr × Nat) := [(18, .iload_n 3, 1), (19, .aload_n 0, 1), (20, .arraylength, 1), (21, .bipush 6, 2), (23, .isub, 1), (24, .if_icmp .gt 1011, 3), (27, .aload_n 0, 1), (28, .iload_n 3, 1), (29, .iaload, 1), (30, .bipush 31, 2), (32, .iand, 1), (33, .tableswitch 996 0 26 #[123, 146, 195, 258, 301, 324, 347, 370, 433, 456, 479, 502, 525, 558, 591, 624, 657, 690, 723, 766, 799, 842, 865, 898, 921, 934, 973], 123), (156, .aload_n 1, 1), (157, .aload_n 0, 1), (158, .iload_n 3, 1), (159, .iconst 1, 1), (160, .iadd, 1), (161, .iaload, 1), (162, .invokevirtual 13, 3), (165, .aload_n 2, 1), (166, .aload_n 0, 1), (167, .iload_n 3, 1), (168, .iconst 1, 1), (169, .iadd, 1), (170, .iaload, 1), (171, .invokevirtual 17, 3), (174, .if_icmp .eq 855, 3), (177, .iconst 0, 1), (178, .ireturn, 1), (179, .aload_n 1, 1), (180, .aload_n 0, 1), (181, .iload_n 3, 1), (182, .iconst 1, 1), (183, .iadd, 1), (184, .iaload, 1), (185, .aload_n 0, 1), (186, .iload_n 3, 1), (187, .iconst 2, 1), (188, .iadd, 1), (189, .iaload, 1)]
theorem dk_law_0 : mv_dk code ic_law_0 = true := by decide +kernel
def ic_law_1 : List (Nat × Instr × Nat) := [(190, .ifCond .eq 7, 3), (193, .iconst 1, 1), (194, .goto 4, 3), (197, .iconst 0, 1), (198, .invokevirtual 18, 3), (201, .aload_n 2, 1), (202, .aload_n 0, 1), (203, .iload_n 3, 1), (204, .iconst 1, 1), (205, .iadd, 1), (206, .iaload, 1), (207, .aload_n 0, 1), (208, .iload_n 3, 1), (209, .iconst 2, 1), (210, .iadd, 1), (211, .iaload, 1), (212, .ifCond .eq 7, 3), (215, .iconst 1, 1), (216, .goto 4, 3), (219, .iconst 0, 1), (220, .invokevirtual 22, 3), (223, .if_icmp .eq 806, 3), (226, .iconst 0, 1), (227, .ireturn, 1), (228, .aload_n 1, 1), (229, .aload_n 0, 1), (230, .iload_n 3, 1), (231, .iconst 1, 1), (232, .iadd, 1), (233, .iaload, 1), (234, .aload_n 0, 1), (235, .iload_n 3, 1), (236, .iconst 2, 1), (237, .iadd, 1), (238, .iaload, 1), (239, .aload_n 0, 1), (240, .iload_n 3, 1), (241, .iconst 3, 1), (242, .iadd, 1), (243, .iaload, 1)]
theorem dk_law_1 : mv_dk code ic_law_1 = true := by decide +kernel
def ic_law_2 : List (Nat × Instr × Nat) := [(244, .aload_n 0, 1), (245, .iload_n 3, 1), (246, .iconst 4, 1), (247, .iadd, 1), (248, .iaload, 1), (249, .aload_n 0, 1), (250, .iload_n 3, 1), (251, .iconst 5, 1), (252, .iadd, 1), (253, .iaload, 1), (254, .invokevirtual 23, 3), (257, .aload_n 2, 1), (258, .aload_n 0, 1), (259, .iload_n 3, 1), (260, .iconst 1, 1), (261, .iadd, 1), (262, .iaload, 1), (263, .aload_n 0, 1), (264, .iload_n 3, 1), (265, .iconst 2, 1), (266, .iadd, 1), (267, .iaload, 1), (268, .aload_n 0, 1), (269, .iload_n 3, 1), (270, .iconst 3, 1), (271, .iadd, 1), (272, .iaload, 1), (273, .aload_n 0, 1), (274, .iload_n 3, 1), (275, .iconst 4, 1), (276, .iadd, 1), (277, .iaload, 1), (278, .aload_n 0, 1), (279, .iload_n 3, 1), (280, .iconst 5, 1), (281, .iadd, 1), (282, .iaload, 1), (283, .invokevirtual 27, 3), (286, .if_icmp .eq 743, 3), (289, .iconst 0, 1)]
theorem dk_law_2 : mv_dk code ic_law_2 = true := by decide +kernel
def ic_law_3 : List (Nat × Instr × Nat) := [(290, .ireturn, 1), (291, .aload_n 1, 1), (292, .aload_n 0, 1), (293, .iload_n 3, 1), (294, .iconst 1, 1), (295, .iadd, 1), (296, .iaload, 1), (297, .aload_n 0, 1), (298, .iload_n 3, 1), (299, .iconst 2, 1), (300, .iadd, 1), (301, .iaload, 1), (302, .aload_n 0, 1), (303, .iload_n 3, 1), (304, .iconst 3, 1), (305, .iadd, 1), (306, .iaload, 1), (307, .invokevirtual 28, 3), (310, .aload_n 2, 1), (311, .aload_n 0, 1), (312, .iload_n 3, 1), (313, .iconst 1, 1), (314, .iadd, 1), (315, .iaload, 1), (316, .aload_n 0, 1), (317, .iload_n 3, 1), (318, .iconst 2, 1), (319, .iadd, 1), (320, .iaload, 1), (321, .aload_n 0, 1), (322, .iload_n 3, 1), (323, .iconst 3, 1), (324, .iadd, 1), (325, .iaload, 1), (326, .invokevirtual 32, 3), (329, .if_icmp .eq 700, 3), (332, .iconst 0, 1), (333, .ireturn, 1), (334, .aload_n 1, 1), (335, .aload_n 0, 1)]
theorem dk_law_3 : mv_dk code ic_law_3 = true := by decide +kernel
def ic_law_4 : List (Nat × Instr × Nat) := [(336, .iload_n 3, 1), (337, .iconst 1, 1), (338, .iadd, 1), (339, .iaload, 1), (340, .invokevirtual 33, 3), (343, .aload_n 2, 1), (344, .aload_n 0, 1), (345, .iload_n 3, 1), (346, .iconst 1, 1), (347, .iadd, 1), (348, .iaload, 1), (349, .invokevirtual 37, 3), (352, .if_icmp .eq 677, 3), (355, .iconst 0, 1), (356, .ireturn, 1), (357, .aload_n 1, 1), (358, .aload_n 0, 1), (359, .iload_n 3, 1), (360, .iconst 1, 1), (361, .iadd, 1), (362, .iaload, 1), (363, .invokevirtual 38, 3), (366, .aload_n 2, 1), (367, .aload_n 0, 1), (368, .iload_n 3, 1), (369, .iconst 1, 1), (370, .iadd, 1), (371, .iaload, 1), (372, .invokevirtual 41, 3), (375, .if_icmp .eq 654, 3), (378, .iconst 0, 1), (379, .ireturn, 1), (380, .aload_n 1, 1), (381, .aload_n 0, 1), (382, .iload_n 3, 1), (383, .iconst 1, 1), (384, .iadd, 1), (385, .iaload, 1), (386, .invokevirtual 42, 3), (389, .aload_n 2, 1)]
theorem dk_law_4 : mv_dk code ic_law_4 = true := by decide +kernel
def ic_law_5 : List (Nat × Instr × Nat) := [(390, .aload_n 0, 1), (391, .iload_n 3, 1), (392, .iconst 1, 1), (393, .iadd, 1), (394, .iaload, 1), (395, .invokevirtual 45, 3), (398, .if_icmp .eq 631, 3), (401, .iconst 0, 1), (402, .ireturn, 1), (403, .aload_n 1, 1), (404, .aload_n 0, 1), (405, .iload_n 3, 1), (406, .iconst 1, 1), (407, .iadd, 1), (408, .iaload, 1), (409, .aload_n 0, 1), (410, .iload_n 3, 1), (411, .iconst 2, 1), (412, .iadd, 1), (413, .iaload, 1), (414, .aload_n 0, 1), (415, .iload_n 3, 1), (416, .iconst 3, 1), (417, .iadd, 1), (418, .iaload, 1), (419, .aload_n 0, 1), (420, .iload_n 3, 1), (421, .iconst 4, 1), (422, .iadd, 1), (423, .iaload, 1), (424, .aload_n 0, 1), (425, .iload_n 3, 1), (426, .iconst 5, 1), (427, .iadd, 1), (428, .iaload, 1), (429, .invokevirtual 46, 3), (432, .aload_n 2, 1), (433, .aload_n 0, 1), (434, .iload_n 3, 1), (435, .iconst 1, 1)]
theorem dk_law_5 : mv_dk code ic_law_5 = true := by decide +kernel
def ic_law_6 : List (Nat × Instr × Nat) := [(436, .iadd, 1), (437, .iaload, 1), (438, .aload_n 0, 1), (439, .iload_n 3, 1), (440, .iconst 2, 1), (441, .iadd, 1), (442, .iaload, 1), (443, .aload_n 0, 1), (444, .iload_n 3, 1), (445, .iconst 3, 1), (446, .iadd, 1), (447, .iaload, 1), (448, .aload_n 0, 1), (449, .iload_n 3, 1), (450, .iconst 4, 1), (451, .iadd, 1), (452, .iaload, 1), (453, .aload_n 0, 1), (454, .iload_n 3, 1), (455, .iconst 5, 1), (456, .iadd, 1), (457, .iaload, 1), (458, .invokevirtual 49, 3), (461, .if_icmp .eq 568, 3), (464, .iconst 0, 1), (465, .ireturn, 1), (466, .aload_n 1, 1), (467, .aload_n 0, 1), (468, .iload_n 3, 1), (469, .iconst 1, 1), (470, .iadd, 1), (471, .iaload, 1), (472, .invokevirtual 50, 3), (475, .aload_n 2, 1), (476, .aload_n 0, 1), (477, .iload_n 3, 1), (478, .iconst 1, 1), (479, .iadd, 1), (480, .iaload, 1), (481, .invokevirtual 53, 3)]
theorem dk_law_6 : mv_dk code ic_law_6 = true := by decide +kernel
def ic_law_7 : List (Nat × Instr × Nat) := [(484, .if_icmp .eq 545, 3), (487, .iconst 0, 1), (488, .ireturn, 1), (489, .aload_n 1, 1), (490, .aload_n 0, 1), (491, .iload_n 3, 1), (492, .iconst 1, 1), (493, .iadd, 1), (494, .iaload, 1), (495, .invokevirtual 54, 3), (498, .aload_n 2, 1), (499, .aload_n 0, 1), (500, .iload_n 3, 1), (501, .iconst 1, 1), (502, .iadd, 1), (503, .iaload, 1), (504, .invokevirtual 57, 3), (507, .if_icmp .eq 522, 3), (510, .iconst 0, 1), (511, .ireturn, 1), (512, .aload_n 1, 1), (513, .aload_n 0, 1), (514, .iload_n 3, 1), (515, .iconst 1, 1), (516, .iadd, 1), (517, .iaload, 1), (518, .invokevirtual 58, 3), (521, .aload_n 2, 1), (522, .aload_n 0, 1), (523, .iload_n 3, 1), (524, .iconst 1, 1), (525, .iadd, 1), (526, .iaload, 1), (527, .invokevirtual 61, 3), (530, .if_icmp .eq 499, 3), (533, .iconst 0, 1), (534, .ireturn, 1), (535, .aload_n 1, 1), (536, .aload_n 0, 1), (537, .iload_n 3, 1)]
theorem dk_law_7 : mv_dk code ic_law_7 = true := by decide +kernel
def ic_law_8 : List (Nat × Instr × Nat) := [(538, .iconst 1, 1), (539, .iadd, 1), (540, .iaload, 1), (541, .invokevirtual 62, 3), (544, .aload_n 2, 1), (545, .aload_n 0, 1), (546, .iload_n 3, 1), (547, .iconst 1, 1), (548, .iadd, 1), (549, .iaload, 1), (550, .invokevirtual 65, 3), (553, .if_icmp .eq 476, 3), (556, .iconst 0, 1), (557, .ireturn, 1), (558, .aload_n 1, 1), (559, .aload_n 0, 1), (560, .iload_n 3, 1), (561, .iconst 1, 1), (562, .iadd, 1), (563, .iaload, 1), (564, .aload_n 0, 1), (565, .iload_n 3, 1), (566, .iconst 2, 1), (567, .iadd, 1), (568, .iaload, 1), (569, .invokevirtual 66, 3), (572, .aload_n 2, 1), (573, .aload_n 0, 1), (574, .iload_n 3, 1), (575, .iconst 1, 1), (576, .iadd, 1), (577, .iaload, 1), (578, .aload_n 0, 1), (579, .iload_n 3, 1), (580, .iconst 2, 1), (581, .iadd, 1), (582, .iaload, 1), (583, .invokevirtual 70, 3), (586, .if_icmp .eq 443, 3), (589, .iconst 0, 1)]
theorem dk_law_8 : mv_dk code ic_law_8 = true := by decide +kernel
def ic_law_9 : List (Nat × Instr × Nat) := [(590, .ireturn, 1), (591, .aload_n 1, 1), (592, .aload_n 0, 1), (593, .iload_n 3, 1), (594, .iconst 1, 1), (595, .iadd, 1), (596, .iaload, 1), (597, .aload_n 0, 1), (598, .iload_n 3, 1), (599, .iconst 2, 1), (600, .iadd, 1), (601, .iaload, 1), (602, .invokevirtual 71, 3), (605, .aload_n 2, 1), (606, .aload_n 0, 1), (607, .iload_n 3, 1), (608, .iconst 1, 1), (609, .iadd, 1), (610, .iaload, 1), (611, .aload_n 0, 1), (612, .iload_n 3, 1), (613, .iconst 2, 1), (614, .iadd, 1), (615, .iaload, 1), (616, .invokevirtual 74, 3), (619, .if_icmp .eq 410, 3), (622, .iconst 0, 1), (623, .ireturn, 1), (624, .aload_n 1, 1), (625, .aload_n 0, 1), (626, .iload_n 3, 1), (627, .iconst 1, 1), (628, .iadd, 1), (629, .iaload, 1), (630, .aload_n 0, 1), (631, .iload_n 3, 1), (632, .iconst 2, 1), (633, .iadd, 1), (634, .iaload, 1), (635, .invokevirtual 75, 3)]
theorem dk_law_9 : mv_dk code ic_law_9 = true := by decide +kernel
def ic_law_10 : List (Nat × Instr × Nat) := [(638, .aload_n 2, 1), (639, .aload_n 0, 1), (640, .iload_n 3, 1), (641, .iconst 1, 1), (642, .iadd, 1), (643, .iaload, 1), (644, .aload_n 0, 1), (645, .iload_n 3, 1), (646, .iconst 2, 1), (647, .iadd, 1), (648, .iaload, 1), (649, .invokevirtual 78, 3), (652, .if_icmp .eq 377, 3), (655, .iconst 0, 1), (656, .ireturn, 1), (657, .aload_n 1, 1), (658, .aload_n 0, 1), (659, .iload_n 3, 1), (660, .iconst 1, 1), (661, .iadd, 1), (662, .iaload, 1), (663, .aload_n 0, 1), (664, .iload_n 3, 1), (665, .iconst 2, 1), (666, .iadd, 1), (667, .iaload, 1), (668, .invokevirtual 79, 3), (671, .aload_n 2, 1), (672, .aload_n 0, 1), (673, .iload_n 3, 1), (674, .iconst 1, 1), (675, .iadd, 1), (676, .iaload, 1), (677, .aload_n 0, 1), (678, .iload_n 3, 1), (679, .iconst 2, 1), (680, .iadd, 1), (681, .iaload, 1), (682, .invokevirtual 82, 3), (685, .if_icmp .eq 344, 3)]
theorem dk_law_10 : mv_dk code ic_law_10 = true := by decide +kernel
def ic_law_11 : List (Nat × Instr × Nat) := [(688, .iconst 0, 1), (689, .ireturn, 1), (690, .aload_n 1, 1), (691, .aload_n 0, 1), (692, .iload_n 3, 1), (693, .iconst 1, 1), (694, .iadd, 1), (695, .iaload, 1), (696, .aload_n 0, 1), (697, .iload_n 3, 1), (698, .iconst 2, 1), (699, .iadd, 1), (700, .iaload, 1), (701, .invokevirtual 83, 3), (704, .aload_n 2, 1), (705, .aload_n 0, 1), (706, .iload_n 3, 1), (707, .iconst 1, 1), (708, .iadd, 1), (709, .iaload, 1), (710, .aload_n 0, 1), (711, .iload_n 3, 1), (712, .iconst 2, 1), (713, .iadd, 1), (714, .iaload, 1), (715, .invokevirtual 86, 3), (718, .if_icmp .eq 311, 3), (721, .iconst 0, 1), (722, .ireturn, 1), (723, .aload_n 1, 1), (724, .aload_n 0, 1), (725, .iload_n 3, 1), (726, .iconst 1, 1), (727, .iadd, 1), (728, .iaload, 1), (729, .aload_n 0, 1), (730, .iload_n 3, 1), (731, .iconst 2, 1), (732, .iadd, 1), (733, .iaload, 1)]
theorem dk_law_11 : mv_dk code ic_law_11 = true := by decide +kernel
def ic_law_12 : List (Nat × Instr × Nat) := [(734, .invokevirtual 87, 3), (737, .aload_n 2, 1), (738, .aload_n 0, 1), (739, .iload_n 3, 1), (740, .iconst 1, 1), (741, .iadd, 1), (742, .iaload, 1), (743, .aload_n 0, 1), (744, .iload_n 3, 1), (745, .iconst 2, 1), (746, .iadd, 1), (747, .iaload, 1), (748, .invokevirtual 90, 3), (751, .if_icmp .eq 278, 3), (754, .iconst 0, 1), (755, .ireturn, 1), (756, .aload_n 1, 1), (757, .aload_n 0, 1), (758, .iload_n 3, 1), (759, .iconst 1, 1), (760, .iadd, 1), (761, .iaload, 1), (762, .aload_n 0, 1), (763, .iload_n 3, 1), (764, .iconst 2, 1), (765, .iadd, 1), (766, .iaload, 1), (767, .aload_n 0, 1), (768, .iload_n 3, 1), (769, .iconst 3, 1), (770, .iadd, 1), (771, .iaload, 1), (772, .invokevirtual 91, 3), (775, .aload_n 2, 1), (776, .aload_n 0, 1), (777, .iload_n 3, 1), (778, .iconst 1, 1), (779, .iadd, 1), (780, .iaload, 1), (781, .aload_n 0, 1)]
theorem dk_law_12 : mv_dk code ic_law_12 = true := by decide +kernel
def ic_law_13 : List (Nat × Instr × Nat) := [(782, .iload_n 3, 1), (783, .iconst 2, 1), (784, .iadd, 1), (785, .iaload, 1), (786, .aload_n 0, 1), (787, .iload_n 3, 1), (788, .iconst 3, 1), (789, .iadd, 1), (790, .iaload, 1), (791, .invokevirtual 95, 3), (794, .if_icmp .eq 235, 3), (797, .iconst 0, 1), (798, .ireturn, 1), (799, .aload_n 1, 1), (800, .aload_n 0, 1), (801, .iload_n 3, 1), (802, .iconst 1, 1), (803, .iadd, 1), (804, .iaload, 1), (805, .aload_n 0, 1), (806, .iload_n 3, 1), (807, .iconst 2, 1), (808, .iadd, 1), (809, .iaload, 1), (810, .invokevirtual 96, 3), (813, .aload_n 2, 1), (814, .aload_n 0, 1), (815, .iload_n 3, 1), (816, .iconst 1, 1), (817, .iadd, 1), (818, .iaload, 1), (819, .aload_n 0, 1), (820, .iload_n 3, 1), (821, .iconst 2, 1), (822, .iadd, 1), (823, .iaload, 1), (824, .invokevirtual 99, 3), (827, .if_icmp .eq 202, 3), (830, .iconst 0, 1), (831, .ireturn, 1)]
theorem dk_law_13 : mv_dk code ic_law_13 = true := by decide +kernel
def ic_law_14 : List (Nat × Instr × Nat) := [(832, .aload_n 1, 1), (833, .aload_n 0, 1), (834, .iload_n 3, 1), (835, .iconst 1, 1), (836, .iadd, 1), (837, .iaload, 1), (838, .aload_n 0, 1), (839, .iload_n 3, 1), (840, .iconst 2, 1), (841, .iadd, 1), (842, .iaload, 1), (843, .aload_n 0, 1), (844, .iload_n 3, 1), (845, .iconst 3, 1), (846, .iadd, 1), (847, .iaload, 1), (848, .invokevirtual 100, 3), (851, .aload_n 2, 1), (852, .aload_n 0, 1), (853, .iload_n 3, 1), (854, .iconst 1, 1), (855, .iadd, 1), (856, .iaload, 1), (857, .aload_n 0, 1), (858, .iload_n 3, 1), (859, .iconst 2, 1), (860, .iadd, 1), (861, .iaload, 1), (862, .aload_n 0, 1), (863, .iload_n 3, 1), (864, .iconst 3, 1), (865, .iadd, 1), (866, .iaload, 1), (867, .invokevirtual 103, 3), (870, .if_icmp .eq 159, 3), (873, .iconst 0, 1), (874, .ireturn, 1), (875, .aload_n 1, 1), (876, .aload_n 0, 1), (877, .iload_n 3, 1)]
theorem dk_law_14 : mv_dk code ic_law_14 = true := by decide +kernel
def ic_law_15 : List (Nat × Instr × Nat) := [(878, .iconst 1, 1), (879, .iadd, 1), (880, .iaload, 1), (881, .invokevirtual 104, 3), (884, .aload_n 2, 1), (885, .aload_n 0, 1), (886, .iload_n 3, 1), (887, .iconst 1, 1), (888, .iadd, 1), (889, .iaload, 1), (890, .invokevirtual 107, 3), (893, .if_icmp .eq 136, 3), (896, .iconst 0, 1), (897, .ireturn, 1), (898, .aload_n 1, 1), (899, .aload_n 0, 1), (900, .iload_n 3, 1), (901, .iconst 1, 1), (902, .iadd, 1), (903, .iaload, 1), (904, .aload_n 0, 1), (905, .iload_n 3, 1), (906, .iconst 2, 1), (907, .iadd, 1), (908, .iaload, 1), (909, .invokevirtual 108, 3), (912, .aload_n 2, 1), (913, .aload_n 0, 1), (914, .iload_n 3, 1), (915, .iconst 1, 1), (916, .iadd, 1), (917, .iaload, 1), (918, .aload_n 0, 1), (919, .iload_n 3, 1), (920, .iconst 2, 1), (921, .iadd, 1), (922, .iaload, 1), (923, .invokevirtual 111, 3), (926, .if_icmp .eq 103, 3), (929, .iconst 0, 1)]
theorem dk_law_15 : mv_dk code ic_law_15 = true := by decide +kernel
def ic_law_16 : List (Nat × Instr × Nat) := [(930, .ireturn, 1), (931, .aload_n 1, 1), (932, .aload_n 0, 1), (933, .iload_n 3, 1), (934, .iconst 1, 1), (935, .iadd, 1), (936, .iaload, 1), (937, .invokevirtual 112, 3), (940, .aload_n 2, 1), (941, .aload_n 0, 1), (942, .iload_n 3, 1), (943, .iconst 1, 1), (944, .iadd, 1), (945, .iaload, 1), (946, .invokevirtual 115, 3), (949, .if_icmp .eq 80, 3), (952, .iconst 0, 1), (953, .ireturn, 1), (954, .aload_n 1, 1), (955, .invokevirtual 116, 3), (958, .aload_n 2, 1), (959, .invokevirtual 120, 3), (962, .if_icmp .eq 67, 3), (965, .iconst 0, 1), (966, .ireturn, 1), (967, .aload_n 1, 1), (968, .aload_n 0, 1), (969, .iload_n 3, 1), (970, .iconst 1, 1), (971, .iadd, 1), (972, .iaload, 1), (973, .ifCond .eq 7, 3), (976, .iconst 1, 1), (977, .goto 4, 3), (980, .iconst 0, 1), (981, .invokevirtual 121, 3), (984, .aload_n 2, 1), (985, .aload_n 0, 1), (986, .iload_n 3, 1), (987, .iconst 1, 1)]
theorem dk_law_16 : mv_dk code ic_law_16 = true := by decide +kernel
def ic_law_17 : List (Nat × Instr × Nat) := [(988, .iadd, 1), (989, .iaload, 1), (990, .ifCond .eq 7, 3), (993, .iconst 1, 1), (994, .goto 4, 3), (997, .iconst 0, 1), (998, .invokevirtual 125, 3), (1001, .if_icmp .eq 28, 3), (1004, .iconst 0, 1), (1005, .ireturn, 1), (1006, .aload_n 1, 1), (1007, .aload_n 0, 1), (1008, .iload_n 3, 1), (1009, .iconst 1, 1), (1010, .iadd, 1), (1011, .iaload, 1), (1012, .invokevirtual 126, 3), (1015, .aload_n 2, 1), (1016, .aload_n 0, 1), (1017, .iload_n 3, 1), (1018, .iconst 1, 1), (1019, .iadd, 1), (1020, .iaload, 1), (1021, .invokevirtual 129, 3), (1024, .if_icmp .eq 5, 3), (1027, .iconst 0, 1), (1028, .ireturn, 1), (1029, .iinc 3 6, 3), (1032, .goto (-1014), 3), (1035, .iconst 1, 1), (1036, .ireturn, 1)]
theorem dk_law_17 : mv_dk code ic_law_17 = true := by decide +kernel
def ic_law : List (Nat × Instr × Nat) := ic_law_0 ++ (ic_law_1 ++ (ic_law_2 ++ (ic_law_3 ++ (ic_law_4 ++ (ic_law_5 ++ (ic_law_6 ++ (ic_law_7 ++ (ic_law_8 ++ (ic_law_9 ++ (ic_law_10 ++ (ic_law_11 ++ (ic_law_12 ++ (ic_law_13 ++ (ic_law_14 ++ (ic_law_15 ++ (ic_law_16 ++ (ic_law_17)))))))))))))))))
theorem mv_dk_app {cc : ByteArray} {a b : List (Nat × Instr × Nat)} (ha : mv_dk cc a = true) (hb : mv_dk cc b = true) : mv_dk cc (a ++ b) = true := by
  unfold mv_dk at *
  rw [List.all_append, ha, hb]
  rfl
theorem dk_law : mv_dk code ic_law = true := mv_dk_app dk_law_0 (mv_dk_app dk_law_1 (mv_dk_app dk_law_2 (mv_dk_app dk_law_3 (mv_dk_app dk_law_4 (mv_dk_app dk_law_5 (mv_dk_app dk_law_6 (mv_dk_app dk_law_7 (mv_dk_app dk_law_8 (mv_dk_app dk_law_9 (mv_dk_app dk_law_10 (mv_dk_app dk_law_11 (mv_dk_app dk_law_12 (mv_dk_app dk_law_13 (mv_dk_app dk_law_14 (mv_dk_app dk_law_15 (mv_dk_app dk_law_16 (dk_law_17)))))))))))))))))
noncomputable def mm_law : mv_M := (ic_law, [], [], [], [(13, 2, some 11, false, mv_lf ff_X11_bench), (17, 2, some 12, false, mv_lf ff_X12_bench), (18, 3, some 11, false, mv_lf ff_X11_rest), (22, 3, some 12, false, mv_lf ff_X12_rest), (23, 6, some 11, false, mv_lf ff_X11_person), (27, 6, some 12, false, mv_lf ff_X12_person), (28, 4, some 11, false, mv_lf ff_X11_set), (32, 4, some 12, false, mv_lf ff_X12_set), (33, 2, some 11, false, mv_lf ff_X11_come), (37, 2, some 12, false, mv_lf ff_X12_come), (38, 2, some 11, false, mv_lf ff_X11_go), (41, 2, some 12, false, mv_lf ff_X12_go), (42, 2, some 11, false, mv_lf ff_X11_beg), (45, 2, some 12, false, mv_lf ff_X12_beg), (46, 6, some 11, false, mv_lf ff_X11_feed), (49, 6, some 12, false, mv_lf ff_X12_feed), (50, 2, some 11, false, mv_lf ff_X11_end), (53, 2, some 12, false, mv_lf ff_X12_end), (54, 2, some 11, false, mv_lf ff_X11_text), (57, 2, some 12, false, mv_lf ff_X12_text), (58, 2, some 11, false, mv_lf ff_X11_fault), (61, 2, some 12, false, mv_lf ff_X12_fault), (62, 2, some 11, false, mv_lf ff_X11_hours), (65, 2, some 12, false, mv_lf ff_X12_hours), (66, 3, some 11, false, mv_lf ff_X11_of), (70, 3, some 12, false, mv_lf ff_X12_of), (71, 3, some 11, false, mv_lf ff_X11_at), (74, 3, some 12, false, mv_lf ff_X12_at), (75, 3, some 11, false, mv_lf ff_X11_tells), (78, 3, some 12, false, mv_lf ff_X12_tells), (79, 3, some 11, false, mv_lf ff_X11_book), (82, 3, some 12, false, mv_lf ff_X12_book), (83, 3, some 11, false, mv_lf ff_X11_room), (86, 3, some 12, false, mv_lf ff_X12_room), (87, 3, some 11, false, mv_lf ff_X11_rise), (90, 3, some 12, false, mv_lf ff_X12_rise), (91, 4, some 11, false, mv_lf ff_X11_fill), (95, 4, some 12, false, mv_lf ff_X12_fill), (96, 3, some 11, false, mv_lf ff_X11_bestRest), (99, 3, some 12, false, mv_lf ff_X12_bestRest), (100, 4, some 11, false, mv_lf ff_X11_block), (103, 4, some 12, false, mv_lf ff_X12_block), (104, 2, some 11, false, mv_lf ff_X11_orders), (107, 2, some 12, false, mv_lf ff_X12_orders), (108, 3, some 11, false, mv_lf ff_X11_gives), (111, 3, some 12, false, mv_lf ff_X12_gives), (112, 2, some 11, false, mv_lf ff_X11_stands), (115, 2, some 12, false, mv_lf ff_X12_stands), (116, 1, some 11, false, mv_lf ff_X11_undo), (120, 1, some 12, false, mv_lf ff_X12_undo), (121, 2, some 11, false, mv_lf ff_X11_image), (125, 2, some 12, false, mv_lf ff_X12_image), (126, 2, some 11, false, mv_lf ff_X11_look), (129, 2, some 12, false, mv_lf ff_X12_look)], [(18, [true, true, true, true]), (156, [true, true, true, true]), (179, [true, true, true, true]), (228, [true, true, true, true]), (291, [true, true, true, true]), (334, [true, true, true, true]), (357, [true, true, true, true]), (380, [true, true, true, true]), (403, [true, true, true, true]), (466, [true, true, true, true]), (489, [true, true, true, true]), (512, [true, true, true, true]), (535, [true, true, true, true]), (558, [true, true, true, true]), (591, [true, true, true, true]), (624, [true, true, true, true]), (657, [true, true, true, true]), (690, [true, true, true, true]), (723, [true, true, true, true]), (756, [true, true, true, true]), (799, [true, true, true, true]), (832, [true, true, true, true]), (875, [true, true, true, true]), (898, [true, true, true, true]), (931, [true, true, true, true]), (954, [true, true, true, true]), (967, [true, true, true, true]), (1006, [true, true, true, true]), (1029, [true, true, true, true])], some (0, 1))
set_option maxRecDepth 20000 in
theorem lw_cals {p : Program} {e : Env} {s : State} {m : MethodId} {args : Array Value} {below : List Frame} {meth : Method} {c : Code} {Q : State → Prop} {cells slots L : Nat} {xs : Nat → Int} (hi : ∀ q ∈ ids, q.1 ≠ 1006) (hF : mv_Fix mv_sh ids mv_ros ad cA tys A mv_rc) (hF2 : mv_Fix (mv_sh2 L) ids mv_ro2 ad cA tys A (mv_rc2 xs)) (hst : mv_St (mv_sh2 L)) (hBg : mv_Bg p s m args c code 4 R_law mv_Ts) (hX : mv_EX ad A s) (hR : mv_RO (mv_sh2 L) mv_ro2 ad A (mv_rc2 xs) mv_cr s) (hK : va_K D mv_cl tys s) (hro : cells ≤ room_1.cells ∧ slots ≤ room_1.slots) :
    ∀ x ∈ mm_law.2.2.2.2.1, mv_Cal p l e room_1 s m args below meth c cells slots Q code 4 (mv_sh2 L) ids mv_ro2 ad cA mv_cl D A x.1 x.2.1 x.2.2.1 x.2.2.2.1 x.2.2.2.2 := List.forall_mem_cons.mpr ⟨mv_cal_of (mv_lift hi (cc_X11_bench l hF)) hBg hX hR hK mv_EX_ok hF2 mv_good hst lw_cw_13.1 lw_cw_13.2.1 lw_cw_13.2.2 ⟨rfl, rfl, by exact Nat.le_of_ble_eq_true rfl, by exact Nat.le_of_ble_eq_true rfl⟩ hro,
  List.forall_mem_cons.mpr ⟨mv_cal_of (mv_lift hi (cc_X12_bench l hF)) hBg hX hR hK mv_EX_ok hF2 mv_good hst lw_cw_17.1 lw_cw_17.2.1 lw_cw_17.2.2 ⟨rfl, rfl, by exact Nat.le_of_ble_eq_true rfl, by exact Nat.le_of_ble_eq_true rfl⟩ hro,
  List.forall_mem_cons.mpr ⟨mv_cal_of (mv_lift hi (cc_X11_rest l hF)) hBg hX hR hK mv_EX_ok hF2 mv_good hst lw_cw_18.1 lw_cw_18.2.1 lw_cw_18.2.2 ⟨rfl, rfl, by exact Nat.le_of_ble_eq_true rfl, by exact Nat.le_of_ble_eq_true rfl⟩ hro,
  List.forall_mem_cons.mpr ⟨mv_cal_of (mv_lift hi (cc_X12_rest l hF)) hBg hX hR hK mv_EX_ok hF2 mv_good hst lw_cw_22.1 lw_cw_22.2.1 lw_cw_22.2.2 ⟨rfl, rfl, by exact Nat.le_of_ble_eq_true rfl, by exact Nat.le_of_ble_eq_true rfl⟩ hro,
  List.forall_mem_cons.mpr ⟨mv_cal_of (mv_lift hi (cc_X11_person l hF)) hBg hX hR hK mv_EX_ok hF2 mv_good hst lw_cw_23.1 lw_cw_23.2.1 lw_cw_23.2.2 ⟨rfl, rfl, by exact Nat.le_of_ble_eq_true rfl, by exact Nat.le_of_ble_eq_true rfl⟩ hro,
  List.forall_mem_cons.mpr ⟨mv_cal_of (mv_lift hi (cc_X12_person l hF)) hBg hX hR hK mv_EX_ok hF2 mv_good hst lw_cw_27.1 lw_cw_27.2.1 lw_cw_27.2.2 ⟨rfl, rfl, by exact Nat.le_of_ble_eq_true rfl, by exact Nat.le_of_ble_eq_true rfl⟩ hro,
  List.forall_mem_cons.mpr ⟨mv_cal_of (mv_lift hi (cc_X11_set l hF)) hBg hX hR hK mv_EX_ok hF2 mv_good hst lw_cw_28.1 lw_cw_28.2.1 lw_cw_28.2.2 ⟨rfl, rfl, by exact Nat.le_of_ble_eq_true rfl, by exact Nat.le_of_ble_eq_true rfl⟩ hro,
  List.forall_mem_cons.mpr ⟨mv_cal_of (mv_lift hi (cc_X12_set l hF)) hBg hX hR hK mv_EX_ok hF2 mv_good hst lw_cw_32.1 lw_cw_32.2.1 lw_cw_32.2.2 ⟨rfl, rfl, by exact Nat.le_of_ble_eq_true rfl, by exact Nat.le_of_ble_eq_true rfl⟩ hro,
  List.forall_mem_cons.mpr ⟨mv_cal_of (mv_lift hi (cc_X11_come l hF)) hBg hX hR hK mv_EX_ok hF2 mv_good hst lw_cw_33.1 lw_cw_33.2.1 lw_cw_33.2.2 ⟨rfl, rfl, by exact Nat.le_of_ble_eq_true rfl, by exact Nat.le_of_ble_eq_true rfl⟩ hro,
  List.forall_mem_cons.mpr ⟨mv_cal_of (mv_lift hi (cc_X12_come l hF)) hBg hX hR hK mv_EX_ok hF2 mv_good hst lw_cw_37.1 lw_cw_37.2.1 lw_cw_37.2.2 ⟨rfl, rfl, by exact Nat.le_of_ble_eq_true rfl, by exact Nat.le_of_ble_eq_true rfl⟩ hro,
  List.forall_mem_cons.mpr ⟨mv_cal_of (mv_lift hi (cc_X11_go l hF)) hBg hX hR hK mv_EX_ok hF2 mv_good hst lw_cw_38.1 lw_cw_38.2.1 lw_cw_38.2.2 ⟨rfl, rfl, by exact Nat.le_of_ble_eq_true rfl, by exact Nat.le_of_ble_eq_true rfl⟩ hro,
  List.forall_mem_cons.mpr ⟨mv_cal_of (mv_lift hi (cc_X12_go l hF)) hBg hX hR hK mv_EX_ok hF2 mv_good hst lw_cw_41.1 lw_cw_41.2.1 lw_cw_41.2.2 ⟨rfl, rfl, by exact Nat.le_of_ble_eq_true rfl, by exact Nat.le_of_ble_eq_true rfl⟩ hro,
  List.forall_mem_cons.mpr ⟨mv_cal_of (mv_lift hi (cc_X11_beg l hF)) hBg hX hR hK mv_EX_ok hF2 mv_good hst lw_cw_42.1 lw_cw_42.2.1 lw_cw_42.2.2 ⟨rfl, rfl, by exact Nat.le_of_ble_eq_true rfl, by exact Nat.le_of_ble_eq_true rfl⟩ hro,
  List.forall_mem_cons.mpr ⟨mv_cal_of (mv_lift hi (cc_X12_beg l hF)) hBg hX hR hK mv_EX_ok hF2 mv_good hst lw_cw_45.1 lw_cw_45.2.1 lw_cw_45.2.2 ⟨rfl, rfl, by exact Nat.le_of_ble_eq_true rfl, by exact Nat.le_of_ble_eq_true rfl⟩ hro,
  List.forall_mem_cons.mpr ⟨mv_cal_of (mv_lift hi (cc_X11_feed l hF)) hBg hX hR hK mv_EX_ok hF2 mv_good hst lw_cw_46.1 lw_cw_46.2.1 lw_cw_46.2.2 ⟨rfl, rfl, by exact Nat.le_of_ble_eq_true rfl, by exact Nat.le_of_ble_eq_true rfl⟩ hro,
  List.forall_mem_cons.mpr ⟨mv_cal_of (mv_lift hi (cc_X12_feed l hF)) hBg hX hR hK mv_EX_ok hF2 mv_good hst lw_cw_49.1 lw_cw_49.2.1 lw_cw_49.2.2 ⟨rfl, rfl, by exact Nat.le_of_ble_eq_true rfl, by exact Nat.le_of_ble_eq_true rfl⟩ hro,
  List.forall_mem_cons.mpr ⟨mv_cal_of (mv_lift hi (cc_X11_end l hF)) hBg hX hR hK mv_EX_ok hF2 mv_good hst lw_cw_50.1 lw_cw_50.2.1 lw_cw_50.2.2 ⟨rfl, rfl, by exact Nat.le_of_ble_eq_true rfl, by exact Nat.le_of_ble_eq_true rfl⟩ hro,
  List.forall_mem_cons.mpr ⟨mv_cal_of (mv_lift hi (cc_X12_end l hF)) hBg hX hR hK mv_EX_ok hF2 mv_good hst lw_cw_53.1 lw_cw_53.2.1 lw_cw_53.2.2 ⟨rfl, rfl, by exact Nat.le_of_ble_eq_true rfl, by exact Nat.le_of_ble_eq_true rfl⟩ hro,
  List.forall_mem_cons.mpr ⟨mv_cal_of (mv_lift hi (cc_X11_text l hF)) hBg hX hR hK mv_EX_ok hF2 mv_good hst lw_cw_54.1 lw_cw_54.2.1 lw_cw_54.2.2 ⟨rfl, rfl, by exact Nat.le_of_ble_eq_true rfl, by exact Nat.le_of_ble_eq_true rfl⟩ hro,
  List.forall_mem_cons.mpr ⟨mv_cal_of (mv_lift hi (cc_X12_text l hF)) hBg hX hR hK mv_EX_ok hF2 mv_good hst lw_cw_57.1 lw_cw_57.2.1 lw_cw_57.2.2 ⟨rfl, rfl, by exact Nat.le_of_ble_eq_true rfl, by exact Nat.le_of_ble_eq_true rfl⟩ hro,
  List.forall_mem_cons.mpr ⟨mv_cal_of (mv_lift hi (cc_X11_fault l hF)) hBg hX hR hK mv_EX_ok hF2 mv_good hst lw_cw_58.1 lw_cw_58.2.1 lw_cw_58.2.2 ⟨rfl, rfl, by exact Nat.le_of_ble_eq_true rfl, by exact Nat.le_of_ble_eq_true rfl⟩ hro,
  List.forall_mem_cons.mpr ⟨mv_cal_of (mv_lift hi (cc_X12_fault l hF)) hBg hX hR hK mv_EX_ok hF2 mv_good hst lw_cw_61.1 lw_cw_61.2.1 lw_cw_61.2.2 ⟨rfl, rfl, by exact Nat.le_of_ble_eq_true rfl, by exact Nat.le_of_ble_eq_true rfl⟩ hro,
  List.forall_mem_cons.mpr ⟨mv_cal_of (mv_lift hi (cc_X11_hours l hF)) hBg hX hR hK mv_EX_ok hF2 mv_good hst lw_cw_62.1 lw_cw_62.2.1 lw_cw_62.2.2 ⟨rfl, rfl, by exact Nat.le_of_ble_eq_true rfl, by exact Nat.le_of_ble_eq_true rfl⟩ hro,
  List.forall_mem_cons.mpr ⟨mv_cal_of (mv_lift hi (cc_X12_hours l hF)) hBg hX hR hK mv_EX_ok hF2 mv_good hst lw_cw_65.1 lw_cw_65.2.1 lw_cw_65.2.2 ⟨rfl, rfl, by exact Nat.le_of_ble_eq_true rfl, by exact Nat.le_of_ble_eq_true rfl⟩ hro,
  List.forall_mem_cons.mpr ⟨mv_cal_of (mv_lift hi (cc_X11_of l hF)) hBg hX hR hK mv_EX_ok hF2 mv_good hst lw_cw_66.1 lw_cw_66.2.1 lw_cw_66.2.2 ⟨rfl, rfl, by exact Nat.le_of_ble_eq_true rfl, by exact Nat.le_of_ble_eq_true rfl⟩ hro,
  List.forall_mem_cons.mpr ⟨mv_cal_of (mv_lift hi (cc_X12_of l hF)) hBg hX hR hK mv_EX_ok hF2 mv_good hst lw_cw_70.1 lw_cw_70.2.1 lw_cw_70.2.2 ⟨rfl, rfl, by exact Nat.le_of_ble_eq_true rfl, by exact Nat.le_of_ble_eq_true rfl⟩ hro,
  List.forall_mem_cons.mpr ⟨mv_cal_of (mv_lift hi (cc_X11_at l hF)) hBg hX hR hK mv_EX_ok hF2 mv_good hst lw_cw_71.1 lw_cw_71.2.1 lw_cw_71.2.2 ⟨rfl, rfl, by exact Nat.le_of_ble_eq_true rfl, by exact Nat.le_of_ble_eq_true rfl⟩ hro,
  List.forall_mem_cons.mpr ⟨mv_cal_of (mv_lift hi (cc_X12_at l hF)) hBg hX hR hK mv_EX_ok hF2 mv_good hst lw_cw_74.1 lw_cw_74.2.1 lw_cw_74.2.2 ⟨rfl, rfl, by exact Nat.le_of_ble_eq_true rfl, by exact Nat.le_of_ble_eq_true rfl⟩ hro,
  List.forall_mem_cons.mpr ⟨mv_cal_of (mv_lift hi (cc_X11_tells l hF)) hBg hX hR hK mv_EX_ok hF2 mv_good hst lw_cw_75.1 lw_cw_75.2.1 lw_cw_75.2.2 ⟨rfl, rfl, by exact Nat.le_of_ble_eq_true rfl, by exact Nat.le_of_ble_eq_true rfl⟩ hro,
  List.forall_mem_cons.mpr ⟨mv_cal_of (mv_lift hi (cc_X12_tells l hF)) hBg hX hR hK mv_EX_ok hF2 mv_good hst lw_cw_78.1 lw_cw_78.2.1 lw_cw_78.2.2 ⟨rfl, rfl, by exact Nat.le_of_ble_eq_true rfl, by exact Nat.le_of_ble_eq_true rfl⟩ hro,
  List.forall_mem_cons.mpr ⟨mv_cal_of (mv_lift hi (cc_X11_book l hF)) hBg hX hR hK mv_EX_ok hF2 mv_good hst lw_cw_79.1 lw_cw_79.2.1 lw_cw_79.2.2 ⟨rfl, rfl, by exact Nat.le_of_ble_eq_true rfl, by exact Nat.le_of_ble_eq_true rfl⟩ hro,
  List.forall_mem_cons.mpr ⟨mv_cal_of (mv_lift hi (cc_X12_book l hF)) hBg hX hR hK mv_EX_ok hF2 mv_good hst lw_cw_82.1 lw_cw_82.2.1 lw_cw_82.2.2 ⟨rfl, rfl, by exact Nat.le_of_ble_eq_true rfl, by exact Nat.le_of_ble_eq_true rfl⟩ hro,
  List.forall_mem_cons.mpr ⟨mv_cal_of (mv_lift hi (cc_X11_room l hF)) hBg hX hR hK mv_EX_ok hF2 mv_good hst lw_cw_83.1 lw_cw_83.2.1 lw_cw_83.2.2 ⟨rfl, rfl, by exact Nat.le_of_ble_eq_true rfl, by exact Nat.le_of_ble_eq_true rfl⟩ hro,
  List.forall_mem_cons.mpr ⟨mv_cal_of (mv_lift hi (cc_X12_room l hF)) hBg hX hR hK mv_EX_ok hF2 mv_good hst lw_cw_86.1 lw_cw_86.2.1 lw_cw_86.2.2 ⟨rfl, rfl, by exact Nat.le_of_ble_eq_true rfl, by exact Nat.le_of_ble_eq_true rfl⟩ hro,
  List.forall_mem_cons.mpr ⟨mv_cal_of (mv_lift hi (cc_X11_rise l hF)) hBg hX hR hK mv_EX_ok hF2 mv_good hst lw_cw_87.1 lw_cw_87.2.1 lw_cw_87.2.2 ⟨rfl, rfl, by exact Nat.le_of_ble_eq_true rfl, by exact Nat.le_of_ble_eq_true rfl⟩ hro,
  List.forall_mem_cons.mpr ⟨mv_cal_of (mv_lift hi (cc_X12_rise l hF)) hBg hX hR hK mv_EX_ok hF2 mv_good hst lw_cw_90.1 lw_cw_90.2.1 lw_cw_90.2.2 ⟨rfl, rfl, by exact Nat.le_of_ble_eq_true rfl, by exact Nat.le_of_ble_eq_true rfl⟩ hro,
  List.forall_mem_cons.mpr ⟨mv_cal_of (mv_lift hi (cc_X11_fill l hF)) hBg hX hR hK mv_EX_ok hF2 mv_good hst lw_cw_91.1 lw_cw_91.2.1 lw_cw_91.2.2 ⟨rfl, rfl, by exact Nat.le_of_ble_eq_true rfl, by exact Nat.le_of_ble_eq_true rfl⟩ hro,
  List.forall_mem_cons.mpr ⟨mv_cal_of (mv_lift hi (cc_X12_fill l hF)) hBg hX hR hK mv_EX_ok hF2 mv_good hst lw_cw_95.1 lw_cw_95.2.1 lw_cw_95.2.2 ⟨rfl, rfl, by exact Nat.le_of_ble_eq_true rfl, by exact Nat.le_of_ble_eq_true rfl⟩ hro,
  List.forall_mem_cons.mpr ⟨mv_cal_of (mv_lift hi (cc_X11_bestRest l hF)) hBg hX hR hK mv_EX_ok hF2 mv_good hst lw_cw_96.1 lw_cw_96.2.1 lw_cw_96.2.2 ⟨rfl, rfl, by exact Nat.le_of_ble_eq_true rfl, by exact Nat.le_of_ble_eq_true rfl⟩ hro,
  List.forall_mem_cons.mpr ⟨mv_cal_of (mv_lift hi (cc_X12_bestRest l hF)) hBg hX hR hK mv_EX_ok hF2 mv_good hst lw_cw_99.1 lw_cw_99.2.1 lw_cw_99.2.2 ⟨rfl, rfl, by exact Nat.le_of_ble_eq_true rfl, by exact Nat.le_of_ble_eq_true rfl⟩ hro,
  List.forall_mem_cons.mpr ⟨mv_cal_of (mv_lift hi (cc_X11_block l hF)) hBg hX hR hK mv_EX_ok hF2 mv_good hst lw_cw_100.1 lw_cw_100.2.1 lw_cw_100.2.2 ⟨rfl, rfl, by exact Nat.le_of_ble_eq_true rfl, by exact Nat.le_of_ble_eq_true rfl⟩ hro,
  List.forall_mem_cons.mpr ⟨mv_cal_of (mv_lift hi (cc_X12_block l hF)) hBg hX hR hK mv_EX_ok hF2 mv_good hst lw_cw_103.1 lw_cw_103.2.1 lw_cw_103.2.2 ⟨rfl, rfl, by exact Nat.le_of_ble_eq_true rfl, by exact Nat.le_of_ble_eq_true rfl⟩ hro,
  List.forall_mem_cons.mpr ⟨mv_cal_of (mv_lift hi (cc_X11_orders l hF)) hBg hX hR hK mv_EX_ok hF2 mv_good hst lw_cw_104.1 lw_cw_104.2.1 lw_cw_104.2.2 ⟨rfl, rfl, by exact Nat.le_of_ble_eq_true rfl, by exact Nat.le_of_ble_eq_true rfl⟩ hro,
  List.forall_mem_cons.mpr ⟨mv_cal_of (mv_lift hi (cc_X12_orders l hF)) hBg hX hR hK mv_EX_ok hF2 mv_good hst lw_cw_107.1 lw_cw_107.2.1 lw_cw_107.2.2 ⟨rfl, rfl, by exact Nat.le_of_ble_eq_true rfl, by exact Nat.le_of_ble_eq_true rfl⟩ hro,
  List.forall_mem_cons.mpr ⟨mv_cal_of (mv_lift hi (cc_X11_gives l hF)) hBg hX hR hK mv_EX_ok hF2 mv_good hst lw_cw_108.1 lw_cw_108.2.1 lw_cw_108.2.2 ⟨rfl, rfl, by exact Nat.le_of_ble_eq_true rfl, by exact Nat.le_of_ble_eq_true rfl⟩ hro,
  List.forall_mem_cons.mpr ⟨mv_cal_of (mv_lift hi (cc_X12_gives l hF)) hBg hX hR hK mv_EX_ok hF2 mv_good hst lw_cw_111.1 lw_cw_111.2.1 lw_cw_111.2.2 ⟨rfl, rfl, by exact Nat.le_of_ble_eq_true rfl, by exact Nat.le_of_ble_eq_true rfl⟩ hro,
  List.forall_mem_cons.mpr ⟨mv_cal_of (mv_lift hi (cc_X11_stands l hF)) hBg hX hR hK mv_EX_ok hF2 mv_good hst lw_cw_112.1 lw_cw_112.2.1 lw_cw_112.2.2 ⟨rfl, rfl, by exact Nat.le_of_ble_eq_true rfl, by exact Nat.le_of_ble_eq_true rfl⟩ hro,
  List.forall_mem_cons.mpr ⟨mv_cal_of (mv_lift hi (cc_X12_stands l hF)) hBg hX hR hK mv_EX_ok hF2 mv_good hst lw_cw_115.1 lw_cw_115.2.1 lw_cw_115.2.2 ⟨rfl, rfl, by exact Nat.le_of_ble_eq_true rfl, by exact Nat.le_of_ble_eq_true rfl⟩ hro,
  List.forall_mem_cons.mpr ⟨mv_cal_of (mv_lift hi (cc_X11_undo l hF)) hBg hX hR hK mv_EX_ok hF2 mv_good hst lw_cw_116.1 lw_cw_116.2.1 lw_cw_116.2.2 ⟨rfl, rfl, by exact Nat.le_of_ble_eq_true rfl, by exact Nat.le_of_ble_eq_true rfl⟩ hro,
  List.forall_mem_cons.mpr ⟨mv_cal_of (mv_lift hi (cc_X12_undo l hF)) hBg hX hR hK mv_EX_ok hF2 mv_good hst lw_cw_120.1 lw_cw_120.2.1 lw_cw_120.2.2 ⟨rfl, rfl, by exact Nat.le_of_ble_eq_true rfl, by exact Nat.le_of_ble_eq_true rfl⟩ hro,
  List.forall_mem_cons.mpr ⟨mv_cal_of (mv_lift hi (cc_X11_image l hF)) hBg hX hR hK mv_EX_ok hF2 mv_good hst lw_cw_121.1 lw_cw_121.2.1 lw_cw_121.2.2 ⟨rfl, rfl, by exact Nat.le_of_ble_eq_true rfl, by exact Nat.le_of_ble_eq_true rfl⟩ hro,
  List.forall_mem_cons.mpr ⟨mv_cal_of (mv_lift hi (cc_X12_image l hF)) hBg hX hR hK mv_EX_ok hF2 mv_good hst lw_cw_125.1 lw_cw_125.2.1 lw_cw_125.2.2 ⟨rfl, rfl, by exact Nat.le_of_ble_eq_true rfl, by exact Nat.le_of_ble_eq_true rfl⟩ hro,
  List.forall_mem_cons.mpr ⟨mv_cal_of (mv_lift hi (cc_X11_look l hF)) hBg hX hR hK mv_EX_ok hF2 mv_good hst lw_cw_126.1 lw_cw_126.2.1 lw_cw_126.2.2 ⟨rfl, rfl, by exact Nat.le_of_ble_eq_true rfl, by exact Nat.le_of_ble_eq_true rfl⟩ hro,
  List.forall_mem_cons.mpr ⟨mv_cal_of (mv_lift hi (cc_X12_look l hF)) hBg hX hR hK mv_EX_ok hF2 mv_good hst lw_cw_129.1 lw_cw_129.2.1 lw_cw_129.2.2 ⟨rfl, rfl, by exact Nat.le_of_ble_eq_true rfl, by exact Nat.le_of_ble_eq_true rfl⟩ hro,
  fun _ h => absurd h List.not_mem_nil⟩⟩⟩⟩⟩⟩⟩⟩⟩⟩⟩⟩⟩⟩⟩⟩⟩⟩⟩⟩⟩⟩⟩⟩⟩⟩⟩⟩⟩⟩⟩⟩⟩⟩⟩⟩⟩⟩⟩⟩⟩⟩⟩⟩⟩⟩⟩⟩⟩⟩⟩⟩⟩⟩
end MV
