theorem sh_0 : SH[0]? = some (0, 11, [5, 7, 8, 15, 20, 22, 25, 26, 31, 37, 3]) := rfl
theorem sh_1 : SH[1]? = some (0, 7, [6, 0]) := rfl
theorem sh_2 : SH[2]? = some (1, 300, []) := rfl
theorem sh_3 : SH[3]? = some (0, 6, [5, 0]) := rfl
theorem sh_4 : SH[4]? = some (0, 0, [9, 10, 3, 0, 0]) := rfl
theorem sh_5 : SH[5]? = some (1, 4096, []) := rfl
theorem sh_6 : SH[6]? = some (1, 12, []) := rfl
theorem sh_7 : SH[7]? = some (0, 1, [12, 13, 14, 0, 0]) := rfl
theorem sh_8 : SH[8]? = some (1, 144, []) := rfl
theorem sh_9 : SH[9]? = some (1, 144, []) := rfl
theorem sh_10 : SH[10]? = some (1, 144, []) := rfl
theorem sh_11 : SH[11]? = some (0, 10, [8, 16, 17, 18, 19, 0, 0, 0]) := rfl
theorem sh_12 : SH[12]? = some (1, 4096, []) := rfl
theorem sh_13 : SH[13]? = some (1, 4096, []) := rfl
theorem sh_14 : SH[14]? = some (1, 4096, []) := rfl
theorem sh_15 : SH[15]? = some (1, 4096, []) := rfl
theorem sh_16 : SH[16]? = some (0, 2, [8, 15, 21, 0, 0]) := rfl
theorem sh_17 : SH[17]? = some (1, 4096, []) := rfl
theorem sh_18 : SH[18]? = some (0, 3, [8, 15, 23, 24, 0, 0, 0]) := rfl
theorem sh_19 : SH[19]? = some (2, 4096, []) := rfl
theorem sh_20 : SH[20]? = some (1, 4096, []) := rfl
theorem sh_21 : SH[21]? = some (1, 12, []) := rfl
theorem sh_22 : SH[22]? = some (0, 4, [27, 28, 29, 30, 0, 0]) := rfl
theorem sh_23 : SH[23]? = some (1, 10, []) := rfl
theorem sh_24 : SH[24]? = some (1, 20, []) := rfl
theorem sh_25 : SH[25]? = some (1, 20, []) := rfl
theorem sh_26 : SH[26]? = some (1, 20, []) := rfl
theorem sh_27 : SH[27]? = some (0, 9, [26, 32, 33, 34, 35, 36, 0, 0, 0, 0, 0]) := rfl
theorem sh_28 : SH[28]? = some (0, 5, [0, 0]) := rfl
theorem sh_29 : SH[29]? = some (0, 5, [0, 0]) := rfl
theorem sh_30 : SH[30]? = some (0, 5, [0, 0]) := rfl
theorem sh_31 : SH[31]? = some (1, 10, []) := rfl
theorem sh_32 : SH[32]? = some (1, 10, []) := rfl
theorem sh_33 : SH[33]? = some (0, 8, [26, 38, 49, 0, 0, 0]) := rfl
theorem sh_34 : SH[34]? = some (5, 10, [35, 36, 37, 38, 39, 40, 41, 42, 43, 44]) := rfl
theorem sh_35 : SH[35]? = some (1, 201, []) := rfl
theorem sh_36 : SH[36]? = some (1, 201, []) := rfl
theorem sh_37 : SH[37]? = some (1, 201, []) := rfl
theorem sh_38 : SH[38]? = some (1, 201, []) := rfl
theorem sh_39 : SH[39]? = some (1, 201, []) := rfl
theorem sh_40 : SH[40]? = some (1, 201, []) := rfl
theorem sh_41 : SH[41]? = some (1, 201, []) := rfl
theorem sh_42 : SH[42]? = some (1, 201, []) := rfl
theorem sh_43 : SH[43]? = some (1, 201, []) := rfl
theorem sh_44 : SH[44]? = some (1, 201, []) := rfl
theorem sh_45 : SH[45]? = some (1, 20, []) := rfl
theorem sh_46 : SH[46]? = some (0, 1, [51, 52, 53, 0, 0]) := rfl
theorem sh_47 : SH[47]? = some (1, 144, []) := rfl
theorem sh_48 : SH[48]? = some (1, 144, []) := rfl
theorem sh_49 : SH[49]? = some (1, 144, []) := rfl
theorem sh_50 : SH[50]? = some (0, 12, [0, 55, 0, 56, 57, 58, 59, 60, 61, 0, 62, 63, 0, 64, 65, 66, 67, 0, 68, 69, 70, 71, 72, 73, 0, 0, 0, 0, 1, 1, 74, 75]) := rfl
theorem sh_51 : SH[51]? = some (3, 300, []) := rfl
theorem sh_52 : SH[52]? = some (1, 12, []) := rfl
theorem sh_53 : SH[53]? = some (1, 144, []) := rfl
theorem sh_54 : SH[54]? = some (1, 144, []) := rfl
theorem sh_55 : SH[55]? = some (1, 12, []) := rfl
theorem sh_56 : SH[56]? = some (1, 144, []) := rfl
theorem sh_57 : SH[57]? = some (1, 144, []) := rfl
theorem sh_58 : SH[58]? = some (2, 12, []) := rfl
theorem sh_59 : SH[59]? = some (2, 144, []) := rfl
theorem sh_60 : SH[60]? = some (1, 4096, []) := rfl
theorem sh_61 : SH[61]? = some (1, 4096, []) := rfl
theorem sh_62 : SH[62]? = some (1, 4096, []) := rfl
theorem sh_63 : SH[63]? = some (1, 4096, []) := rfl
theorem sh_64 : SH[64]? = some (2, 4096, []) := rfl
theorem sh_65 : SH[65]? = some (1, 12, []) := rfl
theorem sh_66 : SH[66]? = some (1, 10, []) := rfl
theorem sh_67 : SH[67]? = some (1, 20, []) := rfl
theorem sh_68 : SH[68]? = some (1, 20, []) := rfl
theorem sh_69 : SH[69]? = some (1, 20, []) := rfl
theorem sh_70 : SH[70]? = some (1, 2010, []) := rfl
theorem sh_71 : SH[71]? = some (1, 10, []) := rfl
theorem sh_72 : SH[72]? = some (4, 1, []) := rfl
def IsE (q : Nat) : Prop := q = 7 ∨ q = 46
def IsR (q : Nat) : Prop := q = 28 ∨ q = 29 ∨ q = 30
theorem shE {q : Nat} (h : IsE q) : SH[q]? = some (0, 1, [q + 1 + 4, q + 2 + 4, q + 3 + 4, 0, 0]) := by rcases h with rfl | rfl <;> rfl
theorem shE1 {q : Nat} (h : IsE q) : SH[q + 1]? = some (1, 144, []) := by rcases h with rfl | rfl <;> rfl
theorem shE2 {q : Nat} (h : IsE q) : SH[q + 2]? = some (1, 144, []) := by rcases h with rfl | rfl <;> rfl
theorem shE3 {q : Nat} (h : IsE q) : SH[q + 3]? = some (1, 144, []) := by rcases h with rfl | rfl <;> rfl
theorem IsE.lt {q : Nat} (h : IsE q) : q < 2 ^ 31 := by rcases h with rfl | rfl <;> decide
theorem shR {q : Nat} (h : IsR q) : SH[q]? = some (0, 5, [0, 0]) := by rcases h with rfl | rfl | rfl <;> rfl
theorem shB {i : Nat} (h : i < 10) : SH[35 + i]? = some (1, 201, []) := by
  have : ∀ i, i < 10 → SH[35 + i]? = some (1, 201, []) := by decide
  exact this i h
theorem shBo {i : Nat} (h : i < 10) : ([35, 36, 37, 38, 39, 40, 41, 42, 43, 44] : List Nat)[i]? = some (35 + i) := by
  have : ∀ i, i < 10 → ([35, 36, 37, 38, 39, 40, 41, 42, 43, 44] : List Nat)[i]? = some (35 + i) := by decide
  exact this i h
theorem gd {c : Prop} {α : Type} {a : Option α} {r : α} {h9 : Decidable c} (h : (if c then none else a) = some r) : ¬ c ∧ a = some r := by
  by_cases hc : c
  · rw [if_pos hc] at h; cases h
  · rw [if_neg hc] at h; exact ⟨hc, h⟩
theorem gp {c : Prop} {α : Type} {a : Option α} {r : α} {h9 : Decidable c} (h : (if c then a else none) = some r) : c ∧ a = some r := by
  by_cases hc : c
  · rw [if_pos hc] at h; exact ⟨hc, h⟩
  · rw [if_neg hc] at h; cases h
theorem bnd {α β : Type} {x : Option α} {f : α → Option β} {r : β} (h : x.bind f = some r) : ∃ w, x = some w ∧ f w = some r := by
  cases x with
  | none => cases h
  | some w => exact ⟨w, rfl, h⟩
theorem r2 {α β : Type} {a c : α} {b d : β} (h : some (a, b) = some (c, d)) : a = c ∧ b = d := by cases h; exact ⟨rfl, rfl⟩
theorem lay_of {C : String} {T : u_T} {N : Nat} (is : List Nat) (h : ((List.range N).all (fun k => decide (tables_1[is.getD k 0]? = some (u_lay C T k)) && goodWord (u_lay C T k))) = true) : ∀ w ∈ u_ws C T N, w ∈ LW := by
  intro w hw
  obtain ⟨k, hk, rfl⟩ := List.mem_map.mp hw
  have h1 := List.all_eq_true.mp h k hk
  simp only [Bool.and_eq_true, decide_eq_true_eq] at h1
  exact LW_i _ h1.1 h1.2
theorem lay_X0 : ∀ w ∈ u_ws RX0 TX0 5, w ∈ LW := lay_of [92, 94, 96, 98, 100] (by decide +kernel)
theorem lay_X1 : ∀ w ∈ u_ws RX1 TX1 5, w ∈ LW := lay_of [73, 75, 77, 79, 81] (by decide +kernel)
theorem lay_X2 : ∀ w ∈ u_ws RX2 TX2 5, w ∈ LW := lay_of [145, 147, 149, 151, 153] (by decide +kernel)
theorem lay_X3 : ∀ w ∈ u_ws RX3 TX3 7, w ∈ LW := lay_of [169, 171, 173, 175, 177, 179, 181] (by decide +kernel)
theorem lay_X4 : ∀ w ∈ u_ws RX4 TX4 6, w ∈ LW := lay_of [197, 199, 201, 203, 205, 207] (by decide +kernel)
theorem lay_X5 : ∀ w ∈ u_ws RX5 TX5 2, w ∈ LW := lay_of [224, 226] (by decide +kernel)
theorem lay_X6 : ∀ w ∈ u_ws RX6 TX6 2, w ∈ LW := lay_of [51, 53] (by decide +kernel)
theorem lay_X7 : ∀ w ∈ u_ws RX7 TX7 2, w ∈ LW := lay_of [37, 39] (by decide +kernel)
theorem lay_X8 : ∀ w ∈ u_ws RX8 TX8 6, w ∈ LW := lay_of [277, 279, 281, 283, 285, 287] (by decide +kernel)
theorem lay_X9 : ∀ w ∈ u_ws RX9 TX9 11, w ∈ LW := lay_of [240, 242, 244, 246, 248, 250, 252, 254, 256, 258, 260] (by decide +kernel)
theorem lay_X10 : ∀ w ∈ u_ws RX10 TX10 8, w ∈ LW := lay_of [117, 119, 121, 123, 125, 127, 129, 131] (by decide +kernel)
theorem lay_X11 : ∀ w ∈ u_ws RX11 TX11 11, w ∈ LW := lay_of [303, 305, 307, 309, 311, 313, 315, 317, 319, 321, 323] (by decide +kernel)
theorem lay_X12 : ∀ w ∈ u_ws RX12 TX12 32, w ∈ LW := lay_of [1007, 1009, 1011, 1013, 1015, 1017, 1019, 1021, 1023, 1025, 1027, 1029, 1031, 1033, 1035, 1037, 1039, 1041, 1043, 1045, 1047, 1049, 1051, 1053, 1055, 1057, 1059, 1061, 1063, 1065, 1067, 1069] (by decide +kernel)
theorem kw_J6_265 : Cond.constant RJ6 265 (1431655765) ∈ LW := LW_i 557 (by decide +kernel) rfl
theorem kw_J6_266 : Cond.constant RJ6 266 (858993459) ∈ LW := LW_i 558 (by decide +kernel) rfl
theorem kw_J6_267 : Cond.constant RJ6 267 (252645135) ∈ LW := LW_i 559 (by decide +kernel) rfl
theorem ml_L_15 : Cond.methodLink RL 15 yX11_init ∈ LW := LW_i 23 (by decide +kernel) rfl
theorem ml_L_18 : Cond.methodLink RL 18 yX12_init ∈ LW := LW_i 971 (by decide +kernel) rfl
theorem ml_L_128 : Cond.methodLink RL 128 yL_time ∈ LW := LW_i 858 (by decide +kernel) rfl
theorem ml_L_7 : Cond.methodLink RL 7 yX11_time ∈ LW := LW_i 862 (by decide +kernel) rfl
theorem ml_L_19 : Cond.methodLink RL 19 yX11_feed ∈ LW := LW_i 326 (by decide +kernel) rfl
theorem ml_L_23 : Cond.methodLink RL 23 yX12_feed ∈ LW := LW_i 1076 (by decide +kernel) rfl
theorem ml_L_24 : Cond.methodLink RL 24 yX11_end ∈ LW := LW_i 341 (by decide +kernel) rfl
theorem ml_L_28 : Cond.methodLink RL 28 yX12_end ∈ LW := LW_i 1087 (by decide +kernel) rfl
theorem ml_L_29 : Cond.methodLink RL 29 yX11_fault ∈ LW := LW_i 349 (by decide +kernel) rfl
theorem ml_L_33 : Cond.methodLink RL 33 yX12_fault ∈ LW := LW_i 1091 (by decide +kernel) rfl
theorem ml_L_34 : Cond.methodLink RL 34 yX11_circuit ∈ LW := LW_i 418 (by decide +kernel) rfl
theorem ml_L_37 : Cond.methodLink RL 37 yX12_circuit ∈ LW := LW_i 1114 (by decide +kernel) rfl
theorem ml_L_38 : Cond.methodLink RL 38 yX11_arbiter ∈ LW := LW_i 445 (by decide +kernel) rfl
theorem ml_L_42 : Cond.methodLink RL 42 yX12_arbiter ∈ LW := LW_i 1121 (by decide +kernel) rfl
theorem ml_L_43 : Cond.methodLink RL 43 yX11_stuck ∈ LW := LW_i 461 (by decide +kernel) rfl
theorem ml_L_47 : Cond.methodLink RL 47 yX12_stuck ∈ LW := LW_i 1128 (by decide +kernel) rfl
theorem ml_L_48 : Cond.methodLink RL 48 yX11_asked ∈ LW := LW_i 473 (by decide +kernel) rfl
theorem ml_L_52 : Cond.methodLink RL 52 yX12_asked ∈ LW := LW_i 1132 (by decide +kernel) rfl
theorem ml_L_53 : Cond.methodLink RL 53 yX11_states ∈ LW := LW_i 489 (by decide +kernel) rfl
theorem ml_L_56 : Cond.methodLink RL 56 yX12_states ∈ LW := LW_i 1140 (by decide +kernel) rfl
theorem ml_L_57 : Cond.methodLink RL 57 yX11_state ∈ LW := LW_i 516 (by decide +kernel) rfl
theorem ml_L_60 : Cond.methodLink RL 60 yX12_state ∈ LW := LW_i 1148 (by decide +kernel) rfl
theorem ml_L_61 : Cond.methodLink RL 61 yX11_place ∈ LW := LW_i 524 (by decide +kernel) rfl
theorem ml_L_64 : Cond.methodLink RL 64 yX12_place ∈ LW := LW_i 1152 (by decide +kernel) rfl
theorem ml_L_65 : Cond.methodLink RL 65 yX11_hazard ∈ LW := LW_i 533 (by decide +kernel) rfl
theorem ml_L_68 : Cond.methodLink RL 68 yX12_hazard ∈ LW := LW_i 1156 (by decide +kernel) rfl
theorem ml_L_69 : Cond.methodLink RL 69 yX11_stop ∈ LW := LW_i 572 (by decide +kernel) rfl
theorem ml_L_72 : Cond.methodLink RL 72 yX12_stop ∈ LW := LW_i 1164 (by decide +kernel) rfl
theorem ml_L_73 : Cond.methodLink RL 73 yX11_way ∈ LW := LW_i 580 (by decide +kernel) rfl
theorem ml_L_76 : Cond.methodLink RL 76 yX12_way ∈ LW := LW_i 1172 (by decide +kernel) rfl
theorem ml_L_77 : Cond.methodLink RL 77 yX11_change ∈ LW := LW_i 589 (by decide +kernel) rfl
theorem ml_L_80 : Cond.methodLink RL 80 yX12_change ∈ LW := LW_i 1180 (by decide +kernel) rfl
theorem ml_L_81 : Cond.methodLink RL 81 yX11_live ∈ LW := LW_i 598 (by decide +kernel) rfl
theorem ml_L_84 : Cond.methodLink RL 84 yX12_live ∈ LW := LW_i 1184 (by decide +kernel) rfl
theorem ml_L_85 : Cond.methodLink RL 85 yX11_both ∈ LW := LW_i 623 (by decide +kernel) rfl
theorem ml_L_88 : Cond.methodLink RL 88 yX12_both ∈ LW := LW_i 1188 (by decide +kernel) rfl
theorem ml_L_91 : Cond.methodLink RL 91 yX11_run ∈ LW := LW_i 631 (by decide +kernel) rfl
theorem ml_L_95 : Cond.methodLink RL 95 yX12_run ∈ LW := LW_i 1192 (by decide +kernel) rfl
theorem ml_L_96 : Cond.methodLink RL 96 yX11_changed ∈ LW := LW_i 648 (by decide +kernel) rfl
theorem ml_L_100 : Cond.methodLink RL 100 yX12_changed ∈ LW := LW_i 1206 (by decide +kernel) rfl
theorem ml_L_101 : Cond.methodLink RL 101 yX11_node ∈ LW := LW_i 652 (by decide +kernel) rfl
theorem ml_L_104 : Cond.methodLink RL 104 yX12_node ∈ LW := LW_i 1210 (by decide +kernel) rfl
theorem ml_L_105 : Cond.methodLink RL 105 yX11_arc ∈ LW := LW_i 672 (by decide +kernel) rfl
theorem ml_L_109 : Cond.methodLink RL 109 yX12_arc ∈ LW := LW_i 1214 (by decide +kernel) rfl
theorem ml_L_110 : Cond.methodLink RL 110 yX11_tokens ∈ LW := LW_i 687 (by decide +kernel) rfl
theorem ml_L_114 : Cond.methodLink RL 114 yX12_tokens ∈ LW := LW_i 1218 (by decide +kernel) rfl
theorem ml_L_115 : Cond.methodLink RL 115 yX11_clear ∈ LW := LW_i 695 (by decide +kernel) rfl
theorem ml_L_118 : Cond.methodLink RL 118 yX12_clear ∈ LW := LW_i 1222 (by decide +kernel) rfl
theorem ml_L_119 : Cond.methodLink RL 119 yX11_dead ∈ LW := LW_i 703 (by decide +kernel) rfl
theorem ml_L_122 : Cond.methodLink RL 122 yX12_dead ∈ LW := LW_i 1226 (by decide +kernel) rfl
theorem ml_L_123 : Cond.methodLink RL 123 yX11_turn ∈ LW := LW_i 724 (by decide +kernel) rfl
theorem ml_L_127 : Cond.methodLink RL 127 yX12_turn ∈ LW := LW_i 1243 (by decide +kernel) rfl
theorem ml_L_133 : Cond.methodLink RL 133 yX12_time ∈ LW := LW_i 1247 (by decide +kernel) rfl
theorem ml_L_134 : Cond.methodLink RL 134 yX12_thrown ∈ LW := LW_i 1072 (by decide +kernel) rfl
theorem ml_L_137 : Cond.methodLink RL 137 yX11_helps ∈ LW := LW_i 815 (by decide +kernel) rfl
theorem ml_L_140 : Cond.methodLink RL 140 yX12_helps ∈ LW := LW_i 1256 (by decide +kernel) rfl
theorem ml_L_141 : Cond.methodLink RL 141 yX11_count ∈ LW := LW_i 831 (by decide +kernel) rfl
theorem ml_L_144 : Cond.methodLink RL 144 yX12_count ∈ LW := LW_i 1260 (by decide +kernel) rfl
theorem kw_L_89 : Cond.constantLong RL 89 (4294967295) ∈ LW := LW_i 1264 (by decide +kernel) rfl
theorem fw_X0_9 : Fw RX0 9 0 0 := ⟨RX0, TX0, 5, rfl, by decide, lay_X0, LW_i 87 (by decide +kernel) rfl⟩
theorem fw_X0_15 : Fw RX0 15 0 1 := ⟨RX0, TX0, 5, rfl, by decide, lay_X0, LW_i 88 (by decide +kernel) rfl⟩
theorem fw_X0_21 : Fw RX0 21 0 2 := ⟨RX0, TX0, 5, rfl, by decide, lay_X0, LW_i 89 (by decide +kernel) rfl⟩
theorem fw_X0_31 : Fw RX0 31 0 3 := ⟨RX0, TX0, 5, rfl, by decide, lay_X0, LW_i 90 (by decide +kernel) rfl⟩
theorem fw_X0_35 : Fw RX0 35 0 4 := ⟨RX0, TX0, 5, rfl, by decide, lay_X0, LW_i 91 (by decide +kernel) rfl⟩
theorem mn_X0_20 : (RX0, 20, yX1_init, "GateWalk") ∈ NWL := by decide +kernel
theorem ml_X0_25 : Cond.methodLink RX0 25 yJ7_fill_53178 ∈ LW := LW_i 84 (by decide +kernel) rfl
theorem ml_X0_42 : Cond.methodLink RX0 42 yJ6_bitCount_0f7a4 ∈ LW := LW_i 642 (by decide +kernel) rfl
theorem mn_X0_51 : (RX0, 51, yX11_isIn, "GateWalk") ∈ NWL := by decide +kernel
theorem ml_X0_65 : Cond.methodLink RX0 65 yX0_signalInPlace ∈ LW := LW_i 645 (by decide +kernel) rfl
theorem ml_X0_38 : Cond.methodLink RX0 38 yX1_signals ∈ LW := LW_i 485 (by decide +kernel) rfl
theorem ml_X0_48 : Cond.methodLink RX0 48 yX1_terms ∈ LW := LW_i 843 (by decide +kernel) rfl
theorem ml_X0_55 : Cond.methodLink RX0 55 yX1_valuesIn ∈ LW := LW_i 481 (by decide +kernel) rfl
theorem ml_X0_58 : Cond.methodLink RX0 58 yX0_askedIn ∈ LW := LW_i 553 (by decide +kernel) rfl
theorem kw_X0_61 : Cond.constantLong RX0 61 (6364136223846793005) ∈ LW := LW_i 643 (by decide +kernel) rfl
theorem kw_X0_63 : Cond.constantLong RX0 63 (1442695040888963407) ∈ LW := LW_i 644 (by decide +kernel) rfl
theorem pw_X0_21 : Pw RX0 21 0 2 (.object "GateWalk$Equations") := ⟨RX0, TX0, 5, tyX0, rfl, by decide, lay_X0, LW_i 89 (by decide +kernel) rfl, tyX0_ok, nmX0, rfl, rfl⟩
theorem pw_X0_31 : Pw RX0 31 0 3 .int := ⟨RX0, TX0, 5, tyX0, rfl, by decide, lay_X0, LW_i 90 (by decide +kernel) rfl, tyX0_ok, nmX0, rfl, rfl⟩
theorem pw_X0_35 : Pw RX0 35 0 4 .int := ⟨RX0, TX0, 5, tyX0, rfl, by decide, lay_X0, LW_i 91 (by decide +kernel) rfl, tyX0_ok, nmX0, rfl, rfl⟩
theorem fw_X1_9 : Fw RX1 9 1 0 := ⟨RX1, TX1, 5, rfl, by decide, lay_X1, LW_i 68 (by decide +kernel) rfl⟩
theorem fw_X1_15 : Fw RX1 15 1 1 := ⟨RX1, TX1, 5, rfl, by decide, lay_X1, LW_i 69 (by decide +kernel) rfl⟩
theorem fw_X1_18 : Fw RX1 18 1 2 := ⟨RX1, TX1, 5, rfl, by decide, lay_X1, LW_i 70 (by decide +kernel) rfl⟩
theorem fw_X1_21 : Fw RX1 21 1 3 := ⟨RX1, TX1, 5, rfl, by decide, lay_X1, LW_i 71 (by decide +kernel) rfl⟩
theorem fw_X1_25 : Fw RX1 25 1 4 := ⟨RX1, TX1, 5, rfl, by decide, lay_X1, LW_i 72 (by decide +kernel) rfl⟩
theorem mn_X1_28 : (RX1, 28, yX11_isIn, "GateWalk") ∈ NWL := by decide +kernel
theorem ml_X1_32 : Cond.methodLink RX1 32 yX1_addTerm ∈ LW := LW_i 405 (by decide +kernel) rfl
theorem pw_X1_21 : Pw RX1 21 1 3 .int := ⟨RX1, TX1, 5, tyX1, rfl, by decide, lay_X1, LW_i 71 (by decide +kernel) rfl, tyX1_ok, nmX1, rfl, rfl⟩
theorem pw_X1_25 : Pw RX1 25 1 4 .int := ⟨RX1, TX1, 5, tyX1, rfl, by decide, lay_X1, LW_i 72 (by decide +kernel) rfl, tyX1_ok, nmX1, rfl, rfl⟩
theorem fw_X10_9 : Fw RX10 9 10 1 := ⟨RX10, TX10, 8, rfl, by decide, lay_X10, LW_i 110 (by decide +kernel) rfl⟩
theorem fw_X10_15 : Fw RX10 15 10 2 := ⟨RX10, TX10, 8, rfl, by decide, lay_X10, LW_i 111 (by decide +kernel) rfl⟩
theorem fw_X10_18 : Fw RX10 18 10 3 := ⟨RX10, TX10, 8, rfl, by decide, lay_X10, LW_i 112 (by decide +kernel) rfl⟩
theorem fw_X10_21 : Fw RX10 21 10 4 := ⟨RX10, TX10, 8, rfl, by decide, lay_X10, LW_i 113 (by decide +kernel) rfl⟩
theorem fw_X10_24 : Fw RX10 24 10 0 := ⟨RX10, TX10, 8, rfl, by decide, lay_X10, LW_i 109 (by decide +kernel) rfl⟩
theorem fw_X10_28 : Fw RX10 28 10 7 := ⟨RX10, TX10, 8, rfl, by decide, lay_X10, LW_i 116 (by decide +kernel) rfl⟩
theorem fw_X10_38 : Fw RX10 38 10 5 := ⟨RX10, TX10, 8, rfl, by decide, lay_X10, LW_i 114 (by decide +kernel) rfl⟩
theorem fw_X10_42 : Fw RX10 42 10 6 := ⟨RX10, TX10, 8, rfl, by decide, lay_X10, LW_i 115 (by decide +kernel) rfl⟩
theorem ml_X10_32 : Cond.methodLink RX10 32 yJ7_fill_53178 ∈ LW := LW_i 497 (by decide +kernel) rfl
theorem mn_X10_63 : (RX10, 63, yX11_isIn, "GateWalk") ∈ NWL := by decide +kernel
theorem mn_X10_67 : (RX10, 67, yX11_isState, "GateWalk") ∈ NWL := by decide +kernel
theorem ml_X10_45 : Cond.methodLink RX10 45 yX0_resetState ∈ LW := LW_i 498 (by decide +kernel) rfl
theorem ml_X10_51 : Cond.methodLink RX10 51 yX10_enter ∈ LW := LW_i 502 (by decide +kernel) rfl
theorem ml_X10_55 : Cond.methodLink RX10 55 yX10_goOnFrom ∈ LW := LW_i 506 (by decide +kernel) rfl
theorem ml_X10_59 : Cond.methodLink RX10 59 yX0_askedIn ∈ LW := LW_i 510 (by decide +kernel) rfl
theorem ml_X10_71 : Cond.methodLink RX10 71 yX10_placeOf ∈ LW := LW_i 588 (by decide +kernel) rfl
theorem ml_X10_74 : Cond.methodLink RX10 74 yX10_wayLength ∈ LW := LW_i 597 (by decide +kernel) rfl
theorem pw_X10_28 : Pw RX10 28 10 7 .boolean := ⟨RX10, TX10, 8, tyX10, rfl, by decide, lay_X10, LW_i 116 (by decide +kernel) rfl, tyX10_ok, nmX10, rfl, rfl⟩
theorem pw_X10_38 : Pw RX10 38 10 5 .int := ⟨RX10, TX10, 8, tyX10, rfl, by decide, lay_X10, LW_i 114 (by decide +kernel) rfl, tyX10_ok, nmX10, rfl, rfl⟩
theorem pw_X10_42 : Pw RX10 42 10 6 .int := ⟨RX10, TX10, 8, tyX10, rfl, by decide, lay_X10, LW_i 115 (by decide +kernel) rfl, tyX10_ok, nmX10, rfl, rfl⟩
theorem fw_X11_12 : Fw RX11 12 11 0 := ⟨RX11, TX11, 11, rfl, by decide, lay_X11, LW_i 292 (by decide +kernel) rfl⟩
theorem fw_X11_21 : Fw RX11 21 11 1 := ⟨RX11, TX11, 11, rfl, by decide, lay_X11, LW_i 293 (by decide +kernel) rfl⟩
theorem fw_X11_28 : Fw RX11 28 11 2 := ⟨RX11, TX11, 11, rfl, by decide, lay_X11, LW_i 294 (by decide +kernel) rfl⟩
theorem fw_X11_37 : Fw RX11 37 11 3 := ⟨RX11, TX11, 11, rfl, by decide, lay_X11, LW_i 295 (by decide +kernel) rfl⟩
theorem fw_X11_46 : Fw RX11 46 11 4 := ⟨RX11, TX11, 11, rfl, by decide, lay_X11, LW_i 296 (by decide +kernel) rfl⟩
theorem fw_X11_53 : Fw RX11 53 11 5 := ⟨RX11, TX11, 11, rfl, by decide, lay_X11, LW_i 297 (by decide +kernel) rfl⟩
theorem fw_X11_57 : Fw RX11 57 11 6 := ⟨RX11, TX11, 11, rfl, by decide, lay_X11, LW_i 298 (by decide +kernel) rfl⟩
theorem fw_X11_64 : Fw RX11 64 11 7 := ⟨RX11, TX11, 11, rfl, by decide, lay_X11, LW_i 299 (by decide +kernel) rfl⟩
theorem fw_X11_73 : Fw RX11 73 11 8 := ⟨RX11, TX11, 11, rfl, by decide, lay_X11, LW_i 300 (by decide +kernel) rfl⟩
theorem fw_X11_80 : Fw RX11 80 11 9 := ⟨RX11, TX11, 11, rfl, by decide, lay_X11, LW_i 301 (by decide +kernel) rfl⟩
theorem fw_X11_87 : Fw RX11 87 11 10 := ⟨RX11, TX11, 11, rfl, by decide, lay_X11, LW_i 302 (by decide +kernel) rfl⟩
theorem mn_X11_11 : (RX11, 11, yX7_init, "GateWalk") ∈ NWL := by decide +kernel
theorem ml_X11_18 : Cond.methodLink RX11 18 yX6_init ∈ LW := LW_i 45 (by decide +kernel) rfl
theorem ml_X11_27 : Cond.methodLink RX11 27 yX0_init ∈ LW := LW_i 58 (by decide +kernel) rfl
theorem ml_X11_34 : Cond.methodLink RX11 34 yX10_init ∈ LW := LW_i 105 (by decide +kernel) rfl
theorem ml_X11_43 : Cond.methodLink RX11 43 yX2_init ∈ LW := LW_i 136 (by decide +kernel) rfl
theorem ml_X11_52 : Cond.methodLink RX11 52 yX3_init ∈ LW := LW_i 158 (by decide +kernel) rfl
theorem mn_X11_63 : (RX11, 63, yX4_init, "GateWalk") ∈ NWL := by decide +kernel
theorem ml_X11_70 : Cond.methodLink RX11 70 yX9_init ∈ LW := LW_i 212 (by decide +kernel) rfl
theorem ml_X11_79 : Cond.methodLink RX11 79 yX8_init ∈ LW := LW_i 265 (by decide +kernel) rfl
theorem mn_X11_86 : (RX11, 86, yX1_init, "GateWalk") ∈ NWL := by decide +kernel
theorem ml_X11_91 : Cond.methodLink RX11 91 yX7_bytesIn ∈ LW := LW_i 330 (by decide +kernel) rfl
theorem ml_X11_110 : Cond.methodLink RX11 110 yX11_isState ∈ LW := LW_i 422 (by decide +kernel) rfl
theorem ml_X11_121 : Cond.methodLink RX11 121 yX11_isSignal ∈ LW := LW_i 449 (by decide +kernel) rfl
theorem ml_X11_174 : Cond.methodLink RX11 174 yX11_isRunLength ∈ LW := LW_i 635 (by decide +kernel) rfl
theorem ml_X11_95 : Cond.methodLink RX11 95 yX7_size ∈ LW := LW_i 333 (by decide +kernel) rfl
theorem ml_X11_99 : Cond.methodLink RX11 99 yX7_append ∈ LW := LW_i 337 (by decide +kernel) rfl
theorem ml_X11_103 : Cond.methodLink RX11 103 yX7_cut ∈ LW := LW_i 345 (by decide +kernel) rfl
theorem ml_X11_106 : Cond.methodLink RX11 106 yX6_read ∈ LW := LW_i 353 (by decide +kernel) rfl
theorem ml_X11_114 : Cond.methodLink RX11 114 yX0_begin ∈ LW := LW_i 425 (by decide +kernel) rfl
theorem ml_X11_118 : Cond.methodLink RX11 118 yX11_forgetWalk ∈ LW := LW_i 429 (by decide +kernel) rfl
theorem ml_X11_124 : Cond.methodLink RX11 124 yX0_isPair ∈ LW := LW_i 452 (by decide +kernel) rfl
theorem ml_X11_128 : Cond.methodLink RX11 128 yX0_turnPair ∈ LW := LW_i 457 (by decide +kernel) rfl
theorem ml_X11_132 : Cond.methodLink RX11 132 yX2_forget ∈ LW := LW_i 437 (by decide +kernel) rfl
theorem ml_X11_135 : Cond.methodLink RX11 135 yX0_isStuck ∈ LW := LW_i 465 (by decide +kernel) rfl
theorem ml_X11_138 : Cond.methodLink RX11 138 yX0_turnStuck ∈ LW := LW_i 469 (by decide +kernel) rfl
theorem ml_X11_141 : Cond.methodLink RX11 141 yX0_askedIn ∈ LW := LW_i 477 (by decide +kernel) rfl
theorem ml_X11_144 : Cond.methodLink RX11 144 yX10_renew ∈ LW := LW_i 493 (by decide +kernel) rfl
theorem ml_X11_147 : Cond.methodLink RX11 147 yX10_size ∈ LW := LW_i 512 (by decide +kernel) rfl
theorem ml_X11_148 : Cond.methodLink RX11 148 yX10_stateAt ∈ LW := LW_i 520 (by decide +kernel) rfl
theorem ml_X11_151 : Cond.methodLink RX11 151 yX10_placeOf ∈ LW := LW_i 528 (by decide +kernel) rfl
theorem ml_X11_154 : Cond.methodLink RX11 154 yX2_renew ∈ LW := LW_i 537 (by decide +kernel) rfl
theorem ml_X11_155 : Cond.methodLink RX11 155 yX2_partOf ∈ LW := LW_i 560 (by decide +kernel) rfl
theorem ml_X11_159 : Cond.methodLink RX11 159 yX10_stopAt ∈ LW := LW_i 576 (by decide +kernel) rfl
theorem ml_X11_162 : Cond.methodLink RX11 162 yX10_wayLength ∈ LW := LW_i 584 (by decide +kernel) rfl
theorem ml_X11_165 : Cond.methodLink RX11 165 yX10_wayStep ∈ LW := LW_i 593 (by decide +kernel) rfl
theorem ml_X11_168 : Cond.methodLink RX11 168 yX3_isLive ∈ LW := LW_i 602 (by decide +kernel) rfl
theorem ml_X11_171 : Cond.methodLink RX11 171 yX10_firstWithAll ∈ LW := LW_i 627 (by decide +kernel) rfl
theorem ml_X11_177 : Cond.methodLink RX11 177 yX0_runByLots ∈ LW := LW_i 638 (by decide +kernel) rfl
theorem ml_X11_181 : Cond.methodLink RX11 181 yX4_addNode ∈ LW := LW_i 656 (by decide +kernel) rfl
theorem ml_X11_184 : Cond.methodLink RX11 184 yX11_forgetRings ∈ LW := LW_i 660 (by decide +kernel) rfl
theorem ml_X11_187 : Cond.methodLink RX11 187 yX4_addArc ∈ LW := LW_i 676 (by decide +kernel) rfl
theorem ml_X11_191 : Cond.methodLink RX11 191 yX4_putTokens ∈ LW := LW_i 691 (by decide +kernel) rfl
theorem ml_X11_194 : Cond.methodLink RX11 194 yX4_removeAll ∈ LW := LW_i 699 (by decide +kernel) rfl
theorem ml_X11_197 : Cond.methodLink RX11 197 yX4_hasDeadRing ∈ LW := LW_i 707 (by decide +kernel) rfl
theorem ml_X11_203 : Cond.methodLink RX11 203 yX9_renew ∈ LW := LW_i 729 (by decide +kernel) rfl
theorem ml_X11_204 : Cond.methodLink RX11 204 yX9_numerator ∈ LW := LW_i 807 (by decide +kernel) rfl
theorem ml_X11_207 : Cond.methodLink RX11 207 yX9_denominator ∈ LW := LW_i 811 (by decide +kernel) rfl
theorem ml_X11_210 : Cond.methodLink RX11 210 yX4_isNode ∈ LW := LW_i 866 (by decide +kernel) rfl
theorem ml_X11_220 : Cond.methodLink RX11 220 yX8_fillTo ∈ LW := LW_i 933 (by decide +kernel) rfl
theorem ml_X11_223 : Cond.methodLink RX11 223 yX8_doneAt ∈ LW := LW_i 967 (by decide +kernel) rfl
theorem ml_X11_228 : Cond.methodLink RX11 228 yX9_helper ∈ LW := LW_i 819 (by decide +kernel) rfl
theorem ml_X11_231 : Cond.methodLink RX11 231 yX0_equations ∈ LW := LW_i 835 (by decide +kernel) rfl
theorem ml_X11_234 : Cond.methodLink RX11 234 yX0_terms ∈ LW := LW_i 839 (by decide +kernel) rfl
theorem ml_X11_237 : Cond.methodLink RX11 237 yX2_size ∈ LW := LW_i 847 (by decide +kernel) rfl
theorem ml_X11_238 : Cond.methodLink RX11 238 yX10_stops ∈ LW := LW_i 851 (by decide +kernel) rfl
theorem ml_X11_241 : Cond.methodLink RX11 241 yX4_nodes ∈ LW := LW_i 855 (by decide +kernel) rfl
theorem ml_X11_244 : Cond.methodLink RX11 244 yX4_arcs ∈ LW := LW_i 856 (by decide +kernel) rfl
theorem ml_X11_247 : Cond.methodLink RX11 247 yX0_resetState ∈ LW := LW_i 857 (by decide +kernel) rfl
theorem ml_X11_250 : Cond.methodLink RX11 250 yX10_forget ∈ LW := LW_i 433 (by decide +kernel) rfl
theorem ml_X11_251 : Cond.methodLink RX11 251 yX3_forget ∈ LW := LW_i 441 (by decide +kernel) rfl
theorem ml_X11_252 : Cond.methodLink RX11 252 yX9_forget ∈ LW := LW_i 664 (by decide +kernel) rfl
theorem ml_X11_253 : Cond.methodLink RX11 253 yX8_forget ∈ LW := LW_i 668 (by decide +kernel) rfl
theorem kw_X11_201 : Cond.constantLong RX11 201 (-1) ∈ LW := LW_i 728 (by decide +kernel) rfl
theorem pw_X11_87 : Pw RX11 87 11 10 (.object "GateWalk$Equations") := ⟨RX11, TX11, 11, tyX11, rfl, by decide, lay_X11, LW_i 302 (by decide +kernel) rfl, tyX11_ok, nmX11, rfl, rfl⟩
theorem fw_X12_9 : Fw RX12 9 12 1 := ⟨RX12, TX12, 32, rfl, by decide, lay_X12, LW_i 976 (by decide +kernel) rfl⟩
theorem fw_X12_13 : Fw RX12 13 12 3 := ⟨RX12, TX12, 32, rfl, by decide, lay_X12, LW_i 978 (by decide +kernel) rfl⟩
theorem fw_X12_17 : Fw RX12 17 12 4 := ⟨RX12, TX12, 32, rfl, by decide, lay_X12, LW_i 979 (by decide +kernel) rfl⟩
theorem fw_X12_20 : Fw RX12 20 12 5 := ⟨RX12, TX12, 32, rfl, by decide, lay_X12, LW_i 980 (by decide +kernel) rfl⟩
theorem fw_X12_23 : Fw RX12 23 12 6 := ⟨RX12, TX12, 32, rfl, by decide, lay_X12, LW_i 981 (by decide +kernel) rfl⟩
theorem fw_X12_26 : Fw RX12 26 12 7 := ⟨RX12, TX12, 32, rfl, by decide, lay_X12, LW_i 982 (by decide +kernel) rfl⟩
theorem fw_X12_29 : Fw RX12 29 12 8 := ⟨RX12, TX12, 32, rfl, by decide, lay_X12, LW_i 983 (by decide +kernel) rfl⟩
theorem fw_X12_32 : Fw RX12 32 12 10 := ⟨RX12, TX12, 32, rfl, by decide, lay_X12, LW_i 985 (by decide +kernel) rfl⟩
theorem fw_X12_36 : Fw RX12 36 12 11 := ⟨RX12, TX12, 32, rfl, by decide, lay_X12, LW_i 986 (by decide +kernel) rfl⟩
theorem fw_X12_39 : Fw RX12 39 12 13 := ⟨RX12, TX12, 32, rfl, by decide, lay_X12, LW_i 988 (by decide +kernel) rfl⟩
theorem fw_X12_42 : Fw RX12 42 12 14 := ⟨RX12, TX12, 32, rfl, by decide, lay_X12, LW_i 989 (by decide +kernel) rfl⟩
theorem fw_X12_45 : Fw RX12 45 12 15 := ⟨RX12, TX12, 32, rfl, by decide, lay_X12, LW_i 990 (by decide +kernel) rfl⟩
theorem fw_X12_48 : Fw RX12 48 12 16 := ⟨RX12, TX12, 32, rfl, by decide, lay_X12, LW_i 991 (by decide +kernel) rfl⟩
theorem fw_X12_51 : Fw RX12 51 12 18 := ⟨RX12, TX12, 32, rfl, by decide, lay_X12, LW_i 993 (by decide +kernel) rfl⟩
theorem fw_X12_54 : Fw RX12 54 12 19 := ⟨RX12, TX12, 32, rfl, by decide, lay_X12, LW_i 994 (by decide +kernel) rfl⟩
theorem fw_X12_57 : Fw RX12 57 12 20 := ⟨RX12, TX12, 32, rfl, by decide, lay_X12, LW_i 995 (by decide +kernel) rfl⟩
theorem fw_X12_60 : Fw RX12 60 12 21 := ⟨RX12, TX12, 32, rfl, by decide, lay_X12, LW_i 996 (by decide +kernel) rfl⟩
theorem fw_X12_63 : Fw RX12 63 12 22 := ⟨RX12, TX12, 32, rfl, by decide, lay_X12, LW_i 997 (by decide +kernel) rfl⟩
theorem fw_X12_66 : Fw RX12 66 12 23 := ⟨RX12, TX12, 32, rfl, by decide, lay_X12, LW_i 998 (by decide +kernel) rfl⟩
theorem fw_X12_69 : Fw RX12 69 12 30 := ⟨RX12, TX12, 32, rfl, by decide, lay_X12, LW_i 1005 (by decide +kernel) rfl⟩
theorem fw_X12_72 : Fw RX12 72 12 31 := ⟨RX12, TX12, 32, rfl, by decide, lay_X12, LW_i 1006 (by decide +kernel) rfl⟩
theorem fw_X12_75 : Fw RX12 75 12 0 := ⟨RX12, TX12, 32, rfl, by decide, lay_X12, LW_i 975 (by decide +kernel) rfl⟩
theorem fw_X12_79 : Fw RX12 79 12 2 := ⟨RX12, TX12, 32, rfl, by decide, lay_X12, LW_i 977 (by decide +kernel) rfl⟩
theorem fw_X12_90 : Fw RX12 90 12 12 := ⟨RX12, TX12, 32, rfl, by decide, lay_X12, LW_i 987 (by decide +kernel) rfl⟩
theorem fw_X12_114 : Fw RX12 114 12 9 := ⟨RX12, TX12, 32, rfl, by decide, lay_X12, LW_i 984 (by decide +kernel) rfl⟩
theorem fw_X12_123 : Fw RX12 123 12 17 := ⟨RX12, TX12, 32, rfl, by decide, lay_X12, LW_i 992 (by decide +kernel) rfl⟩
theorem fw_X12_156 : Fw RX12 156 12 24 := ⟨RX12, TX12, 32, rfl, by decide, lay_X12, LW_i 999 (by decide +kernel) rfl⟩
theorem fw_X12_159 : Fw RX12 159 12 25 := ⟨RX12, TX12, 32, rfl, by decide, lay_X12, LW_i 1000 (by decide +kernel) rfl⟩
theorem fw_X12_170 : Fw RX12 170 12 27 := ⟨RX12, TX12, 32, rfl, by decide, lay_X12, LW_i 1002 (by decide +kernel) rfl⟩
theorem fw_X12_173 : Fw RX12 173 12 26 := ⟨RX12, TX12, 32, rfl, by decide, lay_X12, LW_i 1001 (by decide +kernel) rfl⟩
theorem fw_X12_177 : Fw RX12 177 12 29 := ⟨RX12, TX12, 32, rfl, by decide, lay_X12, LW_i 1004 (by decide +kernel) rfl⟩
theorem fw_X12_181 : Fw RX12 181 12 28 := ⟨RX12, TX12, 32, rfl, by decide, lay_X12, LW_i 1003 (by decide +kernel) rfl⟩
theorem ml_X12_82 : Cond.methodLink RX12 82 yX12_bytesIn ∈ LW := LW_i 1080 (by decide +kernel) rfl
theorem ml_X12_101 : Cond.methodLink RX12 101 yX12_isLetter ∈ LW := LW_i 1107 (by decide +kernel) rfl
theorem ml_X12_111 : Cond.methodLink RX12 111 yX12_isState ∈ LW := LW_i 1118 (by decide +kernel) rfl
theorem ml_X12_117 : Cond.methodLink RX12 117 yX12_isSignal ∈ LW := LW_i 1125 (by decide +kernel) rfl
theorem ml_X12_143 : Cond.methodLink RX12 143 yJ6_bitCount_0f7a4 ∈ LW := LW_i 1205 (by decide +kernel) rfl
theorem ml_X12_148 : Cond.methodLink RX12 148 yX12_isIn ∈ LW := LW_i 1196 (by decide +kernel) rfl
theorem ml_X12_189 : Cond.methodLink RX12 189 yJ9_max_7cf53 ∈ LW := LW_i 1255 (by decide +kernel) rfl
theorem ml_X12_86 : Cond.methodLink RX12 86 yX12_put ∈ LW := LW_i 1083 (by decide +kernel) rfl
theorem ml_X12_93 : Cond.methodLink RX12 93 yX12_look ∈ LW := LW_i 1099 (by decide +kernel) rfl
theorem ml_X12_97 : Cond.methodLink RX12 97 yX12_equation ∈ LW := LW_i 1103 (by decide +kernel) rfl
theorem ml_X12_105 : Cond.methodLink RX12 105 yX12_term ∈ LW := LW_i 1110 (by decide +kernel) rfl
theorem ml_X12_108 : Cond.methodLink RX12 108 yX12_read ∈ LW := LW_i 1095 (by decide +kernel) rfl
theorem ml_X12_120 : Cond.methodLink RX12 120 yX12_askedIn ∈ LW := LW_i 1136 (by decide +kernel) rfl
theorem ml_X12_126 : Cond.methodLink RX12 126 yX12_walks ∈ LW := LW_i 1144 (by decide +kernel) rfl
theorem ml_X12_129 : Cond.methodLink RX12 129 yX12_hazardOf ∈ LW := LW_i 1160 (by decide +kernel) rfl
theorem ml_X12_133 : Cond.methodLink RX12 133 yX12_stopOf ∈ LW := LW_i 1168 (by decide +kernel) rfl
theorem ml_X12_136 : Cond.methodLink RX12 136 yX12_wayLong ∈ LW := LW_i 1176 (by decide +kernel) rfl
theorem ml_X12_152 : Cond.methodLink RX12 152 yX12_runs ∈ LW := LW_i 1199 (by decide +kernel) rfl
theorem ml_X12_162 : Cond.methodLink RX12 162 yX12_ring ∈ LW := LW_i 1239 (by decide +kernel) rfl
theorem ml_X12_166 : Cond.methodLink RX12 166 yX12_round ∈ LW := LW_i 1235 (by decide +kernel) rfl
theorem ml_X12_186 : Cond.methodLink RX12 186 yX12_goRound ∈ LW := LW_i 1230 (by decide +kernel) rfl
theorem ml_X12_194 : Cond.methodLink RX12 194 yX12_times ∈ LW := LW_i 1251 (by decide +kernel) rfl
theorem kw_X12_139 : Cond.constantLong RX12 139 (6364136223846793005) ∈ LW := LW_i 1203 (by decide +kernel) rfl
theorem kw_X12_141 : Cond.constantLong RX12 141 (1442695040888963407) ∈ LW := LW_i 1204 (by decide +kernel) rfl
theorem kw_X12_184 : Cond.constantLong RX12 184 (-1) ∈ LW := LW_i 1234 (by decide +kernel) rfl
theorem pw_X12_75 : Pw RX12 75 12 0 .int := ⟨RX12, TX12, 32, tyX12, rfl, by decide, lay_X12, LW_i 975 (by decide +kernel) rfl, tyX12_ok, nmX12, rfl, rfl⟩
theorem pw_X12_79 : Pw RX12 79 12 2 .int := ⟨RX12, TX12, 32, tyX12, rfl, by decide, lay_X12, LW_i 977 (by decide +kernel) rfl, tyX12_ok, nmX12, rfl, rfl⟩
theorem pw_X12_90 : Pw RX12 90 12 12 .int := ⟨RX12, TX12, 32, tyX12, rfl, by decide, lay_X12, LW_i 987 (by decide +kernel) rfl, tyX12_ok, nmX12, rfl, rfl⟩
theorem pw_X12_114 : Pw RX12 114 12 9 .int := ⟨RX12, TX12, 32, tyX12, rfl, by decide, lay_X12, LW_i 984 (by decide +kernel) rfl, tyX12_ok, nmX12, rfl, rfl⟩
theorem pw_X12_123 : Pw RX12 123 12 17 .int := ⟨RX12, TX12, 32, tyX12, rfl, by decide, lay_X12, LW_i 992 (by decide +kernel) rfl, tyX12_ok, nmX12, rfl, rfl⟩
theorem pw_X12_156 : Pw RX12 156 12 24 .int := ⟨RX12, TX12, 32, tyX12, rfl, by decide, lay_X12, LW_i 999 (by decide +kernel) rfl, tyX12_ok, nmX12, rfl, rfl⟩
theorem pw_X12_159 : Pw RX12 159 12 25 .int := ⟨RX12, TX12, 32, tyX12, rfl, by decide, lay_X12, LW_i 1000 (by decide +kernel) rfl, tyX12_ok, nmX12, rfl, rfl⟩
theorem pw_X12_170 : Pw RX12 170 12 27 .int := ⟨RX12, TX12, 32, tyX12, rfl, by decide, lay_X12, LW_i 1002 (by decide +kernel) rfl, tyX12_ok, nmX12, rfl, rfl⟩
theorem pw_X12_173 : Pw RX12 173 12 26 .boolean := ⟨RX12, TX12, 32, tyX12, rfl, by decide, lay_X12, LW_i 1001 (by decide +kernel) rfl, tyX12_ok, nmX12, rfl, rfl⟩
theorem pw_X12_177 : Pw RX12 177 12 29 .long := ⟨RX12, TX12, 32, tyX12, rfl, by decide, lay_X12, LW_i 1004 (by decide +kernel) rfl, tyX12_ok, nmX12, rfl, rfl⟩
theorem pw_X12_181 : Pw RX12 181 12 28 .long := ⟨RX12, TX12, 32, tyX12, rfl, by decide, lay_X12, LW_i 1003 (by decide +kernel) rfl, tyX12_ok, nmX12, rfl, rfl⟩
theorem fw_X2_9 : Fw RX2 9 2 2 := ⟨RX2, TX2, 5, rfl, by decide, lay_X2, LW_i 142 (by decide +kernel) rfl⟩
theorem fw_X2_15 : Fw RX2 15 2 0 := ⟨RX2, TX2, 5, rfl, by decide, lay_X2, LW_i 140 (by decide +kernel) rfl⟩
theorem fw_X2_19 : Fw RX2 19 2 1 := ⟨RX2, TX2, 5, rfl, by decide, lay_X2, LW_i 141 (by decide +kernel) rfl⟩
theorem fw_X2_23 : Fw RX2 23 2 4 := ⟨RX2, TX2, 5, rfl, by decide, lay_X2, LW_i 144 (by decide +kernel) rfl⟩
theorem fw_X2_27 : Fw RX2 27 2 3 := ⟨RX2, TX2, 5, rfl, by decide, lay_X2, LW_i 143 (by decide +kernel) rfl⟩
theorem mn_X2_48 : (RX2, 48, yX11_isIn, "GateWalk") ∈ NWL := by decide +kernel
theorem ml_X2_56 : Cond.methodLink RX2 56 yJ6_bitCount_0f7a4 ∈ LW := LW_i 554 (by decide +kernel) rfl
theorem ml_X2_31 : Cond.methodLink RX2 31 yX10_size ∈ LW := LW_i 541 (by decide +kernel) rfl
theorem ml_X2_36 : Cond.methodLink RX2 36 yX10_stateAt ∈ LW := LW_i 542 (by decide +kernel) rfl
theorem ml_X2_40 : Cond.methodLink RX2 40 yX2_hazardsIn ∈ LW := LW_i 543 (by decide +kernel) rfl
theorem ml_X2_43 : Cond.methodLink RX2 43 yX0_askedIn ∈ LW := LW_i 547 (by decide +kernel) rfl
theorem ml_X2_52 : Cond.methodLink RX2 52 yX0_takenBackBy ∈ LW := LW_i 549 (by decide +kernel) rfl
theorem ml_X2_61 : Cond.methodLink RX2 61 yX2_placeWith ∈ LW := LW_i 564 (by decide +kernel) rfl
theorem ml_X2_64 : Cond.methodLink RX2 64 yX2_signalOf ∈ LW := LW_i 568 (by decide +kernel) rfl
theorem pw_X2_23 : Pw RX2 23 2 4 .boolean := ⟨RX2, TX2, 5, tyX2, rfl, by decide, lay_X2, LW_i 144 (by decide +kernel) rfl, tyX2_ok, nmX2, rfl, rfl⟩
theorem pw_X2_27 : Pw RX2 27 2 3 .int := ⟨RX2, TX2, 5, tyX2, rfl, by decide, lay_X2, LW_i 143 (by decide +kernel) rfl, tyX2_ok, nmX2, rfl, rfl⟩
theorem fw_X3_9 : Fw RX3 9 3 2 := ⟨RX3, TX3, 7, rfl, by decide, lay_X3, LW_i 164 (by decide +kernel) rfl⟩
theorem fw_X3_15 : Fw RX3 15 3 3 := ⟨RX3, TX3, 7, rfl, by decide, lay_X3, LW_i 165 (by decide +kernel) rfl⟩
theorem fw_X3_19 : Fw RX3 19 3 0 := ⟨RX3, TX3, 7, rfl, by decide, lay_X3, LW_i 162 (by decide +kernel) rfl⟩
theorem fw_X3_23 : Fw RX3 23 3 1 := ⟨RX3, TX3, 7, rfl, by decide, lay_X3, LW_i 163 (by decide +kernel) rfl⟩
theorem fw_X3_27 : Fw RX3 27 3 5 := ⟨RX3, TX3, 7, rfl, by decide, lay_X3, LW_i 167 (by decide +kernel) rfl⟩
theorem fw_X3_31 : Fw RX3 31 3 6 := ⟨RX3, TX3, 7, rfl, by decide, lay_X3, LW_i 168 (by decide +kernel) rfl⟩
theorem fw_X3_42 : Fw RX3 42 3 4 := ⟨RX3, TX3, 7, rfl, by decide, lay_X3, LW_i 166 (by decide +kernel) rfl⟩
theorem mn_X3_34 : (RX3, 34, yX11_isIn, "GateWalk") ∈ NWL := by decide +kernel
theorem ml_X3_38 : Cond.methodLink RX3 38 yX3_leadsThereFromAll ∈ LW := LW_i 607 (by decide +kernel) rfl
theorem ml_X3_45 : Cond.methodLink RX3 45 yX10_size ∈ LW := LW_i 611 (by decide +kernel) rfl
theorem ml_X3_51 : Cond.methodLink RX3 51 yX10_stateAt ∈ LW := LW_i 612 (by decide +kernel) rfl
theorem ml_X3_55 : Cond.methodLink RX3 55 yX0_askedIn ∈ LW := LW_i 613 (by decide +kernel) rfl
theorem ml_X3_60 : Cond.methodLink RX3 60 yX3_find ∈ LW := LW_i 614 (by decide +kernel) rfl
theorem ml_X3_64 : Cond.methodLink RX3 64 yX3_goBackFrom ∈ LW := LW_i 618 (by decide +kernel) rfl
theorem ml_X3_67 : Cond.methodLink RX3 67 yX10_placeOf ∈ LW := LW_i 622 (by decide +kernel) rfl
theorem pw_X3_27 : Pw RX3 27 3 5 .int := ⟨RX3, TX3, 7, tyX3, rfl, by decide, lay_X3, LW_i 167 (by decide +kernel) rfl, tyX3_ok, nmX3, rfl, rfl⟩
theorem pw_X3_31 : Pw RX3 31 3 6 .int := ⟨RX3, TX3, 7, tyX3, rfl, by decide, lay_X3, LW_i 168 (by decide +kernel) rfl, tyX3_ok, nmX3, rfl, rfl⟩
theorem pw_X3_42 : Pw RX3 42 3 4 .int := ⟨RX3, TX3, 7, tyX3, rfl, by decide, lay_X3, LW_i 166 (by decide +kernel) rfl, tyX3_ok, nmX3, rfl, rfl⟩
theorem fw_X4_9 : Fw RX4 9 4 0 := ⟨RX4, TX4, 6, rfl, by decide, lay_X4, LW_i 191 (by decide +kernel) rfl⟩
theorem fw_X4_15 : Fw RX4 15 4 1 := ⟨RX4, TX4, 6, rfl, by decide, lay_X4, LW_i 192 (by decide +kernel) rfl⟩
theorem fw_X4_18 : Fw RX4 18 4 2 := ⟨RX4, TX4, 6, rfl, by decide, lay_X4, LW_i 193 (by decide +kernel) rfl⟩
theorem fw_X4_21 : Fw RX4 21 4 3 := ⟨RX4, TX4, 6, rfl, by decide, lay_X4, LW_i 194 (by decide +kernel) rfl⟩
theorem fw_X4_24 : Fw RX4 24 4 4 := ⟨RX4, TX4, 6, rfl, by decide, lay_X4, LW_i 195 (by decide +kernel) rfl⟩
theorem fw_X4_28 : Fw RX4 28 4 5 := ⟨RX4, TX4, 6, rfl, by decide, lay_X4, LW_i 196 (by decide +kernel) rfl⟩
theorem ml_X4_35 : Cond.methodLink RX4 35 yX4_isTokens ∈ LW := LW_i 684 (by decide +kernel) rfl
theorem mn_X4_50 : (RX4, 50, yX11_isIn, "GateWalk") ∈ NWL := by decide +kernel
theorem ml_X4_31 : Cond.methodLink RX4 31 yX4_isNode ∈ LW := LW_i 680 (by decide +kernel) rfl
theorem ml_X4_38 : Cond.methodLink RX4 38 yX4_nodesBehindRings ∈ LW := LW_i 711 (by decide +kernel) rfl
theorem ml_X4_42 : Cond.methodLink RX4 42 yX4_freedBy ∈ LW := LW_i 715 (by decide +kernel) rfl
theorem ml_X4_46 : Cond.methodLink RX4 46 yX4_allNodes ∈ LW := LW_i 720 (by decide +kernel) rfl
theorem pw_X4_24 : Pw RX4 24 4 4 .int := ⟨RX4, TX4, 6, tyX4, rfl, by decide, lay_X4, LW_i 195 (by decide +kernel) rfl, tyX4_ok, nmX4, rfl, rfl⟩
theorem pw_X4_28 : Pw RX4 28 4 5 .int := ⟨RX4, TX4, 6, tyX4, rfl, by decide, lay_X4, LW_i 196 (by decide +kernel) rfl, tyX4_ok, nmX4, rfl, rfl⟩
theorem fw_X5_9 : Fw RX5 9 5 1 := ⟨RX5, TX5, 2, rfl, by decide, lay_X5, LW_i 223 (by decide +kernel) rfl⟩
theorem fw_X5_15 : Fw RX5 15 5 0 := ⟨RX5, TX5, 2, rfl, by decide, lay_X5, LW_i 222 (by decide +kernel) rfl⟩
theorem ml_X5_18 : Cond.methodLink RX5 18 yX5_commonDivisor ∈ LW := LW_i 804 (by decide +kernel) rfl
theorem pw_X5_9 : Pw RX5 9 5 1 .int := ⟨RX5, TX5, 2, tyX5, rfl, by decide, lay_X5, LW_i 223 (by decide +kernel) rfl, tyX5_ok, nmX5, rfl, rfl⟩
theorem pw_X5_15 : Pw RX5 15 5 0 .int := ⟨RX5, TX5, 2, tyX5, rfl, by decide, lay_X5, LW_i 222 (by decide +kernel) rfl, tyX5_ok, nmX5, rfl, rfl⟩
theorem fw_X6_9 : Fw RX6 9 6 0 := ⟨RX6, TX6, 2, rfl, by decide, lay_X6, LW_i 49 (by decide +kernel) rfl⟩
theorem fw_X6_26 : Fw RX6 26 6 1 := ⟨RX6, TX6, 2, rfl, by decide, lay_X6, LW_i 50 (by decide +kernel) rfl⟩
theorem ml_X6_15 : Cond.methodLink RX6 15 yX1_removeAll ∈ LW := LW_i 357 (by decide +kernel) rfl
theorem ml_X6_20 : Cond.methodLink RX6 20 yX7_pastBlanks ∈ LW := LW_i 361 (by decide +kernel) rfl
theorem ml_X6_30 : Cond.methodLink RX6 30 yX6_isAtEnd ∈ LW := LW_i 365 (by decide +kernel) rfl
theorem ml_X6_34 : Cond.methodLink RX6 34 yX6_readEquation ∈ LW := LW_i 370 (by decide +kernel) rfl
theorem ml_X6_38 : Cond.methodLink RX6 38 yX6_isOn ∈ LW := LW_i 393 (by decide +kernel) rfl
theorem ml_X6_42 : Cond.methodLink RX6 42 yX6_step ∈ LW := LW_i 389 (by decide +kernel) rfl
theorem ml_X6_45 : Cond.methodLink RX6 45 yX6_signalHere ∈ LW := LW_i 374 (by decide +kernel) rfl
theorem ml_X6_49 : Cond.methodLink RX6 49 yX1_has ∈ LW := LW_i 382 (by decide +kernel) rfl
theorem ml_X6_53 : Cond.methodLink RX6 53 yX1_addEquation ∈ LW := LW_i 397 (by decide +kernel) rfl
theorem ml_X6_57 : Cond.methodLink RX6 57 yX1_addConstant ∈ LW := LW_i 401 (by decide +kernel) rfl
theorem ml_X6_61 : Cond.methodLink RX6 61 yX6_readTerms ∈ LW := LW_i 409 (by decide +kernel) rfl
theorem ml_X6_65 : Cond.methodLink RX6 65 yX6_readTerm ∈ LW := LW_i 413 (by decide +kernel) rfl
theorem ml_X6_68 : Cond.methodLink RX6 68 yX1_addTerm ∈ LW := LW_i 417 (by decide +kernel) rfl
theorem ml_X6_72 : Cond.methodLink RX6 72 yX7_byteAt ∈ LW := LW_i 378 (by decide +kernel) rfl
theorem ml_X6_75 : Cond.methodLink RX6 75 yX7_size ∈ LW := LW_i 369 (by decide +kernel) rfl
theorem pw_X6_26 : Pw RX6 26 6 1 .int := ⟨RX6, TX6, 2, tyX6, rfl, by decide, lay_X6, LW_i 50 (by decide +kernel) rfl, tyX6_ok, nmX6, rfl, rfl⟩
theorem fw_X7_9 : Fw RX7 9 7 0 := ⟨RX7, TX7, 2, rfl, by decide, lay_X7, LW_i 35 (by decide +kernel) rfl⟩
theorem fw_X7_15 : Fw RX7 15 7 1 := ⟨RX7, TX7, 2, rfl, by decide, lay_X7, LW_i 36 (by decide +kernel) rfl⟩
theorem pw_X7_15 : Pw RX7 15 7 1 .int := ⟨RX7, TX7, 2, tyX7, rfl, by decide, lay_X7, LW_i 36 (by decide +kernel) rfl, tyX7_ok, nmX7, rfl, rfl⟩
theorem fw_X8_11 : Fw RX8 11 8 1 := ⟨RX8, TX8, 6, rfl, by decide, lay_X8, LW_i 272 (by decide +kernel) rfl⟩
theorem fw_X8_16 : Fw RX8 16 8 2 := ⟨RX8, TX8, 6, rfl, by decide, lay_X8, LW_i 273 (by decide +kernel) rfl⟩
theorem fw_X8_20 : Fw RX8 20 8 0 := ⟨RX8, TX8, 6, rfl, by decide, lay_X8, LW_i 271 (by decide +kernel) rfl⟩
theorem fw_X8_24 : Fw RX8 24 8 5 := ⟨RX8, TX8, 6, rfl, by decide, lay_X8, LW_i 276 (by decide +kernel) rfl⟩
theorem fw_X8_41 : Fw RX8 41 8 3 := ⟨RX8, TX8, 6, rfl, by decide, lay_X8, LW_i 274 (by decide +kernel) rfl⟩
theorem fw_X8_44 : Fw RX8 44 8 4 := ⟨RX8, TX8, 6, rfl, by decide, lay_X8, LW_i 275 (by decide +kernel) rfl⟩
theorem mn_X8_64 : (RX8, 64, yX11_isIn, "GateWalk") ∈ NWL := by decide +kernel
theorem ml_X8_77 : Cond.methodLink RX8 77 yX8_later ∈ LW := LW_i 961 (by decide +kernel) rfl
theorem ml_X8_80 : Cond.methodLink RX8 80 yJ9_max_7cf53 ∈ LW := LW_i 964 (by decide +kernel) rfl
theorem ml_X8_28 : Cond.methodLink RX8 28 yX8_orderArcs ∈ LW := LW_i 937 (by decide +kernel) rfl
theorem ml_X8_31 : Cond.methodLink RX8 31 yX8_fill ∈ LW := LW_i 950 (by decide +kernel) rfl
theorem ml_X8_35 : Cond.methodLink RX8 35 yX4_delayOf ∈ LW := LW_i 960 (by decide +kernel) rfl
theorem ml_X8_47 : Cond.methodLink RX8 47 yX4_nodes ∈ LW := LW_i 941 (by decide +kernel) rfl
theorem ml_X8_51 : Cond.methodLink RX8 51 yX4_freedBy ∈ LW := LW_i 942 (by decide +kernel) rfl
theorem ml_X8_55 : Cond.methodLink RX8 55 yX8_appendArcsTo ∈ LW := LW_i 943 (by decide +kernel) rfl
theorem ml_X8_58 : Cond.methodLink RX8 58 yX4_arcs ∈ LW := LW_i 947 (by decide +kernel) rfl
theorem ml_X8_61 : Cond.methodLink RX8 61 yX4_targetOf ∈ LW := LW_i 948 (by decide +kernel) rfl
theorem ml_X8_68 : Cond.methodLink RX8 68 yX4_sourceOf ∈ LW := LW_i 954 (by decide +kernel) rfl
theorem ml_X8_71 : Cond.methodLink RX8 71 yX4_tokensOf ∈ LW := LW_i 955 (by decide +kernel) rfl
theorem ml_X8_74 : Cond.methodLink RX8 74 yX8_doneAt ∈ LW := LW_i 956 (by decide +kernel) rfl
theorem pw_X8_24 : Pw RX8 24 8 5 .int := ⟨RX8, TX8, 6, tyX8, rfl, by decide, lay_X8, LW_i 276 (by decide +kernel) rfl, tyX8_ok, nmX8, rfl, rfl⟩
theorem pw_X8_41 : Pw RX8 41 8 3 .int := ⟨RX8, TX8, 6, tyX8, rfl, by decide, lay_X8, LW_i 274 (by decide +kernel) rfl, tyX8_ok, nmX8, rfl, rfl⟩
theorem pw_X8_44 : Pw RX8 44 8 4 .int := ⟨RX8, TX8, 6, tyX8, rfl, by decide, lay_X8, LW_i 275 (by decide +kernel) rfl, tyX8_ok, nmX8, rfl, rfl⟩
theorem fw_X9_12 : Fw RX9 12 9 1 := ⟨RX9, TX9, 11, rfl, by decide, lay_X9, LW_i 230 (by decide +kernel) rfl⟩
theorem fw_X9_18 : Fw RX9 18 9 2 := ⟨RX9, TX9, 11, rfl, by decide, lay_X9, LW_i 231 (by decide +kernel) rfl⟩
theorem fw_X9_21 : Fw RX9 21 9 3 := ⟨RX9, TX9, 11, rfl, by decide, lay_X9, LW_i 232 (by decide +kernel) rfl⟩
theorem fw_X9_24 : Fw RX9 24 9 4 := ⟨RX9, TX9, 11, rfl, by decide, lay_X9, LW_i 233 (by decide +kernel) rfl⟩
theorem fw_X9_28 : Fw RX9 28 9 5 := ⟨RX9, TX9, 11, rfl, by decide, lay_X9, LW_i 234 (by decide +kernel) rfl⟩
theorem fw_X9_31 : Fw RX9 31 9 10 := ⟨RX9, TX9, 11, rfl, by decide, lay_X9, LW_i 239 (by decide +kernel) rfl⟩
theorem fw_X9_35 : Fw RX9 35 9 0 := ⟨RX9, TX9, 11, rfl, by decide, lay_X9, LW_i 229 (by decide +kernel) rfl⟩
theorem fw_X9_39 : Fw RX9 39 9 6 := ⟨RX9, TX9, 11, rfl, by decide, lay_X9, LW_i 235 (by decide +kernel) rfl⟩
theorem fw_X9_43 : Fw RX9 43 9 8 := ⟨RX9, TX9, 11, rfl, by decide, lay_X9, LW_i 237 (by decide +kernel) rfl⟩
theorem fw_X9_55 : Fw RX9 55 9 7 := ⟨RX9, TX9, 11, rfl, by decide, lay_X9, LW_i 236 (by decide +kernel) rfl⟩
theorem fw_X9_69 : Fw RX9 69 9 9 := ⟨RX9, TX9, 11, rfl, by decide, lay_X9, LW_i 238 (by decide +kernel) rfl⟩
theorem mn_X9_11 : (RX9, 11, yX5_init, "GateWalk") ∈ NWL := by decide +kernel
theorem ml_X9_98 : Cond.methodLink RX9 98 yJ7_fill_53178 ∈ LW := LW_i 751 (by decide +kernel) rfl
theorem ml_X9_46 : Cond.methodLink RX9 46 yX4_hasRing ∈ LW := LW_i 733 (by decide +kernel) rfl
theorem ml_X9_52 : Cond.methodLink RX9 52 yX4_hasDeadRing ∈ LW := LW_i 737 (by decide +kernel) rfl
theorem ml_X9_58 : Cond.methodLink RX9 58 yX9_findGreatest ∈ LW := LW_i 738 (by decide +kernel) rfl
theorem ml_X9_62 : Cond.methodLink RX9 62 yX5_top ∈ LW := LW_i 776 (by decide +kernel) rfl
theorem ml_X9_66 : Cond.methodLink RX9 66 yX5_bottom ∈ LW := LW_i 768 (by decide +kernel) rfl
theorem ml_X9_72 : Cond.methodLink RX9 72 yX5_putAs ∈ LW := LW_i 823 (by decide +kernel) rfl
theorem ml_X9_75 : Cond.methodLink RX9 75 yX4_arcs ∈ LW := LW_i 760 (by decide +kernel) rfl
theorem ml_X9_78 : Cond.methodLink RX9 78 yX5_isLess ∈ LW := LW_i 827 (by decide +kernel) rfl
theorem ml_X9_82 : Cond.methodLink RX9 82 yX5_putBelowAll ∈ LW := LW_i 742 (by decide +kernel) rfl
theorem ml_X9_86 : Cond.methodLink RX9 86 yX9_nodeBehindGreaterRing ∈ LW := LW_i 747 (by decide +kernel) rfl
theorem ml_X9_90 : Cond.methodLink RX9 90 yX9_nodeOnRing ∈ LW := LW_i 792 (by decide +kernel) rfl
theorem ml_X9_94 : Cond.methodLink RX9 94 yX9_putRing ∈ LW := LW_i 796 (by decide +kernel) rfl
theorem ml_X9_104 : Cond.methodLink RX9 104 yX4_nodes ∈ LW := LW_i 752 (by decide +kernel) rfl
theorem ml_X9_107 : Cond.methodLink RX9 107 yX9_growPaths ∈ LW := LW_i 756 (by decide +kernel) rfl
theorem ml_X9_110 : Cond.methodLink RX9 110 yX4_targetOf ∈ LW := LW_i 764 (by decide +kernel) rfl
theorem ml_X9_113 : Cond.methodLink RX9 113 yX4_delayOf ∈ LW := LW_i 772 (by decide +kernel) rfl
theorem ml_X9_116 : Cond.methodLink RX9 116 yX9_tokensOn ∈ LW := LW_i 780 (by decide +kernel) rfl
theorem ml_X9_119 : Cond.methodLink RX9 119 yX4_sourceOf ∈ LW := LW_i 788 (by decide +kernel) rfl
theorem ml_X9_122 : Cond.methodLink RX9 122 yX4_tokensOf ∈ LW := LW_i 784 (by decide +kernel) rfl
theorem ml_X9_125 : Cond.methodLink RX9 125 yX5_put ∈ LW := LW_i 800 (by decide +kernel) rfl
theorem kw_X9_85 : Cond.constant RX9 85 (1000000) ∈ LW := LW_i 746 (by decide +kernel) rfl
theorem pw_X9_31 : Pw RX9 31 9 10 .int := ⟨RX9, TX9, 11, tyX9, rfl, by decide, lay_X9, LW_i 239 (by decide +kernel) rfl, tyX9_ok, nmX9, rfl, rfl⟩
theorem pw_X9_39 : Pw RX9 39 9 6 .boolean := ⟨RX9, TX9, 11, tyX9, rfl, by decide, lay_X9, LW_i 235 (by decide +kernel) rfl, tyX9_ok, nmX9, rfl, rfl⟩
theorem pw_X9_43 : Pw RX9 43 9 8 .boolean := ⟨RX9, TX9, 11, tyX9, rfl, by decide, lay_X9, LW_i 237 (by decide +kernel) rfl, tyX9_ok, nmX9, rfl, rfl⟩
theorem pw_X9_55 : Pw RX9 55 9 7 .boolean := ⟨RX9, TX9, 11, tyX9, rfl, by decide, lay_X9, LW_i 236 (by decide +kernel) rfl, tyX9_ok, nmX9, rfl, rfl⟩
theorem pw_X9_69 : Pw RX9 69 9 9 .int := ⟨RX9, TX9, 11, tyX9, rfl, by decide, lay_X9, LW_i 238 (by decide +kernel) rfl, tyX9_ok, nmX9, rfl, rfl⟩
theorem cw_X0_init : Cw yX0_init cX0_init 1 none 0 := ⟨LW_i 4 (by decide +kernel) rfl, LW_i 60 (by decide +kernel) rfl, by decide +kernel⟩
theorem cw_X0_begin : Cw yX0_begin cX0_begin 4 (some (.object "GateWalk$Equations")) 2 := ⟨LW_i 4 (by decide +kernel) rfl, LW_i 428 (by decide +kernel) rfl, by decide +kernel⟩
theorem vw_X0_begin : Vw yX0_begin := ⟨LW_i 426 (by decide +kernel) rfl, LW_i 427 (by decide +kernel) rfl⟩
theorem cw_X0_equations : Cw yX0_equations cX0_equations 1 (some .int) 0 := ⟨LW_i 4 (by decide +kernel) rfl, LW_i 838 (by decide +kernel) rfl, by decide +kernel⟩
theorem vw_X0_equations : Vw yX0_equations := ⟨LW_i 836 (by decide +kernel) rfl, LW_i 837 (by decide +kernel) rfl⟩
theorem cw_X0_terms : Cw yX0_terms cX0_terms 1 (some .int) 0 := ⟨LW_i 4 (by decide +kernel) rfl, LW_i 842 (by decide +kernel) rfl, by decide +kernel⟩
theorem vw_X0_terms : Vw yX0_terms := ⟨LW_i 840 (by decide +kernel) rfl, LW_i 841 (by decide +kernel) rfl⟩
theorem cw_X0_resetState : Cw yX0_resetState cX0_resetState 1 (some .int) 0 := ⟨LW_i 4 (by decide +kernel) rfl, LW_i 501 (by decide +kernel) rfl, by decide +kernel⟩
theorem vw_X0_resetState : Vw yX0_resetState := ⟨LW_i 499 (by decide +kernel) rfl, LW_i 500 (by decide +kernel) rfl⟩
theorem cw_X0_isPair : Cw yX0_isPair cX0_isPair 3 (some .boolean) 2 := ⟨LW_i 4 (by decide +kernel) rfl, LW_i 455 (by decide +kernel) rfl, by decide +kernel⟩
theorem vw_X0_isPair : Vw yX0_isPair := ⟨LW_i 453 (by decide +kernel) rfl, LW_i 454 (by decide +kernel) rfl⟩
theorem cw_X0_turnPair : Cw yX0_turnPair cX0_turnPair 3 none 2 := ⟨LW_i 4 (by decide +kernel) rfl, LW_i 460 (by decide +kernel) rfl, by decide +kernel⟩
theorem vw_X0_turnPair : Vw yX0_turnPair := ⟨LW_i 458 (by decide +kernel) rfl, LW_i 459 (by decide +kernel) rfl⟩
theorem cw_X0_isStuck : Cw yX0_isStuck cX0_isStuck 2 (some .boolean) 1 := ⟨LW_i 4 (by decide +kernel) rfl, LW_i 468 (by decide +kernel) rfl, by decide +kernel⟩
theorem vw_X0_isStuck : Vw yX0_isStuck := ⟨LW_i 466 (by decide +kernel) rfl, LW_i 467 (by decide +kernel) rfl⟩
theorem cw_X0_turnStuck : Cw yX0_turnStuck cX0_turnStuck 2 none 1 := ⟨LW_i 4 (by decide +kernel) rfl, LW_i 472 (by decide +kernel) rfl, by decide +kernel⟩
theorem vw_X0_turnStuck : Vw yX0_turnStuck := ⟨LW_i 470 (by decide +kernel) rfl, LW_i 471 (by decide +kernel) rfl⟩
theorem cw_X0_askedIn : Cw yX0_askedIn cX0_askedIn 2 (some .int) 1 := ⟨LW_i 4 (by decide +kernel) rfl, LW_i 480 (by decide +kernel) rfl, by decide +kernel⟩
theorem vw_X0_askedIn : Vw yX0_askedIn := ⟨LW_i 478 (by decide +kernel) rfl, LW_i 479 (by decide +kernel) rfl⟩
theorem cw_X0_takenBackBy : Cw yX0_takenBackBy cX0_takenBackBy 4 (some .int) 2 := ⟨LW_i 4 (by decide +kernel) rfl, LW_i 552 (by decide +kernel) rfl, by decide +kernel⟩
theorem vw_X0_takenBackBy : Vw yX0_takenBackBy := ⟨LW_i 550 (by decide +kernel) rfl, LW_i 551 (by decide +kernel) rfl⟩
theorem cw_X0_runByLots : Cw yX0_runByLots cX0_runByLots 12 (some .int) 3 := ⟨LW_i 4 (by decide +kernel) rfl, LW_i 641 (by decide +kernel) rfl, by decide +kernel⟩
theorem vw_X0_runByLots : Vw yX0_runByLots := ⟨LW_i 639 (by decide +kernel) rfl, LW_i 640 (by decide +kernel) rfl⟩
theorem cw_X0_signalInPlace : Cw yX0_signalInPlace cX0_signalInPlace 4 (some .int) 2 := ⟨LW_i 4 (by decide +kernel) rfl, LW_i 647 (by decide +kernel) rfl, by decide +kernel⟩
theorem sw_X0_signalInPlace : Cond.static yX0_signalInPlace ∈ LW := LW_i 646 (by decide +kernel) rfl
theorem cw_X1_init : Cw yX1_init cX1_init 1 none 0 := ⟨LW_i 5 (by decide +kernel) rfl, LW_i 66 (by decide +kernel) rfl, by decide +kernel⟩
theorem cw_X1_removeAll : Cw yX1_removeAll cX1_removeAll 1 none 0 := ⟨LW_i 5 (by decide +kernel) rfl, LW_i 360 (by decide +kernel) rfl, by decide +kernel⟩
theorem vw_X1_removeAll : Vw yX1_removeAll := ⟨LW_i 358 (by decide +kernel) rfl, LW_i 359 (by decide +kernel) rfl⟩
theorem cw_X1_has : Cw yX1_has cX1_has 2 (some .boolean) 1 := ⟨LW_i 5 (by decide +kernel) rfl, LW_i 385 (by decide +kernel) rfl, by decide +kernel⟩
theorem vw_X1_has : Vw yX1_has := ⟨LW_i 383 (by decide +kernel) rfl, LW_i 384 (by decide +kernel) rfl⟩
theorem cw_X1_addEquation : Cw yX1_addEquation cX1_addEquation 2 none 1 := ⟨LW_i 5 (by decide +kernel) rfl, LW_i 400 (by decide +kernel) rfl, by decide +kernel⟩
theorem vw_X1_addEquation : Vw yX1_addEquation := ⟨LW_i 398 (by decide +kernel) rfl, LW_i 399 (by decide +kernel) rfl⟩
theorem cw_X1_addConstant : Cw yX1_addConstant cX1_addConstant 4 none 2 := ⟨LW_i 5 (by decide +kernel) rfl, LW_i 404 (by decide +kernel) rfl, by decide +kernel⟩
theorem vw_X1_addConstant : Vw yX1_addConstant := ⟨LW_i 402 (by decide +kernel) rfl, LW_i 403 (by decide +kernel) rfl⟩
theorem cw_X1_addTerm : Cw yX1_addTerm cX1_addTerm 4 none 3 := ⟨LW_i 5 (by decide +kernel) rfl, LW_i 408 (by decide +kernel) rfl, by decide +kernel⟩
theorem vw_X1_addTerm : Vw yX1_addTerm := ⟨LW_i 406 (by decide +kernel) rfl, LW_i 407 (by decide +kernel) rfl⟩
theorem cw_X1_terms : Cw yX1_terms cX1_terms 1 (some .int) 0 := ⟨LW_i 5 (by decide +kernel) rfl, LW_i 846 (by decide +kernel) rfl, by decide +kernel⟩
theorem vw_X1_terms : Vw yX1_terms := ⟨LW_i 844 (by decide +kernel) rfl, LW_i 845 (by decide +kernel) rfl⟩
theorem cw_X1_signals : Cw yX1_signals cX1_signals 1 (some .int) 0 := ⟨LW_i 5 (by decide +kernel) rfl, LW_i 488 (by decide +kernel) rfl, by decide +kernel⟩
theorem vw_X1_signals : Vw yX1_signals := ⟨LW_i 486 (by decide +kernel) rfl, LW_i 487 (by decide +kernel) rfl⟩
theorem cw_X1_valuesIn : Cw yX1_valuesIn cX1_valuesIn 4 (some .int) 1 := ⟨LW_i 5 (by decide +kernel) rfl, LW_i 484 (by decide +kernel) rfl, by decide +kernel⟩
theorem vw_X1_valuesIn : Vw yX1_valuesIn := ⟨LW_i 482 (by decide +kernel) rfl, LW_i 483 (by decide +kernel) rfl⟩
theorem cw_X2_init : Cw yX2_init cX2_init 3 none 2 := ⟨LW_i 8 (by decide +kernel) rfl, LW_i 138 (by decide +kernel) rfl, by decide +kernel⟩
theorem cw_X2_forget : Cw yX2_forget cX2_forget 1 none 0 := ⟨LW_i 8 (by decide +kernel) rfl, LW_i 440 (by decide +kernel) rfl, by decide +kernel⟩
theorem vw_X2_forget : Vw yX2_forget := ⟨LW_i 438 (by decide +kernel) rfl, LW_i 439 (by decide +kernel) rfl⟩
theorem cw_X2_renew : Cw yX2_renew cX2_renew 2 none 0 := ⟨LW_i 8 (by decide +kernel) rfl, LW_i 540 (by decide +kernel) rfl, by decide +kernel⟩
theorem vw_X2_renew : Vw yX2_renew := ⟨LW_i 538 (by decide +kernel) rfl, LW_i 539 (by decide +kernel) rfl⟩
theorem cw_X2_hazardsIn : Cw yX2_hazardsIn cX2_hazardsIn 5 (some .int) 1 := ⟨LW_i 8 (by decide +kernel) rfl, LW_i 546 (by decide +kernel) rfl, by decide +kernel⟩
theorem vw_X2_hazardsIn : Vw yX2_hazardsIn := ⟨LW_i 545 (by decide +kernel) rfl, LW_s (List.mem_of_getElem? (i := 10) (by decide +kernel)) rfl⟩
theorem cw_X2_size : Cw yX2_size cX2_size 1 (some .int) 0 := ⟨LW_i 8 (by decide +kernel) rfl, LW_i 850 (by decide +kernel) rfl, by decide +kernel⟩
theorem vw_X2_size : Vw yX2_size := ⟨LW_i 848 (by decide +kernel) rfl, LW_i 849 (by decide +kernel) rfl⟩
theorem cw_X2_partOf : Cw yX2_partOf cX2_partOf 5 (some .int) 2 := ⟨LW_i 8 (by decide +kernel) rfl, LW_i 563 (by decide +kernel) rfl, by decide +kernel⟩
theorem vw_X2_partOf : Vw yX2_partOf := ⟨LW_i 561 (by decide +kernel) rfl, LW_i 562 (by decide +kernel) rfl⟩
theorem cw_X2_placeWith : Cw yX2_placeWith cX2_placeWith 6 (some .int) 1 := ⟨LW_i 8 (by decide +kernel) rfl, LW_i 567 (by decide +kernel) rfl, by decide +kernel⟩
theorem vw_X2_placeWith : Vw yX2_placeWith := ⟨LW_i 566 (by decide +kernel) rfl, LW_s (List.mem_of_getElem? (i := 11) (by decide +kernel)) rfl⟩
theorem cw_X2_signalOf : Cw yX2_signalOf cX2_signalOf 8 (some .int) 3 := ⟨LW_i 8 (by decide +kernel) rfl, LW_i 571 (by decide +kernel) rfl, by decide +kernel⟩
theorem vw_X2_signalOf : Vw yX2_signalOf := ⟨LW_i 570 (by decide +kernel) rfl, LW_s (List.mem_of_getElem? (i := 12) (by decide +kernel)) rfl⟩
theorem cw_X3_init : Cw yX3_init cX3_init 3 none 2 := ⟨LW_i 9 (by decide +kernel) rfl, LW_i 160 (by decide +kernel) rfl, by decide +kernel⟩
theorem cw_X3_forget : Cw yX3_forget cX3_forget 1 none 0 := ⟨LW_i 9 (by decide +kernel) rfl, LW_i 444 (by decide +kernel) rfl, by decide +kernel⟩
theorem vw_X3_forget : Vw yX3_forget := ⟨LW_i 442 (by decide +kernel) rfl, LW_i 443 (by decide +kernel) rfl⟩
theorem cw_X3_isLive : Cw yX3_isLive cX3_isLive 2 (some .boolean) 1 := ⟨LW_i 9 (by decide +kernel) rfl, LW_i 605 (by decide +kernel) rfl, by decide +kernel⟩
theorem vw_X3_isLive : Vw yX3_isLive := ⟨LW_i 603 (by decide +kernel) rfl, LW_i 604 (by decide +kernel) rfl⟩
theorem cw_X3_leadsThereFromAll : Cw yX3_leadsThereFromAll cX3_leadsThereFromAll 4 (some .boolean) 1 := ⟨LW_i 9 (by decide +kernel) rfl, LW_i 610 (by decide +kernel) rfl, by decide +kernel⟩
theorem vw_X3_leadsThereFromAll : Vw yX3_leadsThereFromAll := ⟨LW_i 609 (by decide +kernel) rfl, LW_s (List.mem_of_getElem? (i := 13) (by decide +kernel)) rfl⟩
theorem cw_X3_goBackFrom : Cw yX3_goBackFrom cX3_goBackFrom 4 none 1 := ⟨LW_i 9 (by decide +kernel) rfl, LW_i 621 (by decide +kernel) rfl, by decide +kernel⟩
theorem vw_X3_goBackFrom : Vw yX3_goBackFrom := ⟨LW_i 620 (by decide +kernel) rfl, LW_s (List.mem_of_getElem? (i := 15) (by decide +kernel)) rfl⟩
theorem cw_X3_find : Cw yX3_find cX3_find 2 none 1 := ⟨LW_i 9 (by decide +kernel) rfl, LW_i 617 (by decide +kernel) rfl, by decide +kernel⟩
theorem vw_X3_find : Vw yX3_find := ⟨LW_i 616 (by decide +kernel) rfl, LW_s (List.mem_of_getElem? (i := 14) (by decide +kernel)) rfl⟩
theorem cw_X4_init : Cw yX4_init cX4_init 1 none 0 := ⟨LW_i 10 (by decide +kernel) rfl, LW_i 189 (by decide +kernel) rfl, by decide +kernel⟩
theorem cw_X4_removeAll : Cw yX4_removeAll cX4_removeAll 1 none 0 := ⟨LW_i 10 (by decide +kernel) rfl, LW_i 702 (by decide +kernel) rfl, by decide +kernel⟩
theorem vw_X4_removeAll : Vw yX4_removeAll := ⟨LW_i 700 (by decide +kernel) rfl, LW_i 701 (by decide +kernel) rfl⟩
theorem cw_X4_addNode : Cw yX4_addNode cX4_addNode 2 (some .int) 1 := ⟨LW_i 10 (by decide +kernel) rfl, LW_i 659 (by decide +kernel) rfl, by decide +kernel⟩
theorem vw_X4_addNode : Vw yX4_addNode := ⟨LW_i 657 (by decide +kernel) rfl, LW_i 658 (by decide +kernel) rfl⟩
theorem cw_X4_addArc : Cw yX4_addArc cX4_addArc 4 (some .int) 3 := ⟨LW_i 10 (by decide +kernel) rfl, LW_i 679 (by decide +kernel) rfl, by decide +kernel⟩
theorem vw_X4_addArc : Vw yX4_addArc := ⟨LW_i 677 (by decide +kernel) rfl, LW_i 678 (by decide +kernel) rfl⟩
theorem cw_X4_putTokens : Cw yX4_putTokens cX4_putTokens 3 (some .boolean) 2 := ⟨LW_i 10 (by decide +kernel) rfl, LW_i 694 (by decide +kernel) rfl, by decide +kernel⟩
theorem vw_X4_putTokens : Vw yX4_putTokens := ⟨LW_i 692 (by decide +kernel) rfl, LW_i 693 (by decide +kernel) rfl⟩
theorem cw_X4_isTokens : Cw yX4_isTokens cX4_isTokens 1 (some .boolean) 1 := ⟨LW_i 10 (by decide +kernel) rfl, LW_i 686 (by decide +kernel) rfl, by decide +kernel⟩
theorem sw_X4_isTokens : Cond.static yX4_isTokens ∈ LW := LW_i 685 (by decide +kernel) rfl
theorem cw_X4_isNode : Cw yX4_isNode cX4_isNode 2 (some .boolean) 1 := ⟨LW_i 10 (by decide +kernel) rfl, LW_i 683 (by decide +kernel) rfl, by decide +kernel⟩
theorem vw_X4_isNode : Vw yX4_isNode := ⟨LW_i 681 (by decide +kernel) rfl, LW_i 682 (by decide +kernel) rfl⟩
theorem cw_X4_nodes : Cw yX4_nodes cX4_nodes 1 (some .int) 0 := ⟨LW_i 10 (by decide +kernel) rfl, LW_i 755 (by decide +kernel) rfl, by decide +kernel⟩
theorem vw_X4_nodes : Vw yX4_nodes := ⟨LW_i 753 (by decide +kernel) rfl, LW_i 754 (by decide +kernel) rfl⟩
theorem cw_X4_arcs : Cw yX4_arcs cX4_arcs 1 (some .int) 0 := ⟨LW_i 10 (by decide +kernel) rfl, LW_i 763 (by decide +kernel) rfl, by decide +kernel⟩
theorem vw_X4_arcs : Vw yX4_arcs := ⟨LW_i 761 (by decide +kernel) rfl, LW_i 762 (by decide +kernel) rfl⟩
theorem cw_X4_delayOf : Cw yX4_delayOf cX4_delayOf 2 (some .int) 1 := ⟨LW_i 10 (by decide +kernel) rfl, LW_i 775 (by decide +kernel) rfl, by decide +kernel⟩
theorem vw_X4_delayOf : Vw yX4_delayOf := ⟨LW_i 773 (by decide +kernel) rfl, LW_i 774 (by decide +kernel) rfl⟩
theorem cw_X4_sourceOf : Cw yX4_sourceOf cX4_sourceOf 2 (some .int) 1 := ⟨LW_i 10 (by decide +kernel) rfl, LW_i 791 (by decide +kernel) rfl, by decide +kernel⟩
theorem vw_X4_sourceOf : Vw yX4_sourceOf := ⟨LW_i 789 (by decide +kernel) rfl, LW_i 790 (by decide +kernel) rfl⟩
theorem cw_X4_targetOf : Cw yX4_targetOf cX4_targetOf 2 (some .int) 1 := ⟨LW_i 10 (by decide +kernel) rfl, LW_i 767 (by decide +kernel) rfl, by decide +kernel⟩
theorem vw_X4_targetOf : Vw yX4_targetOf := ⟨LW_i 765 (by decide +kernel) rfl, LW_i 766 (by decide +kernel) rfl⟩
theorem cw_X4_tokensOf : Cw yX4_tokensOf cX4_tokensOf 2 (some .int) 1 := ⟨LW_i 10 (by decide +kernel) rfl, LW_i 787 (by decide +kernel) rfl, by decide +kernel⟩
theorem vw_X4_tokensOf : Vw yX4_tokensOf := ⟨LW_i 785 (by decide +kernel) rfl, LW_i 786 (by decide +kernel) rfl⟩
theorem cw_X4_allNodes : Cw yX4_allNodes cX4_allNodes 1 (some .int) 0 := ⟨LW_i 10 (by decide +kernel) rfl, LW_i 723 (by decide +kernel) rfl, by decide +kernel⟩
theorem vw_X4_allNodes : Vw yX4_allNodes := ⟨LW_i 721 (by decide +kernel) rfl, LW_i 722 (by decide +kernel) rfl⟩
theorem cw_X4_hasDeadRing : Cw yX4_hasDeadRing cX4_hasDeadRing 1 (some .boolean) 0 := ⟨LW_i 10 (by decide +kernel) rfl, LW_i 710 (by decide +kernel) rfl, by decide +kernel⟩
theorem vw_X4_hasDeadRing : Vw yX4_hasDeadRing := ⟨LW_i 708 (by decide +kernel) rfl, LW_i 709 (by decide +kernel) rfl⟩
theorem cw_X4_hasRing : Cw yX4_hasRing cX4_hasRing 1 (some .boolean) 0 := ⟨LW_i 10 (by decide +kernel) rfl, LW_i 736 (by decide +kernel) rfl, by decide +kernel⟩
theorem vw_X4_hasRing : Vw yX4_hasRing := ⟨LW_i 734 (by decide +kernel) rfl, LW_i 735 (by decide +kernel) rfl⟩
theorem cw_X4_nodesBehindRings : Cw yX4_nodesBehindRings cX4_nodesBehindRings 4 (some .int) 1 := ⟨LW_i 10 (by decide +kernel) rfl, LW_i 714 (by decide +kernel) rfl, by decide +kernel⟩
theorem vw_X4_nodesBehindRings : Vw yX4_nodesBehindRings := ⟨LW_i 713 (by decide +kernel) rfl, LW_s (List.mem_of_getElem? (i := 17) (by decide +kernel)) rfl⟩
theorem cw_X4_freedBy : Cw yX4_freedBy cX4_freedBy 5 (some .int) 2 := ⟨LW_i 10 (by decide +kernel) rfl, LW_i 718 (by decide +kernel) rfl, by decide +kernel⟩
theorem vw_X4_freedBy : Vw yX4_freedBy := ⟨LW_i 716 (by decide +kernel) rfl, LW_i 717 (by decide +kernel) rfl⟩
theorem cw_X5_init : Cw yX5_init cX5_init 1 none 0 := ⟨LW_i 12 (by decide +kernel) rfl, LW_i 220 (by decide +kernel) rfl, by decide +kernel⟩
theorem cw_X5_putBelowAll : Cw yX5_putBelowAll cX5_putBelowAll 1 none 0 := ⟨LW_i 12 (by decide +kernel) rfl, LW_i 745 (by decide +kernel) rfl, by decide +kernel⟩
theorem vw_X5_putBelowAll : Vw yX5_putBelowAll := ⟨LW_i 743 (by decide +kernel) rfl, LW_i 744 (by decide +kernel) rfl⟩
theorem cw_X5_put : Cw yX5_put cX5_put 4 none 2 := ⟨LW_i 12 (by decide +kernel) rfl, LW_i 803 (by decide +kernel) rfl, by decide +kernel⟩
theorem vw_X5_put : Vw yX5_put := ⟨LW_i 801 (by decide +kernel) rfl, LW_i 802 (by decide +kernel) rfl⟩
theorem cw_X5_putAs : Cw yX5_putAs cX5_putAs 2 none 1 := ⟨LW_i 12 (by decide +kernel) rfl, LW_i 826 (by decide +kernel) rfl, by decide +kernel⟩
theorem vw_X5_putAs : Vw yX5_putAs := ⟨LW_i 824 (by decide +kernel) rfl, LW_i 825 (by decide +kernel) rfl⟩
theorem cw_X5_top : Cw yX5_top cX5_top 1 (some .int) 0 := ⟨LW_i 12 (by decide +kernel) rfl, LW_i 779 (by decide +kernel) rfl, by decide +kernel⟩
theorem vw_X5_top : Vw yX5_top := ⟨LW_i 777 (by decide +kernel) rfl, LW_i 778 (by decide +kernel) rfl⟩
theorem cw_X5_bottom : Cw yX5_bottom cX5_bottom 1 (some .int) 0 := ⟨LW_i 12 (by decide +kernel) rfl, LW_i 771 (by decide +kernel) rfl, by decide +kernel⟩
theorem vw_X5_bottom : Vw yX5_bottom := ⟨LW_i 769 (by decide +kernel) rfl, LW_i 770 (by decide +kernel) rfl⟩
theorem cw_X5_isLess : Cw yX5_isLess cX5_isLess 2 (some .boolean) 1 := ⟨LW_i 12 (by decide +kernel) rfl, LW_i 830 (by decide +kernel) rfl, by decide +kernel⟩
theorem vw_X5_isLess : Vw yX5_isLess := ⟨LW_i 828 (by decide +kernel) rfl, LW_i 829 (by decide +kernel) rfl⟩
theorem cw_X5_commonDivisor : Cw yX5_commonDivisor cX5_commonDivisor 6 (some .int) 2 := ⟨LW_i 12 (by decide +kernel) rfl, LW_i 806 (by decide +kernel) rfl, by decide +kernel⟩
theorem sw_X5_commonDivisor : Cond.static yX5_commonDivisor ∈ LW := LW_i 805 (by decide +kernel) rfl
theorem cw_X6_init : Cw yX6_init cX6_init 2 none 1 := ⟨LW_i 3 (by decide +kernel) rfl, LW_i 47 (by decide +kernel) rfl, by decide +kernel⟩
theorem cw_X6_read : Cw yX6_read cX6_read 3 (some .int) 1 := ⟨LW_i 3 (by decide +kernel) rfl, LW_i 356 (by decide +kernel) rfl, by decide +kernel⟩
theorem vw_X6_read : Vw yX6_read := ⟨LW_i 354 (by decide +kernel) rfl, LW_i 355 (by decide +kernel) rfl⟩
theorem cw_X6_readEquation : Cw yX6_readEquation cX6_readEquation 3 (some .boolean) 1 := ⟨LW_i 3 (by decide +kernel) rfl, LW_i 373 (by decide +kernel) rfl, by decide +kernel⟩
theorem vw_X6_readEquation : Vw yX6_readEquation := ⟨LW_i 372 (by decide +kernel) rfl, LW_s (List.mem_of_getElem? (i := 1) (by decide +kernel)) rfl⟩
theorem cw_X6_readTerms : Cw yX6_readTerms cX6_readTerms 4 (some .boolean) 2 := ⟨LW_i 3 (by decide +kernel) rfl, LW_i 412 (by decide +kernel) rfl, by decide +kernel⟩
theorem vw_X6_readTerms : Vw yX6_readTerms := ⟨LW_i 411 (by decide +kernel) rfl, LW_s (List.mem_of_getElem? (i := 5) (by decide +kernel)) rfl⟩
theorem cw_X6_readTerm : Cw yX6_readTerm cX6_readTerm 7 (some .boolean) 2 := ⟨LW_i 3 (by decide +kernel) rfl, LW_i 416 (by decide +kernel) rfl, by decide +kernel⟩
theorem vw_X6_readTerm : Vw yX6_readTerm := ⟨LW_i 415 (by decide +kernel) rfl, LW_s (List.mem_of_getElem? (i := 6) (by decide +kernel)) rfl⟩
theorem cw_X6_signalHere : Cw yX6_signalHere cX6_signalHere 2 (some .int) 0 := ⟨LW_i 3 (by decide +kernel) rfl, LW_i 377 (by decide +kernel) rfl, by decide +kernel⟩
theorem vw_X6_signalHere : Vw yX6_signalHere := ⟨LW_i 376 (by decide +kernel) rfl, LW_s (List.mem_of_getElem? (i := 2) (by decide +kernel)) rfl⟩
theorem cw_X6_isOn : Cw yX6_isOn cX6_isOn 2 (some .boolean) 1 := ⟨LW_i 3 (by decide +kernel) rfl, LW_i 396 (by decide +kernel) rfl, by decide +kernel⟩
theorem vw_X6_isOn : Vw yX6_isOn := ⟨LW_i 395 (by decide +kernel) rfl, LW_s (List.mem_of_getElem? (i := 4) (by decide +kernel)) rfl⟩
theorem cw_X6_isAtEnd : Cw yX6_isAtEnd cX6_isAtEnd 1 (some .boolean) 0 := ⟨LW_i 3 (by decide +kernel) rfl, LW_i 368 (by decide +kernel) rfl, by decide +kernel⟩
theorem vw_X6_isAtEnd : Vw yX6_isAtEnd := ⟨LW_i 367 (by decide +kernel) rfl, LW_s (List.mem_of_getElem? (i := 0) (by decide +kernel)) rfl⟩
theorem cw_X6_step : Cw yX6_step cX6_step 1 none 0 := ⟨LW_i 3 (by decide +kernel) rfl, LW_i 392 (by decide +kernel) rfl, by decide +kernel⟩
theorem vw_X6_step : Vw yX6_step := ⟨LW_i 391 (by decide +kernel) rfl, LW_s (List.mem_of_getElem? (i := 3) (by decide +kernel)) rfl⟩
theorem cw_X7_init : Cw yX7_init cX7_init 1 none 0 := ⟨LW_i 2 (by decide +kernel) rfl, LW_i 33 (by decide +kernel) rfl, by decide +kernel⟩
theorem cw_X7_bytesIn : Cw yX7_bytesIn cX7_bytesIn 3 (some .int) 1 := ⟨LW_i 2 (by decide +kernel) rfl, LW_i 332 (by decide +kernel) rfl, by decide +kernel⟩
theorem sw_X7_bytesIn : Cond.static yX7_bytesIn ∈ LW := LW_i 331 (by decide +kernel) rfl
theorem cw_X7_append : Cw yX7_append cX7_append 4 none 1 := ⟨LW_i 2 (by decide +kernel) rfl, LW_i 340 (by decide +kernel) rfl, by decide +kernel⟩
theorem vw_X7_append : Vw yX7_append := ⟨LW_i 338 (by decide +kernel) rfl, LW_i 339 (by decide +kernel) rfl⟩
theorem cw_X7_cut : Cw yX7_cut cX7_cut 2 none 1 := ⟨LW_i 2 (by decide +kernel) rfl, LW_i 348 (by decide +kernel) rfl, by decide +kernel⟩
theorem vw_X7_cut : Vw yX7_cut := ⟨LW_i 346 (by decide +kernel) rfl, LW_i 347 (by decide +kernel) rfl⟩
theorem cw_X7_size : Cw yX7_size cX7_size 1 (some .int) 0 := ⟨LW_i 2 (by decide +kernel) rfl, LW_i 336 (by decide +kernel) rfl, by decide +kernel⟩
theorem vw_X7_size : Vw yX7_size := ⟨LW_i 334 (by decide +kernel) rfl, LW_i 335 (by decide +kernel) rfl⟩
theorem cw_X7_byteAt : Cw yX7_byteAt cX7_byteAt 2 (some .int) 1 := ⟨LW_i 2 (by decide +kernel) rfl, LW_i 381 (by decide +kernel) rfl, by decide +kernel⟩
theorem vw_X7_byteAt : Vw yX7_byteAt := ⟨LW_i 379 (by decide +kernel) rfl, LW_i 380 (by decide +kernel) rfl⟩
theorem cw_X7_pastBlanks : Cw yX7_pastBlanks cX7_pastBlanks 3 (some .int) 1 := ⟨LW_i 2 (by decide +kernel) rfl, LW_i 364 (by decide +kernel) rfl, by decide +kernel⟩
theorem vw_X7_pastBlanks : Vw yX7_pastBlanks := ⟨LW_i 362 (by decide +kernel) rfl, LW_i 363 (by decide +kernel) rfl⟩
theorem cw_X8_init : Cw yX8_init cX8_init 2 none 1 := ⟨LW_i 13 (by decide +kernel) rfl, LW_i 267 (by decide +kernel) rfl, by decide +kernel⟩
theorem cw_X8_forget : Cw yX8_forget cX8_forget 1 none 0 := ⟨LW_i 13 (by decide +kernel) rfl, LW_i 671 (by decide +kernel) rfl, by decide +kernel⟩
theorem vw_X8_forget : Vw yX8_forget := ⟨LW_i 669 (by decide +kernel) rfl, LW_i 670 (by decide +kernel) rfl⟩
theorem cw_X8_fillTo : Cw yX8_fillTo cX8_fillTo 3 none 1 := ⟨LW_i 13 (by decide +kernel) rfl, LW_i 936 (by decide +kernel) rfl, by decide +kernel⟩
theorem vw_X8_fillTo : Vw yX8_fillTo := ⟨LW_i 934 (by decide +kernel) rfl, LW_i 935 (by decide +kernel) rfl⟩
theorem cw_X8_doneAt : Cw yX8_doneAt cX8_doneAt 4 (some .int) 2 := ⟨LW_i 13 (by decide +kernel) rfl, LW_i 959 (by decide +kernel) rfl, by decide +kernel⟩
theorem vw_X8_doneAt : Vw yX8_doneAt := ⟨LW_i 957 (by decide +kernel) rfl, LW_i 958 (by decide +kernel) rfl⟩
theorem cw_X8_orderArcs : Cw yX8_orderArcs cX8_orderArcs 3 none 0 := ⟨LW_i 13 (by decide +kernel) rfl, LW_i 940 (by decide +kernel) rfl, by decide +kernel⟩
theorem vw_X8_orderArcs : Vw yX8_orderArcs := ⟨LW_i 939 (by decide +kernel) rfl, LW_s (List.mem_of_getElem? (i := 25) (by decide +kernel)) rfl⟩
theorem cw_X8_appendArcsTo : Cw yX8_appendArcsTo cX8_appendArcsTo 3 none 1 := ⟨LW_i 13 (by decide +kernel) rfl, LW_i 946 (by decide +kernel) rfl, by decide +kernel⟩
theorem vw_X8_appendArcsTo : Vw yX8_appendArcsTo := ⟨LW_i 945 (by decide +kernel) rfl, LW_s (List.mem_of_getElem? (i := 26) (by decide +kernel)) rfl⟩
theorem cw_X8_fill : Cw yX8_fill cX8_fill 6 none 1 := ⟨LW_i 13 (by decide +kernel) rfl, LW_i 953 (by decide +kernel) rfl, by decide +kernel⟩
theorem vw_X8_fill : Vw yX8_fill := ⟨LW_i 952 (by decide +kernel) rfl, LW_s (List.mem_of_getElem? (i := 27) (by decide +kernel)) rfl⟩
theorem cw_X8_later : Cw yX8_later cX8_later 2 (some .int) 2 := ⟨LW_i 13 (by decide +kernel) rfl, LW_i 963 (by decide +kernel) rfl, by decide +kernel⟩
theorem sw_X8_later : Cond.static yX8_later ∈ LW := LW_i 962 (by decide +kernel) rfl
theorem cw_X9_init : Cw yX9_init cX9_init 2 none 1 := ⟨LW_i 11 (by decide +kernel) rfl, LW_i 214 (by decide +kernel) rfl, by decide +kernel⟩
theorem cw_X9_forget : Cw yX9_forget cX9_forget 1 none 0 := ⟨LW_i 11 (by decide +kernel) rfl, LW_i 667 (by decide +kernel) rfl, by decide +kernel⟩
theorem vw_X9_forget : Vw yX9_forget := ⟨LW_i 665 (by decide +kernel) rfl, LW_i 666 (by decide +kernel) rfl⟩
theorem cw_X9_renew : Cw yX9_renew cX9_renew 1 none 0 := ⟨LW_i 11 (by decide +kernel) rfl, LW_i 732 (by decide +kernel) rfl, by decide +kernel⟩
theorem vw_X9_renew : Vw yX9_renew := ⟨LW_i 730 (by decide +kernel) rfl, LW_i 731 (by decide +kernel) rfl⟩
theorem cw_X9_numerator : Cw yX9_numerator cX9_numerator 1 (some .int) 0 := ⟨LW_i 11 (by decide +kernel) rfl, LW_i 810 (by decide +kernel) rfl, by decide +kernel⟩
theorem vw_X9_numerator : Vw yX9_numerator := ⟨LW_i 808 (by decide +kernel) rfl, LW_i 809 (by decide +kernel) rfl⟩
theorem cw_X9_denominator : Cw yX9_denominator cX9_denominator 1 (some .int) 0 := ⟨LW_i 11 (by decide +kernel) rfl, LW_i 814 (by decide +kernel) rfl, by decide +kernel⟩
theorem vw_X9_denominator : Vw yX9_denominator := ⟨LW_i 812 (by decide +kernel) rfl, LW_i 813 (by decide +kernel) rfl⟩
theorem cw_X9_helper : Cw yX9_helper cX9_helper 2 (some .int) 0 := ⟨LW_i 11 (by decide +kernel) rfl, LW_i 822 (by decide +kernel) rfl, by decide +kernel⟩
theorem vw_X9_helper : Vw yX9_helper := ⟨LW_i 820 (by decide +kernel) rfl, LW_i 821 (by decide +kernel) rfl⟩
theorem cw_X9_findGreatest : Cw yX9_findGreatest cX9_findGreatest 4 none 1 := ⟨LW_i 11 (by decide +kernel) rfl, LW_i 741 (by decide +kernel) rfl, by decide +kernel⟩
theorem vw_X9_findGreatest : Vw yX9_findGreatest := ⟨LW_i 740 (by decide +kernel) rfl, LW_s (List.mem_of_getElem? (i := 18) (by decide +kernel)) rfl⟩
theorem cw_X9_nodeBehindGreaterRing : Cw yX9_nodeBehindGreaterRing cX9_nodeBehindGreaterRing 4 (some .int) 1 := ⟨LW_i 11 (by decide +kernel) rfl, LW_i 750 (by decide +kernel) rfl, by decide +kernel⟩
theorem vw_X9_nodeBehindGreaterRing : Vw yX9_nodeBehindGreaterRing := ⟨LW_i 749 (by decide +kernel) rfl, LW_s (List.mem_of_getElem? (i := 19) (by decide +kernel)) rfl⟩
theorem cw_X9_growPaths : Cw yX9_growPaths cX9_growPaths 7 (some .int) 1 := ⟨LW_i 11 (by decide +kernel) rfl, LW_i 759 (by decide +kernel) rfl, by decide +kernel⟩
theorem vw_X9_growPaths : Vw yX9_growPaths := ⟨LW_i 758 (by decide +kernel) rfl, LW_s (List.mem_of_getElem? (i := 20) (by decide +kernel)) rfl⟩
theorem cw_X9_tokensOn : Cw yX9_tokensOn cX9_tokensOn 2 (some .int) 1 := ⟨LW_i 11 (by decide +kernel) rfl, LW_i 783 (by decide +kernel) rfl, by decide +kernel⟩
theorem vw_X9_tokensOn : Vw yX9_tokensOn := ⟨LW_i 782 (by decide +kernel) rfl, LW_s (List.mem_of_getElem? (i := 21) (by decide +kernel)) rfl⟩
theorem cw_X9_nodeOnRing : Cw yX9_nodeOnRing cX9_nodeOnRing 4 (some .int) 1 := ⟨LW_i 11 (by decide +kernel) rfl, LW_i 795 (by decide +kernel) rfl, by decide +kernel⟩
theorem vw_X9_nodeOnRing : Vw yX9_nodeOnRing := ⟨LW_i 794 (by decide +kernel) rfl, LW_s (List.mem_of_getElem? (i := 22) (by decide +kernel)) rfl⟩
theorem cw_X9_putRing : Cw yX9_putRing cX9_putRing 7 none 2 := ⟨LW_i 11 (by decide +kernel) rfl, LW_i 799 (by decide +kernel) rfl, by decide +kernel⟩
theorem vw_X9_putRing : Vw yX9_putRing := ⟨LW_i 798 (by decide +kernel) rfl, LW_s (List.mem_of_getElem? (i := 23) (by decide +kernel)) rfl⟩
theorem cw_X10_init : Cw yX10_init cX10_init 2 none 1 := ⟨LW_i 7 (by decide +kernel) rfl, LW_i 107 (by decide +kernel) rfl, by decide +kernel⟩
theorem cw_X10_forget : Cw yX10_forget cX10_forget 1 none 0 := ⟨LW_i 7 (by decide +kernel) rfl, LW_i 436 (by decide +kernel) rfl, by decide +kernel⟩
theorem vw_X10_forget : Vw yX10_forget := ⟨LW_i 434 (by decide +kernel) rfl, LW_i 435 (by decide +kernel) rfl⟩
theorem cw_X10_renew : Cw yX10_renew cX10_renew 2 none 0 := ⟨LW_i 7 (by decide +kernel) rfl, LW_i 496 (by decide +kernel) rfl, by decide +kernel⟩
theorem vw_X10_renew : Vw yX10_renew := ⟨LW_i 494 (by decide +kernel) rfl, LW_i 495 (by decide +kernel) rfl⟩
theorem cw_X10_goOnFrom : Cw yX10_goOnFrom cX10_goOnFrom 4 none 1 := ⟨LW_i 7 (by decide +kernel) rfl, LW_i 509 (by decide +kernel) rfl, by decide +kernel⟩
theorem vw_X10_goOnFrom : Vw yX10_goOnFrom := ⟨LW_i 508 (by decide +kernel) rfl, LW_s (List.mem_of_getElem? (i := 9) (by decide +kernel)) rfl⟩
theorem cw_X10_enter : Cw yX10_enter cX10_enter 3 none 2 := ⟨LW_i 7 (by decide +kernel) rfl, LW_i 505 (by decide +kernel) rfl, by decide +kernel⟩
theorem vw_X10_enter : Vw yX10_enter := ⟨LW_i 504 (by decide +kernel) rfl, LW_s (List.mem_of_getElem? (i := 8) (by decide +kernel)) rfl⟩
theorem cw_X10_size : Cw yX10_size cX10_size 1 (some .int) 0 := ⟨LW_i 7 (by decide +kernel) rfl, LW_i 515 (by decide +kernel) rfl, by decide +kernel⟩
theorem vw_X10_size : Vw yX10_size := ⟨LW_i 513 (by decide +kernel) rfl, LW_i 514 (by decide +kernel) rfl⟩
theorem cw_X10_stops : Cw yX10_stops cX10_stops 1 (some .int) 0 := ⟨LW_i 7 (by decide +kernel) rfl, LW_i 854 (by decide +kernel) rfl, by decide +kernel⟩
theorem vw_X10_stops : Vw yX10_stops := ⟨LW_i 852 (by decide +kernel) rfl, LW_i 853 (by decide +kernel) rfl⟩
theorem cw_X10_stateAt : Cw yX10_stateAt cX10_stateAt 2 (some .int) 1 := ⟨LW_i 7 (by decide +kernel) rfl, LW_i 523 (by decide +kernel) rfl, by decide +kernel⟩
theorem vw_X10_stateAt : Vw yX10_stateAt := ⟨LW_i 521 (by decide +kernel) rfl, LW_i 522 (by decide +kernel) rfl⟩
theorem cw_X10_stopAt : Cw yX10_stopAt cX10_stopAt 2 (some .int) 1 := ⟨LW_i 7 (by decide +kernel) rfl, LW_i 579 (by decide +kernel) rfl, by decide +kernel⟩
theorem vw_X10_stopAt : Vw yX10_stopAt := ⟨LW_i 577 (by decide +kernel) rfl, LW_i 578 (by decide +kernel) rfl⟩
theorem cw_X10_placeOf : Cw yX10_placeOf cX10_placeOf 2 (some .int) 1 := ⟨LW_i 7 (by decide +kernel) rfl, LW_i 531 (by decide +kernel) rfl, by decide +kernel⟩
theorem vw_X10_placeOf : Vw yX10_placeOf := ⟨LW_i 529 (by decide +kernel) rfl, LW_i 530 (by decide +kernel) rfl⟩
theorem cw_X10_wayLength : Cw yX10_wayLength cX10_wayLength 5 (some .int) 1 := ⟨LW_i 7 (by decide +kernel) rfl, LW_i 587 (by decide +kernel) rfl, by decide +kernel⟩
theorem vw_X10_wayLength : Vw yX10_wayLength := ⟨LW_i 585 (by decide +kernel) rfl, LW_i 586 (by decide +kernel) rfl⟩
theorem cw_X10_wayStep : Cw yX10_wayStep cX10_wayStep 6 (some .int) 2 := ⟨LW_i 7 (by decide +kernel) rfl, LW_i 596 (by decide +kernel) rfl, by decide +kernel⟩
theorem vw_X10_wayStep : Vw yX10_wayStep := ⟨LW_i 594 (by decide +kernel) rfl, LW_i 595 (by decide +kernel) rfl⟩
theorem cw_X10_firstWithAll : Cw yX10_firstWithAll cX10_firstWithAll 3 (some .int) 1 := ⟨LW_i 7 (by decide +kernel) rfl, LW_i 630 (by decide +kernel) rfl, by decide +kernel⟩
theorem vw_X10_firstWithAll : Vw yX10_firstWithAll := ⟨LW_i 628 (by decide +kernel) rfl, LW_i 629 (by decide +kernel) rfl⟩
theorem cw_X11_init : Cw yX11_init cX11_init 1 none 0 := ⟨LW_i 1 (by decide +kernel) rfl, LW_i 25 (by decide +kernel) rfl, by decide +kernel⟩
theorem cw_X11_feed : Cw yX11_feed cX11_feed 7 (some .int) 5 := ⟨LW_i 1 (by decide +kernel) rfl, LW_i 329 (by decide +kernel) rfl, by decide +kernel⟩
theorem vw_X11_feed : Vw yX11_feed := ⟨LW_i 327 (by decide +kernel) rfl, LW_i 328 (by decide +kernel) rfl⟩
theorem cw_X11_end : Cw yX11_end cX11_end 2 (some .boolean) 1 := ⟨LW_i 1 (by decide +kernel) rfl, LW_i 344 (by decide +kernel) rfl, by decide +kernel⟩
theorem vw_X11_end : Vw yX11_end := ⟨LW_i 342 (by decide +kernel) rfl, LW_i 343 (by decide +kernel) rfl⟩
theorem cw_X11_fault : Cw yX11_fault cX11_fault 1 (some .int) 0 := ⟨LW_i 1 (by decide +kernel) rfl, LW_i 352 (by decide +kernel) rfl, by decide +kernel⟩
theorem vw_X11_fault : Vw yX11_fault := ⟨LW_i 350 (by decide +kernel) rfl, LW_i 351 (by decide +kernel) rfl⟩
theorem cw_X11_circuit : Cw yX11_circuit cX11_circuit 2 (some .boolean) 1 := ⟨LW_i 1 (by decide +kernel) rfl, LW_i 421 (by decide +kernel) rfl, by decide +kernel⟩
theorem vw_X11_circuit : Vw yX11_circuit := ⟨LW_i 419 (by decide +kernel) rfl, LW_i 420 (by decide +kernel) rfl⟩
theorem cw_X11_arbiter : Cw yX11_arbiter cX11_arbiter 4 (some .boolean) 3 := ⟨LW_i 1 (by decide +kernel) rfl, LW_i 448 (by decide +kernel) rfl, by decide +kernel⟩
theorem vw_X11_arbiter : Vw yX11_arbiter := ⟨LW_i 446 (by decide +kernel) rfl, LW_i 447 (by decide +kernel) rfl⟩
theorem cw_X11_stuck : Cw yX11_stuck cX11_stuck 3 (some .boolean) 2 := ⟨LW_i 1 (by decide +kernel) rfl, LW_i 464 (by decide +kernel) rfl, by decide +kernel⟩
theorem vw_X11_stuck : Vw yX11_stuck := ⟨LW_i 462 (by decide +kernel) rfl, LW_i 463 (by decide +kernel) rfl⟩
theorem cw_X11_asked : Cw yX11_asked cX11_asked 2 (some .int) 1 := ⟨LW_i 1 (by decide +kernel) rfl, LW_i 476 (by decide +kernel) rfl, by decide +kernel⟩
theorem vw_X11_asked : Vw yX11_asked := ⟨LW_i 474 (by decide +kernel) rfl, LW_i 475 (by decide +kernel) rfl⟩
theorem cw_X11_states : Cw yX11_states cX11_states 1 (some .int) 0 := ⟨LW_i 1 (by decide +kernel) rfl, LW_i 492 (by decide +kernel) rfl, by decide +kernel⟩
theorem vw_X11_states : Vw yX11_states := ⟨LW_i 490 (by decide +kernel) rfl, LW_i 491 (by decide +kernel) rfl⟩
theorem cw_X11_state : Cw yX11_state cX11_state 2 (some .int) 1 := ⟨LW_i 1 (by decide +kernel) rfl, LW_i 519 (by decide +kernel) rfl, by decide +kernel⟩
theorem vw_X11_state : Vw yX11_state := ⟨LW_i 517 (by decide +kernel) rfl, LW_i 518 (by decide +kernel) rfl⟩
theorem cw_X11_place : Cw yX11_place cX11_place 2 (some .int) 1 := ⟨LW_i 1 (by decide +kernel) rfl, LW_i 527 (by decide +kernel) rfl, by decide +kernel⟩
theorem vw_X11_place : Vw yX11_place := ⟨LW_i 525 (by decide +kernel) rfl, LW_i 526 (by decide +kernel) rfl⟩
theorem cw_X11_hazard : Cw yX11_hazard cX11_hazard 3 (some .int) 2 := ⟨LW_i 1 (by decide +kernel) rfl, LW_i 536 (by decide +kernel) rfl, by decide +kernel⟩
theorem vw_X11_hazard : Vw yX11_hazard := ⟨LW_i 534 (by decide +kernel) rfl, LW_i 535 (by decide +kernel) rfl⟩
theorem cw_X11_stop : Cw yX11_stop cX11_stop 2 (some .int) 1 := ⟨LW_i 1 (by decide +kernel) rfl, LW_i 575 (by decide +kernel) rfl, by decide +kernel⟩
theorem vw_X11_stop : Vw yX11_stop := ⟨LW_i 573 (by decide +kernel) rfl, LW_i 574 (by decide +kernel) rfl⟩
theorem cw_X11_way : Cw yX11_way cX11_way 2 (some .int) 1 := ⟨LW_i 1 (by decide +kernel) rfl, LW_i 583 (by decide +kernel) rfl, by decide +kernel⟩
theorem vw_X11_way : Vw yX11_way := ⟨LW_i 581 (by decide +kernel) rfl, LW_i 582 (by decide +kernel) rfl⟩
theorem cw_X11_change : Cw yX11_change cX11_change 3 (some .int) 2 := ⟨LW_i 1 (by decide +kernel) rfl, LW_i 592 (by decide +kernel) rfl, by decide +kernel⟩
theorem vw_X11_change : Vw yX11_change := ⟨LW_i 590 (by decide +kernel) rfl, LW_i 591 (by decide +kernel) rfl⟩
theorem cw_X11_live : Cw yX11_live cX11_live 2 (some .int) 1 := ⟨LW_i 1 (by decide +kernel) rfl, LW_i 601 (by decide +kernel) rfl, by decide +kernel⟩
theorem vw_X11_live : Vw yX11_live := ⟨LW_i 599 (by decide +kernel) rfl, LW_i 600 (by decide +kernel) rfl⟩
theorem cw_X11_both : Cw yX11_both cX11_both 2 (some .int) 1 := ⟨LW_i 1 (by decide +kernel) rfl, LW_i 626 (by decide +kernel) rfl, by decide +kernel⟩
theorem vw_X11_both : Vw yX11_both := ⟨LW_i 624 (by decide +kernel) rfl, LW_i 625 (by decide +kernel) rfl⟩
theorem cw_X11_run : Cw yX11_run cX11_run 4 (some .int) 2 := ⟨LW_i 1 (by decide +kernel) rfl, LW_i 634 (by decide +kernel) rfl, by decide +kernel⟩
theorem vw_X11_run : Vw yX11_run := ⟨LW_i 632 (by decide +kernel) rfl, LW_i 633 (by decide +kernel) rfl⟩
theorem cw_X11_changed : Cw yX11_changed cX11_changed 5 (some .int) 3 := ⟨LW_i 1 (by decide +kernel) rfl, LW_i 651 (by decide +kernel) rfl, by decide +kernel⟩
theorem vw_X11_changed : Vw yX11_changed := ⟨LW_i 649 (by decide +kernel) rfl, LW_i 650 (by decide +kernel) rfl⟩
theorem cw_X11_node : Cw yX11_node cX11_node 3 (some .int) 1 := ⟨LW_i 1 (by decide +kernel) rfl, LW_i 655 (by decide +kernel) rfl, by decide +kernel⟩
theorem vw_X11_node : Vw yX11_node := ⟨LW_i 653 (by decide +kernel) rfl, LW_i 654 (by decide +kernel) rfl⟩
theorem cw_X11_arc : Cw yX11_arc cX11_arc 5 (some .int) 3 := ⟨LW_i 1 (by decide +kernel) rfl, LW_i 675 (by decide +kernel) rfl, by decide +kernel⟩
theorem vw_X11_arc : Vw yX11_arc := ⟨LW_i 673 (by decide +kernel) rfl, LW_i 674 (by decide +kernel) rfl⟩
theorem cw_X11_tokens : Cw yX11_tokens cX11_tokens 4 (some .boolean) 2 := ⟨LW_i 1 (by decide +kernel) rfl, LW_i 690 (by decide +kernel) rfl, by decide +kernel⟩
theorem vw_X11_tokens : Vw yX11_tokens := ⟨LW_i 688 (by decide +kernel) rfl, LW_i 689 (by decide +kernel) rfl⟩
theorem cw_X11_clear : Cw yX11_clear cX11_clear 1 none 0 := ⟨LW_i 1 (by decide +kernel) rfl, LW_i 698 (by decide +kernel) rfl, by decide +kernel⟩
theorem vw_X11_clear : Vw yX11_clear := ⟨LW_i 696 (by decide +kernel) rfl, LW_i 697 (by decide +kernel) rfl⟩
theorem cw_X11_dead : Cw yX11_dead cX11_dead 1 (some .int) 0 := ⟨LW_i 1 (by decide +kernel) rfl, LW_i 706 (by decide +kernel) rfl, by decide +kernel⟩
theorem vw_X11_dead : Vw yX11_dead := ⟨LW_i 704 (by decide +kernel) rfl, LW_i 705 (by decide +kernel) rfl⟩
theorem cw_X11_turn : Cw yX11_turn cX11_turn 2 (some .long) 1 := ⟨LW_i 1 (by decide +kernel) rfl, LW_i 727 (by decide +kernel) rfl, by decide +kernel⟩
theorem vw_X11_turn : Vw yX11_turn := ⟨LW_i 725 (by decide +kernel) rfl, LW_i 726 (by decide +kernel) rfl⟩
theorem cw_X11_time : Cw yX11_time cX11_time 4 (some .int) 2 := ⟨LW_i 1 (by decide +kernel) rfl, LW_i 865 (by decide +kernel) rfl, by decide +kernel⟩
theorem vw_X11_time : Vw yX11_time := ⟨LW_i 863 (by decide +kernel) rfl, LW_i 864 (by decide +kernel) rfl⟩
theorem cw_X11_helps : Cw yX11_helps cX11_helps 1 (some .int) 0 := ⟨LW_i 1 (by decide +kernel) rfl, LW_i 818 (by decide +kernel) rfl, by decide +kernel⟩
theorem vw_X11_helps : Vw yX11_helps := ⟨LW_i 816 (by decide +kernel) rfl, LW_i 817 (by decide +kernel) rfl⟩
theorem cw_X11_count : Cw yX11_count cX11_count 2 (some .int) 1 := ⟨LW_i 1 (by decide +kernel) rfl, LW_i 834 (by decide +kernel) rfl, by decide +kernel⟩
theorem vw_X11_count : Vw yX11_count := ⟨LW_i 832 (by decide +kernel) rfl, LW_i 833 (by decide +kernel) rfl⟩
theorem cw_X11_forgetWalk : Cw yX11_forgetWalk cX11_forgetWalk 1 none 0 := ⟨LW_i 1 (by decide +kernel) rfl, LW_i 432 (by decide +kernel) rfl, by decide +kernel⟩
theorem vw_X11_forgetWalk : Vw yX11_forgetWalk := ⟨LW_i 431 (by decide +kernel) rfl, LW_s (List.mem_of_getElem? (i := 7) (by decide +kernel)) rfl⟩
theorem cw_X11_forgetRings : Cw yX11_forgetRings cX11_forgetRings 1 none 0 := ⟨LW_i 1 (by decide +kernel) rfl, LW_i 663 (by decide +kernel) rfl, by decide +kernel⟩
theorem vw_X11_forgetRings : Vw yX11_forgetRings := ⟨LW_i 662 (by decide +kernel) rfl, LW_s (List.mem_of_getElem? (i := 16) (by decide +kernel)) rfl⟩
theorem cw_X11_isSignal : Cw yX11_isSignal cX11_isSignal 1 (some .boolean) 1 := ⟨LW_i 1 (by decide +kernel) rfl, LW_i 451 (by decide +kernel) rfl, by decide +kernel⟩
theorem sw_X11_isSignal : Cond.static yX11_isSignal ∈ LW := LW_i 450 (by decide +kernel) rfl
theorem cw_X11_isState : Cw yX11_isState cX11_isState 1 (some .boolean) 1 := ⟨LW_i 1 (by decide +kernel) rfl, LW_i 424 (by decide +kernel) rfl, by decide +kernel⟩
theorem sw_X11_isState : Cond.static yX11_isState ∈ LW := LW_i 423 (by decide +kernel) rfl
theorem cw_X11_isRunLength : Cw yX11_isRunLength cX11_isRunLength 1 (some .boolean) 1 := ⟨LW_i 1 (by decide +kernel) rfl, LW_i 637 (by decide +kernel) rfl, by decide +kernel⟩
theorem sw_X11_isRunLength : Cond.static yX11_isRunLength ∈ LW := LW_i 636 (by decide +kernel) rfl
theorem cw_X11_isIn : Cw yX11_isIn cX11_isIn 2 (some .boolean) 2 := ⟨LW_i 1 (by decide +kernel) rfl, LW_i 388 (by decide +kernel) rfl, by decide +kernel⟩
theorem sw_X11_isIn : Cond.static yX11_isIn ∈ LW := LW_i 387 (by decide +kernel) rfl
theorem cw_X12_init : Cw yX12_init cX12_init 2 none 0 := ⟨LW_i 14 (by decide +kernel) rfl, LW_i 973 (by decide +kernel) rfl, by decide +kernel⟩
theorem cw_X12_thrown : Cw yX12_thrown cX12_thrown 1 (some .int) 0 := ⟨LW_i 14 (by decide +kernel) rfl, LW_i 1075 (by decide +kernel) rfl, by decide +kernel⟩
theorem vw_X12_thrown : Vw yX12_thrown := ⟨LW_i 1073 (by decide +kernel) rfl, LW_i 1074 (by decide +kernel) rfl⟩
theorem cw_X12_isIn : Cw yX12_isIn cX12_isIn 3 (some .boolean) 3 := ⟨LW_i 14 (by decide +kernel) rfl, LW_i 1198 (by decide +kernel) rfl, by decide +kernel⟩
theorem sw_X12_isIn : Cond.static yX12_isIn ∈ LW := LW_i 1197 (by decide +kernel) rfl
theorem cw_X12_isSignal : Cw yX12_isSignal cX12_isSignal 1 (some .boolean) 1 := ⟨LW_i 14 (by decide +kernel) rfl, LW_i 1127 (by decide +kernel) rfl, by decide +kernel⟩
theorem sw_X12_isSignal : Cond.static yX12_isSignal ∈ LW := LW_i 1126 (by decide +kernel) rfl
theorem cw_X12_isState : Cw yX12_isState cX12_isState 1 (some .boolean) 1 := ⟨LW_i 14 (by decide +kernel) rfl, LW_i 1120 (by decide +kernel) rfl, by decide +kernel⟩
theorem sw_X12_isState : Cond.static yX12_isState ∈ LW := LW_i 1119 (by decide +kernel) rfl
theorem cw_X12_bytesIn : Cw yX12_bytesIn cX12_bytesIn 3 (some .int) 1 := ⟨LW_i 14 (by decide +kernel) rfl, LW_i 1082 (by decide +kernel) rfl, by decide +kernel⟩
theorem sw_X12_bytesIn : Cond.static yX12_bytesIn ∈ LW := LW_i 1081 (by decide +kernel) rfl
theorem cw_X12_put : Cw yX12_put cX12_put 3 none 1 := ⟨LW_i 14 (by decide +kernel) rfl, LW_i 1086 (by decide +kernel) rfl, by decide +kernel⟩
theorem vw_X12_put : Vw yX12_put := ⟨LW_i 1085 (by decide +kernel) rfl, LW_s (List.mem_of_getElem? (i := 28) (by decide +kernel)) rfl⟩
theorem cw_X12_feed : Cw yX12_feed cX12_feed 6 (some .int) 5 := ⟨LW_i 14 (by decide +kernel) rfl, LW_i 1079 (by decide +kernel) rfl, by decide +kernel⟩
theorem vw_X12_feed : Vw yX12_feed := ⟨LW_i 1077 (by decide +kernel) rfl, LW_i 1078 (by decide +kernel) rfl⟩
theorem cw_X12_end : Cw yX12_end cX12_end 2 (some .boolean) 1 := ⟨LW_i 14 (by decide +kernel) rfl, LW_i 1090 (by decide +kernel) rfl, by decide +kernel⟩
theorem vw_X12_end : Vw yX12_end := ⟨LW_i 1088 (by decide +kernel) rfl, LW_i 1089 (by decide +kernel) rfl⟩
theorem cw_X12_look : Cw yX12_look cX12_look 1 (some .int) 0 := ⟨LW_i 14 (by decide +kernel) rfl, LW_i 1102 (by decide +kernel) rfl, by decide +kernel⟩
theorem vw_X12_look : Vw yX12_look := ⟨LW_i 1101 (by decide +kernel) rfl, LW_s (List.mem_of_getElem? (i := 30) (by decide +kernel)) rfl⟩
theorem cw_X12_isLetter : Cw yX12_isLetter cX12_isLetter 1 (some .boolean) 1 := ⟨LW_i 14 (by decide +kernel) rfl, LW_i 1109 (by decide +kernel) rfl, by decide +kernel⟩
theorem sw_X12_isLetter : Cond.static yX12_isLetter ∈ LW := LW_i 1108 (by decide +kernel) rfl
theorem cw_X12_read : Cw yX12_read cX12_read 2 (some .int) 0 := ⟨LW_i 14 (by decide +kernel) rfl, LW_i 1098 (by decide +kernel) rfl, by decide +kernel⟩
theorem vw_X12_read : Vw yX12_read := ⟨LW_i 1097 (by decide +kernel) rfl, LW_s (List.mem_of_getElem? (i := 29) (by decide +kernel)) rfl⟩
theorem cw_X12_equation : Cw yX12_equation cX12_equation 3 (some .boolean) 0 := ⟨LW_i 14 (by decide +kernel) rfl, LW_i 1106 (by decide +kernel) rfl, by decide +kernel⟩
theorem vw_X12_equation : Vw yX12_equation := ⟨LW_i 1105 (by decide +kernel) rfl, LW_s (List.mem_of_getElem? (i := 31) (by decide +kernel)) rfl⟩
theorem cw_X12_term : Cw yX12_term cX12_term 5 (some .boolean) 1 := ⟨LW_i 14 (by decide +kernel) rfl, LW_i 1113 (by decide +kernel) rfl, by decide +kernel⟩
theorem vw_X12_term : Vw yX12_term := ⟨LW_i 1112 (by decide +kernel) rfl, LW_s (List.mem_of_getElem? (i := 32) (by decide +kernel)) rfl⟩
theorem cw_X12_fault : Cw yX12_fault cX12_fault 1 (some .int) 0 := ⟨LW_i 14 (by decide +kernel) rfl, LW_i 1094 (by decide +kernel) rfl, by decide +kernel⟩
theorem vw_X12_fault : Vw yX12_fault := ⟨LW_i 1092 (by decide +kernel) rfl, LW_i 1093 (by decide +kernel) rfl⟩
theorem cw_X12_circuit : Cw yX12_circuit cX12_circuit 3 (some .boolean) 1 := ⟨LW_i 14 (by decide +kernel) rfl, LW_i 1117 (by decide +kernel) rfl, by decide +kernel⟩
theorem vw_X12_circuit : Vw yX12_circuit := ⟨LW_i 1115 (by decide +kernel) rfl, LW_i 1116 (by decide +kernel) rfl⟩
theorem cw_X12_arbiter : Cw yX12_arbiter cX12_arbiter 4 (some .boolean) 3 := ⟨LW_i 14 (by decide +kernel) rfl, LW_i 1124 (by decide +kernel) rfl, by decide +kernel⟩
theorem vw_X12_arbiter : Vw yX12_arbiter := ⟨LW_i 1122 (by decide +kernel) rfl, LW_i 1123 (by decide +kernel) rfl⟩
theorem cw_X12_stuck : Cw yX12_stuck cX12_stuck 3 (some .boolean) 2 := ⟨LW_i 14 (by decide +kernel) rfl, LW_i 1131 (by decide +kernel) rfl, by decide +kernel⟩
theorem vw_X12_stuck : Vw yX12_stuck := ⟨LW_i 1129 (by decide +kernel) rfl, LW_i 1130 (by decide +kernel) rfl⟩
theorem cw_X12_askedIn : Cw yX12_askedIn cX12_askedIn 6 (some .int) 1 := ⟨LW_i 14 (by decide +kernel) rfl, LW_i 1139 (by decide +kernel) rfl, by decide +kernel⟩
theorem vw_X12_askedIn : Vw yX12_askedIn := ⟨LW_i 1138 (by decide +kernel) rfl, LW_s (List.mem_of_getElem? (i := 33) (by decide +kernel)) rfl⟩
theorem cw_X12_asked : Cw yX12_asked cX12_asked 2 (some .int) 1 := ⟨LW_i 14 (by decide +kernel) rfl, LW_i 1135 (by decide +kernel) rfl, by decide +kernel⟩
theorem vw_X12_asked : Vw yX12_asked := ⟨LW_i 1133 (by decide +kernel) rfl, LW_i 1134 (by decide +kernel) rfl⟩
theorem cw_X12_walks : Cw yX12_walks cX12_walks 6 none 0 := ⟨LW_i 14 (by decide +kernel) rfl, LW_i 1147 (by decide +kernel) rfl, by decide +kernel⟩
theorem vw_X12_walks : Vw yX12_walks := ⟨LW_i 1146 (by decide +kernel) rfl, LW_s (List.mem_of_getElem? (i := 34) (by decide +kernel)) rfl⟩
theorem cw_X12_states : Cw yX12_states cX12_states 1 (some .int) 0 := ⟨LW_i 14 (by decide +kernel) rfl, LW_i 1143 (by decide +kernel) rfl, by decide +kernel⟩
theorem vw_X12_states : Vw yX12_states := ⟨LW_i 1141 (by decide +kernel) rfl, LW_i 1142 (by decide +kernel) rfl⟩
theorem cw_X12_state : Cw yX12_state cX12_state 2 (some .int) 1 := ⟨LW_i 14 (by decide +kernel) rfl, LW_i 1151 (by decide +kernel) rfl, by decide +kernel⟩
theorem vw_X12_state : Vw yX12_state := ⟨LW_i 1149 (by decide +kernel) rfl, LW_i 1150 (by decide +kernel) rfl⟩
theorem cw_X12_place : Cw yX12_place cX12_place 2 (some .int) 1 := ⟨LW_i 14 (by decide +kernel) rfl, LW_i 1155 (by decide +kernel) rfl, by decide +kernel⟩
theorem vw_X12_place : Vw yX12_place := ⟨LW_i 1153 (by decide +kernel) rfl, LW_i 1154 (by decide +kernel) rfl⟩
theorem cw_X12_hazardOf : Cw yX12_hazardOf cX12_hazardOf 9 (some .int) 2 := ⟨LW_i 14 (by decide +kernel) rfl, LW_i 1163 (by decide +kernel) rfl, by decide +kernel⟩
theorem vw_X12_hazardOf : Vw yX12_hazardOf := ⟨LW_i 1162 (by decide +kernel) rfl, LW_s (List.mem_of_getElem? (i := 35) (by decide +kernel)) rfl⟩
theorem cw_X12_hazard : Cw yX12_hazard cX12_hazard 3 (some .int) 2 := ⟨LW_i 14 (by decide +kernel) rfl, LW_i 1159 (by decide +kernel) rfl, by decide +kernel⟩
theorem vw_X12_hazard : Vw yX12_hazard := ⟨LW_i 1157 (by decide +kernel) rfl, LW_i 1158 (by decide +kernel) rfl⟩
theorem cw_X12_stopOf : Cw yX12_stopOf cX12_stopOf 4 (some .int) 1 := ⟨LW_i 14 (by decide +kernel) rfl, LW_i 1171 (by decide +kernel) rfl, by decide +kernel⟩
theorem vw_X12_stopOf : Vw yX12_stopOf := ⟨LW_i 1170 (by decide +kernel) rfl, LW_s (List.mem_of_getElem? (i := 36) (by decide +kernel)) rfl⟩
theorem cw_X12_stop : Cw yX12_stop cX12_stop 2 (some .int) 1 := ⟨LW_i 14 (by decide +kernel) rfl, LW_i 1167 (by decide +kernel) rfl, by decide +kernel⟩
theorem vw_X12_stop : Vw yX12_stop := ⟨LW_i 1165 (by decide +kernel) rfl, LW_i 1166 (by decide +kernel) rfl⟩
theorem cw_X12_wayLong : Cw yX12_wayLong cX12_wayLong 4 (some .int) 1 := ⟨LW_i 14 (by decide +kernel) rfl, LW_i 1179 (by decide +kernel) rfl, by decide +kernel⟩
theorem vw_X12_wayLong : Vw yX12_wayLong := ⟨LW_i 1178 (by decide +kernel) rfl, LW_s (List.mem_of_getElem? (i := 37) (by decide +kernel)) rfl⟩
theorem cw_X12_way : Cw yX12_way cX12_way 2 (some .int) 1 := ⟨LW_i 14 (by decide +kernel) rfl, LW_i 1175 (by decide +kernel) rfl, by decide +kernel⟩
theorem vw_X12_way : Vw yX12_way := ⟨LW_i 1173 (by decide +kernel) rfl, LW_i 1174 (by decide +kernel) rfl⟩
theorem cw_X12_change : Cw yX12_change cX12_change 5 (some .int) 2 := ⟨LW_i 14 (by decide +kernel) rfl, LW_i 1183 (by decide +kernel) rfl, by decide +kernel⟩
theorem vw_X12_change : Vw yX12_change := ⟨LW_i 1181 (by decide +kernel) rfl, LW_i 1182 (by decide +kernel) rfl⟩
theorem cw_X12_live : Cw yX12_live cX12_live 8 (some .int) 1 := ⟨LW_i 14 (by decide +kernel) rfl, LW_i 1187 (by decide +kernel) rfl, by decide +kernel⟩
theorem vw_X12_live : Vw yX12_live := ⟨LW_i 1185 (by decide +kernel) rfl, LW_i 1186 (by decide +kernel) rfl⟩
theorem cw_X12_both : Cw yX12_both cX12_both 3 (some .int) 1 := ⟨LW_i 14 (by decide +kernel) rfl, LW_i 1191 (by decide +kernel) rfl, by decide +kernel⟩
theorem vw_X12_both : Vw yX12_both := ⟨LW_i 1189 (by decide +kernel) rfl, LW_i 1190 (by decide +kernel) rfl⟩
theorem cw_X12_runs : Cw yX12_runs cX12_runs 11 (some .int) 2 := ⟨LW_i 14 (by decide +kernel) rfl, LW_i 1202 (by decide +kernel) rfl, by decide +kernel⟩
theorem vw_X12_runs : Vw yX12_runs := ⟨LW_i 1201 (by decide +kernel) rfl, LW_s (List.mem_of_getElem? (i := 38) (by decide +kernel)) rfl⟩
theorem cw_X12_run : Cw yX12_run cX12_run 4 (some .int) 2 := ⟨LW_i 14 (by decide +kernel) rfl, LW_i 1195 (by decide +kernel) rfl, by decide +kernel⟩
theorem vw_X12_run : Vw yX12_run := ⟨LW_i 1193 (by decide +kernel) rfl, LW_i 1194 (by decide +kernel) rfl⟩
theorem cw_X12_changed : Cw yX12_changed cX12_changed 6 (some .int) 3 := ⟨LW_i 14 (by decide +kernel) rfl, LW_i 1209 (by decide +kernel) rfl, by decide +kernel⟩
theorem vw_X12_changed : Vw yX12_changed := ⟨LW_i 1207 (by decide +kernel) rfl, LW_i 1208 (by decide +kernel) rfl⟩
theorem cw_X12_node : Cw yX12_node cX12_node 2 (some .int) 1 := ⟨LW_i 14 (by decide +kernel) rfl, LW_i 1213 (by decide +kernel) rfl, by decide +kernel⟩
theorem vw_X12_node : Vw yX12_node := ⟨LW_i 1211 (by decide +kernel) rfl, LW_i 1212 (by decide +kernel) rfl⟩
theorem cw_X12_arc : Cw yX12_arc cX12_arc 4 (some .int) 3 := ⟨LW_i 14 (by decide +kernel) rfl, LW_i 1217 (by decide +kernel) rfl, by decide +kernel⟩
theorem vw_X12_arc : Vw yX12_arc := ⟨LW_i 1215 (by decide +kernel) rfl, LW_i 1216 (by decide +kernel) rfl⟩
theorem cw_X12_tokens : Cw yX12_tokens cX12_tokens 3 (some .boolean) 2 := ⟨LW_i 14 (by decide +kernel) rfl, LW_i 1221 (by decide +kernel) rfl, by decide +kernel⟩
theorem vw_X12_tokens : Vw yX12_tokens := ⟨LW_i 1219 (by decide +kernel) rfl, LW_i 1220 (by decide +kernel) rfl⟩
theorem cw_X12_clear : Cw yX12_clear cX12_clear 1 none 0 := ⟨LW_i 14 (by decide +kernel) rfl, LW_i 1225 (by decide +kernel) rfl, by decide +kernel⟩
theorem vw_X12_clear : Vw yX12_clear := ⟨LW_i 1223 (by decide +kernel) rfl, LW_i 1224 (by decide +kernel) rfl⟩
theorem cw_X12_round : Cw yX12_round cX12_round 8 none 5 := ⟨LW_i 14 (by decide +kernel) rfl, LW_i 1238 (by decide +kernel) rfl, by decide +kernel⟩
theorem vw_X12_round : Vw yX12_round := ⟨LW_i 1237 (by decide +kernel) rfl, LW_s (List.mem_of_getElem? (i := 40) (by decide +kernel)) rfl⟩
theorem cw_X12_ring : Cw yX12_ring cX12_ring 3 none 2 := ⟨LW_i 14 (by decide +kernel) rfl, LW_i 1242 (by decide +kernel) rfl, by decide +kernel⟩
theorem vw_X12_ring : Vw yX12_ring := ⟨LW_i 1241 (by decide +kernel) rfl, LW_s (List.mem_of_getElem? (i := 41) (by decide +kernel)) rfl⟩
theorem cw_X12_goRound : Cw yX12_goRound cX12_goRound 2 none 0 := ⟨LW_i 14 (by decide +kernel) rfl, LW_i 1233 (by decide +kernel) rfl, by decide +kernel⟩
theorem vw_X12_goRound : Vw yX12_goRound := ⟨LW_i 1232 (by decide +kernel) rfl, LW_s (List.mem_of_getElem? (i := 39) (by decide +kernel)) rfl⟩
theorem cw_X12_dead : Cw yX12_dead cX12_dead 1 (some .int) 0 := ⟨LW_i 14 (by decide +kernel) rfl, LW_i 1229 (by decide +kernel) rfl, by decide +kernel⟩
theorem vw_X12_dead : Vw yX12_dead := ⟨LW_i 1227 (by decide +kernel) rfl, LW_i 1228 (by decide +kernel) rfl⟩
theorem cw_X12_turn : Cw yX12_turn cX12_turn 8 (some .long) 1 := ⟨LW_i 14 (by decide +kernel) rfl, LW_i 1246 (by decide +kernel) rfl, by decide +kernel⟩
theorem vw_X12_turn : Vw yX12_turn := ⟨LW_i 1244 (by decide +kernel) rfl, LW_i 1245 (by decide +kernel) rfl⟩
theorem cw_X12_times : Cw yX12_times cX12_times 11 none 1 := ⟨LW_i 14 (by decide +kernel) rfl, LW_i 1254 (by decide +kernel) rfl, by decide +kernel⟩
theorem vw_X12_times : Vw yX12_times := ⟨LW_i 1253 (by decide +kernel) rfl, LW_s (List.mem_of_getElem? (i := 42) (by decide +kernel)) rfl⟩
theorem cw_X12_time : Cw yX12_time cX12_time 4 (some .int) 2 := ⟨LW_i 14 (by decide +kernel) rfl, LW_i 1250 (by decide +kernel) rfl, by decide +kernel⟩
theorem vw_X12_time : Vw yX12_time := ⟨LW_i 1248 (by decide +kernel) rfl, LW_i 1249 (by decide +kernel) rfl⟩
theorem cw_X12_helps : Cw yX12_helps cX12_helps 7 (some .int) 0 := ⟨LW_i 14 (by decide +kernel) rfl, LW_i 1259 (by decide +kernel) rfl, by decide +kernel⟩
theorem vw_X12_helps : Vw yX12_helps := ⟨LW_i 1257 (by decide +kernel) rfl, LW_i 1258 (by decide +kernel) rfl⟩
theorem cw_X12_count : Cw yX12_count cX12_count 4 (some .int) 1 := ⟨LW_i 14 (by decide +kernel) rfl, LW_i 1263 (by decide +kernel) rfl, by decide +kernel⟩
theorem vw_X12_count : Vw yX12_count := ⟨LW_i 1261 (by decide +kernel) rfl, LW_i 1262 (by decide +kernel) rfl⟩
theorem cw_J6_bitCount_0f7a4 : Cw yJ6_bitCount_0f7a4 cJ6_bitCount_0f7a4 1 (some .int) 1 := ⟨LW_i 15 (by decide +kernel) rfl, LW_i 556 (by decide +kernel) rfl, by decide +kernel⟩
theorem sw_J6_bitCount_0f7a4 : Cond.static yJ6_bitCount_0f7a4 ∈ LW := LW_i 555 (by decide +kernel) rfl
theorem cw_J9_max_7cf53 : Cw yJ9_max_7cf53 cJ9_max_7cf53 2 (some .int) 2 := ⟨LW_i 20 (by decide +kernel) rfl, LW_i 966 (by decide +kernel) rfl, by decide +kernel⟩
theorem sw_J9_max_7cf53 : Cond.static yJ9_max_7cf53 ∈ LW := LW_i 965 (by decide +kernel) rfl
theorem cw_J7_fill_53178 : Cw yJ7_fill_53178 cJ7_fill_53178 4 none 2 := ⟨LW_i 6 (by decide +kernel) rfl, LW_i 86 (by decide +kernel) rfl, by decide +kernel⟩
theorem sw_J7_fill_53178 : Cond.static yJ7_fill_53178 ∈ LW := LW_i 85 (by decide +kernel) rfl
