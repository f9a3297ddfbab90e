theorem mi_in (i : Nat) {w : Cond} (h : lw_tbl[i]? = some w) (hg : goodWord w = true) : w ∈ mi_gd := List.mem_filter.mpr ⟨List.mem_of_getElem? h, hg⟩
theorem mi_inl {ws : List Cond} (ps : List Nat) (hp : ws = ps.filterMap (fun i => lw_tbl[i]?)) (hg : ws.all goodWord = true) : ∀ w ∈ ws, w ∈ mi_gd := by
  intro w hw
  have h1 := List.all_eq_true.mp hg w hw
  rw [hp] at hw
  obtain ⟨i, -, hi⟩ := List.mem_filterMap.mp hw
  exact mi_in i hi h1
theorem cf_0 : (∀ w ∈ u_ws RX0 TX0 9, w ∈ mi_gd) ∧ Cond.instantiable RX0 9 ∈ mi_gd ∧ Cond.initialized RX0 ∈ mi_gd := ⟨mi_inl [187, 189, 191, 193, 195, 197, 199, 201, 203] (by decide +kernel) (by decide +kernel), mi_in 154 (by decide +kernel) rfl, mi_in 92 (by decide +kernel) rfl⟩
theorem cf_1 : (∀ w ∈ u_ws RX1 TX1 2, w ∈ mi_gd) ∧ Cond.instantiable RX1 2 ∈ mi_gd ∧ Cond.initialized RX1 ∈ mi_gd := ⟨mi_inl [396, 398] (by decide +kernel) (by decide +kernel), mi_in 386 (by decide +kernel) rfl, mi_in 101 (by decide +kernel) rfl⟩
theorem cf_2 : (∀ w ∈ u_ws RX2 TX2 7, w ∈ mi_gd) ∧ Cond.instantiable RX2 7 ∈ mi_gd ∧ Cond.initialized RX2 ∈ mi_gd := ⟨mi_inl [370, 372, 374, 376, 378, 380, 382] (by decide +kernel) (by decide +kernel), mi_in 353 (by decide +kernel) rfl, mi_in 100 (by decide +kernel) rfl⟩
theorem cf_3 : (∀ w ∈ u_ws RX3 TX3 12, w ∈ mi_gd) ∧ Cond.instantiable RX3 12 ∈ mi_gd ∧ Cond.initialized RX3 ∈ mi_gd := ⟨mi_inl [280, 282, 284, 286, 288, 290, 292, 294, 296, 298, 300, 302] (by decide +kernel) (by decide +kernel), mi_in 148 (by decide +kernel) rfl, mi_in 91 (by decide +kernel) rfl⟩
theorem cf_4 : (∀ w ∈ u_ws RX4 TX4 5, w ∈ mi_gd) ∧ Cond.instantiable RX4 5 ∈ mi_gd ∧ Cond.initialized RX4 ∈ mi_gd := ⟨mi_inl [135, 137, 139, 141, 143] (by decide +kernel) (by decide +kernel), mi_in 114 (by decide +kernel) rfl, mi_in 90 (by decide +kernel) rfl⟩
theorem cf_5 : (∀ w ∈ u_ws RX5 TX5 4, w ∈ mi_gd) ∧ Cond.instantiable RX5 4 ∈ mi_gd ∧ Cond.initialized RX5 ∈ mi_gd := ⟨mi_inl [234, 236, 238, 240] (by decide +kernel) (by decide +kernel), mi_in 222 (by decide +kernel) rfl, mi_in 96 (by decide +kernel) rfl⟩
theorem cf_6 : (∀ w ∈ u_ws RX6 TX6 2, w ∈ mi_gd) ∧ Cond.instantiable RX6 2 ∈ mi_gd ∧ Cond.initialized RX6 ∈ mi_gd := ⟨mi_inl [170, 172] (by decide +kernel) (by decide +kernel), mi_in 160 (by decide +kernel) rfl, mi_in 93 (by decide +kernel) rfl⟩
theorem cf_7 : (∀ w ∈ u_ws RX7 TX7 4, w ∈ mi_gd) ∧ Cond.instantiable RX7 4 ∈ mi_gd ∧ Cond.initialized RX7 ∈ mi_gd := ⟨mi_inl [257, 259, 261, 263] (by decide +kernel) (by decide +kernel), mi_in 244 (by decide +kernel) rfl, mi_in 97 (by decide +kernel) rfl⟩
theorem cf_8 : (∀ w ∈ u_ws RX8 TX8 3, w ∈ mi_gd) ∧ Cond.instantiable RX8 3 ∈ mi_gd ∧ Cond.initialized RX8 ∈ mi_gd := ⟨mi_inl [345, 347, 349] (by decide +kernel) (by decide +kernel), mi_in 333 (by decide +kernel) rfl, mi_in 99 (by decide +kernel) rfl⟩
theorem cf_9 : (∀ w ∈ u_ws RX9 TX9 1, w ∈ mi_gd) ∧ Cond.instantiable RX9 1 ∈ mi_gd ∧ Cond.initialized RX9 ∈ mi_gd := ⟨mi_inl [216] (by decide +kernel) (by decide +kernel), mi_in 207 (by decide +kernel) rfl, mi_in 95 (by decide +kernel) rfl⟩
theorem cf_10 : (∀ w ∈ u_ws RX10 TX10 5, w ∈ mi_gd) ∧ Cond.instantiable RX10 5 ∈ mi_gd ∧ Cond.initialized RX10 ∈ mi_gd := ⟨mi_inl [321, 323, 325, 327, 329] (by decide +kernel) (by decide +kernel), mi_in 308 (by decide +kernel) rfl, mi_in 98 (by decide +kernel) rfl⟩
theorem cf_11 : (∀ w ∈ u_ws RX11 TX11 13, w ∈ mi_gd) ∧ Cond.instantiable RX11 13 ∈ mi_gd ∧ Cond.initialized RX11 ∈ mi_gd := ⟨mi_inl [425, 427, 429, 431, 433, 435, 437, 439, 441, 443, 445, 447, 449] (by decide +kernel) (by decide +kernel), mi_in 106 (by decide +kernel) rfl, mi_in 89 (by decide +kernel) rfl⟩
theorem cf_12 : (∀ w ∈ u_ws RX12 TX12 49, w ∈ mi_gd) ∧ Cond.instantiable RX12 49 ∈ mi_gd ∧ Cond.initialized RX12 ∈ mi_gd := ⟨mi_inl [1045, 1047, 1049, 1051, 1053, 1055, 1057, 1059, 1061, 1063, 1065, 1067, 1069, 1071, 1073, 1075, 1077, 1079, 1081, 1083, 1085, 1087, 1089, 1091, 1093, 1095, 1097, 1099, 1101, 1103, 1105, 1107, 1109, 1111, 1113, 1115, 1117, 1119, 1121, 1123, 1125, 1127, 1129, 1131, 1133, 1135, 1137, 1139, 1141] (by decide +kernel) (by decide +kernel), mi_in 991 (by decide +kernel) rfl, mi_in 103 (by decide +kernel) rfl⟩
theorem mi_cf : mi_CF := by
  intro ci q hq
  match ci, hq with
  | 0, hq => cases hq; exact ⟨cf_0.1, tyX0_ok, nmX0, cf_0.2.1, cf_0.2.2, by decide⟩
  | 1, hq => cases hq; exact ⟨cf_1.1, tyX1_ok, nmX1, cf_1.2.1, cf_1.2.2, by decide⟩
  | 2, hq => cases hq; exact ⟨cf_2.1, tyX2_ok, nmX2, cf_2.2.1, cf_2.2.2, by decide⟩
  | 3, hq => cases hq; exact ⟨cf_3.1, tyX3_ok, nmX3, cf_3.2.1, cf_3.2.2, by decide⟩
  | 4, hq => cases hq; exact ⟨cf_4.1, tyX4_ok, nmX4, cf_4.2.1, cf_4.2.2, by decide⟩
  | 5, hq => cases hq; exact ⟨cf_5.1, tyX5_ok, nmX5, cf_5.2.1, cf_5.2.2, by decide⟩
  | 6, hq => cases hq; exact ⟨cf_6.1, tyX6_ok, nmX6, cf_6.2.1, cf_6.2.2, by decide⟩
  | 7, hq => cases hq; exact ⟨cf_7.1, tyX7_ok, nmX7, cf_7.2.1, cf_7.2.2, by decide⟩
  | 8, hq => cases hq; exact ⟨cf_8.1, tyX8_ok, nmX8, cf_8.2.1, cf_8.2.2, by decide⟩
  | 9, hq => cases hq; exact ⟨cf_9.1, tyX9_ok, nmX9, cf_9.2.1, cf_9.2.2, by decide⟩
  | 10, hq => cases hq; exact ⟨cf_10.1, tyX10_ok, nmX10, cf_10.2.1, cf_10.2.2, by decide⟩
  | 11, hq => cases hq; exact ⟨cf_11.1, tyX11_ok, nmX11, cf_11.2.1, cf_11.2.2, by decide⟩
  | 12, hq => cases hq; exact ⟨cf_12.1, tyX12_ok, nmX12, cf_12.2.1, cf_12.2.2, by decide⟩
  | ci + 13, hq => simp [vwCl] at hq
theorem mi_dc : mi_DC := by
  intro ci q hq
  match ci, hq with
  | 0, hq => cases hq; decide +kernel
  | 1, hq => cases hq; decide +kernel
  | 2, hq => cases hq; decide +kernel
  | 3, hq => cases hq; decide +kernel
  | 4, hq => cases hq; decide +kernel
  | 5, hq => cases hq; decide +kernel
  | 6, hq => cases hq; decide +kernel
  | 7, hq => cases hq; decide +kernel
  | 8, hq => cases hq; decide +kernel
  | 9, hq => cases hq; decide +kernel
  | 10, hq => cases hq; decide +kernel
  | 11, hq => cases hq; decide +kernel
  | 12, hq => cases hq; decide +kernel
  | ci + 13, hq => simp [vwCl] at hq
