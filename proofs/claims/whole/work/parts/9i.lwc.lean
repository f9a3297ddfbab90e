/-! ===== the law: its eighteen cases (by wip/whole/glaw.py) ===== -/
section LWC
variable {p : Program} {l : Launch} {e : Env} {s : State} {m : MethodId} {below : List Frame} {meth : Method} {c : Code} {D : va_G} {ca : Nat → ClassId} {b L : Nat} {xs : Nat → Int32}
set_option maxHeartbeats 4000000 in
theorem lc_0 (C0 : lw_C p s m meth c D ca b L xs) (hL : L ≤ 2048) {i kc ks : Nat} {g : Int64} {w : fl_W} {ls : Array Slot} (hi : i + 4 ≤ L) (hJ : JJ w) (hl : lv_has ls 4 (lw_ls s b i)) (hkc : kc ≤ 600000) (hks : ks ≤ 7302250) (kk : ∀ g' w', JJ w' → lw_G p l e s m below meth c D ca b 554 ls [] kc ks (fl_mk g' w')) : lw_G p l e s m below meth c D ca b 120 ls [] kc ks (fl_mk g w) := by
  obtain ⟨⟨hx, hb, hr, hml, hown, hts, hX, hbl, hlocks, hgv⟩, hK, hN⟩ := id C0
  have hbA : ¬ (fun q : Nat => s.heap.size ≤ q) b := Nat.not_le.mpr hbl
  intro H locs hz hP ho hS
  refine lv_aload_n hx hb d_law_120 rfl (lv_at hl 1 rfl) ?_
  refine lv_aload_n hx hb d_law_121 rfl (lv_at hl 0 rfl) ?_
  refine lv_iload_n hx hb d_law_122 rfl (lv_at hl 3 rfl) ?_
  refine lv_iconst (v := 1) hx hb d_law_123 (by decide) ?_
  refine lv_iadd hx hb d_law_124 ?_
  refine va_sld hx hb hX hbl hbA hS (lw_in1 hL hi) d_law_125 ?_
  refine lw_call C0 (k' := 97) (ix := 13) (a := 0) (ci := 11) (As := [.int (xs (nI i + 1).toNatClampNeg)]) (rest := []) (by decide) mk_97 ml_97 (mi_in 452 (by decide +kernel) rfl) rfl rfl (by decide) rfl rfl (st_graph _ g w hJ) hl.1 rfl d_law_126 rfl rfl hkc hks ?_ H locs hz hP ho hS
  rintro r M ⟨x, g', w', rfl, rfl, h2⟩ H locs hz hP ho hS
  refine lv_aload_n hx hb d_law_129 rfl (lv_at hl 2 rfl) ?_
  refine lv_aload_n hx hb d_law_130 rfl (lv_at hl 0 rfl) ?_
  refine lv_iload_n hx hb d_law_131 rfl (lv_at hl 3 rfl) ?_
  refine lv_iconst (v := 1) hx hb d_law_132 (by decide) ?_
  refine lv_iadd hx hb d_law_133 ?_
  refine va_sld hx hb hX hbl hbA hS (lw_in1 hL hi) d_law_134 ?_
  refine lw_call C0 (k' := 127) (ix := 17) (a := 229) (ci := 12) (As := [.int (xs (nI i + 1).toNatClampNeg)]) (rest := [.int x]) (by decide) mk_127 ml_127 (mi_in 1145 (by decide +kernel) rfl) rfl rfl (by decide) rfl rfl (h2) hl.1 rfl d_law_135 rfl rfl hkc hks ?_ H locs hz hP ho hS
  rintro r M ⟨rfl, w2, rfl, hJ2⟩ H locs hz hP ho hS
  exact lv_icmp_eq (tgt := 554) hx hb d_law_138 (by decide) (fun _ => kk g' w2 hJ2 H locs hz hP ho hS) (fun z => absurd rfl z)
set_option maxHeartbeats 4000000 in
theorem lc_1 (C0 : lw_C p s m meth c D ca b L xs) (hL : L ≤ 2048) {i kc ks : Nat} {g : Int64} {w : fl_W} {ls : Array Slot} (hi : i + 4 ≤ L) (hJ : JJ w) (hl : lv_has ls 4 (lw_ls s b i)) (hkc : kc ≤ 600000) (hks : ks ≤ 7302250) (kk : ∀ g' w', JJ w' → lw_G p l e s m below meth c D ca b 554 ls [] kc ks (fl_mk g' w')) : lw_G p l e s m below meth c D ca b 143 ls [] kc ks (fl_mk g w) := by
  obtain ⟨⟨hx, hb, hr, hml, hown, hts, hX, hbl, hlocks, hgv⟩, hK, hN⟩ := id C0
  have hbA : ¬ (fun q : Nat => s.heap.size ≤ q) b := Nat.not_le.mpr hbl
  intro H locs hz hP ho hS
  refine lv_aload_n hx hb d_law_143 rfl (lv_at hl 1 rfl) ?_
  refine lv_aload_n hx hb d_law_144 rfl (lv_at hl 0 rfl) ?_
  refine lv_iload_n hx hb d_law_145 rfl (lv_at hl 3 rfl) ?_
  refine lv_iconst (v := 1) hx hb d_law_146 (by decide) ?_
  refine lv_iadd hx hb d_law_147 ?_
  refine va_sld hx hb hX hbl hbA hS (lw_in1 hL hi) d_law_148 ?_
  refine lv_aload_n hx hb d_law_149 rfl (lv_at hl 0 rfl) ?_
  refine lv_iload_n hx hb d_law_150 rfl (lv_at hl 3 rfl) ?_
  refine lv_iconst (v := 2) hx hb d_law_151 (by decide) ?_
  refine lv_iadd hx hb d_law_152 ?_
  refine va_sld hx hb hX hbl hbA hS (lw_in2 hL hi) d_law_153 ?_
  refine lw_call C0 (k' := 98) (ix := 18) (a := 0) (ci := 11) (As := [.int (xs (nI i + 1).toNatClampNeg), .int (xs (nI i + 2).toNatClampNeg)]) (rest := []) (by decide) mk_98 ml_98 (mi_in 460 (by decide +kernel) rfl) rfl rfl (by decide) rfl rfl (st_join _ _ g w hJ) hl.1 rfl d_law_154 rfl rfl hkc hks ?_ H locs hz hP ho hS
  rintro r M ⟨x, g', w', rfl, rfl, h2⟩ H locs hz hP ho hS
  refine lv_aload_n hx hb d_law_157 rfl (lv_at hl 2 rfl) ?_
  refine lv_aload_n hx hb d_law_158 rfl (lv_at hl 0 rfl) ?_
  refine lv_iload_n hx hb d_law_159 rfl (lv_at hl 3 rfl) ?_
  refine lv_iconst (v := 1) hx hb d_law_160 (by decide) ?_
  refine lv_iadd hx hb d_law_161 ?_
  refine va_sld hx hb hX hbl hbA hS (lw_in1 hL hi) d_law_162 ?_
  refine lv_aload_n hx hb d_law_163 rfl (lv_at hl 0 rfl) ?_
  refine lv_iload_n hx hb d_law_164 rfl (lv_at hl 3 rfl) ?_
  refine lv_iconst (v := 2) hx hb d_law_165 (by decide) ?_
  refine lv_iadd hx hb d_law_166 ?_
  refine va_sld hx hb hX hbl hbA hS (lw_in2 hL hi) d_law_167 ?_
  refine lw_call C0 (k' := 130) (ix := 22) (a := 229) (ci := 12) (As := [.int (xs (nI i + 1).toNatClampNeg), .int (xs (nI i + 2).toNatClampNeg)]) (rest := [.int x]) (by decide) mk_130 ml_130 (mi_in 1156 (by decide +kernel) rfl) rfl rfl (by decide) rfl rfl (h2) hl.1 rfl d_law_168 rfl rfl hkc hks ?_ H locs hz hP ho hS
  rintro r M ⟨rfl, w2, rfl, hJ2⟩ H locs hz hP ho hS
  exact lv_icmp_eq (tgt := 554) hx hb d_law_171 (by decide) (fun _ => kk g' w2 hJ2 H locs hz hP ho hS) (fun z => absurd rfl z)
set_option maxHeartbeats 4000000 in
theorem lc_2 (C0 : lw_C p s m meth c D ca b L xs) (hL : L ≤ 2048) {i kc ks : Nat} {g : Int64} {w : fl_W} {ls : Array Slot} (hi : i + 4 ≤ L) (hJ : JJ w) (hl : lv_has ls 4 (lw_ls s b i)) (hkc : kc ≤ 600000) (hks : ks ≤ 7302250) (kk : ∀ g' w', JJ w' → lw_G p l e s m below meth c D ca b 554 ls [] kc ks (fl_mk g' w')) : lw_G p l e s m below meth c D ca b 176 ls [] kc ks (fl_mk g w) := by
  obtain ⟨⟨hx, hb, hr, hml, hown, hts, hX, hbl, hlocks, hgv⟩, hK, hN⟩ := id C0
  have hbA : ¬ (fun q : Nat => s.heap.size ≤ q) b := Nat.not_le.mpr hbl
  intro H locs hz hP ho hS
  refine lv_aload_n hx hb d_law_176 rfl (lv_at hl 1 rfl) ?_
  refine lv_aload_n hx hb d_law_177 rfl (lv_at hl 0 rfl) ?_
  refine lv_iload_n hx hb d_law_178 rfl (lv_at hl 3 rfl) ?_
  refine lv_iconst (v := 1) hx hb d_law_179 (by decide) ?_
  refine lv_iadd hx hb d_law_180 ?_
  refine va_sld hx hb hX hbl hbA hS (lw_in1 hL hi) d_law_181 ?_
  refine lw_call C0 (k' := 99) (ix := 23) (a := 0) (ci := 11) (As := [.int (xs (nI i + 1).toNatClampNeg)]) (rest := []) (by decide) mk_99 ml_99 (mi_in 476 (by decide +kernel) rfl) rfl rfl (by decide) rfl rfl (st_cut _ g w hJ) hl.1 rfl d_law_182 rfl rfl hkc hks ?_ H locs hz hP ho hS
  rintro r M ⟨x, g', w', rfl, rfl, h2⟩ H locs hz hP ho hS
  refine lv_aload_n hx hb d_law_185 rfl (lv_at hl 2 rfl) ?_
  refine lv_aload_n hx hb d_law_186 rfl (lv_at hl 0 rfl) ?_
  refine lv_iload_n hx hb d_law_187 rfl (lv_at hl 3 rfl) ?_
  refine lv_iconst (v := 1) hx hb d_law_188 (by decide) ?_
  refine lv_iadd hx hb d_law_189 ?_
  refine va_sld hx hb hX hbl hbA hS (lw_in1 hL hi) d_law_190 ?_
  refine lw_call C0 (k' := 131) (ix := 26) (a := 229) (ci := 12) (As := [.int (xs (nI i + 1).toNatClampNeg)]) (rest := [.int x]) (by decide) mk_131 ml_131 (mi_in 1172 (by decide +kernel) rfl) rfl rfl (by decide) rfl rfl (h2) hl.1 rfl d_law_191 rfl rfl hkc hks ?_ H locs hz hP ho hS
  rintro r M ⟨rfl, w2, rfl, hJ2⟩ H locs hz hP ho hS
  exact lv_icmp_eq (tgt := 554) hx hb d_law_194 (by decide) (fun _ => kk g' w2 hJ2 H locs hz hP ho hS) (fun z => absurd rfl z)
set_option maxHeartbeats 4000000 in
theorem lc_3 (C0 : lw_C p s m meth c D ca b L xs) (hL : L ≤ 2048) {i kc ks : Nat} {g : Int64} {w : fl_W} {ls : Array Slot} (hi : i + 4 ≤ L) (hJ : JJ w) (hl : lv_has ls 4 (lw_ls s b i)) (hkc : kc ≤ 600000) (hks : ks ≤ 7302250) (kk : ∀ g' w', JJ w' → lw_G p l e s m below meth c D ca b 554 ls [] kc ks (fl_mk g' w')) : lw_G p l e s m below meth c D ca b 199 ls [] kc ks (fl_mk g w) := by
  obtain ⟨⟨hx, hb, hr, hml, hown, hts, hX, hbl, hlocks, hgv⟩, hK, hN⟩ := id C0
  have hbA : ¬ (fun q : Nat => s.heap.size ≤ q) b := Nat.not_le.mpr hbl
  intro H locs hz hP ho hS
  refine lv_aload_n hx hb d_law_199 rfl (lv_at hl 1 rfl) ?_
  refine lv_aload_n hx hb d_law_200 rfl (lv_at hl 0 rfl) ?_
  refine lv_iload_n hx hb d_law_201 rfl (lv_at hl 3 rfl) ?_
  refine lv_iconst (v := 1) hx hb d_law_202 (by decide) ?_
  refine lv_iadd hx hb d_law_203 ?_
  refine va_sld hx hb hX hbl hbA hS (lw_in1 hL hi) d_law_204 ?_
  refine lv_aload_n hx hb d_law_205 rfl (lv_at hl 0 rfl) ?_
  refine lv_iload_n hx hb d_law_206 rfl (lv_at hl 3 rfl) ?_
  refine lv_iconst (v := 2) hx hb d_law_207 (by decide) ?_
  refine lv_iadd hx hb d_law_208 ?_
  refine va_sld hx hb hX hbl hbA hS (lw_in2 hL hi) d_law_209 ?_
  refine lw_call C0 (k' := 100) (ix := 27) (a := 0) (ci := 11) (As := [.int (xs (nI i + 1).toNatClampNeg), .int (xs (nI i + 2).toNatClampNeg)]) (rest := []) (by decide) mk_100 ml_100 (mi_in 489 (by decide +kernel) rfl) rfl rfl (by decide) rfl rfl (st_edge _ _ g w hJ) hl.1 rfl d_law_210 rfl rfl hkc hks ?_ H locs hz hP ho hS
  rintro r M ⟨x, g', w', rfl, rfl, h2⟩ H locs hz hP ho hS
  refine lv_aload_n hx hb d_law_213 rfl (lv_at hl 2 rfl) ?_
  refine lv_aload_n hx hb d_law_214 rfl (lv_at hl 0 rfl) ?_
  refine lv_iload_n hx hb d_law_215 rfl (lv_at hl 3 rfl) ?_
  refine lv_iconst (v := 1) hx hb d_law_216 (by decide) ?_
  refine lv_iadd hx hb d_law_217 ?_
  refine va_sld hx hb hX hbl hbA hS (lw_in1 hL hi) d_law_218 ?_
  refine lv_aload_n hx hb d_law_219 rfl (lv_at hl 0 rfl) ?_
  refine lv_iload_n hx hb d_law_220 rfl (lv_at hl 3 rfl) ?_
  refine lv_iconst (v := 2) hx hb d_law_221 (by decide) ?_
  refine lv_iadd hx hb d_law_222 ?_
  refine va_sld hx hb hX hbl hbA hS (lw_in2 hL hi) d_law_223 ?_
  refine lw_call C0 (k' := 157) (ix := 30) (a := 229) (ci := 12) (As := [.int (xs (nI i + 1).toNatClampNeg), .int (xs (nI i + 2).toNatClampNeg)]) (rest := [.int x]) (by decide) mk_157 ml_157 (mi_in 1176 (by decide +kernel) rfl) rfl rfl (by decide) rfl rfl (h2) hl.1 rfl d_law_224 rfl rfl hkc hks ?_ H locs hz hP ho hS
  rintro r M ⟨rfl, w2, rfl, hJ2⟩ H locs hz hP ho hS
  exact lv_icmp_eq (tgt := 554) hx hb d_law_227 (by decide) (fun _ => kk g' w2 hJ2 H locs hz hP ho hS) (fun z => absurd rfl z)
set_option maxHeartbeats 4000000 in
theorem lc_4 (C0 : lw_C p s m meth c D ca b L xs) (hL : L ≤ 2048) {i kc ks : Nat} {g : Int64} {w : fl_W} {ls : Array Slot} (hi : i + 4 ≤ L) (hJ : JJ w) (hl : lv_has ls 4 (lw_ls s b i)) (hkc : kc ≤ 600000) (hks : ks ≤ 7302250) (kk : ∀ g' w', JJ w' → lw_G p l e s m below meth c D ca b 554 ls [] kc ks (fl_mk g' w')) : lw_G p l e s m below meth c D ca b 232 ls [] kc ks (fl_mk g w) := by
  obtain ⟨⟨hx, hb, hr, hml, hown, hts, hX, hbl, hlocks, hgv⟩, hK, hN⟩ := id C0
  have hbA : ¬ (fun q : Nat => s.heap.size ≤ q) b := Nat.not_le.mpr hbl
  intro H locs hz hP ho hS
  refine lv_aload_n hx hb d_law_232 rfl (lv_at hl 1 rfl) ?_
  refine lv_aload_n hx hb d_law_233 rfl (lv_at hl 0 rfl) ?_
  refine lv_iload_n hx hb d_law_234 rfl (lv_at hl 3 rfl) ?_
  refine lv_iconst (v := 1) hx hb d_law_235 (by decide) ?_
  refine lv_iadd hx hb d_law_236 ?_
  refine va_sld hx hb hX hbl hbA hS (lw_in1 hL hi) d_law_237 ?_
  refine lw_call C0 (k' := 101) (ix := 31) (a := 0) (ci := 11) (As := [.int (xs (nI i + 1).toNatClampNeg)]) (rest := []) (by decide) mk_101 ml_101 (mi_in 566 (by decide +kernel) rfl) rfl rfl (by decide) rfl rfl (st_about _ g w hJ) hl.1 rfl d_law_238 rfl rfl hkc hks ?_ H locs hz hP ho hS
  rintro r M ⟨x, g', w', rfl, rfl, h2⟩ H locs hz hP ho hS
  refine lv_aload_n hx hb d_law_241 rfl (lv_at hl 2 rfl) ?_
  refine lv_aload_n hx hb d_law_242 rfl (lv_at hl 0 rfl) ?_
  refine lv_iload_n hx hb d_law_243 rfl (lv_at hl 3 rfl) ?_
  refine lv_iconst (v := 1) hx hb d_law_244 (by decide) ?_
  refine lv_iadd hx hb d_law_245 ?_
  refine va_sld hx hb hX hbl hbA hS (lw_in1 hL hi) d_law_246 ?_
  refine lw_call C0 (k' := 159) (ix := 35) (a := 229) (ci := 12) (As := [.int (xs (nI i + 1).toNatClampNeg)]) (rest := [.int x]) (by decide) mk_159 ml_159 (mi_in 1208 (by decide +kernel) rfl) rfl rfl (by decide) rfl rfl (h2) hl.1 rfl d_law_247 rfl rfl hkc hks ?_ H locs hz hP ho hS
  rintro r M ⟨rfl, w2, rfl, hJ2⟩ H locs hz hP ho hS
  exact lv_icmp_eq (tgt := 554) hx hb d_law_250 (by decide) (fun _ => kk g' w2 hJ2 H locs hz hP ho hS) (fun z => absurd rfl z)
set_option maxHeartbeats 4000000 in
theorem lc_5 (C0 : lw_C p s m meth c D ca b L xs) (hL : L ≤ 2048) {i kc ks : Nat} {g : Int64} {w : fl_W} {ls : Array Slot} (hi : i + 4 ≤ L) (hJ : JJ w) (hl : lv_has ls 4 (lw_ls s b i)) (hkc : kc ≤ 600000) (hks : ks ≤ 7302250) (kk : ∀ g' w', JJ w' → lw_G p l e s m below meth c D ca b 554 ls [] kc ks (fl_mk g' w')) : lw_G p l e s m below meth c D ca b 255 ls [] kc ks (fl_mk g w) := by
  obtain ⟨⟨hx, hb, hr, hml, hown, hts, hX, hbl, hlocks, hgv⟩, hK, hN⟩ := id C0
  have hbA : ¬ (fun q : Nat => s.heap.size ≤ q) b := Nat.not_le.mpr hbl
  intro H locs hz hP ho hS
  refine lv_aload_n hx hb d_law_255 rfl (lv_at hl 1 rfl) ?_
  refine lw_call C0 (k' := 102) (ix := 36) (a := 0) (ci := 11) (As := []) (rest := []) (by decide) mk_102 ml_102 (mi_in 756 (by decide +kernel) rfl) rfl rfl (by decide) rfl rfl (st_lay g w hJ) hl.1 rfl d_law_256 rfl rfl hkc hks ?_ H locs hz hP ho hS
  rintro r M ⟨x, g', w', rfl, rfl, h2⟩ H locs hz hP ho hS
  refine lv_aload_n hx hb d_law_259 rfl (lv_at hl 2 rfl) ?_
  refine lw_call C0 (k' := 160) (ix := 40) (a := 229) (ci := 12) (As := []) (rest := [.int x]) (by decide) mk_160 ml_160 (mi_in 1288 (by decide +kernel) rfl) rfl rfl (by decide) rfl rfl (h2) hl.1 rfl d_law_260 rfl rfl hkc hks ?_ H locs hz hP ho hS
  rintro r M ⟨rfl, w2, rfl, hJ2⟩ H locs hz hP ho hS
  exact lv_icmp_eq (tgt := 554) hx hb d_law_263 (by decide) (fun _ => kk g' w2 hJ2 H locs hz hP ho hS) (fun z => absurd rfl z)
set_option maxHeartbeats 4000000 in
theorem lc_6 (C0 : lw_C p s m meth c D ca b L xs) (hL : L ≤ 2048) {i kc ks : Nat} {g : Int64} {w : fl_W} {ls : Array Slot} (hi : i + 4 ≤ L) (hJ : JJ w) (hl : lv_has ls 4 (lw_ls s b i)) (hkc : kc ≤ 600000) (hks : ks ≤ 7302250) (kk : ∀ g' w', JJ w' → lw_G p l e s m below meth c D ca b 554 ls [] kc ks (fl_mk g' w')) : lw_G p l e s m below meth c D ca b 268 ls [] kc ks (fl_mk g w) := by
  obtain ⟨⟨hx, hb, hr, hml, hown, hts, hX, hbl, hlocks, hgv⟩, hK, hN⟩ := id C0
  have hbA : ¬ (fun q : Nat => s.heap.size ≤ q) b := Nat.not_le.mpr hbl
  intro H locs hz hP ho hS
  refine lv_aload_n hx hb d_law_268 rfl (lv_at hl 1 rfl) ?_
  refine lv_aload_n hx hb d_law_269 rfl (lv_at hl 0 rfl) ?_
  refine lv_iload_n hx hb d_law_270 rfl (lv_at hl 3 rfl) ?_
  refine lv_iconst (v := 1) hx hb d_law_271 (by decide) ?_
  refine lv_iadd hx hb d_law_272 ?_
  refine va_sld hx hb hX hbl hbA hS (lw_in1 hL hi) d_law_273 ?_
  refine lv_aload_n hx hb d_law_274 rfl (lv_at hl 0 rfl) ?_
  refine lv_iload_n hx hb d_law_275 rfl (lv_at hl 3 rfl) ?_
  refine lv_iconst (v := 2) hx hb d_law_276 (by decide) ?_
  refine lv_iadd hx hb d_law_277 ?_
  refine va_sld hx hb hX hbl hbA hS (lw_in2 hL hi) d_law_278 ?_
  refine lw_call C0 (k' := 103) (ix := 41) (a := 0) (ci := 11) (As := [.int (xs (nI i + 1).toNatClampNeg), .int (xs (nI i + 2).toNatClampNeg)]) (rest := []) (by decide) mk_103 ml_103 (mi_in 816 (by decide +kernel) rfl) rfl rfl (by decide) rfl rfl (st_turn _ _ g w hJ) hl.1 rfl d_law_279 rfl rfl hkc hks ?_ H locs hz hP ho hS
  rintro r M ⟨x, g', w', rfl, rfl, h2⟩ H locs hz hP ho hS
  refine lv_aload_n hx hb d_law_282 rfl (lv_at hl 2 rfl) ?_
  refine lv_aload_n hx hb d_law_283 rfl (lv_at hl 0 rfl) ?_
  refine lv_iload_n hx hb d_law_284 rfl (lv_at hl 3 rfl) ?_
  refine lv_iconst (v := 1) hx hb d_law_285 (by decide) ?_
  refine lv_iadd hx hb d_law_286 ?_
  refine va_sld hx hb hX hbl hbA hS (lw_in1 hL hi) d_law_287 ?_
  refine lv_aload_n hx hb d_law_288 rfl (lv_at hl 0 rfl) ?_
  refine lv_iload_n hx hb d_law_289 rfl (lv_at hl 3 rfl) ?_
  refine lv_iconst (v := 2) hx hb d_law_290 (by decide) ?_
  refine lv_iadd hx hb d_law_291 ?_
  refine va_sld hx hb hX hbl hbA hS (lw_in2 hL hi) d_law_292 ?_
  refine lw_call C0 (k' := 162) (ix := 44) (a := 229) (ci := 12) (As := [.int (xs (nI i + 1).toNatClampNeg), .int (xs (nI i + 2).toNatClampNeg)]) (rest := [.int x]) (by decide) mk_162 ml_162 (mi_in 1316 (by decide +kernel) rfl) rfl rfl (by decide) rfl rfl (h2) hl.1 rfl d_law_293 rfl rfl hkc hks ?_ H locs hz hP ho hS
  rintro r M ⟨rfl, w2, rfl, hJ2⟩ H locs hz hP ho hS
  exact lv_icmp_eq (tgt := 554) hx hb d_law_296 (by decide) (fun _ => kk g' w2 hJ2 H locs hz hP ho hS) (fun z => absurd rfl z)
set_option maxHeartbeats 4000000 in
theorem lc_7 (C0 : lw_C p s m meth c D ca b L xs) (hL : L ≤ 2048) {i kc ks : Nat} {g : Int64} {w : fl_W} {ls : Array Slot} (hi : i + 4 ≤ L) (hJ : JJ w) (hl : lv_has ls 4 (lw_ls s b i)) (hkc : kc ≤ 600000) (hks : ks ≤ 7302250) (kk : ∀ g' w', JJ w' → lw_G p l e s m below meth c D ca b 554 ls [] kc ks (fl_mk g' w')) : lw_G p l e s m below meth c D ca b 301 ls [] kc ks (fl_mk g w) := by
  obtain ⟨⟨hx, hb, hr, hml, hown, hts, hX, hbl, hlocks, hgv⟩, hK, hN⟩ := id C0
  have hbA : ¬ (fun q : Nat => s.heap.size ≤ q) b := Nat.not_le.mpr hbl
  intro H locs hz hP ho hS
  refine lv_aload_n hx hb d_law_301 rfl (lv_at hl 1 rfl) ?_
  refine lv_aload_n hx hb d_law_302 rfl (lv_at hl 0 rfl) ?_
  refine lv_iload_n hx hb d_law_303 rfl (lv_at hl 3 rfl) ?_
  refine lv_iconst (v := 1) hx hb d_law_304 (by decide) ?_
  refine lv_iadd hx hb d_law_305 ?_
  refine va_sld hx hb hX hbl hbA hS (lw_in1 hL hi) d_law_306 ?_
  refine lv_aload_n hx hb d_law_307 rfl (lv_at hl 0 rfl) ?_
  refine lv_iload_n hx hb d_law_308 rfl (lv_at hl 3 rfl) ?_
  refine lv_iconst (v := 2) hx hb d_law_309 (by decide) ?_
  refine lv_iadd hx hb d_law_310 ?_
  refine va_sld hx hb hX hbl hbA hS (lw_in2 hL hi) d_law_311 ?_
  refine lv_aload_n hx hb d_law_312 rfl (lv_at hl 0 rfl) ?_
  refine lv_iload_n hx hb d_law_313 rfl (lv_at hl 3 rfl) ?_
  refine lv_iconst (v := 3) hx hb d_law_314 (by decide) ?_
  refine lv_iadd hx hb d_law_315 ?_
  refine va_sld hx hb hX hbl hbA hS (lw_in3 hL hi) d_law_316 ?_
  refine lw_call C0 (k' := 104) (ix := 45) (a := 0) (ci := 11) (As := [.int (xs (nI i + 1).toNatClampNeg), .int (xs (nI i + 2).toNatClampNeg), .int (xs (nI i + 3).toNatClampNeg)]) (rest := []) (by decide) mk_104 ml_104 (mi_in 824 (by decide +kernel) rfl) rfl rfl (by decide) rfl rfl (st_swap _ _ _ g w hJ) hl.1 rfl d_law_317 rfl rfl hkc hks ?_ H locs hz hP ho hS
  rintro r M ⟨x, g', w', rfl, rfl, h2⟩ H locs hz hP ho hS
  refine lv_aload_n hx hb d_law_320 rfl (lv_at hl 2 rfl) ?_
  refine lv_aload_n hx hb d_law_321 rfl (lv_at hl 0 rfl) ?_
  refine lv_iload_n hx hb d_law_322 rfl (lv_at hl 3 rfl) ?_
  refine lv_iconst (v := 1) hx hb d_law_323 (by decide) ?_
  refine lv_iadd hx hb d_law_324 ?_
  refine va_sld hx hb hX hbl hbA hS (lw_in1 hL hi) d_law_325 ?_
  refine lv_aload_n hx hb d_law_326 rfl (lv_at hl 0 rfl) ?_
  refine lv_iload_n hx hb d_law_327 rfl (lv_at hl 3 rfl) ?_
  refine lv_iconst (v := 2) hx hb d_law_328 (by decide) ?_
  refine lv_iadd hx hb d_law_329 ?_
  refine va_sld hx hb hX hbl hbA hS (lw_in2 hL hi) d_law_330 ?_
  refine lv_aload_n hx hb d_law_331 rfl (lv_at hl 0 rfl) ?_
  refine lv_iload_n hx hb d_law_332 rfl (lv_at hl 3 rfl) ?_
  refine lv_iconst (v := 3) hx hb d_law_333 (by decide) ?_
  refine lv_iadd hx hb d_law_334 ?_
  refine va_sld hx hb hX hbl hbA hS (lw_in3 hL hi) d_law_335 ?_
  refine lw_call C0 (k' := 163) (ix := 49) (a := 229) (ci := 12) (As := [.int (xs (nI i + 1).toNatClampNeg), .int (xs (nI i + 2).toNatClampNeg), .int (xs (nI i + 3).toNatClampNeg)]) (rest := [.int x]) (by decide) mk_163 ml_163 (mi_in 1320 (by decide +kernel) rfl) rfl rfl (by decide) rfl rfl (h2) hl.1 rfl d_law_336 rfl rfl hkc hks ?_ H locs hz hP ho hS
  rintro r M ⟨rfl, w2, rfl, hJ2⟩ H locs hz hP ho hS
  exact lv_icmp_eq (tgt := 554) hx hb d_law_339 (by decide) (fun _ => kk g' w2 hJ2 H locs hz hP ho hS) (fun z => absurd rfl z)
set_option maxHeartbeats 4000000 in
theorem lc_8 (C0 : lw_C p s m meth c D ca b L xs) (hL : L ≤ 2048) {i kc ks : Nat} {g : Int64} {w : fl_W} {ls : Array Slot} (hi : i + 4 ≤ L) (hJ : JJ w) (hl : lv_has ls 4 (lw_ls s b i)) (hkc : kc ≤ 600000) (hks : ks ≤ 7302250) (kk : ∀ g' w', JJ w' → lw_G p l e s m below meth c D ca b 554 ls [] kc ks (fl_mk g' w')) : lw_G p l e s m below meth c D ca b 344 ls [] kc ks (fl_mk g w) := by
  obtain ⟨⟨hx, hb, hr, hml, hown, hts, hX, hbl, hlocks, hgv⟩, hK, hN⟩ := id C0
  have hbA : ¬ (fun q : Nat => s.heap.size ≤ q) b := Nat.not_le.mpr hbl
  intro H locs hz hP ho hS
  refine lv_aload_n hx hb d_law_344 rfl (lv_at hl 1 rfl) ?_
  refine lw_call C0 (k' := 105) (ix := 50) (a := 0) (ci := 11) (As := []) (rest := []) (by decide) mk_105 ml_105 (mi_in 836 (by decide +kernel) rfl) rfl rfl (by decide) rfl rfl (st_faces g w hJ) hl.1 rfl d_law_345 rfl rfl hkc hks ?_ H locs hz hP ho hS
  rintro r M ⟨x, g', w', rfl, rfl, h2⟩ H locs hz hP ho hS
  refine lv_aload_n hx hb d_law_348 rfl (lv_at hl 2 rfl) ?_
  refine lw_call C0 (k' := 168) (ix := 53) (a := 229) (ci := 12) (As := []) (rest := [.int x]) (by decide) mk_168 ml_168 (mi_in 1324 (by decide +kernel) rfl) rfl rfl (by decide) rfl rfl (h2) hl.1 rfl d_law_349 rfl rfl hkc hks ?_ H locs hz hP ho hS
  rintro r M ⟨rfl, w2, rfl, hJ2⟩ H locs hz hP ho hS
  exact lv_icmp_eq (tgt := 554) hx hb d_law_352 (by decide) (fun _ => kk g' w2 hJ2 H locs hz hP ho hS) (fun z => absurd rfl z)
set_option maxHeartbeats 4000000 in
theorem lc_9 (C0 : lw_C p s m meth c D ca b L xs) (hL : L ≤ 2048) {i kc ks : Nat} {g : Int64} {w : fl_W} {ls : Array Slot} (hi : i + 4 ≤ L) (hJ : JJ w) (hl : lv_has ls 4 (lw_ls s b i)) (hkc : kc ≤ 600000) (hks : ks ≤ 7302250) (kk : ∀ g' w', JJ w' → lw_G p l e s m below meth c D ca b 554 ls [] kc ks (fl_mk g' w')) : lw_G p l e s m below meth c D ca b 357 ls [] kc ks (fl_mk g w) := by
  obtain ⟨⟨hx, hb, hr, hml, hown, hts, hX, hbl, hlocks, hgv⟩, hK, hN⟩ := id C0
  have hbA : ¬ (fun q : Nat => s.heap.size ≤ q) b := Nat.not_le.mpr hbl
  intro H locs hz hP ho hS
  refine lv_aload_n hx hb d_law_357 rfl (lv_at hl 1 rfl) ?_
  refine lv_aload_n hx hb d_law_358 rfl (lv_at hl 0 rfl) ?_
  refine lv_iload_n hx hb d_law_359 rfl (lv_at hl 3 rfl) ?_
  refine lv_iconst (v := 1) hx hb d_law_360 (by decide) ?_
  refine lv_iadd hx hb d_law_361 ?_
  refine va_sld hx hb hX hbl hbA hS (lw_in1 hL hi) d_law_362 ?_
  refine lv_aload_n hx hb d_law_363 rfl (lv_at hl 0 rfl) ?_
  refine lv_iload_n hx hb d_law_364 rfl (lv_at hl 3 rfl) ?_
  refine lv_iconst (v := 2) hx hb d_law_365 (by decide) ?_
  refine lv_iadd hx hb d_law_366 ?_
  refine va_sld hx hb hX hbl hbA hS (lw_in2 hL hi) d_law_367 ?_
  refine lw_call C0 (k' := 106) (ix := 54) (a := 0) (ci := 11) (As := [.int (xs (nI i + 1).toNatClampNeg), .int (xs (nI i + 2).toNatClampNeg)]) (rest := []) (by decide) mk_106 ml_106 (mi_in 840 (by decide +kernel) rfl) rfl rfl (by decide) rfl rfl (st_face _ _ g w hJ) hl.1 rfl d_law_368 rfl rfl hkc hks ?_ H locs hz hP ho hS
  rintro r M ⟨x, g', w', rfl, rfl, h2⟩ H locs hz hP ho hS
  refine lv_aload_n hx hb d_law_371 rfl (lv_at hl 2 rfl) ?_
  refine lv_aload_n hx hb d_law_372 rfl (lv_at hl 0 rfl) ?_
  refine lv_iload_n hx hb d_law_373 rfl (lv_at hl 3 rfl) ?_
  refine lv_iconst (v := 1) hx hb d_law_374 (by decide) ?_
  refine lv_iadd hx hb d_law_375 ?_
  refine va_sld hx hb hX hbl hbA hS (lw_in1 hL hi) d_law_376 ?_
  refine lv_aload_n hx hb d_law_377 rfl (lv_at hl 0 rfl) ?_
  refine lv_iload_n hx hb d_law_378 rfl (lv_at hl 3 rfl) ?_
  refine lv_iconst (v := 2) hx hb d_law_379 (by decide) ?_
  refine lv_iadd hx hb d_law_380 ?_
  refine va_sld hx hb hX hbl hbA hS (lw_in2 hL hi) d_law_381 ?_
  refine lw_call C0 (k' := 169) (ix := 57) (a := 229) (ci := 12) (As := [.int (xs (nI i + 1).toNatClampNeg), .int (xs (nI i + 2).toNatClampNeg)]) (rest := [.int x]) (by decide) mk_169 ml_169 (mi_in 1325 (by decide +kernel) rfl) rfl rfl (by decide) rfl rfl (h2) hl.1 rfl d_law_382 rfl rfl hkc hks ?_ H locs hz hP ho hS
  rintro r M ⟨rfl, w2, rfl, hJ2⟩ H locs hz hP ho hS
  exact lv_icmp_eq (tgt := 554) hx hb d_law_385 (by decide) (fun _ => kk g' w2 hJ2 H locs hz hP ho hS) (fun z => absurd rfl z)
set_option maxHeartbeats 4000000 in
theorem lc_10 (C0 : lw_C p s m meth c D ca b L xs) (hL : L ≤ 2048) {i kc ks : Nat} {g : Int64} {w : fl_W} {ls : Array Slot} (hi : i + 4 ≤ L) (hJ : JJ w) (hl : lv_has ls 4 (lw_ls s b i)) (hkc : kc ≤ 600000) (hks : ks ≤ 7302250) (kk : ∀ g' w', JJ w' → lw_G p l e s m below meth c D ca b 554 ls [] kc ks (fl_mk g' w')) : lw_G p l e s m below meth c D ca b 390 ls [] kc ks (fl_mk g w) := by
  obtain ⟨⟨hx, hb, hr, hml, hown, hts, hX, hbl, hlocks, hgv⟩, hK, hN⟩ := id C0
  have hbA : ¬ (fun q : Nat => s.heap.size ≤ q) b := Nat.not_le.mpr hbl
  intro H locs hz hP ho hS
  refine lv_aload_n hx hb d_law_390 rfl (lv_at hl 1 rfl) ?_
  refine lw_call C0 (k' := 107) (ix := 58) (a := 0) (ci := 11) (As := []) (rest := []) (by decide) mk_107 ml_107 (mi_in 849 (by decide +kernel) rfl) rfl rfl (by decide) rfl rfl (st_genus g w hJ) hl.1 rfl d_law_391 rfl rfl hkc hks ?_ H locs hz hP ho hS
  rintro r M ⟨x, g', w', rfl, rfl, h2⟩ H locs hz hP ho hS
  refine lv_aload_n hx hb d_law_394 rfl (lv_at hl 2 rfl) ?_
  refine lw_call C0 (k' := 170) (ix := 61) (a := 229) (ci := 12) (As := []) (rest := [.int x]) (by decide) mk_170 ml_170 (mi_in 1329 (by decide +kernel) rfl) rfl rfl (by decide) rfl rfl (h2) hl.1 rfl d_law_395 rfl rfl hkc hks ?_ H locs hz hP ho hS
  rintro r M ⟨rfl, w2, rfl, hJ2⟩ H locs hz hP ho hS
  exact lv_icmp_eq (tgt := 554) hx hb d_law_398 (by decide) (fun _ => kk g' w2 hJ2 H locs hz hP ho hS) (fun z => absurd rfl z)
set_option maxHeartbeats 4000000 in
theorem lc_11 (C0 : lw_C p s m meth c D ca b L xs) (hL : L ≤ 2048) {i kc ks : Nat} {g : Int64} {w : fl_W} {ls : Array Slot} (hi : i + 4 ≤ L) (hJ : JJ w) (hl : lv_has ls 4 (lw_ls s b i)) (hkc : kc ≤ 600000) (hks : ks ≤ 7302250) (kk : ∀ g' w', JJ w' → lw_G p l e s m below meth c D ca b 554 ls [] kc ks (fl_mk g' w')) : lw_G p l e s m below meth c D ca b 403 ls [] kc ks (fl_mk g w) := by
  obtain ⟨⟨hx, hb, hr, hml, hown, hts, hX, hbl, hlocks, hgv⟩, hK, hN⟩ := id C0
  have hbA : ¬ (fun q : Nat => s.heap.size ≤ q) b := Nat.not_le.mpr hbl
  intro H locs hz hP ho hS
  refine lv_aload_n hx hb d_law_403 rfl (lv_at hl 1 rfl) ?_
  refine lv_aload_n hx hb d_law_404 rfl (lv_at hl 0 rfl) ?_
  refine lv_iload_n hx hb d_law_405 rfl (lv_at hl 3 rfl) ?_
  refine lv_iconst (v := 1) hx hb d_law_406 (by decide) ?_
  refine lv_iadd hx hb d_law_407 ?_
  refine va_sld hx hb hX hbl hbA hS (lw_in1 hL hi) d_law_408 ?_
  refine lw_call C0 (k' := 108) (ix := 62) (a := 0) (ci := 11) (As := [.int (xs (nI i + 1).toNatClampNeg)]) (rest := []) (by decide) mk_108 ml_108 (mi_in 853 (by decide +kernel) rfl) rfl rfl (by decide) rfl rfl (st_knot _ g w hJ) hl.1 rfl d_law_409 rfl rfl hkc hks ?_ H locs hz hP ho hS
  rintro r M ⟨x, g', w', rfl, rfl, h2⟩ H locs hz hP ho hS
  refine lv_aload_n hx hb d_law_412 rfl (lv_at hl 2 rfl) ?_
  refine lv_aload_n hx hb d_law_413 rfl (lv_at hl 0 rfl) ?_
  refine lv_iload_n hx hb d_law_414 rfl (lv_at hl 3 rfl) ?_
  refine lv_iconst (v := 1) hx hb d_law_415 (by decide) ?_
  refine lv_iadd hx hb d_law_416 ?_
  refine va_sld hx hb hX hbl hbA hS (lw_in1 hL hi) d_law_417 ?_
  refine lw_call C0 (k' := 173) (ix := 65) (a := 229) (ci := 12) (As := [.int (xs (nI i + 1).toNatClampNeg)]) (rest := [.int x]) (by decide) mk_173 ml_173 (mi_in 1333 (by decide +kernel) rfl) rfl rfl (by decide) rfl rfl (h2) hl.1 rfl d_law_418 rfl rfl hkc hks ?_ H locs hz hP ho hS
  rintro r M ⟨rfl, w2, rfl, hJ2⟩ H locs hz hP ho hS
  exact lv_icmp_eq (tgt := 554) hx hb d_law_421 (by decide) (fun _ => kk g' w2 hJ2 H locs hz hP ho hS) (fun z => absurd rfl z)
set_option maxHeartbeats 4000000 in
theorem lc_12 (C0 : lw_C p s m meth c D ca b L xs) (hL : L ≤ 2048) {i kc ks : Nat} {g : Int64} {w : fl_W} {ls : Array Slot} (hi : i + 4 ≤ L) (hJ : JJ w) (hl : lv_has ls 4 (lw_ls s b i)) (hkc : kc ≤ 600000) (hks : ks ≤ 7302250) (kk : ∀ g' w', JJ w' → lw_G p l e s m below meth c D ca b 554 ls [] kc ks (fl_mk g' w')) : lw_G p l e s m below meth c D ca b 426 ls [] kc ks (fl_mk g w) := by
  obtain ⟨⟨hx, hb, hr, hml, hown, hts, hX, hbl, hlocks, hgv⟩, hK, hN⟩ := id C0
  have hbA : ¬ (fun q : Nat => s.heap.size ≤ q) b := Nat.not_le.mpr hbl
  intro H locs hz hP ho hS
  refine lv_aload_n hx hb d_law_426 rfl (lv_at hl 1 rfl) ?_
  refine lv_aload_n hx hb d_law_427 rfl (lv_at hl 0 rfl) ?_
  refine lv_iload_n hx hb d_law_428 rfl (lv_at hl 3 rfl) ?_
  refine lv_iconst (v := 1) hx hb d_law_429 (by decide) ?_
  refine lv_iadd hx hb d_law_430 ?_
  refine va_sld hx hb hX hbl hbA hS (lw_in1 hL hi) d_law_431 ?_
  refine lv_aload_n hx hb d_law_432 rfl (lv_at hl 0 rfl) ?_
  refine lv_iload_n hx hb d_law_433 rfl (lv_at hl 3 rfl) ?_
  refine lv_iconst (v := 2) hx hb d_law_434 (by decide) ?_
  refine lv_iadd hx hb d_law_435 ?_
  refine va_sld hx hb hX hbl hbA hS (lw_in2 hL hi) d_law_436 ?_
  refine lw_call C0 (k' := 109) (ix := 66) (a := 0) (ci := 11) (As := [.int (xs (nI i + 1).toNatClampNeg), .int (xs (nI i + 2).toNatClampNeg)]) (rest := []) (by decide) mk_109 ml_109 (mi_in 865 (by decide +kernel) rfl) rfl rfl (by decide) rfl rfl (st_may _ _ g w hJ) hl.1 rfl d_law_437 rfl rfl hkc hks ?_ H locs hz hP ho hS
  rintro r M ⟨x, g', w', rfl, rfl, h2⟩ H locs hz hP ho hS
  refine lv_aload_n hx hb d_law_440 rfl (lv_at hl 2 rfl) ?_
  refine lv_aload_n hx hb d_law_441 rfl (lv_at hl 0 rfl) ?_
  refine lv_iload_n hx hb d_law_442 rfl (lv_at hl 3 rfl) ?_
  refine lv_iconst (v := 1) hx hb d_law_443 (by decide) ?_
  refine lv_iadd hx hb d_law_444 ?_
  refine va_sld hx hb hX hbl hbA hS (lw_in1 hL hi) d_law_445 ?_
  refine lv_aload_n hx hb d_law_446 rfl (lv_at hl 0 rfl) ?_
  refine lv_iload_n hx hb d_law_447 rfl (lv_at hl 3 rfl) ?_
  refine lv_iconst (v := 2) hx hb d_law_448 (by decide) ?_
  refine lv_iadd hx hb d_law_449 ?_
  refine va_sld hx hb hX hbl hbA hS (lw_in2 hL hi) d_law_450 ?_
  refine lw_call C0 (k' := 175) (ix := 69) (a := 229) (ci := 12) (As := [.int (xs (nI i + 1).toNatClampNeg), .int (xs (nI i + 2).toNatClampNeg)]) (rest := [.int x]) (by decide) mk_175 ml_175 (mi_in 1345 (by decide +kernel) rfl) rfl rfl (by decide) rfl rfl (h2) hl.1 rfl d_law_451 rfl rfl hkc hks ?_ H locs hz hP ho hS
  rintro r M ⟨rfl, w2, rfl, hJ2⟩ H locs hz hP ho hS
  exact lv_icmp_eq (tgt := 554) hx hb d_law_454 (by decide) (fun _ => kk g' w2 hJ2 H locs hz hP ho hS) (fun z => absurd rfl z)
set_option maxHeartbeats 4000000 in
theorem lc_13 (C0 : lw_C p s m meth c D ca b L xs) (hL : L ≤ 2048) {i kc ks : Nat} {g : Int64} {w : fl_W} {ls : Array Slot} (hi : i + 4 ≤ L) (hJ : JJ w) (hl : lv_has ls 4 (lw_ls s b i)) (hkc : kc ≤ 600000) (hks : ks ≤ 7302250) (kk : ∀ g' w', JJ w' → lw_G p l e s m below meth c D ca b 554 ls [] kc ks (fl_mk g' w')) : lw_G p l e s m below meth c D ca b 459 ls [] kc ks (fl_mk g w) := by
  obtain ⟨⟨hx, hb, hr, hml, hown, hts, hX, hbl, hlocks, hgv⟩, hK, hN⟩ := id C0
  have hbA : ¬ (fun q : Nat => s.heap.size ≤ q) b := Nat.not_le.mpr hbl
  intro H locs hz hP ho hS
  refine lv_aload_n hx hb d_law_459 rfl (lv_at hl 1 rfl) ?_
  refine lw_call C0 (k' := 110) (ix := 70) (a := 0) (ci := 11) (As := []) (rest := []) (by decide) mk_110 ml_110 (mi_in 877 (by decide +kernel) rfl) rfl rfl (by decide) rfl rfl (st_fill g w hJ) hl.1 rfl d_law_460 rfl rfl hkc hks ?_ H locs hz hP ho hS
  rintro r M ⟨x, g', w', rfl, rfl, h2⟩ H locs hz hP ho hS
  refine lv_aload_n hx hb d_law_463 rfl (lv_at hl 2 rfl) ?_
  refine lw_call C0 (k' := 176) (ix := 73) (a := 229) (ci := 12) (As := []) (rest := [.int x]) (by decide) mk_176 ml_176 (mi_in 1353 (by decide +kernel) rfl) rfl rfl (by decide) rfl rfl (h2) hl.1 rfl d_law_464 rfl rfl hkc hks ?_ H locs hz hP ho hS
  rintro r M ⟨rfl, w2, rfl, hJ2⟩ H locs hz hP ho hS
  exact lv_icmp_eq (tgt := 554) hx hb d_law_467 (by decide) (fun _ => kk g' w2 hJ2 H locs hz hP ho hS) (fun z => absurd rfl z)
set_option maxHeartbeats 4000000 in
theorem lc_14 (C0 : lw_C p s m meth c D ca b L xs) (hL : L ≤ 2048) {i kc ks : Nat} {g : Int64} {w : fl_W} {ls : Array Slot} (hi : i + 4 ≤ L) (hJ : JJ w) (hl : lv_has ls 4 (lw_ls s b i)) (hkc : kc ≤ 600000) (hks : ks ≤ 7302250) (kk : ∀ g' w', JJ w' → lw_G p l e s m below meth c D ca b 554 ls [] kc ks (fl_mk g' w')) : lw_G p l e s m below meth c D ca b 472 ls [] kc ks (fl_mk g w) := by
  obtain ⟨⟨hx, hb, hr, hml, hown, hts, hX, hbl, hlocks, hgv⟩, hK, hN⟩ := id C0
  have hbA : ¬ (fun q : Nat => s.heap.size ≤ q) b := Nat.not_le.mpr hbl
  intro H locs hz hP ho hS
  refine lv_aload_n hx hb d_law_472 rfl (lv_at hl 1 rfl) ?_
  refine lw_call C0 (k' := 111) (ix := 74) (a := 0) (ci := 11) (As := []) (rest := []) (by decide) mk_111 ml_111 (mi_in 889 (by decide +kernel) rfl) rfl rfl (by decide) rfl rfl (st_draw g w hJ) hl.1 rfl d_law_473 rfl rfl hkc hks ?_ H locs hz hP ho hS
  rintro r M ⟨x, g', w', rfl, rfl, h2⟩ H locs hz hP ho hS
  refine lv_aload_n hx hb d_law_476 rfl (lv_at hl 2 rfl) ?_
  refine lw_call C0 (k' := 186) (ix := 78) (a := 229) (ci := 12) (As := []) (rest := [.int x]) (by decide) mk_186 ml_186 (mi_in 1357 (by decide +kernel) rfl) rfl rfl (by decide) rfl rfl (h2) hl.1 rfl d_law_477 rfl rfl hkc hks ?_ H locs hz hP ho hS
  rintro r M ⟨rfl, w2, rfl, hJ2⟩ H locs hz hP ho hS
  exact lv_icmp_eq (tgt := 554) hx hb d_law_480 (by decide) (fun _ => kk g' w2 hJ2 H locs hz hP ho hS) (fun z => absurd rfl z)
set_option maxHeartbeats 4000000 in
theorem lc_15 (C0 : lw_C p s m meth c D ca b L xs) (hL : L ≤ 2048) {i kc ks : Nat} {g : Int64} {w : fl_W} {ls : Array Slot} (hi : i + 4 ≤ L) (hJ : JJ w) (hl : lv_has ls 4 (lw_ls s b i)) (hkc : kc ≤ 600000) (hks : ks ≤ 7302250) (kk : ∀ g' w', JJ w' → lw_G p l e s m below meth c D ca b 554 ls [] kc ks (fl_mk g' w')) : lw_G p l e s m below meth c D ca b 485 ls [] kc ks (fl_mk g w) := by
  obtain ⟨⟨hx, hb, hr, hml, hown, hts, hX, hbl, hlocks, hgv⟩, hK, hN⟩ := id C0
  have hbA : ¬ (fun q : Nat => s.heap.size ≤ q) b := Nat.not_le.mpr hbl
  intro H locs hz hP ho hS
  refine lv_aload_n hx hb d_law_485 rfl (lv_at hl 1 rfl) ?_
  refine lv_aload_n hx hb d_law_486 rfl (lv_at hl 0 rfl) ?_
  refine lv_iload_n hx hb d_law_487 rfl (lv_at hl 3 rfl) ?_
  refine lv_iconst (v := 1) hx hb d_law_488 (by decide) ?_
  refine lv_iadd hx hb d_law_489 ?_
  refine va_sld hx hb hX hbl hbA hS (lw_in1 hL hi) d_law_490 ?_
  refine lv_aload_n hx hb d_law_491 rfl (lv_at hl 0 rfl) ?_
  refine lv_iload_n hx hb d_law_492 rfl (lv_at hl 3 rfl) ?_
  refine lv_iconst (v := 2) hx hb d_law_493 (by decide) ?_
  refine lv_iadd hx hb d_law_494 ?_
  refine va_sld hx hb hX hbl hbA hS (lw_in2 hL hi) d_law_495 ?_
  refine lw_call C0 (k' := 112) (ix := 79) (a := 0) (ci := 11) (As := [.int (xs (nI i + 1).toNatClampNeg), .int (xs (nI i + 2).toNatClampNeg)]) (rest := []) (by decide) mk_112 ml_112 (mi_in 949 (by decide +kernel) rfl) rfl rfl (by decide) rfl rfl (st_at _ _ g w hJ) hl.1 rfl d_law_496 rfl rfl hkc hks ?_ H locs hz hP ho hS
  rintro r M ⟨x, g', w', rfl, rfl, h2⟩ H locs hz hP ho hS
  refine lv_aload_n hx hb d_law_499 rfl (lv_at hl 2 rfl) ?_
  refine lv_aload_n hx hb d_law_500 rfl (lv_at hl 0 rfl) ?_
  refine lv_iload_n hx hb d_law_501 rfl (lv_at hl 3 rfl) ?_
  refine lv_iconst (v := 1) hx hb d_law_502 (by decide) ?_
  refine lv_iadd hx hb d_law_503 ?_
  refine va_sld hx hb hX hbl hbA hS (lw_in1 hL hi) d_law_504 ?_
  refine lv_aload_n hx hb d_law_505 rfl (lv_at hl 0 rfl) ?_
  refine lv_iload_n hx hb d_law_506 rfl (lv_at hl 3 rfl) ?_
  refine lv_iconst (v := 2) hx hb d_law_507 (by decide) ?_
  refine lv_iadd hx hb d_law_508 ?_
  refine va_sld hx hb hX hbl hbA hS (lw_in2 hL hi) d_law_509 ?_
  refine lw_call C0 (k' := 187) (ix := 82) (a := 229) (ci := 12) (As := [.int (xs (nI i + 1).toNatClampNeg), .int (xs (nI i + 2).toNatClampNeg)]) (rest := [.int x]) (by decide) mk_187 ml_187 (mi_in 1399 (by decide +kernel) rfl) rfl rfl (by decide) rfl rfl (h2) hl.1 rfl d_law_510 rfl rfl hkc hks ?_ H locs hz hP ho hS
  rintro r M ⟨rfl, w2, rfl, hJ2⟩ H locs hz hP ho hS
  exact lv_icmp_eq (tgt := 554) hx hb d_law_513 (by decide) (fun _ => kk g' w2 hJ2 H locs hz hP ho hS) (fun z => absurd rfl z)
set_option maxHeartbeats 4000000 in
theorem lc_16 (C0 : lw_C p s m meth c D ca b L xs) (hL : L ≤ 2048) {i kc ks : Nat} {g : Int64} {w : fl_W} {ls : Array Slot} (hi : i + 4 ≤ L) (hJ : JJ w) (hl : lv_has ls 4 (lw_ls s b i)) (hkc : kc ≤ 600000) (hks : ks ≤ 7302250) (kk : ∀ g' w', JJ w' → lw_G p l e s m below meth c D ca b 554 ls [] kc ks (fl_mk g' w')) : lw_G p l e s m below meth c D ca b 518 ls [] kc ks (fl_mk g w) := by
  obtain ⟨⟨hx, hb, hr, hml, hown, hts, hX, hbl, hlocks, hgv⟩, hK, hN⟩ := id C0
  have hbA : ¬ (fun q : Nat => s.heap.size ≤ q) b := Nat.not_le.mpr hbl
  intro H locs hz hP ho hS
  refine lv_aload_n hx hb d_law_518 rfl (lv_at hl 1 rfl) ?_
  refine lw_call C0 (k' := 113) (ix := 83) (a := 0) (ci := 11) (As := []) (rest := []) (by decide) mk_113 ml_113 (mi_in 955 (by decide +kernel) rfl) rfl rfl (by decide) rfl rfl (st_colour g w hJ) hl.1 rfl d_law_519 rfl rfl hkc hks ?_ H locs hz hP ho hS
  rintro r M ⟨x, g', w', rfl, rfl, h2⟩ H locs hz hP ho hS
  refine lv_aload_n hx hb d_law_522 rfl (lv_at hl 2 rfl) ?_
  refine lw_call C0 (k' := 189) (ix := 86) (a := 229) (ci := 12) (As := []) (rest := [.int x]) (by decide) mk_189 ml_189 (mi_in 1403 (by decide +kernel) rfl) rfl rfl (by decide) rfl rfl (h2) hl.1 rfl d_law_523 rfl rfl hkc hks ?_ H locs hz hP ho hS
  rintro r M ⟨rfl, w2, rfl, hJ2⟩ H locs hz hP ho hS
  exact lv_icmp_eq (tgt := 554) hx hb d_law_526 (by decide) (fun _ => kk g' w2 hJ2 H locs hz hP ho hS) (fun z => absurd rfl z)
set_option maxHeartbeats 4000000 in
theorem lc_17 (C0 : lw_C p s m meth c D ca b L xs) (hL : L ≤ 2048) {i kc ks : Nat} {g : Int64} {w : fl_W} {ls : Array Slot} (hi : i + 4 ≤ L) (hJ : JJ w) (hl : lv_has ls 4 (lw_ls s b i)) (hkc : kc ≤ 600000) (hks : ks ≤ 7302250) (kk : ∀ g' w', JJ w' → lw_G p l e s m below meth c D ca b 554 ls [] kc ks (fl_mk g' w')) : lw_G p l e s m below meth c D ca b 531 ls [] kc ks (fl_mk g w) := by
  obtain ⟨⟨hx, hb, hr, hml, hown, hts, hX, hbl, hlocks, hgv⟩, hK, hN⟩ := id C0
  have hbA : ¬ (fun q : Nat => s.heap.size ≤ q) b := Nat.not_le.mpr hbl
  intro H locs hz hP ho hS
  refine lv_aload_n hx hb d_law_531 rfl (lv_at hl 1 rfl) ?_
  refine lv_aload_n hx hb d_law_532 rfl (lv_at hl 0 rfl) ?_
  refine lv_iload_n hx hb d_law_533 rfl (lv_at hl 3 rfl) ?_
  refine lv_iconst (v := 1) hx hb d_law_534 (by decide) ?_
  refine lv_iadd hx hb d_law_535 ?_
  refine va_sld hx hb hX hbl hbA hS (lw_in1 hL hi) d_law_536 ?_
  refine lw_call C0 (k' := 114) (ix := 87) (a := 0) (ci := 11) (As := [.int (xs (nI i + 1).toNatClampNeg)]) (rest := []) (by decide) mk_114 ml_114 (mi_in 986 (by decide +kernel) rfl) rfl rfl (by decide) rfl rfl (st_colourOf _ g w hJ) hl.1 rfl d_law_537 rfl rfl hkc hks ?_ H locs hz hP ho hS
  rintro r M ⟨x, g', w', rfl, rfl, h2⟩ H locs hz hP ho hS
  refine lv_aload_n hx hb d_law_540 rfl (lv_at hl 2 rfl) ?_
  refine lv_aload_n hx hb d_law_541 rfl (lv_at hl 0 rfl) ?_
  refine lv_iload_n hx hb d_law_542 rfl (lv_at hl 3 rfl) ?_
  refine lv_iconst (v := 1) hx hb d_law_543 (by decide) ?_
  refine lv_iadd hx hb d_law_544 ?_
  refine va_sld hx hb hX hbl hbA hS (lw_in1 hL hi) d_law_545 ?_
  refine lw_call C0 (k' := 190) (ix := 90) (a := 229) (ci := 12) (As := [.int (xs (nI i + 1).toNatClampNeg)]) (rest := [.int x]) (by decide) mk_190 ml_190 (mi_in 1411 (by decide +kernel) rfl) rfl rfl (by decide) rfl rfl (h2) hl.1 rfl d_law_546 rfl rfl hkc hks ?_ H locs hz hP ho hS
  rintro r M ⟨rfl, w2, rfl, hJ2⟩ H locs hz hP ho hS
  exact lv_icmp_eq (tgt := 554) hx hb d_law_549 (by decide) (fun _ => kk g' w2 hJ2 H locs hz hP ho hS) (fun z => absurd rfl z)
end LWC
