theorem dL_below_0 : decode cL_below 0 = .ok (.iload_n 0, 1) := by decide +kernel
theorem dL_below_1 : decode cL_below 1 = .ok (.ldc 7, 2) := by decide +kernel
theorem dL_below_3 : decode cL_below 3 = .ok (.iand, 1) := by decide +kernel
theorem dL_below_4 : decode cL_below 4 = .ok (.iload_n 1, 1) := by decide +kernel
theorem dL_below_5 : decode cL_below 5 = .ok (.irem, 1) := by decide +kernel
theorem dL_below_6 : decode cL_below 6 = .ok (.ireturn, 1) := by decide +kernel
abbrev m_L_below : Mt := (cL_below, RL, "below", 2, .ireturn, 1)
def f_L_below (N : Nat) (z : Nat → Nat) (v0 : Int32) (v1 : Int32) (x0 : Hp) : Option (Int32 × Hp) :=
  nz v1 <|
  some ((v0 &&& (2147483647 : Int32)) - (v0 &&& (2147483647 : Int32)) / v1 * v1, x0)
set_option maxRecDepth 100000 in
set_option maxHeartbeats 4000000 in
theorem g_L_below (l : Launch) (N : Nat) (z : Nat → Nat) (v0 : Int32) (v1 : Int32) (x0 : Hp) : G l z m_L_below okT enI 0 [(0, .int v0), (1, .int v1)] [] x0 (f_L_below N z v0 v1 x0) := by
  unfold f_L_below
  refine G_iload_n 0 dL_below_0 rfl rfl ?_
  refine G_ldc (v := (2147483647 : Int32)) gw_1375 dL_below_1 ?_
  refine G_iand dL_below_3 ?_
  refine G_iload_n 1 dL_below_4 rfl rfl ?_
  refine G_irem dL_below_5 ?_
  exact G_ret trivial dL_below_6 rfl

theorem yn_L_below : Yn yL_below 2 := ⟨by decide +kernel, by decide +kernel, by decide +kernel⟩
theorem ct_L_below (l : Launch) (N : Nat) (z : Nat → Nat) (v0 : Int32) (v1 : Int32) : Ct l z yL_below cL_below 2 (some .int) 1 enI [.int v0, .int v1] (f_L_below N z v0 v1) :=
  Ct_i (fun x => G_lv0 (by simp only [lva_n, lva_i, lva_o, lva_r, lva_j]) (g_L_below l N z v0 v1 x)) (by decide +kernel) (by simp only [lgl_n, lgl_i, lgl_o, lgl_r, lgl_j]; decide)

theorem dL_cell_0 : decode cL_cell 0 = .ok (.iload_n 1, 1) := by decide +kernel
theorem dL_cell_1 : decode cL_cell 1 = .ok (.aload_n 0, 1) := by decide +kernel
theorem dL_cell_2 : decode cL_cell 2 = .ok (.arraylength, 1) := by decide +kernel
theorem dL_cell_3 : decode cL_cell 3 = .ok (.if_icmp .ge 9, 3) := by decide +kernel
theorem dL_cell_6 : decode cL_cell 6 = .ok (.aload_n 0, 1) := by decide +kernel
theorem dL_cell_7 : decode cL_cell 7 = .ok (.iload_n 1, 1) := by decide +kernel
theorem dL_cell_8 : decode cL_cell 8 = .ok (.iaload, 1) := by decide +kernel
theorem dL_cell_9 : decode cL_cell 9 = .ok (.goto 9, 3) := by decide +kernel
theorem dL_cell_12 : decode cL_cell 12 = .ok (.ldc 8, 2) := by decide +kernel
theorem dL_cell_14 : decode cL_cell 14 = .ok (.iload_n 1, 1) := by decide +kernel
theorem dL_cell_15 : decode cL_cell 15 = .ok (.iconst 3, 1) := by decide +kernel
theorem dL_cell_16 : decode cL_cell 16 = .ok (.iadd, 1) := by decide +kernel
theorem dL_cell_17 : decode cL_cell 17 = .ok (.imul, 1) := by decide +kernel
theorem dL_cell_18 : decode cL_cell 18 = .ok (.ireturn, 1) := by decide +kernel
abbrev m_L_cell : Mt := (cL_cell, RL, "cell", 2, .ireturn, 1)
def f_L_cell (N : Nat) (z : Nat → Nat) (v0 : Option Nat) (v1 : Int32) (x0 : Hp) : Option (Int32 × Hp) :=
  alen v0 x0 301 fun i1 =>
  if i1 ≤ v1 then (some ((790386105 : Int32) * (v1 + (3 : Int32)), x0)) else (aldi v0 x0 301 v1 fun i2 =>
  some (i2, x0))
set_option maxRecDepth 100000 in
set_option maxHeartbeats 4000000 in
theorem g_L_cell (l : Launch) (N : Nat) (z : Nat → Nat) (v0 : Option Nat) (v1 : Int32) (x0 : Hp) : G l z m_L_cell okT enI 0 [(0, va_rf v0), (1, .int v1)] [] x0 (f_L_cell N z v0 v1 x0) := by
  unfold f_L_cell
  refine G_iload_n 1 dL_cell_0 rfl rfl ?_
  refine G_aload_n 0 dL_cell_1 rfl rfl ?_
  refine G_alenO dL_cell_2 (fun i1 => ?_)
  refine G_icmp_ge (tgt := 12) dL_cell_3 (by decide) (fun _ => ?_) (fun _ => ?_)
  · refine G_ldc (v := (790386105 : Int32)) gw_1117 dL_cell_12 ?_
    refine G_iload_n 1 dL_cell_14 rfl rfl ?_
    refine G_iconst (v := (3 : Int32)) dL_cell_15 rfl ?_
    refine G_iadd dL_cell_16 ?_
    refine G_imul dL_cell_17 ?_
    exact G_ret trivial dL_cell_18 rfl
  · refine G_aload_n 0 dL_cell_6 rfl rfl ?_
    refine G_iload_n 1 dL_cell_7 rfl rfl ?_
    refine G_ialdO dL_cell_8 (fun i2 => ?_)
    refine G_goto (tgt := 18) dL_cell_9 (by decide) ?_
    exact G_ret trivial dL_cell_18 rfl

theorem yn_L_cell : Yn yL_cell 2 := ⟨by decide +kernel, by decide +kernel, by decide +kernel⟩
theorem ct_L_cell (l : Launch) (N : Nat) (z : Nat → Nat) (v0 : Option Nat) (v1 : Int32) : Ct l z yL_cell cL_cell 2 (some .int) 1 enI [va_rf v0, .int v1] (f_L_cell N z v0 v1) :=
  Ct_i (fun x => G_lv0 (by simp only [lva_n, lva_i, lva_o, lva_r, lva_j]) (g_L_cell l N z v0 v1 x)) (by decide +kernel) (by simp only [lgl_n, lgl_i, lgl_o, lgl_r, lgl_j]; decide)

theorem dL_chosen_0 : decode cL_chosen 0 = .ok (.new 32, 3) := by decide +kernel
theorem dL_chosen_3 : decode cL_chosen 3 = .ok (.dup, 1) := by decide +kernel
theorem dL_chosen_4 : decode cL_chosen 4 = .ok (.invokespecial 34, 3) := by decide +kernel
theorem dL_chosen_7 : decode cL_chosen 7 = .ok (.astore_n 1, 1) := by decide +kernel
theorem dL_chosen_8 : decode cL_chosen 8 = .ok (.aload_n 0, 1) := by decide +kernel
theorem dL_chosen_9 : decode cL_chosen 9 = .ok (.iconst 0, 1) := by decide +kernel
theorem dL_chosen_10 : decode cL_chosen 10 = .ok (.invokestatic 35, 3) := by decide +kernel
theorem dL_chosen_13 : decode cL_chosen 13 = .ok (.iconst 3, 1) := by decide +kernel
theorem dL_chosen_14 : decode cL_chosen 14 = .ok (.invokestatic 41, 3) := by decide +kernel
theorem dL_chosen_17 : decode cL_chosen 17 = .ok (.ifCond .le 19, 3) := by decide +kernel
theorem dL_chosen_20 : decode cL_chosen 20 = .ok (.aload_n 1, 1) := by decide +kernel
theorem dL_chosen_21 : decode cL_chosen 21 = .ok (.aload_n 0, 1) := by decide +kernel
theorem dL_chosen_22 : decode cL_chosen 22 = .ok (.iconst 0, 1) := by decide +kernel
theorem dL_chosen_23 : decode cL_chosen 23 = .ok (.invokestatic 35, 3) := by decide +kernel
theorem dL_chosen_26 : decode cL_chosen 26 = .ok (.iconst 2, 1) := by decide +kernel
theorem dL_chosen_27 : decode cL_chosen 27 = .ok (.ishr, 1) := by decide +kernel
theorem dL_chosen_28 : decode cL_chosen 28 = .ok (.bipush 31, 2) := by decide +kernel
theorem dL_chosen_30 : decode cL_chosen 30 = .ok (.invokestatic 41, 3) := by decide +kernel
theorem dL_chosen_33 : decode cL_chosen 33 = .ok (.putfield 45, 3) := by decide +kernel
theorem dL_chosen_36 : decode cL_chosen 36 = .ok (.iconst 1, 1) := by decide +kernel
theorem dL_chosen_37 : decode cL_chosen 37 = .ok (.aload_n 0, 1) := by decide +kernel
theorem dL_chosen_38 : decode cL_chosen 38 = .ok (.iconst 1, 1) := by decide +kernel
theorem dL_chosen_39 : decode cL_chosen 39 = .ok (.invokestatic 35, 3) := by decide +kernel
theorem dL_chosen_42 : decode cL_chosen 42 = .ok (.iconst 5, 1) := by decide +kernel
theorem dL_chosen_43 : decode cL_chosen 43 = .ok (.invokestatic 41, 3) := by decide +kernel
theorem dL_chosen_46 : decode cL_chosen 46 = .ok (.iadd, 1) := by decide +kernel
theorem dL_chosen_47 : decode cL_chosen 47 = .ok (.istore_n 2, 1) := by decide +kernel
theorem dL_chosen_48 : decode cL_chosen 48 = .ok (.aload_n 1, 1) := by decide +kernel
theorem dL_chosen_49 : decode cL_chosen 49 = .ok (.iload_n 2, 1) := by decide +kernel
theorem dL_chosen_50 : decode cL_chosen 50 = .ok (.anewarray 49, 3) := by decide +kernel
theorem dL_chosen_53 : decode cL_chosen 53 = .ok (.putfield 51, 3) := by decide +kernel
theorem dL_chosen_56 : decode cL_chosen 56 = .ok (.iconst 0, 1) := by decide +kernel
theorem dL_chosen_57 : decode cL_chosen 57 = .ok (.istore_n 3, 1) := by decide +kernel
theorem dL_chosen_58 : decode cL_chosen 58 = .ok (.iload_n 3, 1) := by decide +kernel
theorem dL_chosen_59 : decode cL_chosen 59 = .ok (.iload_n 2, 1) := by decide +kernel
theorem dL_chosen_60 : decode cL_chosen 60 = .ok (.if_icmp .ge 230, 3) := by decide +kernel
theorem dL_chosen_63 : decode cL_chosen 63 = .ok (.aload_n 0, 1) := by decide +kernel
theorem dL_chosen_64 : decode cL_chosen 64 = .ok (.iconst 2, 1) := by decide +kernel
theorem dL_chosen_65 : decode cL_chosen 65 = .ok (.iload_n 3, 1) := by decide +kernel
theorem dL_chosen_66 : decode cL_chosen 66 = .ok (.iadd, 1) := by decide +kernel
theorem dL_chosen_67 : decode cL_chosen 67 = .ok (.invokestatic 35, 3) := by decide +kernel
theorem dL_chosen_70 : decode cL_chosen 70 = .ok (.bipush 127, 2) := by decide +kernel
theorem dL_chosen_72 : decode cL_chosen 72 = .ok (.iload_n 3, 1) := by decide +kernel
theorem dL_chosen_73 : decode cL_chosen 73 = .ok (.imul, 1) := by decide +kernel
theorem dL_chosen_74 : decode cL_chosen 74 = .ok (.iadd, 1) := by decide +kernel
theorem dL_chosen_75 : decode cL_chosen 75 = .ok (.istore 4, 2) := by decide +kernel
theorem dL_chosen_77 : decode cL_chosen 77 = .ok (.new 49, 3) := by decide +kernel
theorem dL_chosen_80 : decode cL_chosen 80 = .ok (.dup, 1) := by decide +kernel
theorem dL_chosen_81 : decode cL_chosen 81 = .ok (.invokespecial 55, 3) := by decide +kernel
theorem dL_chosen_84 : decode cL_chosen 84 = .ok (.astore 5, 2) := by decide +kernel
theorem dL_chosen_86 : decode cL_chosen 86 = .ok (.aload 5, 2) := by decide +kernel
theorem dL_chosen_88 : decode cL_chosen 88 = .ok (.iload_n 3, 1) := by decide +kernel
theorem dL_chosen_89 : decode cL_chosen 89 = .ok (.putfield 56, 3) := by decide +kernel
theorem dL_chosen_92 : decode cL_chosen 92 = .ok (.aload 5, 2) := by decide +kernel
theorem dL_chosen_94 : decode cL_chosen 94 = .ok (.iload_n 3, 1) := by decide +kernel
theorem dL_chosen_95 : decode cL_chosen 95 = .ok (.ifCond .eq 12, 3) := by decide +kernel
theorem dL_chosen_98 : decode cL_chosen 98 = .ok (.iload 4, 2) := by decide +kernel
theorem dL_chosen_100 : decode cL_chosen 100 = .ok (.iconst 3, 1) := by decide +kernel
theorem dL_chosen_101 : decode cL_chosen 101 = .ok (.invokestatic 41, 3) := by decide +kernel
theorem dL_chosen_104 : decode cL_chosen 104 = .ok (.ifCond .ne 7, 3) := by decide +kernel
theorem dL_chosen_107 : decode cL_chosen 107 = .ok (.aconst_null, 1) := by decide +kernel
theorem dL_chosen_108 : decode cL_chosen 108 = .ok (.goto 16, 3) := by decide +kernel
theorem dL_chosen_111 : decode cL_chosen 111 = .ok (.aload_n 1, 1) := by decide +kernel
theorem dL_chosen_112 : decode cL_chosen 112 = .ok (.getfield 51, 3) := by decide +kernel
theorem dL_chosen_115 : decode cL_chosen 115 = .ok (.iload 4, 2) := by decide +kernel
theorem dL_chosen_117 : decode cL_chosen 117 = .ok (.iconst 1, 1) := by decide +kernel
theorem dL_chosen_118 : decode cL_chosen 118 = .ok (.ishr, 1) := by decide +kernel
theorem dL_chosen_119 : decode cL_chosen 119 = .ok (.iload_n 3, 1) := by decide +kernel
theorem dL_chosen_120 : decode cL_chosen 120 = .ok (.invokestatic 41, 3) := by decide +kernel
theorem dL_chosen_123 : decode cL_chosen 123 = .ok (.aaload, 1) := by decide +kernel
theorem dL_chosen_124 : decode cL_chosen 124 = .ok (.putfield 59, 3) := by decide +kernel
theorem dL_chosen_127 : decode cL_chosen 127 = .ok (.aload 5, 2) := by decide +kernel
theorem dL_chosen_129 : decode cL_chosen 129 = .ok (.iload 4, 2) := by decide +kernel
theorem dL_chosen_131 : decode cL_chosen 131 = .ok (.iconst 2, 1) := by decide +kernel
theorem dL_chosen_132 : decode cL_chosen 132 = .ok (.ishr, 1) := by decide +kernel
theorem dL_chosen_133 : decode cL_chosen 133 = .ok (.iload 4, 2) := by decide +kernel
theorem dL_chosen_135 : decode cL_chosen 135 = .ok (.iconst 2, 1) := by decide +kernel
theorem dL_chosen_136 : decode cL_chosen 136 = .ok (.invokestatic 41, 3) := by decide +kernel
theorem dL_chosen_139 : decode cL_chosen 139 = .ok (.ifCond .ne 8, 3) := by decide +kernel
theorem dL_chosen_142 : decode cL_chosen 142 = .ok (.bipush 31, 2) := by decide +kernel
theorem dL_chosen_144 : decode cL_chosen 144 = .ok (.goto 4, 3) := by decide +kernel
theorem dL_chosen_147 : decode cL_chosen 147 = .ok (.iconst 5, 1) := by decide +kernel
theorem dL_chosen_148 : decode cL_chosen 148 = .ok (.invokestatic 41, 3) := by decide +kernel
theorem dL_chosen_151 : decode cL_chosen 151 = .ok (.putfield 63, 3) := by decide +kernel
theorem dL_chosen_154 : decode cL_chosen 154 = .ok (.aload 5, 2) := by decide +kernel
theorem dL_chosen_156 : decode cL_chosen 156 = .ok (.iload 4, 2) := by decide +kernel
theorem dL_chosen_158 : decode cL_chosen 158 = .ok (.iconst 3, 1) := by decide +kernel
theorem dL_chosen_159 : decode cL_chosen 159 = .ok (.ishr, 1) := by decide +kernel
theorem dL_chosen_160 : decode cL_chosen 160 = .ok (.bipush 31, 2) := by decide +kernel
theorem dL_chosen_162 : decode cL_chosen 162 = .ok (.invokestatic 41, 3) := by decide +kernel
theorem dL_chosen_165 : decode cL_chosen 165 = .ok (.putfield 66, 3) := by decide +kernel
theorem dL_chosen_168 : decode cL_chosen 168 = .ok (.aload 5, 2) := by decide +kernel
theorem dL_chosen_170 : decode cL_chosen 170 = .ok (.iload 4, 2) := by decide +kernel
theorem dL_chosen_172 : decode cL_chosen 172 = .ok (.iconst 4, 1) := by decide +kernel
theorem dL_chosen_173 : decode cL_chosen 173 = .ok (.ishr, 1) := by decide +kernel
theorem dL_chosen_174 : decode cL_chosen 174 = .ok (.iload 4, 2) := by decide +kernel
theorem dL_chosen_176 : decode cL_chosen 176 = .ok (.iconst 1, 1) := by decide +kernel
theorem dL_chosen_177 : decode cL_chosen 177 = .ok (.ishr, 1) := by decide +kernel
theorem dL_chosen_178 : decode cL_chosen 178 = .ok (.iconst 2, 1) := by decide +kernel
theorem dL_chosen_179 : decode cL_chosen 179 = .ok (.invokestatic 41, 3) := by decide +kernel
theorem dL_chosen_182 : decode cL_chosen 182 = .ok (.ifCond .ne 8, 3) := by decide +kernel
theorem dL_chosen_185 : decode cL_chosen 185 = .ok (.bipush 100, 2) := by decide +kernel
theorem dL_chosen_187 : decode cL_chosen 187 = .ok (.goto 5, 3) := by decide +kernel
theorem dL_chosen_190 : decode cL_chosen 190 = .ok (.bipush 9, 2) := by decide +kernel
theorem dL_chosen_192 : decode cL_chosen 192 = .ok (.invokestatic 41, 3) := by decide +kernel
theorem dL_chosen_195 : decode cL_chosen 195 = .ok (.putfield 69, 3) := by decide +kernel
theorem dL_chosen_198 : decode cL_chosen 198 = .ok (.aload 5, 2) := by decide +kernel
theorem dL_chosen_200 : decode cL_chosen 200 = .ok (.iload 4, 2) := by decide +kernel
theorem dL_chosen_202 : decode cL_chosen 202 = .ok (.iconst 5, 1) := by decide +kernel
theorem dL_chosen_203 : decode cL_chosen 203 = .ok (.ishr, 1) := by decide +kernel
theorem dL_chosen_204 : decode cL_chosen 204 = .ok (.iconst 4, 1) := by decide +kernel
theorem dL_chosen_205 : decode cL_chosen 205 = .ok (.invokestatic 41, 3) := by decide +kernel
theorem dL_chosen_208 : decode cL_chosen 208 = .ok (.putfield 72, 3) := by decide +kernel
theorem dL_chosen_211 : decode cL_chosen 211 = .ok (.aload 5, 2) := by decide +kernel
theorem dL_chosen_213 : decode cL_chosen 213 = .ok (.iconst 1, 1) := by decide +kernel
theorem dL_chosen_214 : decode cL_chosen 214 = .ok (.iload 4, 2) := by decide +kernel
theorem dL_chosen_216 : decode cL_chosen 216 = .ok (.bipush 6, 2) := by decide +kernel
theorem dL_chosen_218 : decode cL_chosen 218 = .ok (.ishr, 1) := by decide +kernel
theorem dL_chosen_219 : decode cL_chosen 219 = .ok (.iload 4, 2) := by decide +kernel
theorem dL_chosen_221 : decode cL_chosen 221 = .ok (.iconst 2, 1) := by decide +kernel
theorem dL_chosen_222 : decode cL_chosen 222 = .ok (.ishr, 1) := by decide +kernel
theorem dL_chosen_223 : decode cL_chosen 223 = .ok (.iconst 2, 1) := by decide +kernel
theorem dL_chosen_224 : decode cL_chosen 224 = .ok (.invokestatic 41, 3) := by decide +kernel
theorem dL_chosen_227 : decode cL_chosen 227 = .ok (.ifCond .ne 8, 3) := by decide +kernel
theorem dL_chosen_230 : decode cL_chosen 230 = .ok (.bipush 60, 2) := by decide +kernel
theorem dL_chosen_232 : decode cL_chosen 232 = .ok (.goto 5, 3) := by decide +kernel
theorem dL_chosen_235 : decode cL_chosen 235 = .ok (.bipush 9, 2) := by decide +kernel
theorem dL_chosen_237 : decode cL_chosen 237 = .ok (.invokestatic 41, 3) := by decide +kernel
theorem dL_chosen_240 : decode cL_chosen 240 = .ok (.iadd, 1) := by decide +kernel
theorem dL_chosen_241 : decode cL_chosen 241 = .ok (.putfield 75, 3) := by decide +kernel
theorem dL_chosen_244 : decode cL_chosen 244 = .ok (.aload 5, 2) := by decide +kernel
theorem dL_chosen_246 : decode cL_chosen 246 = .ok (.iload 4, 2) := by decide +kernel
theorem dL_chosen_248 : decode cL_chosen 248 = .ok (.bipush 7, 2) := by decide +kernel
theorem dL_chosen_250 : decode cL_chosen 250 = .ok (.ishr, 1) := by decide +kernel
theorem dL_chosen_251 : decode cL_chosen 251 = .ok (.iconst 2, 1) := by decide +kernel
theorem dL_chosen_252 : decode cL_chosen 252 = .ok (.invokestatic 41, 3) := by decide +kernel
theorem dL_chosen_255 : decode cL_chosen 255 = .ok (.ifCond .ne 7, 3) := by decide +kernel
theorem dL_chosen_258 : decode cL_chosen 258 = .ok (.iconst 1, 1) := by decide +kernel
theorem dL_chosen_259 : decode cL_chosen 259 = .ok (.goto 4, 3) := by decide +kernel
theorem dL_chosen_262 : decode cL_chosen 262 = .ok (.iconst 0, 1) := by decide +kernel
theorem dL_chosen_263 : decode cL_chosen 263 = .ok (.putfield 78, 3) := by decide +kernel
theorem dL_chosen_266 : decode cL_chosen 266 = .ok (.aload 5, 2) := by decide +kernel
theorem dL_chosen_268 : decode cL_chosen 268 = .ok (.aload 5, 2) := by decide +kernel
theorem dL_chosen_270 : decode cL_chosen 270 = .ok (.getfield 69, 3) := by decide +kernel
theorem dL_chosen_273 : decode cL_chosen 273 = .ok (.putfield 82, 3) := by decide +kernel
theorem dL_chosen_276 : decode cL_chosen 276 = .ok (.aload_n 1, 1) := by decide +kernel
theorem dL_chosen_277 : decode cL_chosen 277 = .ok (.getfield 51, 3) := by decide +kernel
theorem dL_chosen_280 : decode cL_chosen 280 = .ok (.iload_n 3, 1) := by decide +kernel
theorem dL_chosen_281 : decode cL_chosen 281 = .ok (.aload 5, 2) := by decide +kernel
theorem dL_chosen_283 : decode cL_chosen 283 = .ok (.aastore, 1) := by decide +kernel
theorem dL_chosen_284 : decode cL_chosen 284 = .ok (.iinc 3 1, 3) := by decide +kernel
theorem dL_chosen_287 : decode cL_chosen 287 = .ok (.goto (-229), 3) := by decide +kernel
theorem dL_chosen_290 : decode cL_chosen 290 = .ok (.iconst 1, 1) := by decide +kernel
theorem dL_chosen_291 : decode cL_chosen 291 = .ok (.aload_n 0, 1) := by decide +kernel
theorem dL_chosen_292 : decode cL_chosen 292 = .ok (.bipush 8, 2) := by decide +kernel
theorem dL_chosen_294 : decode cL_chosen 294 = .ok (.invokestatic 35, 3) := by decide +kernel
theorem dL_chosen_297 : decode cL_chosen 297 = .ok (.bipush 6, 2) := by decide +kernel
theorem dL_chosen_299 : decode cL_chosen 299 = .ok (.invokestatic 41, 3) := by decide +kernel
theorem dL_chosen_302 : decode cL_chosen 302 = .ok (.iadd, 1) := by decide +kernel
theorem dL_chosen_303 : decode cL_chosen 303 = .ok (.istore_n 3, 1) := by decide +kernel
theorem dL_chosen_304 : decode cL_chosen 304 = .ok (.aload_n 1, 1) := by decide +kernel
theorem dL_chosen_305 : decode cL_chosen 305 = .ok (.iload_n 3, 1) := by decide +kernel
theorem dL_chosen_306 : decode cL_chosen 306 = .ok (.anewarray 85, 3) := by decide +kernel
theorem dL_chosen_309 : decode cL_chosen 309 = .ok (.putfield 87, 3) := by decide +kernel
theorem dL_chosen_312 : decode cL_chosen 312 = .ok (.iconst 0, 1) := by decide +kernel
theorem dL_chosen_313 : decode cL_chosen 313 = .ok (.istore 4, 2) := by decide +kernel
theorem dL_chosen_315 : decode cL_chosen 315 = .ok (.iload 4, 2) := by decide +kernel
theorem dL_chosen_317 : decode cL_chosen 317 = .ok (.iload_n 3, 1) := by decide +kernel
theorem dL_chosen_318 : decode cL_chosen 318 = .ok (.if_icmp .ge 131, 3) := by decide +kernel
theorem dL_chosen_321 : decode cL_chosen 321 = .ok (.aload_n 0, 1) := by decide +kernel
theorem dL_chosen_322 : decode cL_chosen 322 = .ok (.bipush 9, 2) := by decide +kernel
theorem dL_chosen_324 : decode cL_chosen 324 = .ok (.iload 4, 2) := by decide +kernel
theorem dL_chosen_326 : decode cL_chosen 326 = .ok (.iadd, 1) := by decide +kernel
theorem dL_chosen_327 : decode cL_chosen 327 = .ok (.invokestatic 35, 3) := by decide +kernel
theorem dL_chosen_330 : decode cL_chosen 330 = .ok (.sipush 131, 3) := by decide +kernel
theorem dL_chosen_333 : decode cL_chosen 333 = .ok (.iload 4, 2) := by decide +kernel
theorem dL_chosen_335 : decode cL_chosen 335 = .ok (.imul, 1) := by decide +kernel
theorem dL_chosen_336 : decode cL_chosen 336 = .ok (.iadd, 1) := by decide +kernel
theorem dL_chosen_337 : decode cL_chosen 337 = .ok (.istore 5, 2) := by decide +kernel
theorem dL_chosen_339 : decode cL_chosen 339 = .ok (.aload_n 1, 1) := by decide +kernel
theorem dL_chosen_340 : decode cL_chosen 340 = .ok (.getfield 87, 3) := by decide +kernel
theorem dL_chosen_343 : decode cL_chosen 343 = .ok (.iload 4, 2) := by decide +kernel
theorem dL_chosen_345 : decode cL_chosen 345 = .ok (.iconst 5, 1) := by decide +kernel
theorem dL_chosen_346 : decode cL_chosen 346 = .ok (.newarray .int, 2) := by decide +kernel
theorem dL_chosen_348 : decode cL_chosen 348 = .ok (.dup, 1) := by decide +kernel
theorem dL_chosen_349 : decode cL_chosen 349 = .ok (.iconst 0, 1) := by decide +kernel
theorem dL_chosen_350 : decode cL_chosen 350 = .ok (.iload 5, 2) := by decide +kernel
theorem dL_chosen_352 : decode cL_chosen 352 = .ok (.iload_n 2, 1) := by decide +kernel
theorem dL_chosen_353 : decode cL_chosen 353 = .ok (.invokestatic 41, 3) := by decide +kernel
theorem dL_chosen_356 : decode cL_chosen 356 = .ok (.iastore, 1) := by decide +kernel
theorem dL_chosen_357 : decode cL_chosen 357 = .ok (.dup, 1) := by decide +kernel
theorem dL_chosen_358 : decode cL_chosen 358 = .ok (.iconst 1, 1) := by decide +kernel
theorem dL_chosen_359 : decode cL_chosen 359 = .ok (.iconst 1, 1) := by decide +kernel
theorem dL_chosen_360 : decode cL_chosen 360 = .ok (.iload 5, 2) := by decide +kernel
theorem dL_chosen_362 : decode cL_chosen 362 = .ok (.iconst 2, 1) := by decide +kernel
theorem dL_chosen_363 : decode cL_chosen 363 = .ok (.ishr, 1) := by decide +kernel
theorem dL_chosen_364 : decode cL_chosen 364 = .ok (.iload 5, 2) := by decide +kernel
theorem dL_chosen_366 : decode cL_chosen 366 = .ok (.iconst 2, 1) := by decide +kernel
theorem dL_chosen_367 : decode cL_chosen 367 = .ok (.invokestatic 41, 3) := by decide +kernel
theorem dL_chosen_370 : decode cL_chosen 370 = .ok (.ifCond .ne 8, 3) := by decide +kernel
theorem dL_chosen_373 : decode cL_chosen 373 = .ok (.bipush 30, 2) := by decide +kernel
theorem dL_chosen_375 : decode cL_chosen 375 = .ok (.goto 5, 3) := by decide +kernel
theorem dL_chosen_378 : decode cL_chosen 378 = .ok (.bipush 6, 2) := by decide +kernel
theorem dL_chosen_380 : decode cL_chosen 380 = .ok (.invokestatic 41, 3) := by decide +kernel
theorem dL_chosen_383 : decode cL_chosen 383 = .ok (.iadd, 1) := by decide +kernel
theorem dL_chosen_384 : decode cL_chosen 384 = .ok (.iastore, 1) := by decide +kernel
theorem dL_chosen_385 : decode cL_chosen 385 = .ok (.dup, 1) := by decide +kernel
theorem dL_chosen_386 : decode cL_chosen 386 = .ok (.iconst 2, 1) := by decide +kernel
theorem dL_chosen_387 : decode cL_chosen 387 = .ok (.iconst 1, 1) := by decide +kernel
theorem dL_chosen_388 : decode cL_chosen 388 = .ok (.iload 5, 2) := by decide +kernel
theorem dL_chosen_390 : decode cL_chosen 390 = .ok (.iconst 3, 1) := by decide +kernel
theorem dL_chosen_391 : decode cL_chosen 391 = .ok (.ishr, 1) := by decide +kernel
theorem dL_chosen_392 : decode cL_chosen 392 = .ok (.iload 5, 2) := by decide +kernel
theorem dL_chosen_394 : decode cL_chosen 394 = .ok (.iconst 3, 1) := by decide +kernel
theorem dL_chosen_395 : decode cL_chosen 395 = .ok (.invokestatic 41, 3) := by decide +kernel
theorem dL_chosen_398 : decode cL_chosen 398 = .ok (.ifCond .ne 8, 3) := by decide +kernel
theorem dL_chosen_401 : decode cL_chosen 401 = .ok (.bipush 30, 2) := by decide +kernel
theorem dL_chosen_403 : decode cL_chosen 403 = .ok (.goto 4, 3) := by decide +kernel
theorem dL_chosen_406 : decode cL_chosen 406 = .ok (.iconst 4, 1) := by decide +kernel
theorem dL_chosen_407 : decode cL_chosen 407 = .ok (.invokestatic 41, 3) := by decide +kernel
theorem dL_chosen_410 : decode cL_chosen 410 = .ok (.iadd, 1) := by decide +kernel
theorem dL_chosen_411 : decode cL_chosen 411 = .ok (.iastore, 1) := by decide +kernel
theorem dL_chosen_412 : decode cL_chosen 412 = .ok (.dup, 1) := by decide +kernel
theorem dL_chosen_413 : decode cL_chosen 413 = .ok (.iconst 3, 1) := by decide +kernel
theorem dL_chosen_414 : decode cL_chosen 414 = .ok (.iload 5, 2) := by decide +kernel
theorem dL_chosen_416 : decode cL_chosen 416 = .ok (.iconst 4, 1) := by decide +kernel
theorem dL_chosen_417 : decode cL_chosen 417 = .ok (.ishr, 1) := by decide +kernel
theorem dL_chosen_418 : decode cL_chosen 418 = .ok (.iload 5, 2) := by decide +kernel
theorem dL_chosen_420 : decode cL_chosen 420 = .ok (.iconst 3, 1) := by decide +kernel
theorem dL_chosen_421 : decode cL_chosen 421 = .ok (.invokestatic 41, 3) := by decide +kernel
theorem dL_chosen_424 : decode cL_chosen 424 = .ok (.ifCond .ne 8, 3) := by decide +kernel
theorem dL_chosen_427 : decode cL_chosen 427 = .ok (.bipush 100, 2) := by decide +kernel
theorem dL_chosen_429 : decode cL_chosen 429 = .ok (.goto 5, 3) := by decide +kernel
theorem dL_chosen_432 : decode cL_chosen 432 = .ok (.bipush 6, 2) := by decide +kernel
theorem dL_chosen_434 : decode cL_chosen 434 = .ok (.invokestatic 41, 3) := by decide +kernel
theorem dL_chosen_437 : decode cL_chosen 437 = .ok (.iastore, 1) := by decide +kernel
theorem dL_chosen_438 : decode cL_chosen 438 = .ok (.dup, 1) := by decide +kernel
theorem dL_chosen_439 : decode cL_chosen 439 = .ok (.iconst 4, 1) := by decide +kernel
theorem dL_chosen_440 : decode cL_chosen 440 = .ok (.iconst 0, 1) := by decide +kernel
theorem dL_chosen_441 : decode cL_chosen 441 = .ok (.iastore, 1) := by decide +kernel
theorem dL_chosen_442 : decode cL_chosen 442 = .ok (.aastore, 1) := by decide +kernel
theorem dL_chosen_443 : decode cL_chosen 443 = .ok (.iinc 4 1, 3) := by decide +kernel
theorem dL_chosen_446 : decode cL_chosen 446 = .ok (.goto (-131), 3) := by decide +kernel
theorem dL_chosen_449 : decode cL_chosen 449 = .ok (.aload_n 0, 1) := by decide +kernel
theorem dL_chosen_450 : decode cL_chosen 450 = .ok (.bipush 15, 2) := by decide +kernel
theorem dL_chosen_452 : decode cL_chosen 452 = .ok (.invokestatic 35, 3) := by decide +kernel
theorem dL_chosen_455 : decode cL_chosen 455 = .ok (.bipush 7, 2) := by decide +kernel
theorem dL_chosen_457 : decode cL_chosen 457 = .ok (.invokestatic 41, 3) := by decide +kernel
theorem dL_chosen_460 : decode cL_chosen 460 = .ok (.istore 4, 2) := by decide +kernel
theorem dL_chosen_462 : decode cL_chosen 462 = .ok (.aload_n 1, 1) := by decide +kernel
theorem dL_chosen_463 : decode cL_chosen 463 = .ok (.iload 4, 2) := by decide +kernel
theorem dL_chosen_465 : decode cL_chosen 465 = .ok (.anewarray 85, 3) := by decide +kernel
theorem dL_chosen_468 : decode cL_chosen 468 = .ok (.putfield 91, 3) := by decide +kernel
theorem dL_chosen_471 : decode cL_chosen 471 = .ok (.iconst 0, 1) := by decide +kernel
theorem dL_chosen_472 : decode cL_chosen 472 = .ok (.istore 5, 2) := by decide +kernel
theorem dL_chosen_474 : decode cL_chosen 474 = .ok (.iload 5, 2) := by decide +kernel
theorem dL_chosen_476 : decode cL_chosen 476 = .ok (.iload 4, 2) := by decide +kernel
theorem dL_chosen_478 : decode cL_chosen 478 = .ok (.if_icmp .ge 131, 3) := by decide +kernel
theorem dL_chosen_481 : decode cL_chosen 481 = .ok (.aload_n 0, 1) := by decide +kernel
theorem dL_chosen_482 : decode cL_chosen 482 = .ok (.iconst 3, 1) := by decide +kernel
theorem dL_chosen_483 : decode cL_chosen 483 = .ok (.iload 5, 2) := by decide +kernel
theorem dL_chosen_485 : decode cL_chosen 485 = .ok (.iadd, 1) := by decide +kernel
theorem dL_chosen_486 : decode cL_chosen 486 = .ok (.invokestatic 35, 3) := by decide +kernel
theorem dL_chosen_489 : decode cL_chosen 489 = .ok (.sipush 137, 3) := by decide +kernel
theorem dL_chosen_492 : decode cL_chosen 492 = .ok (.iload 5, 2) := by decide +kernel
theorem dL_chosen_494 : decode cL_chosen 494 = .ok (.imul, 1) := by decide +kernel
theorem dL_chosen_495 : decode cL_chosen 495 = .ok (.iadd, 1) := by decide +kernel
theorem dL_chosen_496 : decode cL_chosen 496 = .ok (.istore 6, 2) := by decide +kernel
theorem dL_chosen_498 : decode cL_chosen 498 = .ok (.aload_n 1, 1) := by decide +kernel
theorem dL_chosen_499 : decode cL_chosen 499 = .ok (.getfield 91, 3) := by decide +kernel
theorem dL_chosen_502 : decode cL_chosen 502 = .ok (.iload 5, 2) := by decide +kernel
theorem dL_chosen_504 : decode cL_chosen 504 = .ok (.bipush 8, 2) := by decide +kernel
theorem dL_chosen_506 : decode cL_chosen 506 = .ok (.newarray .int, 2) := by decide +kernel
theorem dL_chosen_508 : decode cL_chosen 508 = .ok (.dup, 1) := by decide +kernel
theorem dL_chosen_509 : decode cL_chosen 509 = .ok (.iconst 0, 1) := by decide +kernel
theorem dL_chosen_510 : decode cL_chosen 510 = .ok (.iload 6, 2) := by decide +kernel
theorem dL_chosen_512 : decode cL_chosen 512 = .ok (.iconst 3, 1) := by decide +kernel
theorem dL_chosen_513 : decode cL_chosen 513 = .ok (.invokestatic 41, 3) := by decide +kernel
theorem dL_chosen_516 : decode cL_chosen 516 = .ok (.iastore, 1) := by decide +kernel
theorem dL_chosen_517 : decode cL_chosen 517 = .ok (.dup, 1) := by decide +kernel
theorem dL_chosen_518 : decode cL_chosen 518 = .ok (.iconst 1, 1) := by decide +kernel
theorem dL_chosen_519 : decode cL_chosen 519 = .ok (.iload 6, 2) := by decide +kernel
theorem dL_chosen_521 : decode cL_chosen 521 = .ok (.iconst 1, 1) := by decide +kernel
theorem dL_chosen_522 : decode cL_chosen 522 = .ok (.ishr, 1) := by decide +kernel
theorem dL_chosen_523 : decode cL_chosen 523 = .ok (.iload_n 2, 1) := by decide +kernel
theorem dL_chosen_524 : decode cL_chosen 524 = .ok (.invokestatic 41, 3) := by decide +kernel
theorem dL_chosen_527 : decode cL_chosen 527 = .ok (.iastore, 1) := by decide +kernel
theorem dL_chosen_528 : decode cL_chosen 528 = .ok (.dup, 1) := by decide +kernel
theorem dL_chosen_529 : decode cL_chosen 529 = .ok (.iconst 2, 1) := by decide +kernel
theorem dL_chosen_530 : decode cL_chosen 530 = .ok (.iload 6, 2) := by decide +kernel
theorem dL_chosen_532 : decode cL_chosen 532 = .ok (.iconst 2, 1) := by decide +kernel
theorem dL_chosen_533 : decode cL_chosen 533 = .ok (.ishr, 1) := by decide +kernel
theorem dL_chosen_534 : decode cL_chosen 534 = .ok (.bipush 7, 2) := by decide +kernel
theorem dL_chosen_536 : decode cL_chosen 536 = .ok (.invokestatic 41, 3) := by decide +kernel
theorem dL_chosen_539 : decode cL_chosen 539 = .ok (.iastore, 1) := by decide +kernel
theorem dL_chosen_540 : decode cL_chosen 540 = .ok (.dup, 1) := by decide +kernel
theorem dL_chosen_541 : decode cL_chosen 541 = .ok (.iconst 3, 1) := by decide +kernel
theorem dL_chosen_542 : decode cL_chosen 542 = .ok (.iload 6, 2) := by decide +kernel
theorem dL_chosen_544 : decode cL_chosen 544 = .ok (.iconst 3, 1) := by decide +kernel
theorem dL_chosen_545 : decode cL_chosen 545 = .ok (.ishr, 1) := by decide +kernel
theorem dL_chosen_546 : decode cL_chosen 546 = .ok (.iload_n 2, 1) := by decide +kernel
theorem dL_chosen_547 : decode cL_chosen 547 = .ok (.invokestatic 41, 3) := by decide +kernel
theorem dL_chosen_550 : decode cL_chosen 550 = .ok (.iastore, 1) := by decide +kernel
theorem dL_chosen_551 : decode cL_chosen 551 = .ok (.dup, 1) := by decide +kernel
theorem dL_chosen_552 : decode cL_chosen 552 = .ok (.iconst 4, 1) := by decide +kernel
theorem dL_chosen_553 : decode cL_chosen 553 = .ok (.iload 6, 2) := by decide +kernel
theorem dL_chosen_555 : decode cL_chosen 555 = .ok (.iconst 4, 1) := by decide +kernel
theorem dL_chosen_556 : decode cL_chosen 556 = .ok (.ishr, 1) := by decide +kernel
theorem dL_chosen_557 : decode cL_chosen 557 = .ok (.bipush 31, 2) := by decide +kernel
theorem dL_chosen_559 : decode cL_chosen 559 = .ok (.invokestatic 41, 3) := by decide +kernel
theorem dL_chosen_562 : decode cL_chosen 562 = .ok (.iastore, 1) := by decide +kernel
theorem dL_chosen_563 : decode cL_chosen 563 = .ok (.dup, 1) := by decide +kernel
theorem dL_chosen_564 : decode cL_chosen 564 = .ok (.iconst 5, 1) := by decide +kernel
theorem dL_chosen_565 : decode cL_chosen 565 = .ok (.iload 6, 2) := by decide +kernel
theorem dL_chosen_567 : decode cL_chosen 567 = .ok (.iconst 5, 1) := by decide +kernel
theorem dL_chosen_568 : decode cL_chosen 568 = .ok (.ishr, 1) := by decide +kernel
theorem dL_chosen_569 : decode cL_chosen 569 = .ok (.bipush 7, 2) := by decide +kernel
theorem dL_chosen_571 : decode cL_chosen 571 = .ok (.invokestatic 41, 3) := by decide +kernel
theorem dL_chosen_574 : decode cL_chosen 574 = .ok (.iastore, 1) := by decide +kernel
theorem dL_chosen_575 : decode cL_chosen 575 = .ok (.dup, 1) := by decide +kernel
theorem dL_chosen_576 : decode cL_chosen 576 = .ok (.bipush 6, 2) := by decide +kernel
theorem dL_chosen_578 : decode cL_chosen 578 = .ok (.iload 6, 2) := by decide +kernel
theorem dL_chosen_580 : decode cL_chosen 580 = .ok (.bipush 6, 2) := by decide +kernel
theorem dL_chosen_582 : decode cL_chosen 582 = .ok (.ishr, 1) := by decide +kernel
theorem dL_chosen_583 : decode cL_chosen 583 = .ok (.iload_n 2, 1) := by decide +kernel
theorem dL_chosen_584 : decode cL_chosen 584 = .ok (.invokestatic 41, 3) := by decide +kernel
theorem dL_chosen_587 : decode cL_chosen 587 = .ok (.iastore, 1) := by decide +kernel
theorem dL_chosen_588 : decode cL_chosen 588 = .ok (.dup, 1) := by decide +kernel
theorem dL_chosen_589 : decode cL_chosen 589 = .ok (.bipush 7, 2) := by decide +kernel
theorem dL_chosen_591 : decode cL_chosen 591 = .ok (.iload 6, 2) := by decide +kernel
theorem dL_chosen_593 : decode cL_chosen 593 = .ok (.bipush 7, 2) := by decide +kernel
theorem dL_chosen_595 : decode cL_chosen 595 = .ok (.ishr, 1) := by decide +kernel
theorem dL_chosen_596 : decode cL_chosen 596 = .ok (.bipush 25, 2) := by decide +kernel
theorem dL_chosen_598 : decode cL_chosen 598 = .ok (.invokestatic 41, 3) := by decide +kernel
theorem dL_chosen_601 : decode cL_chosen 601 = .ok (.iastore, 1) := by decide +kernel
theorem dL_chosen_602 : decode cL_chosen 602 = .ok (.aastore, 1) := by decide +kernel
theorem dL_chosen_603 : decode cL_chosen 603 = .ok (.iinc 5 1, 3) := by decide +kernel
theorem dL_chosen_606 : decode cL_chosen 606 = .ok (.goto (-132), 3) := by decide +kernel
theorem dL_chosen_609 : decode cL_chosen 609 = .ok (.aload_n 1, 1) := by decide +kernel
theorem dL_chosen_610 : decode cL_chosen 610 = .ok (.areturn, 1) := by decide +kernel
abbrev m_L_chosen : Mt := (cL_chosen, RL, "chosen", 7, .areturn, 3)
def f_L_chosen_b263 (N : Nat) (z : Nat → Nat) (k58 : Option Nat → Option Nat → Int32 → Int32 → Hp → Option (Option Nat × Hp)) (v0 : Option Nat) (v1 : Option Nat) (v2 : Int32) (v3 : Int32) (v5 : Option Nat) (s0 : Int32) (s1 : Option Nat) (x0 : Hp) : Option (Option Nat × Hp) :=
  bool s0 <|
  puti s1 x0 14 268 s0 fun x1 =>
  geti v5 x1 14 264 fun i3 =>
  puti v5 x1 14 266 i3 fun x4 =>
  getr v1 x4 15 285 fun r5 =>
  astr r5 x4 106 14 v3 v5 fun x6 =>
  k58 v0 v1 v2 (v3 + (1 : Int32)) x6
def f_L_chosen_b237 (N : Nat) (z : Nat → Nat) (k58 : Option Nat → Option Nat → Int32 → Int32 → Hp → Option (Option Nat × Hp)) (v0 : Option Nat) (v1 : Option Nat) (v2 : Int32) (v3 : Int32) (v4 : Int32) (v5 : Option Nat) (s0 : Int32) (s1 : Int32) (s2 : Int32) (s3 : Option Nat) (x0 : Hp) : Option (Option Nat × Hp) :=
  bnd (f_L_below N z s1 s0 x0) fun i8 x7 =>
  puti s3 x7 14 267 (s2 + i8) fun x9 =>
  bnd (f_L_below N z (v4 >>> ((7 : Int32) &&& 31)) (2 : Int32) x9) fun i11 x10 =>
  if i11 = 0 then (f_L_chosen_b263 N z k58 v0 v1 v2 v3 v5 (1 : Int32) v5 x10) else (f_L_chosen_b263 N z k58 v0 v1 v2 v3 v5 (0 : Int32) v5 x10)
def f_L_chosen_b192 (N : Nat) (z : Nat → Nat) (k58 : Option Nat → Option Nat → Int32 → Int32 → Hp → Option (Option Nat × Hp)) (v0 : Option Nat) (v1 : Option Nat) (v2 : Int32) (v3 : Int32) (v4 : Int32) (v5 : Option Nat) (s0 : Int32) (s1 : Int32) (s2 : Option Nat) (x0 : Hp) : Option (Option Nat × Hp) :=
  bnd (f_L_below N z s1 s0 x0) fun i13 x12 =>
  puti s2 x12 14 264 i13 fun x14 =>
  bnd (f_L_below N z (v4 >>> ((5 : Int32) &&& 31)) (4 : Int32) x14) fun i16 x15 =>
  puti v5 x15 14 265 i16 fun x17 =>
  bnd (f_L_below N z (v4 >>> ((2 : Int32) &&& 31)) (2 : Int32) x17) fun i19 x18 =>
  if i19 = 0 then (f_L_chosen_b237 N z k58 v0 v1 v2 v3 v4 v5 (60 : Int32) (v4 >>> ((6 : Int32) &&& 31)) (1 : Int32) v5 x18) else (f_L_chosen_b237 N z k58 v0 v1 v2 v3 v4 v5 (9 : Int32) (v4 >>> ((6 : Int32) &&& 31)) (1 : Int32) v5 x18)
def f_L_chosen_b148 (N : Nat) (z : Nat → Nat) (k58 : Option Nat → Option Nat → Int32 → Int32 → Hp → Option (Option Nat × Hp)) (v0 : Option Nat) (v1 : Option Nat) (v2 : Int32) (v3 : Int32) (v4 : Int32) (v5 : Option Nat) (s0 : Int32) (s1 : Int32) (s2 : Option Nat) (x0 : Hp) : Option (Option Nat × Hp) :=
  bnd (f_L_below N z s1 s0 x0) fun i21 x20 =>
  puti s2 x20 14 262 i21 fun x22 =>
  bnd (f_L_below N z (v4 >>> ((3 : Int32) &&& 31)) (31 : Int32) x22) fun i24 x23 =>
  puti v5 x23 14 263 i24 fun x25 =>
  bnd (f_L_below N z (v4 >>> ((1 : Int32) &&& 31)) (2 : Int32) x25) fun i27 x26 =>
  if i27 = 0 then (f_L_chosen_b192 N z k58 v0 v1 v2 v3 v4 v5 (100 : Int32) (v4 >>> ((4 : Int32) &&& 31)) v5 x26) else (f_L_chosen_b192 N z k58 v0 v1 v2 v3 v4 v5 (9 : Int32) (v4 >>> ((4 : Int32) &&& 31)) v5 x26)
def f_L_chosen_b124 (N : Nat) (z : Nat → Nat) (k58 : Option Nat → Option Nat → Int32 → Int32 → Hp → Option (Option Nat × Hp)) (v0 : Option Nat) (v1 : Option Nat) (v2 : Int32) (v3 : Int32) (v4 : Int32) (v5 : Option Nat) (s0 : Option Nat) (s1 : Option Nat) (x0 : Hp) : Option (Option Nat × Hp) :=
  putr s1 x0 14 260 s0 fun x28 =>
  bnd (f_L_below N z v4 (2 : Int32) x28) fun i30 x29 =>
  if i30 = 0 then (f_L_chosen_b148 N z k58 v0 v1 v2 v3 v4 v5 (31 : Int32) (v4 >>> ((2 : Int32) &&& 31)) v5 x29) else (f_L_chosen_b148 N z k58 v0 v1 v2 v3 v4 v5 (5 : Int32) (v4 >>> ((2 : Int32) &&& 31)) v5 x29)
def f_L_chosen_b107 (N : Nat) (z : Nat → Nat) (k58 : Option Nat → Option Nat → Int32 → Int32 → Hp → Option (Option Nat × Hp)) (v0 : Option Nat) (v1 : Option Nat) (v2 : Int32) (v3 : Int32) (v4 : Int32) (v5 : Option Nat) (s0 : Option Nat) (x0 : Hp) : Option (Option Nat × Hp) :=
  f_L_chosen_b124 N z k58 v0 v1 v2 v3 v4 v5 none s0 x0
def f_L_chosen_b434 (N : Nat) (z : Nat → Nat) (k315 : Option Nat → Option Nat → Int32 → Int32 → Int32 → Hp → Option (Option Nat × Hp)) (v0 : Option Nat) (v1 : Option Nat) (v2 : Int32) (v3 : Int32) (v4 : Int32) (s0 : Int32) (s1 : Int32) (s2 : Int32) (s3 : Option Nat) (s4 : Option Nat) (s5 : Int32) (s6 : Option Nat) (x0 : Hp) : Option (Option Nat × Hp) :=
  bnd (f_L_below N z s1 s0 x0) fun i32 x31 =>
  asti s3 x31 101 s2 i32 fun x33 =>
  asti s4 x33 101 (4 : Int32) (0 : Int32) fun x34 =>
  nn s4 fun _ => astr s6 x34 107 101 s5 s4 fun x35 =>
  k315 v0 v1 v2 v3 (v4 + (1 : Int32)) x35
def f_L_chosen_b407 (N : Nat) (z : Nat → Nat) (k315 : Option Nat → Option Nat → Int32 → Int32 → Int32 → Hp → Option (Option Nat × Hp)) (v0 : Option Nat) (v1 : Option Nat) (v2 : Int32) (v3 : Int32) (v4 : Int32) (v5 : Int32) (s0 : Int32) (s1 : Int32) (s2 : Int32) (s3 : Int32) (s4 : Option Nat) (s5 : Option Nat) (s6 : Int32) (s7 : Option Nat) (x0 : Hp) : Option (Option Nat × Hp) :=
  bnd (f_L_below N z s1 s0 x0) fun i37 x36 =>
  asti s4 x36 101 s3 (s2 + i37) fun x38 =>
  bnd (f_L_below N z v5 (3 : Int32) x38) fun i40 x39 =>
  if i40 = 0 then (f_L_chosen_b434 N z k315 v0 v1 v2 v3 v4 (100 : Int32) (v5 >>> ((4 : Int32) &&& 31)) (3 : Int32) s5 s5 s6 s7 x39) else (f_L_chosen_b434 N z k315 v0 v1 v2 v3 v4 (6 : Int32) (v5 >>> ((4 : Int32) &&& 31)) (3 : Int32) s5 s5 s6 s7 x39)
def f_L_chosen_b380 (N : Nat) (z : Nat → Nat) (k315 : Option Nat → Option Nat → Int32 → Int32 → Int32 → Hp → Option (Option Nat × Hp)) (v0 : Option Nat) (v1 : Option Nat) (v2 : Int32) (v3 : Int32) (v4 : Int32) (v5 : Int32) (s0 : Int32) (s1 : Int32) (s2 : Int32) (s3 : Int32) (s4 : Option Nat) (s5 : Option Nat) (s6 : Int32) (s7 : Option Nat) (x0 : Hp) : Option (Option Nat × Hp) :=
  bnd (f_L_below N z s1 s0 x0) fun i42 x41 =>
  asti s4 x41 101 s3 (s2 + i42) fun x43 =>
  bnd (f_L_below N z v5 (3 : Int32) x43) fun i45 x44 =>
  if i45 = 0 then (f_L_chosen_b407 N z k315 v0 v1 v2 v3 v4 v5 (30 : Int32) (v5 >>> ((3 : Int32) &&& 31)) (1 : Int32) (2 : Int32) s5 s5 s6 s7 x44) else (f_L_chosen_b407 N z k315 v0 v1 v2 v3 v4 v5 (4 : Int32) (v5 >>> ((3 : Int32) &&& 31)) (1 : Int32) (2 : Int32) s5 s5 s6 s7 x44)
def f_L_chosen_b474 (N : Nat) (z : Nat → Nat) : Nat → Option Nat → Option Nat → Int32 → Int32 → Int32 → Hp → Option (Option Nat × Hp)
  | 0, _, _, _, _, _, _ => none
  | n + 1, v0, v1, v2, v4, v5, x0 => if v4 ≤ v5 then (some (v1, x0)) else (bnd (f_L_cell N z v0 ((3 : Int32) + v5) x0) fun i47 x46 =>
  getr v1 x46 15 287 fun r48 =>
  newa x46 101 (8 : Int32) fun r49 x50 =>
  bnd (f_L_below N z (i47 + ((137 : Int32) * v5)) (3 : Int32) x50) fun i52 x51 =>
  asti r49 x51 101 (0 : Int32) i52 fun x53 =>
  bnd (f_L_below N z ((i47 + ((137 : Int32) * v5)) >>> ((1 : Int32) &&& 31)) v2 x53) fun i55 x54 =>
  asti r49 x54 101 (1 : Int32) i55 fun x56 =>
  bnd (f_L_below N z ((i47 + ((137 : Int32) * v5)) >>> ((2 : Int32) &&& 31)) (7 : Int32) x56) fun i58 x57 =>
  asti r49 x57 101 (2 : Int32) i58 fun x59 =>
  bnd (f_L_below N z ((i47 + ((137 : Int32) * v5)) >>> ((3 : Int32) &&& 31)) v2 x59) fun i61 x60 =>
  asti r49 x60 101 (3 : Int32) i61 fun x62 =>
  bnd (f_L_below N z ((i47 + ((137 : Int32) * v5)) >>> ((4 : Int32) &&& 31)) (31 : Int32) x62) fun i64 x63 =>
  asti r49 x63 101 (4 : Int32) i64 fun x65 =>
  bnd (f_L_below N z ((i47 + ((137 : Int32) * v5)) >>> ((5 : Int32) &&& 31)) (7 : Int32) x65) fun i67 x66 =>
  asti r49 x66 101 (5 : Int32) i67 fun x68 =>
  bnd (f_L_below N z ((i47 + ((137 : Int32) * v5)) >>> ((6 : Int32) &&& 31)) v2 x68) fun i70 x69 =>
  asti r49 x69 101 (6 : Int32) i70 fun x71 =>
  bnd (f_L_below N z ((i47 + ((137 : Int32) * v5)) >>> ((7 : Int32) &&& 31)) (25 : Int32) x71) fun i73 x72 =>
  asti r49 x72 101 (7 : Int32) i73 fun x74 =>
  nn r49 fun _ => astr r48 x74 107 101 v5 r49 fun x75 =>
  f_L_chosen_b474 N z n v0 v1 v2 v4 (v5 + (1 : Int32)) x75)
def f_L_chosen_b315 (N : Nat) (z : Nat → Nat) : Nat → Option Nat → Option Nat → Int32 → Int32 → Int32 → Hp → Option (Option Nat × Hp)
  | 0, _, _, _, _, _, _ => none
  | n + 1, v0, v1, v2, v3, v4, x0 => if v3 ≤ v4 then (bnd (f_L_cell N z v0 (15 : Int32) x0) fun i77 x76 =>
  bnd (f_L_below N z i77 (7 : Int32) x76) fun i79 x78 =>
  newa x78 107 i79 fun r80 x81 =>
  putr v1 x81 15 287 r80 fun x82 =>
  f_L_chosen_b474 N z N v0 v1 v2 i79 (0 : Int32) x82) else (bnd (f_L_cell N z v0 ((9 : Int32) + v4) x0) fun i84 x83 =>
  getr v1 x83 15 286 fun r85 =>
  newa x83 101 (5 : Int32) fun r86 x87 =>
  bnd (f_L_below N z (i84 + ((131 : Int32) * v4)) v2 x87) fun i89 x88 =>
  asti r86 x88 101 (0 : Int32) i89 fun x90 =>
  bnd (f_L_below N z (i84 + ((131 : Int32) * v4)) (2 : Int32) x90) fun i92 x91 =>
  if i92 = 0 then (f_L_chosen_b380 N z (f_L_chosen_b315 N z n) v0 v1 v2 v3 v4 (i84 + ((131 : Int32) * v4)) (30 : Int32) ((i84 + ((131 : Int32) * v4)) >>> ((2 : Int32) &&& 31)) (1 : Int32) (1 : Int32) r86 r86 v4 r85 x91) else (f_L_chosen_b380 N z (f_L_chosen_b315 N z n) v0 v1 v2 v3 v4 (i84 + ((131 : Int32) * v4)) (6 : Int32) ((i84 + ((131 : Int32) * v4)) >>> ((2 : Int32) &&& 31)) (1 : Int32) (1 : Int32) r86 r86 v4 r85 x91))
def f_L_chosen_b58 (N : Nat) (z : Nat → Nat) : Nat → Option Nat → Option Nat → Int32 → Int32 → Hp → Option (Option Nat × Hp)
  | 0, _, _, _, _, _ => none
  | n + 1, v0, v1, v2, v3, x0 => if v2 ≤ v3 then (bnd (f_L_cell N z v0 (8 : Int32) x0) fun i94 x93 =>
  bnd (f_L_below N z i94 (6 : Int32) x93) fun i96 x95 =>
  newa x95 107 ((1 : Int32) + i96) fun r97 x98 =>
  putr v1 x98 15 286 r97 fun x99 =>
  f_L_chosen_b315 N z N v0 v1 v2 ((1 : Int32) + i96) (0 : Int32) x99) else (bnd (f_L_cell N z v0 ((2 : Int32) + v3) x0) fun i101 x100 =>
  newo x100 14 19 fun r102 x103 =>
  obj r102 x103 14 fun q105 => bnd (f_X11_init N z q105 x103) fun _ x104 =>
  puti r102 x104 14 261 v3 fun x106 =>
  if v3 = 0 then (f_L_chosen_b107 N z (f_L_chosen_b58 N z n) v0 v1 v2 v3 (i101 + ((127 : Int32) * v3)) r102 r102 x106) else (bnd (f_L_below N z (i101 + ((127 : Int32) * v3)) (3 : Int32) x106) fun i108 x107 =>
  if i108 = 0 then (f_L_chosen_b107 N z (f_L_chosen_b58 N z n) v0 v1 v2 v3 (i101 + ((127 : Int32) * v3)) r102 r102 x107) else (getr v1 x107 15 285 fun r109 =>
  bnd (f_L_below N z ((i101 + ((127 : Int32) * v3)) >>> ((1 : Int32) &&& 31)) v3 x107) fun i111 x110 =>
  aldr r109 x110 106 i111 fun r112 =>
  f_L_chosen_b124 N z (f_L_chosen_b58 N z n) v0 v1 v2 v3 (i101 + ((127 : Int32) * v3)) r102 r112 r102 x110)))
def f_L_chosen_b36 (N : Nat) (z : Nat → Nat) (v0 : Option Nat) (v1 : Option Nat) (x0 : Hp) : Option (Option Nat × Hp) :=
  bnd (f_L_cell N z v0 (1 : Int32) x0) fun i114 x113 =>
  bnd (f_L_below N z i114 (5 : Int32) x113) fun i116 x115 =>
  newa x115 106 ((1 : Int32) + i116) fun r117 x118 =>
  putr v1 x118 15 285 r117 fun x119 =>
  f_L_chosen_b58 N z N v0 v1 ((1 : Int32) + i116) (0 : Int32) x119
def f_L_chosen (N : Nat) (z : Nat → Nat) (v0 : Option Nat) (x0 : Hp) : Option (Option Nat × Hp) :=
  newo x0 15 8 fun r120 x121 =>
  obj r120 x121 15 fun q123 => bnd (f_X12_init N z q123 x121) fun _ x122 =>
  bnd (f_L_cell N z v0 (0 : Int32) x122) fun i125 x124 =>
  bnd (f_L_below N z i125 (3 : Int32) x124) fun i127 x126 =>
  if i127 ≤ 0 then (f_L_chosen_b36 N z v0 r120 x126) else (bnd (f_L_cell N z v0 (0 : Int32) x126) fun i129 x128 =>
  bnd (f_L_below N z (i129 >>> ((2 : Int32) &&& 31)) (31 : Int32) x128) fun i131 x130 =>
  puti r120 x130 15 281 i131 fun x132 =>
  f_L_chosen_b36 N z v0 r120 x132)
set_option maxRecDepth 100000 in
set_option maxHeartbeats 4000000 in
theorem g_L_chosen_b263 (l : Launch) (N : Nat) (z : Nat → Nat) {k58 : Option Nat → Option Nat → Int32 → Int32 → Hp → Option (Option Nat × Hp)} (hk58 : ∀ v0 v1 v2 v3 x, G l z m_L_chosen okT enR 58 [(0, va_rf v0), (1, va_rf v1), (2, .int v2), (3, .int v3)] [] x (k58 v0 v1 v2 v3 x)) (v0 : Option Nat) (v1 : Option Nat) (v2 : Int32) (v3 : Int32) (v5 : Option Nat) (s0 : Int32) (s1 : Option Nat) (x0 : Hp) : G l z m_L_chosen okT enR 263 [(0, va_rf v0), (1, va_rf v1), (2, .int v2), (3, .int v3), (5, va_rf v5)] [.int s0, va_rf s1] x0 (f_L_chosen_b263 N z k58 v0 v1 v2 v3 v5 s0 s1 x0) := by
  unfold f_L_chosen_b263
  refine G_bool (fun h2 => ?_)
  refine G_puti (k := 8) K_13 (by decide) rfl rfl rfl gw_1403 rfl (Or.inl rfl) (nar_bool h2).1 (nar_bool h2).2 dL_chosen_263 (fun x1 => ?_)
  refine G_aload 4 dL_chosen_266 rfl ?_
  refine G_aload 4 dL_chosen_268 rfl ?_
  refine G_geti (k := 4) K_13 (by decide) rfl rfl rfl gw_1392 rfl dL_chosen_270 (fun i3 => ?_)
  refine G_puti (k := 6) K_13 (by decide) rfl rfl rfl gw_1399 rfl (Or.inl rfl) nar_int.1 nar_int.2 dL_chosen_273 (fun x4 => ?_)
  refine G_aload_n 1 dL_chosen_276 rfl rfl ?_
  refine G_getr (k := 5) K_14 (by decide) rfl rfl rfl gw_1350 rfl dL_chosen_277 (fun r5 => ?_)
  refine G_iload_n 3 dL_chosen_280 rfl rfl ?_
  refine G_aload 4 dL_chosen_281 rfl ?_
  refine G_aast (t := 6) K_13 rfl rfl (by decide) (by decide) (fun _ => rfl) dL_chosen_283 (fun x6 => ?_)
  refine G_iinc (i := 3) (l2 := [(0, va_rf v0), (1, va_rf v1), (2, .int v2), (5, va_rf v5)]) 3 [0, 1, 2, 4] dL_chosen_284 rfl rfl (by decide) rfl (sok_a (by decide) (by decide) (sok_a (by decide) (by decide) (sok_b (by decide) rfl (sok_a (by decide) (by decide) trivial)))) ?_
  refine G_goto (tgt := 58) dL_chosen_287 (by decide) ?_
  refine G_lv [1, 2, 3, 0] rfl ?_
  exact hk58 v0 v1 v2 (v3 + (1 : Int32)) x6

set_option maxRecDepth 100000 in
set_option maxHeartbeats 4000000 in
theorem g_L_chosen_b237 (l : Launch) (N : Nat) (z : Nat → Nat) {k58 : Option Nat → Option Nat → Int32 → Int32 → Hp → Option (Option Nat × Hp)} (hk58 : ∀ v0 v1 v2 v3 x, G l z m_L_chosen okT enR 58 [(0, va_rf v0), (1, va_rf v1), (2, .int v2), (3, .int v3)] [] x (k58 v0 v1 v2 v3 x)) (v0 : Option Nat) (v1 : Option Nat) (v2 : Int32) (v3 : Int32) (v4 : Int32) (v5 : Option Nat) (s0 : Int32) (s1 : Int32) (s2 : Int32) (s3 : Option Nat) (x0 : Hp) : G l z m_L_chosen okT enR 237 [(0, va_rf v0), (1, va_rf v1), (2, .int v2), (3, .int v3), (4, .int v4), (5, va_rf v5)] [.int s0, .int s1, .int s2, va_rf s3] x0 (f_L_chosen_b237 N z k58 v0 v1 v2 v3 v4 v5 s0 s1 s2 s3 x0) := by
  unfold f_L_chosen_b237
  refine G_callS (av := [.int s1, .int s0]) [.int s2, va_rf s3] (ct_L_below l N z s1 s0) yn_L_below (by decide) (by decide) gw_1372 gw_1373 gw_38 gw_1374 rfl (by simp only [hw_n, hw_i, hw_r, hw_j, hw_d]; decide) dL_chosen_237 (fun i8 x7 => ?_)
  refine G_iadd dL_chosen_240 ?_
  refine G_puti (k := 7) K_13 (by decide) rfl rfl rfl gw_1401 rfl (Or.inl rfl) nar_int.1 nar_int.2 dL_chosen_241 (fun x9 => ?_)
  refine G_aload 5 dL_chosen_244 rfl ?_
  refine G_iload 4 dL_chosen_246 rfl ?_
  refine G_bipush (v := (7 : Int32)) dL_chosen_248 (by decide) ?_
  refine G_ishr dL_chosen_250 ?_
  refine G_iconst (v := (2 : Int32)) dL_chosen_251 rfl ?_
  refine G_callS (av := [.int (v4 >>> ((7 : Int32) &&& 31)), .int (2 : Int32)]) [va_rf v5] (ct_L_below l N z (v4 >>> ((7 : Int32) &&& 31)) (2 : Int32)) yn_L_below (by decide) (by decide) gw_1372 gw_1373 gw_38 gw_1374 rfl (by simp only [hw_n, hw_i, hw_r, hw_j, hw_d]; decide) dL_chosen_252 (fun i11 x10 => ?_)
  refine G_if_ne (tgt := 262) dL_chosen_255 (by decide) (fun _ => ?_) (fun _ => ?_)
  · refine G_iconst (v := (1 : Int32)) dL_chosen_258 rfl ?_
    refine G_goto (tgt := 263) dL_chosen_259 (by decide) ?_
    refine G_lv [0, 1, 2, 3, 5] rfl ?_
    exact g_L_chosen_b263 l N z hk58 v0 v1 v2 v3 v5 (1 : Int32) v5 x10
  · refine G_iconst (v := (0 : Int32)) dL_chosen_262 rfl ?_
    refine G_lv [0, 1, 2, 3, 5] rfl ?_
    exact g_L_chosen_b263 l N z hk58 v0 v1 v2 v3 v5 (0 : Int32) v5 x10

set_option maxRecDepth 100000 in
set_option maxHeartbeats 4000000 in
theorem g_L_chosen_b192 (l : Launch) (N : Nat) (z : Nat → Nat) {k58 : Option Nat → Option Nat → Int32 → Int32 → Hp → Option (Option Nat × Hp)} (hk58 : ∀ v0 v1 v2 v3 x, G l z m_L_chosen okT enR 58 [(0, va_rf v0), (1, va_rf v1), (2, .int v2), (3, .int v3)] [] x (k58 v0 v1 v2 v3 x)) (v0 : Option Nat) (v1 : Option Nat) (v2 : Int32) (v3 : Int32) (v4 : Int32) (v5 : Option Nat) (s0 : Int32) (s1 : Int32) (s2 : Option Nat) (x0 : Hp) : G l z m_L_chosen okT enR 192 [(0, va_rf v0), (1, va_rf v1), (2, .int v2), (3, .int v3), (4, .int v4), (5, va_rf v5)] [.int s0, .int s1, va_rf s2] x0 (f_L_chosen_b192 N z k58 v0 v1 v2 v3 v4 v5 s0 s1 s2 x0) := by
  unfold f_L_chosen_b192
  refine G_callS (av := [.int s1, .int s0]) [va_rf s2] (ct_L_below l N z s1 s0) yn_L_below (by decide) (by decide) gw_1372 gw_1373 gw_38 gw_1374 rfl (by simp only [hw_n, hw_i, hw_r, hw_j, hw_d]; decide) dL_chosen_192 (fun i13 x12 => ?_)
  refine G_puti (k := 4) K_13 (by decide) rfl rfl rfl gw_1392 rfl (Or.inl rfl) nar_int.1 nar_int.2 dL_chosen_195 (fun x14 => ?_)
  refine G_aload 5 dL_chosen_198 rfl ?_
  refine G_iload 4 dL_chosen_200 rfl ?_
  refine G_iconst (v := (5 : Int32)) dL_chosen_202 rfl ?_
  refine G_ishr dL_chosen_203 ?_
  refine G_iconst (v := (4 : Int32)) dL_chosen_204 rfl ?_
  refine G_callS (av := [.int (v4 >>> ((5 : Int32) &&& 31)), .int (4 : Int32)]) [va_rf v5] (ct_L_below l N z (v4 >>> ((5 : Int32) &&& 31)) (4 : Int32)) yn_L_below (by decide) (by decide) gw_1372 gw_1373 gw_38 gw_1374 rfl (by simp only [hw_n, hw_i, hw_r, hw_j, hw_d]; decide) dL_chosen_205 (fun i16 x15 => ?_)
  refine G_puti (k := 5) K_13 (by decide) rfl rfl rfl gw_1395 rfl (Or.inl rfl) nar_int.1 nar_int.2 dL_chosen_208 (fun x17 => ?_)
  refine G_aload 5 dL_chosen_211 rfl ?_
  refine G_iconst (v := (1 : Int32)) dL_chosen_213 rfl ?_
  refine G_iload 4 dL_chosen_214 rfl ?_
  refine G_bipush (v := (6 : Int32)) dL_chosen_216 (by decide) ?_
  refine G_ishr dL_chosen_218 ?_
  refine G_iload 4 dL_chosen_219 rfl ?_
  refine G_iconst (v := (2 : Int32)) dL_chosen_221 rfl ?_
  refine G_ishr dL_chosen_222 ?_
  refine G_iconst (v := (2 : Int32)) dL_chosen_223 rfl ?_
  refine G_callS (av := [.int (v4 >>> ((2 : Int32) &&& 31)), .int (2 : Int32)]) [.int (v4 >>> ((6 : Int32) &&& 31)), .int (1 : Int32), va_rf v5] (ct_L_below l N z (v4 >>> ((2 : Int32) &&& 31)) (2 : Int32)) yn_L_below (by decide) (by decide) gw_1372 gw_1373 gw_38 gw_1374 rfl (by simp only [hw_n, hw_i, hw_r, hw_j, hw_d]; decide) dL_chosen_224 (fun i19 x18 => ?_)
  refine G_if_ne (tgt := 235) dL_chosen_227 (by decide) (fun _ => ?_) (fun _ => ?_)
  · refine G_bipush (v := (60 : Int32)) dL_chosen_230 (by decide) ?_
    refine G_goto (tgt := 237) dL_chosen_232 (by decide) ?_
    refine G_lv [0, 1, 2, 3, 4, 5] rfl ?_
    exact g_L_chosen_b237 l N z hk58 v0 v1 v2 v3 v4 v5 (60 : Int32) (v4 >>> ((6 : Int32) &&& 31)) (1 : Int32) v5 x18
  · refine G_bipush (v := (9 : Int32)) dL_chosen_235 (by decide) ?_
    refine G_lv [0, 1, 2, 3, 4, 5] rfl ?_
    exact g_L_chosen_b237 l N z hk58 v0 v1 v2 v3 v4 v5 (9 : Int32) (v4 >>> ((6 : Int32) &&& 31)) (1 : Int32) v5 x18

set_option maxRecDepth 100000 in
set_option maxHeartbeats 4000000 in
theorem g_L_chosen_b148 (l : Launch) (N : Nat) (z : Nat → Nat) {k58 : Option Nat → Option Nat → Int32 → Int32 → Hp → Option (Option Nat × Hp)} (hk58 : ∀ v0 v1 v2 v3 x, G l z m_L_chosen okT enR 58 [(0, va_rf v0), (1, va_rf v1), (2, .int v2), (3, .int v3)] [] x (k58 v0 v1 v2 v3 x)) (v0 : Option Nat) (v1 : Option Nat) (v2 : Int32) (v3 : Int32) (v4 : Int32) (v5 : Option Nat) (s0 : Int32) (s1 : Int32) (s2 : Option Nat) (x0 : Hp) : G l z m_L_chosen okT enR 148 [(0, va_rf v0), (1, va_rf v1), (2, .int v2), (3, .int v3), (4, .int v4), (5, va_rf v5)] [.int s0, .int s1, va_rf s2] x0 (f_L_chosen_b148 N z k58 v0 v1 v2 v3 v4 v5 s0 s1 s2 x0) := by
  unfold f_L_chosen_b148
  refine G_callS (av := [.int s1, .int s0]) [va_rf s2] (ct_L_below l N z s1 s0) yn_L_below (by decide) (by decide) gw_1372 gw_1373 gw_38 gw_1374 rfl (by simp only [hw_n, hw_i, hw_r, hw_j, hw_d]; decide) dL_chosen_148 (fun i21 x20 => ?_)
  refine G_puti (k := 2) K_13 (by decide) rfl rfl rfl gw_1387 rfl (Or.inl rfl) nar_int.1 nar_int.2 dL_chosen_151 (fun x22 => ?_)
  refine G_aload 5 dL_chosen_154 rfl ?_
  refine G_iload 4 dL_chosen_156 rfl ?_
  refine G_iconst (v := (3 : Int32)) dL_chosen_158 rfl ?_
  refine G_ishr dL_chosen_159 ?_
  refine G_bipush (v := (31 : Int32)) dL_chosen_160 (by decide) ?_
  refine G_callS (av := [.int (v4 >>> ((3 : Int32) &&& 31)), .int (31 : Int32)]) [va_rf v5] (ct_L_below l N z (v4 >>> ((3 : Int32) &&& 31)) (31 : Int32)) yn_L_below (by decide) (by decide) gw_1372 gw_1373 gw_38 gw_1374 rfl (by simp only [hw_n, hw_i, hw_r, hw_j, hw_d]; decide) dL_chosen_162 (fun i24 x23 => ?_)
  refine G_puti (k := 3) K_13 (by decide) rfl rfl rfl gw_1390 rfl (Or.inl rfl) nar_int.1 nar_int.2 dL_chosen_165 (fun x25 => ?_)
  refine G_aload 5 dL_chosen_168 rfl ?_
  refine G_iload 4 dL_chosen_170 rfl ?_
  refine G_iconst (v := (4 : Int32)) dL_chosen_172 rfl ?_
  refine G_ishr dL_chosen_173 ?_
  refine G_iload 4 dL_chosen_174 rfl ?_
  refine G_iconst (v := (1 : Int32)) dL_chosen_176 rfl ?_
  refine G_ishr dL_chosen_177 ?_
  refine G_iconst (v := (2 : Int32)) dL_chosen_178 rfl ?_
  refine G_callS (av := [.int (v4 >>> ((1 : Int32) &&& 31)), .int (2 : Int32)]) [.int (v4 >>> ((4 : Int32) &&& 31)), va_rf v5] (ct_L_below l N z (v4 >>> ((1 : Int32) &&& 31)) (2 : Int32)) yn_L_below (by decide) (by decide) gw_1372 gw_1373 gw_38 gw_1374 rfl (by simp only [hw_n, hw_i, hw_r, hw_j, hw_d]; decide) dL_chosen_179 (fun i27 x26 => ?_)
  refine G_if_ne (tgt := 190) dL_chosen_182 (by decide) (fun _ => ?_) (fun _ => ?_)
  · refine G_bipush (v := (100 : Int32)) dL_chosen_185 (by decide) ?_
    refine G_goto (tgt := 192) dL_chosen_187 (by decide) ?_
    refine G_lv [0, 1, 2, 3, 4, 5] rfl ?_
    exact g_L_chosen_b192 l N z hk58 v0 v1 v2 v3 v4 v5 (100 : Int32) (v4 >>> ((4 : Int32) &&& 31)) v5 x26
  · refine G_bipush (v := (9 : Int32)) dL_chosen_190 (by decide) ?_
    refine G_lv [0, 1, 2, 3, 4, 5] rfl ?_
    exact g_L_chosen_b192 l N z hk58 v0 v1 v2 v3 v4 v5 (9 : Int32) (v4 >>> ((4 : Int32) &&& 31)) v5 x26

set_option maxRecDepth 100000 in
set_option maxHeartbeats 4000000 in
theorem g_L_chosen_b124 (l : Launch) (N : Nat) (z : Nat → Nat) {k58 : Option Nat → Option Nat → Int32 → Int32 → Hp → Option (Option Nat × Hp)} (hk58 : ∀ v0 v1 v2 v3 x, G l z m_L_chosen okT enR 58 [(0, va_rf v0), (1, va_rf v1), (2, .int v2), (3, .int v3)] [] x (k58 v0 v1 v2 v3 x)) (v0 : Option Nat) (v1 : Option Nat) (v2 : Int32) (v3 : Int32) (v4 : Int32) (v5 : Option Nat) (s0 : Option Nat) (s1 : Option Nat) (x0 : Hp) : G l z m_L_chosen okT enR 124 [(0, va_rf v0), (1, va_rf v1), (2, .int v2), (3, .int v3), (4, .int v4), (5, va_rf v5)] [va_rf s0, va_rf s1] x0 (f_L_chosen_b124 N z k58 v0 v1 v2 v3 v4 v5 s0 s1 x0) := by
  unfold f_L_chosen_b124
  refine G_putr (k := 0) K_13 (by decide) rfl rfl rfl gw_1383 rfl (Or.inl rfl) nar_obj.1 nar_obj.2 dL_chosen_124 (fun x28 => ?_)
  refine G_aload 5 dL_chosen_127 rfl ?_
  refine G_iload 4 dL_chosen_129 rfl ?_
  refine G_iconst (v := (2 : Int32)) dL_chosen_131 rfl ?_
  refine G_ishr dL_chosen_132 ?_
  refine G_iload 4 dL_chosen_133 rfl ?_
  refine G_iconst (v := (2 : Int32)) dL_chosen_135 rfl ?_
  refine G_callS (av := [.int v4, .int (2 : Int32)]) [.int (v4 >>> ((2 : Int32) &&& 31)), va_rf v5] (ct_L_below l N z v4 (2 : Int32)) yn_L_below (by decide) (by decide) gw_1372 gw_1373 gw_38 gw_1374 rfl (by simp only [hw_n, hw_i, hw_r, hw_j, hw_d]; decide) dL_chosen_136 (fun i30 x29 => ?_)
  refine G_if_ne (tgt := 147) dL_chosen_139 (by decide) (fun _ => ?_) (fun _ => ?_)
  · refine G_bipush (v := (31 : Int32)) dL_chosen_142 (by decide) ?_
    refine G_goto (tgt := 148) dL_chosen_144 (by decide) ?_
    refine G_lv [0, 1, 2, 3, 4, 5] rfl ?_
    exact g_L_chosen_b148 l N z hk58 v0 v1 v2 v3 v4 v5 (31 : Int32) (v4 >>> ((2 : Int32) &&& 31)) v5 x29
  · refine G_iconst (v := (5 : Int32)) dL_chosen_147 rfl ?_
    refine G_lv [0, 1, 2, 3, 4, 5] rfl ?_
    exact g_L_chosen_b148 l N z hk58 v0 v1 v2 v3 v4 v5 (5 : Int32) (v4 >>> ((2 : Int32) &&& 31)) v5 x29

set_option maxRecDepth 100000 in
set_option maxHeartbeats 4000000 in
theorem g_L_chosen_b107 (l : Launch) (N : Nat) (z : Nat → Nat) {k58 : Option Nat → Option Nat → Int32 → Int32 → Hp → Option (Option Nat × Hp)} (hk58 : ∀ v0 v1 v2 v3 x, G l z m_L_chosen okT enR 58 [(0, va_rf v0), (1, va_rf v1), (2, .int v2), (3, .int v3)] [] x (k58 v0 v1 v2 v3 x)) (v0 : Option Nat) (v1 : Option Nat) (v2 : Int32) (v3 : Int32) (v4 : Int32) (v5 : Option Nat) (s0 : Option Nat) (x0 : Hp) : G l z m_L_chosen okT enR 107 [(0, va_rf v0), (1, va_rf v1), (2, .int v2), (3, .int v3), (4, .int v4), (5, va_rf v5)] [va_rf s0] x0 (f_L_chosen_b107 N z k58 v0 v1 v2 v3 v4 v5 s0 x0) := by
  unfold f_L_chosen_b107
  refine G_null dL_chosen_107 ?_
  refine G_goto (tgt := 124) dL_chosen_108 (by decide) ?_
  refine G_lv [0, 1, 2, 3, 4, 5] rfl ?_
  exact g_L_chosen_b124 l N z hk58 v0 v1 v2 v3 v4 v5 none s0 x0

set_option maxRecDepth 100000 in
set_option maxHeartbeats 4000000 in
theorem g_L_chosen_b434 (l : Launch) (N : Nat) (z : Nat → Nat) {k315 : Option Nat → Option Nat → Int32 → Int32 → Int32 → Hp → Option (Option Nat × Hp)} (hk315 : ∀ v0 v1 v2 v3 v4 x, G l z m_L_chosen okT enR 315 [(0, va_rf v0), (1, va_rf v1), (2, .int v2), (3, .int v3), (4, .int v4)] [] x (k315 v0 v1 v2 v3 v4 x)) (v0 : Option Nat) (v1 : Option Nat) (v2 : Int32) (v3 : Int32) (v4 : Int32) (s0 : Int32) (s1 : Int32) (s2 : Int32) (s3 : Option Nat) (s4 : Option Nat) (s5 : Int32) (s6 : Option Nat) (x0 : Hp) : G l z m_L_chosen okT enR 434 [(0, va_rf v0), (1, va_rf v1), (2, .int v2), (3, .int v3), (4, .int v4)] [.int s0, .int s1, .int s2, va_rf s3, va_rf s4, .int s5, va_rf s6] x0 (f_L_chosen_b434 N z k315 v0 v1 v2 v3 v4 s0 s1 s2 s3 s4 s5 s6 x0) := by
  unfold f_L_chosen_b434
  refine G_callS (av := [.int s1, .int s0]) [.int s2, va_rf s3, va_rf s4, .int s5, va_rf s6] (ct_L_below l N z s1 s0) yn_L_below (by decide) (by decide) gw_1372 gw_1373 gw_38 gw_1374 rfl (by simp only [hw_n, hw_i, hw_r, hw_j, hw_d]; decide) dL_chosen_434 (fun i32 x31 => ?_)
  refine G_iast dL_chosen_437 (fun x33 => ?_)
  refine G_dup dL_chosen_438 (rf_cat _) ?_
  refine G_iconst (v := (4 : Int32)) dL_chosen_439 rfl ?_
  refine G_iconst (v := (0 : Int32)) dL_chosen_440 rfl ?_
  refine G_iast dL_chosen_441 (fun x34 => ?_)
  refine G_aastA dL_chosen_442 (fun x35 => ?_)
  refine G_iinc (i := 4) (l2 := [(0, va_rf v0), (1, va_rf v1), (2, .int v2), (3, .int v3)]) 4 [0, 1, 2, 3] dL_chosen_443 rfl rfl (by decide) rfl (sok_a (by decide) (by decide) (sok_a (by decide) (by decide) (sok_a (by decide) (by decide) (sok_b (by decide) rfl trivial)))) ?_
  refine G_goto (tgt := 315) dL_chosen_446 (by decide) ?_
  refine G_lv [1, 2, 3, 4, 0] rfl ?_
  exact hk315 v0 v1 v2 v3 (v4 + (1 : Int32)) x35

set_option maxRecDepth 100000 in
set_option maxHeartbeats 4000000 in
theorem g_L_chosen_b407 (l : Launch) (N : Nat) (z : Nat → Nat) {k315 : Option Nat → Option Nat → Int32 → Int32 → Int32 → Hp → Option (Option Nat × Hp)} (hk315 : ∀ v0 v1 v2 v3 v4 x, G l z m_L_chosen okT enR 315 [(0, va_rf v0), (1, va_rf v1), (2, .int v2), (3, .int v3), (4, .int v4)] [] x (k315 v0 v1 v2 v3 v4 x)) (v0 : Option Nat) (v1 : Option Nat) (v2 : Int32) (v3 : Int32) (v4 : Int32) (v5 : Int32) (s0 : Int32) (s1 : Int32) (s2 : Int32) (s3 : Int32) (s4 : Option Nat) (s5 : Option Nat) (s6 : Int32) (s7 : Option Nat) (x0 : Hp) : G l z m_L_chosen okT enR 407 [(0, va_rf v0), (1, va_rf v1), (2, .int v2), (3, .int v3), (4, .int v4), (5, .int v5)] [.int s0, .int s1, .int s2, .int s3, va_rf s4, va_rf s5, .int s6, va_rf s7] x0 (f_L_chosen_b407 N z k315 v0 v1 v2 v3 v4 v5 s0 s1 s2 s3 s4 s5 s6 s7 x0) := by
  unfold f_L_chosen_b407
  refine G_callS (av := [.int s1, .int s0]) [.int s2, .int s3, va_rf s4, va_rf s5, .int s6, va_rf s7] (ct_L_below l N z s1 s0) yn_L_below (by decide) (by decide) gw_1372 gw_1373 gw_38 gw_1374 rfl (by simp only [hw_n, hw_i, hw_r, hw_j, hw_d]; decide) dL_chosen_407 (fun i37 x36 => ?_)
  refine G_iadd dL_chosen_410 ?_
  refine G_iast dL_chosen_411 (fun x38 => ?_)
  refine G_dup dL_chosen_412 (rf_cat _) ?_
  refine G_iconst (v := (3 : Int32)) dL_chosen_413 rfl ?_
  refine G_iload 5 dL_chosen_414 rfl ?_
  refine G_iconst (v := (4 : Int32)) dL_chosen_416 rfl ?_
  refine G_ishr dL_chosen_417 ?_
  refine G_iload 5 dL_chosen_418 rfl ?_
  refine G_iconst (v := (3 : Int32)) dL_chosen_420 rfl ?_
  refine G_callS (av := [.int v5, .int (3 : Int32)]) [.int (v5 >>> ((4 : Int32) &&& 31)), .int (3 : Int32), va_rf s5, va_rf s5, .int s6, va_rf s7] (ct_L_below l N z v5 (3 : Int32)) yn_L_below (by decide) (by decide) gw_1372 gw_1373 gw_38 gw_1374 rfl (by simp only [hw_n, hw_i, hw_r, hw_j, hw_d]; decide) dL_chosen_421 (fun i40 x39 => ?_)
  refine G_if_ne (tgt := 432) dL_chosen_424 (by decide) (fun _ => ?_) (fun _ => ?_)
  · refine G_bipush (v := (100 : Int32)) dL_chosen_427 (by decide) ?_
    refine G_goto (tgt := 434) dL_chosen_429 (by decide) ?_
    refine G_lv [0, 1, 2, 3, 4] rfl ?_
    exact g_L_chosen_b434 l N z hk315 v0 v1 v2 v3 v4 (100 : Int32) (v5 >>> ((4 : Int32) &&& 31)) (3 : Int32) s5 s5 s6 s7 x39
  · refine G_bipush (v := (6 : Int32)) dL_chosen_432 (by decide) ?_
    refine G_lv [0, 1, 2, 3, 4] rfl ?_
    exact g_L_chosen_b434 l N z hk315 v0 v1 v2 v3 v4 (6 : Int32) (v5 >>> ((4 : Int32) &&& 31)) (3 : Int32) s5 s5 s6 s7 x39

set_option maxRecDepth 100000 in
set_option maxHeartbeats 4000000 in
theorem g_L_chosen_b380 (l : Launch) (N : Nat) (z : Nat → Nat) {k315 : Option Nat → Option Nat → Int32 → Int32 → Int32 → Hp → Option (Option Nat × Hp)} (hk315 : ∀ v0 v1 v2 v3 v4 x, G l z m_L_chosen okT enR 315 [(0, va_rf v0), (1, va_rf v1), (2, .int v2), (3, .int v3), (4, .int v4)] [] x (k315 v0 v1 v2 v3 v4 x)) (v0 : Option Nat) (v1 : Option Nat) (v2 : Int32) (v3 : Int32) (v4 : Int32) (v5 : Int32) (s0 : Int32) (s1 : Int32) (s2 : Int32) (s3 : Int32) (s4 : Option Nat) (s5 : Option Nat) (s6 : Int32) (s7 : Option Nat) (x0 : Hp) : G l z m_L_chosen okT enR 380 [(0, va_rf v0), (1, va_rf v1), (2, .int v2), (3, .int v3), (4, .int v4), (5, .int v5)] [.int s0, .int s1, .int s2, .int s3, va_rf s4, va_rf s5, .int s6, va_rf s7] x0 (f_L_chosen_b380 N z k315 v0 v1 v2 v3 v4 v5 s0 s1 s2 s3 s4 s5 s6 s7 x0) := by
  unfold f_L_chosen_b380
  refine G_callS (av := [.int s1, .int s0]) [.int s2, .int s3, va_rf s4, va_rf s5, .int s6, va_rf s7] (ct_L_below l N z s1 s0) yn_L_below (by decide) (by decide) gw_1372 gw_1373 gw_38 gw_1374 rfl (by simp only [hw_n, hw_i, hw_r, hw_j, hw_d]; decide) dL_chosen_380 (fun i42 x41 => ?_)
  refine G_iadd dL_chosen_383 ?_
  refine G_iast dL_chosen_384 (fun x43 => ?_)
  refine G_dup dL_chosen_385 (rf_cat _) ?_
  refine G_iconst (v := (2 : Int32)) dL_chosen_386 rfl ?_
  refine G_iconst (v := (1 : Int32)) dL_chosen_387 rfl ?_
  refine G_iload 5 dL_chosen_388 rfl ?_
  refine G_iconst (v := (3 : Int32)) dL_chosen_390 rfl ?_
  refine G_ishr dL_chosen_391 ?_
  refine G_iload 5 dL_chosen_392 rfl ?_
  refine G_iconst (v := (3 : Int32)) dL_chosen_394 rfl ?_
  refine G_callS (av := [.int v5, .int (3 : Int32)]) [.int (v5 >>> ((3 : Int32) &&& 31)), .int (1 : Int32), .int (2 : Int32), va_rf s5, va_rf s5, .int s6, va_rf s7] (ct_L_below l N z v5 (3 : Int32)) yn_L_below (by decide) (by decide) gw_1372 gw_1373 gw_38 gw_1374 rfl (by simp only [hw_n, hw_i, hw_r, hw_j, hw_d]; decide) dL_chosen_395 (fun i45 x44 => ?_)
  refine G_if_ne (tgt := 406) dL_chosen_398 (by decide) (fun _ => ?_) (fun _ => ?_)
  · refine G_bipush (v := (30 : Int32)) dL_chosen_401 (by decide) ?_
    refine G_goto (tgt := 407) dL_chosen_403 (by decide) ?_
    refine G_lv [0, 1, 2, 3, 4, 5] rfl ?_
    exact g_L_chosen_b407 l N z hk315 v0 v1 v2 v3 v4 v5 (30 : Int32) (v5 >>> ((3 : Int32) &&& 31)) (1 : Int32) (2 : Int32) s5 s5 s6 s7 x44
  · refine G_iconst (v := (4 : Int32)) dL_chosen_406 rfl ?_
    refine G_lv [0, 1, 2, 3, 4, 5] rfl ?_
    exact g_L_chosen_b407 l N z hk315 v0 v1 v2 v3 v4 v5 (4 : Int32) (v5 >>> ((3 : Int32) &&& 31)) (1 : Int32) (2 : Int32) s5 s5 s6 s7 x44

set_option maxRecDepth 100000 in
set_option maxHeartbeats 4000000 in
theorem g_L_chosen_b474 (l : Launch) (N : Nat) (z : Nat → Nat) : ∀ (n : Nat) (v0 : Option Nat) (v1 : Option Nat) (v2 : Int32) (v4 : Int32) (v5 : Int32) (x0 : Hp), G l z m_L_chosen okT enR 474 [(0, va_rf v0), (1, va_rf v1), (2, .int v2), (4, .int v4), (5, .int v5)] [] x0 (f_L_chosen_b474 N z n v0 v1 v2 v4 v5 x0) := by
  intro n
  induction n with
  | zero => intro v0 v1 v2 v4 v5 x0; exact G_none
  | succ n ih =>
  intro v0 v1 v2 v4 v5 x0
  rw [f_L_chosen_b474]
  refine G_iload 4 dL_chosen_474 rfl ?_
  refine G_iload 3 dL_chosen_476 rfl ?_
  refine G_icmp_ge (tgt := 609) dL_chosen_478 (by decide) (fun _ => ?_) (fun _ => ?_)
  · refine G_aload_n 1 dL_chosen_609 rfl rfl ?_
    exact G_ret trivial dL_chosen_610 rfl
  · refine G_aload_n 0 dL_chosen_481 rfl rfl ?_
    refine G_iconst (v := (3 : Int32)) dL_chosen_482 rfl ?_
    refine G_iload 4 dL_chosen_483 rfl ?_
    refine G_iadd dL_chosen_485 ?_
    refine G_callS (av := [va_rf v0, .int ((3 : Int32) + v5)]) [] (ct_L_cell l N z v0 ((3 : Int32) + v5)) yn_L_cell (by decide) (by decide) gw_1114 gw_1115 gw_38 gw_1116 rfl (by decide) dL_chosen_486 (fun i47 x46 => ?_)
    refine G_sipush (v := (137 : Int32)) dL_chosen_489 (by decide) ?_
    refine G_iload 4 dL_chosen_492 rfl ?_
    refine G_imul dL_chosen_494 ?_
    refine G_iadd dL_chosen_495 ?_
    refine G_istore (i := 6) (l2 := [(0, va_rf v0), (1, va_rf v1), (2, .int v2), (4, .int v4), (5, .int v5)]) [0, 1, 2, 3, 4] dL_chosen_496 (by decide) rfl (sok_a (by decide) (by decide) (sok_a (by decide) (by decide) (sok_a (by decide) (by decide) (sok_a (by decide) (by decide) (sok_b (by decide) rfl trivial))))) ?_
    refine G_aload_n 2 dL_chosen_498 rfl rfl ?_
    refine G_getr (k := 7) K_14 (by decide) rfl rfl rfl gw_1354 rfl dL_chosen_499 (fun r48 => ?_)
    refine G_iload 5 dL_chosen_502 rfl ?_
    refine G_bipush (v := (8 : Int32)) dL_chosen_504 (by decide) ?_
    refine G_newa (t := 1) rfl (Or.inr (Or.inl ⟨rfl, rfl⟩)) gw_140 dL_chosen_506 (fun r49 x50 => ?_)
    refine G_dup dL_chosen_508 (rf_cat _) ?_
    refine G_iconst (v := (0 : Int32)) dL_chosen_509 rfl ?_
    refine G_iload 0 dL_chosen_510 rfl ?_
    refine G_iconst (v := (3 : Int32)) dL_chosen_512 rfl ?_
    refine G_callS (av := [.int (i47 + ((137 : Int32) * v5)), .int (3 : Int32)]) [.int (0 : Int32), va_rf r49, va_rf r49, .int v5, va_rf r48] (ct_L_below l N z (i47 + ((137 : Int32) * v5)) (3 : Int32)) yn_L_below (by decide) (by decide) gw_1372 gw_1373 gw_38 gw_1374 rfl (by simp only [hw_n, hw_i, hw_r, hw_j, hw_d]; decide) dL_chosen_513 (fun i52 x51 => ?_)
    refine G_iast dL_chosen_516 (fun x53 => ?_)
    refine G_dup dL_chosen_517 (rf_cat _) ?_
    refine G_iconst (v := (1 : Int32)) dL_chosen_518 rfl ?_
    refine G_iload 0 dL_chosen_519 rfl ?_
    refine G_iconst (v := (1 : Int32)) dL_chosen_521 rfl ?_
    refine G_ishr dL_chosen_522 ?_
    refine G_iload_n 3 dL_chosen_523 rfl rfl ?_
    refine G_callS (av := [.int ((i47 + ((137 : Int32) * v5)) >>> ((1 : Int32) &&& 31)), .int v2]) [.int (1 : Int32), va_rf r49, va_rf r49, .int v5, va_rf r48] (ct_L_below l N z ((i47 + ((137 : Int32) * v5)) >>> ((1 : Int32) &&& 31)) v2) yn_L_below (by decide) (by decide) gw_1372 gw_1373 gw_38 gw_1374 rfl (by simp only [hw_n, hw_i, hw_r, hw_j, hw_d]; decide) dL_chosen_524 (fun i55 x54 => ?_)
    refine G_iast dL_chosen_527 (fun x56 => ?_)
    refine G_dup dL_chosen_528 (rf_cat _) ?_
    refine G_iconst (v := (2 : Int32)) dL_chosen_529 rfl ?_
    refine G_iload 0 dL_chosen_530 rfl ?_
    refine G_iconst (v := (2 : Int32)) dL_chosen_532 rfl ?_
    refine G_ishr dL_chosen_533 ?_
    refine G_bipush (v := (7 : Int32)) dL_chosen_534 (by decide) ?_
    refine G_callS (av := [.int ((i47 + ((137 : Int32) * v5)) >>> ((2 : Int32) &&& 31)), .int (7 : Int32)]) [.int (2 : Int32), va_rf r49, va_rf r49, .int v5, va_rf r48] (ct_L_below l N z ((i47 + ((137 : Int32) * v5)) >>> ((2 : Int32) &&& 31)) (7 : Int32)) yn_L_below (by decide) (by decide) gw_1372 gw_1373 gw_38 gw_1374 rfl (by simp only [hw_n, hw_i, hw_r, hw_j, hw_d]; decide) dL_chosen_536 (fun i58 x57 => ?_)
    refine G_iast dL_chosen_539 (fun x59 => ?_)
    refine G_dup dL_chosen_540 (rf_cat _) ?_
    refine G_iconst (v := (3 : Int32)) dL_chosen_541 rfl ?_
    refine G_iload 0 dL_chosen_542 rfl ?_
    refine G_iconst (v := (3 : Int32)) dL_chosen_544 rfl ?_
    refine G_ishr dL_chosen_545 ?_
    refine G_iload_n 3 dL_chosen_546 rfl rfl ?_
    refine G_callS (av := [.int ((i47 + ((137 : Int32) * v5)) >>> ((3 : Int32) &&& 31)), .int v2]) [.int (3 : Int32), va_rf r49, va_rf r49, .int v5, va_rf r48] (ct_L_below l N z ((i47 + ((137 : Int32) * v5)) >>> ((3 : Int32) &&& 31)) v2) yn_L_below (by decide) (by decide) gw_1372 gw_1373 gw_38 gw_1374 rfl (by simp only [hw_n, hw_i, hw_r, hw_j, hw_d]; decide) dL_chosen_547 (fun i61 x60 => ?_)
    refine G_iast dL_chosen_550 (fun x62 => ?_)
    refine G_dup dL_chosen_551 (rf_cat _) ?_
    refine G_iconst (v := (4 : Int32)) dL_chosen_552 rfl ?_
    refine G_iload 0 dL_chosen_553 rfl ?_
    refine G_iconst (v := (4 : Int32)) dL_chosen_555 rfl ?_
    refine G_ishr dL_chosen_556 ?_
    refine G_bipush (v := (31 : Int32)) dL_chosen_557 (by decide) ?_
    refine G_callS (av := [.int ((i47 + ((137 : Int32) * v5)) >>> ((4 : Int32) &&& 31)), .int (31 : Int32)]) [.int (4 : Int32), va_rf r49, va_rf r49, .int v5, va_rf r48] (ct_L_below l N z ((i47 + ((137 : Int32) * v5)) >>> ((4 : Int32) &&& 31)) (31 : Int32)) yn_L_below (by decide) (by decide) gw_1372 gw_1373 gw_38 gw_1374 rfl (by simp only [hw_n, hw_i, hw_r, hw_j, hw_d]; decide) dL_chosen_559 (fun i64 x63 => ?_)
    refine G_iast dL_chosen_562 (fun x65 => ?_)
    refine G_dup dL_chosen_563 (rf_cat _) ?_
    refine G_iconst (v := (5 : Int32)) dL_chosen_564 rfl ?_
    refine G_iload 0 dL_chosen_565 rfl ?_
    refine G_iconst (v := (5 : Int32)) dL_chosen_567 rfl ?_
    refine G_ishr dL_chosen_568 ?_
    refine G_bipush (v := (7 : Int32)) dL_chosen_569 (by decide) ?_
    refine G_callS (av := [.int ((i47 + ((137 : Int32) * v5)) >>> ((5 : Int32) &&& 31)), .int (7 : Int32)]) [.int (5 : Int32), va_rf r49, va_rf r49, .int v5, va_rf r48] (ct_L_below l N z ((i47 + ((137 : Int32) * v5)) >>> ((5 : Int32) &&& 31)) (7 : Int32)) yn_L_below (by decide) (by decide) gw_1372 gw_1373 gw_38 gw_1374 rfl (by simp only [hw_n, hw_i, hw_r, hw_j, hw_d]; decide) dL_chosen_571 (fun i67 x66 => ?_)
    refine G_iast dL_chosen_574 (fun x68 => ?_)
    refine G_dup dL_chosen_575 (rf_cat _) ?_
    refine G_bipush (v := (6 : Int32)) dL_chosen_576 (by decide) ?_
    refine G_iload 0 dL_chosen_578 rfl ?_
    refine G_bipush (v := (6 : Int32)) dL_chosen_580 (by decide) ?_
    refine G_ishr dL_chosen_582 ?_
    refine G_iload_n 3 dL_chosen_583 rfl rfl ?_
    refine G_callS (av := [.int ((i47 + ((137 : Int32) * v5)) >>> ((6 : Int32) &&& 31)), .int v2]) [.int (6 : Int32), va_rf r49, va_rf r49, .int v5, va_rf r48] (ct_L_below l N z ((i47 + ((137 : Int32) * v5)) >>> ((6 : Int32) &&& 31)) v2) yn_L_below (by decide) (by decide) gw_1372 gw_1373 gw_38 gw_1374 rfl (by simp only [hw_n, hw_i, hw_r, hw_j, hw_d]; decide) dL_chosen_584 (fun i70 x69 => ?_)
    refine G_iast dL_chosen_587 (fun x71 => ?_)
    refine G_dup dL_chosen_588 (rf_cat _) ?_
    refine G_bipush (v := (7 : Int32)) dL_chosen_589 (by decide) ?_
    refine G_iload 0 dL_chosen_591 rfl ?_
    refine G_bipush (v := (7 : Int32)) dL_chosen_593 (by decide) ?_
    refine G_ishr dL_chosen_595 ?_
    refine G_bipush (v := (25 : Int32)) dL_chosen_596 (by decide) ?_
    refine G_callS (av := [.int ((i47 + ((137 : Int32) * v5)) >>> ((7 : Int32) &&& 31)), .int (25 : Int32)]) [.int (7 : Int32), va_rf r49, va_rf r49, .int v5, va_rf r48] (ct_L_below l N z ((i47 + ((137 : Int32) * v5)) >>> ((7 : Int32) &&& 31)) (25 : Int32)) yn_L_below (by decide) (by decide) gw_1372 gw_1373 gw_38 gw_1374 rfl (by simp only [hw_n, hw_i, hw_r, hw_j, hw_d]; decide) dL_chosen_598 (fun i73 x72 => ?_)
    refine G_iast dL_chosen_601 (fun x74 => ?_)
    refine G_aastA dL_chosen_602 (fun x75 => ?_)
    refine G_iinc (i := 5) (l2 := [(6, .int (i47 + ((137 : Int32) * v5))), (0, va_rf v0), (1, va_rf v1), (2, .int v2), (4, .int v4)]) 5 [0, 1, 2, 3, 4] dL_chosen_603 rfl rfl (by decide) rfl (sok_a (by decide) (by decide) (sok_a (by decide) (by decide) (sok_a (by decide) (by decide) (sok_a (by decide) (by decide) (sok_b (by decide) rfl trivial))))) ?_
    refine G_goto (tgt := 474) dL_chosen_606 (by decide) ?_
    refine G_lv [2, 3, 4, 5, 0] rfl ?_
    exact ih v0 v1 v2 v4 (v5 + (1 : Int32)) x75

set_option maxRecDepth 100000 in
set_option maxHeartbeats 4000000 in
theorem g_L_chosen_b315 (l : Launch) (N : Nat) (z : Nat → Nat) : ∀ (n : Nat) (v0 : Option Nat) (v1 : Option Nat) (v2 : Int32) (v3 : Int32) (v4 : Int32) (x0 : Hp), G l z m_L_chosen okT enR 315 [(0, va_rf v0), (1, va_rf v1), (2, .int v2), (3, .int v3), (4, .int v4)] [] x0 (f_L_chosen_b315 N z n v0 v1 v2 v3 v4 x0) := by
  intro n
  induction n with
  | zero => intro v0 v1 v2 v3 v4 x0; exact G_none
  | succ n ih =>
  intro v0 v1 v2 v3 v4 x0
  rw [f_L_chosen_b315]
  refine G_iload 4 dL_chosen_315 rfl ?_
  refine G_iload_n 3 dL_chosen_317 rfl rfl ?_
  refine G_icmp_ge (tgt := 449) dL_chosen_318 (by decide) (fun _ => ?_) (fun _ => ?_)
  · refine G_aload_n 0 dL_chosen_449 rfl rfl ?_
    refine G_bipush (v := (15 : Int32)) dL_chosen_450 (by decide) ?_
    refine G_callS (av := [va_rf v0, .int (15 : Int32)]) [] (ct_L_cell l N z v0 (15 : Int32)) yn_L_cell (by decide) (by decide) gw_1114 gw_1115 gw_38 gw_1116 rfl (by decide) dL_chosen_452 (fun i77 x76 => ?_)
    refine G_bipush (v := (7 : Int32)) dL_chosen_455 (by decide) ?_
    refine G_callS (av := [.int i77, .int (7 : Int32)]) [] (ct_L_below l N z i77 (7 : Int32)) yn_L_below (by decide) (by decide) gw_1372 gw_1373 gw_38 gw_1374 rfl (by decide) dL_chosen_457 (fun i79 x78 => ?_)
    refine G_istore (i := 4) (l2 := [(0, va_rf v0), (1, va_rf v1), (2, .int v2), (3, .int v3)]) [0, 1, 2, 3] dL_chosen_460 (by decide) rfl (sok_a (by decide) (by decide) (sok_a (by decide) (by decide) (sok_a (by decide) (by decide) (sok_b (by decide) rfl trivial)))) ?_
    refine G_aload_n 2 dL_chosen_462 rfl rfl ?_
    refine G_iload 0 dL_chosen_463 rfl ?_
    refine G_anewA gw_1458 dL_chosen_465 (fun r80 x81 => ?_)
    refine G_putr (k := 7) K_14 (by decide) rfl rfl rfl gw_1354 rfl (Or.inl rfl) nar_arr.1 nar_arr.2 dL_chosen_468 (fun x82 => ?_)
    refine G_iconst (v := (0 : Int32)) dL_chosen_471 rfl ?_
    refine G_istore (i := 5) (l2 := [(4, .int i79), (0, va_rf v0), (1, va_rf v1), (2, .int v2), (3, .int v3)]) [0, 1, 2, 3, 4] dL_chosen_472 (by decide) rfl (sok_b (by decide) rfl (sok_a (by decide) (by decide) (sok_a (by decide) (by decide) (sok_a (by decide) (by decide) (sok_a (by decide) (by decide) trivial))))) ?_
    refine G_lv [2, 3, 4, 1, 0] rfl ?_
    exact g_L_chosen_b474 l N z N v0 v1 v2 i79 (0 : Int32) x82
  · refine G_aload_n 0 dL_chosen_321 rfl rfl ?_
    refine G_bipush (v := (9 : Int32)) dL_chosen_322 (by decide) ?_
    refine G_iload 4 dL_chosen_324 rfl ?_
    refine G_iadd dL_chosen_326 ?_
    refine G_callS (av := [va_rf v0, .int ((9 : Int32) + v4)]) [] (ct_L_cell l N z v0 ((9 : Int32) + v4)) yn_L_cell (by decide) (by decide) gw_1114 gw_1115 gw_38 gw_1116 rfl (by decide) dL_chosen_327 (fun i84 x83 => ?_)
    refine G_sipush (v := (131 : Int32)) dL_chosen_330 (by decide) ?_
    refine G_iload 4 dL_chosen_333 rfl ?_
    refine G_imul dL_chosen_335 ?_
    refine G_iadd dL_chosen_336 ?_
    refine G_istore (i := 5) (l2 := [(0, va_rf v0), (1, va_rf v1), (2, .int v2), (3, .int v3), (4, .int v4)]) [0, 1, 2, 3, 4] dL_chosen_337 (by decide) rfl (sok_a (by decide) (by decide) (sok_a (by decide) (by decide) (sok_a (by decide) (by decide) (sok_a (by decide) (by decide) (sok_b (by decide) rfl trivial))))) ?_
    refine G_aload_n 2 dL_chosen_339 rfl rfl ?_
    refine G_getr (k := 6) K_14 (by decide) rfl rfl rfl gw_1352 rfl dL_chosen_340 (fun r85 => ?_)
    refine G_iload 5 dL_chosen_343 rfl ?_
    refine G_iconst (v := (5 : Int32)) dL_chosen_345 rfl ?_
    refine G_newa (t := 1) rfl (Or.inr (Or.inl ⟨rfl, rfl⟩)) gw_140 dL_chosen_346 (fun r86 x87 => ?_)
    refine G_dup dL_chosen_348 (rf_cat _) ?_
    refine G_iconst (v := (0 : Int32)) dL_chosen_349 rfl ?_
    refine G_iload 0 dL_chosen_350 rfl ?_
    refine G_iload_n 3 dL_chosen_352 rfl rfl ?_
    refine G_callS (av := [.int (i84 + ((131 : Int32) * v4)), .int v2]) [.int (0 : Int32), va_rf r86, va_rf r86, .int v4, va_rf r85] (ct_L_below l N z (i84 + ((131 : Int32) * v4)) v2) yn_L_below (by decide) (by decide) gw_1372 gw_1373 gw_38 gw_1374 rfl (by simp only [hw_n, hw_i, hw_r, hw_j, hw_d]; decide) dL_chosen_353 (fun i89 x88 => ?_)
    refine G_iast dL_chosen_356 (fun x90 => ?_)
    refine G_dup dL_chosen_357 (rf_cat _) ?_
    refine G_iconst (v := (1 : Int32)) dL_chosen_358 rfl ?_
    refine G_iconst (v := (1 : Int32)) dL_chosen_359 rfl ?_
    refine G_iload 0 dL_chosen_360 rfl ?_
    refine G_iconst (v := (2 : Int32)) dL_chosen_362 rfl ?_
    refine G_ishr dL_chosen_363 ?_
    refine G_iload 0 dL_chosen_364 rfl ?_
    refine G_iconst (v := (2 : Int32)) dL_chosen_366 rfl ?_
    refine G_callS (av := [.int (i84 + ((131 : Int32) * v4)), .int (2 : Int32)]) [.int ((i84 + ((131 : Int32) * v4)) >>> ((2 : Int32) &&& 31)), .int (1 : Int32), .int (1 : Int32), va_rf r86, va_rf r86, .int v4, va_rf r85] (ct_L_below l N z (i84 + ((131 : Int32) * v4)) (2 : Int32)) yn_L_below (by decide) (by decide) gw_1372 gw_1373 gw_38 gw_1374 rfl (by simp only [hw_n, hw_i, hw_r, hw_j, hw_d]; decide) dL_chosen_367 (fun i92 x91 => ?_)
    refine G_if_ne (tgt := 378) dL_chosen_370 (by decide) (fun _ => ?_) (fun _ => ?_)
    · refine G_bipush (v := (30 : Int32)) dL_chosen_373 (by decide) ?_
      refine G_goto (tgt := 380) dL_chosen_375 (by decide) ?_
      refine G_lv [1, 2, 3, 4, 5, 0] rfl ?_
      exact g_L_chosen_b380 l N z ih v0 v1 v2 v3 v4 (i84 + ((131 : Int32) * v4)) (30 : Int32) ((i84 + ((131 : Int32) * v4)) >>> ((2 : Int32) &&& 31)) (1 : Int32) (1 : Int32) r86 r86 v4 r85 x91
    · refine G_bipush (v := (6 : Int32)) dL_chosen_378 (by decide) ?_
      refine G_lv [1, 2, 3, 4, 5, 0] rfl ?_
      exact g_L_chosen_b380 l N z ih v0 v1 v2 v3 v4 (i84 + ((131 : Int32) * v4)) (6 : Int32) ((i84 + ((131 : Int32) * v4)) >>> ((2 : Int32) &&& 31)) (1 : Int32) (1 : Int32) r86 r86 v4 r85 x91

set_option maxRecDepth 100000 in
set_option maxHeartbeats 4000000 in
theorem g_L_chosen_b58 (l : Launch) (N : Nat) (z : Nat → Nat) : ∀ (n : Nat) (v0 : Option Nat) (v1 : Option Nat) (v2 : Int32) (v3 : Int32) (x0 : Hp), G l z m_L_chosen okT enR 58 [(0, va_rf v0), (1, va_rf v1), (2, .int v2), (3, .int v3)] [] x0 (f_L_chosen_b58 N z n v0 v1 v2 v3 x0) := by
  intro n
  induction n with
  | zero => intro v0 v1 v2 v3 x0; exact G_none
  | succ n ih =>
  intro v0 v1 v2 v3 x0
  rw [f_L_chosen_b58]
  refine G_iload_n 3 dL_chosen_58 rfl rfl ?_
  refine G_iload_n 2 dL_chosen_59 rfl rfl ?_
  refine G_icmp_ge (tgt := 290) dL_chosen_60 (by decide) (fun _ => ?_) (fun _ => ?_)
  · refine G_iconst (v := (1 : Int32)) dL_chosen_290 rfl ?_
    refine G_aload_n 0 dL_chosen_291 rfl rfl ?_
    refine G_bipush (v := (8 : Int32)) dL_chosen_292 (by decide) ?_
    refine G_callS (av := [va_rf v0, .int (8 : Int32)]) [.int (1 : Int32)] (ct_L_cell l N z v0 (8 : Int32)) yn_L_cell (by decide) (by decide) gw_1114 gw_1115 gw_38 gw_1116 rfl (by simp only [hw_n, hw_i, hw_r, hw_j, hw_d]; decide) dL_chosen_294 (fun i94 x93 => ?_)
    refine G_bipush (v := (6 : Int32)) dL_chosen_297 (by decide) ?_
    refine G_callS (av := [.int i94, .int (6 : Int32)]) [.int (1 : Int32)] (ct_L_below l N z i94 (6 : Int32)) yn_L_below (by decide) (by decide) gw_1372 gw_1373 gw_38 gw_1374 rfl (by simp only [hw_n, hw_i, hw_r, hw_j, hw_d]; decide) dL_chosen_299 (fun i96 x95 => ?_)
    refine G_iadd dL_chosen_302 ?_
    refine G_istore_n (i := 3) (l2 := [(0, va_rf v0), (1, va_rf v1), (2, .int v2)]) [0, 1, 2] dL_chosen_303 rfl (by decide) rfl (sok_a (by decide) (by decide) (sok_a (by decide) (by decide) (sok_b (by decide) rfl trivial))) ?_
    refine G_aload_n 2 dL_chosen_304 rfl rfl ?_
    refine G_iload_n 0 dL_chosen_305 rfl rfl ?_
    refine G_anewA gw_1458 dL_chosen_306 (fun r97 x98 => ?_)
    refine G_putr (k := 6) K_14 (by decide) rfl rfl rfl gw_1352 rfl (Or.inl rfl) nar_arr.1 nar_arr.2 dL_chosen_309 (fun x99 => ?_)
    refine G_iconst (v := (0 : Int32)) dL_chosen_312 rfl ?_
    refine G_istore (i := 4) (l2 := [(3, .int ((1 : Int32) + i96)), (0, va_rf v0), (1, va_rf v1), (2, .int v2)]) [0, 1, 2, 3] dL_chosen_313 (by decide) rfl (sok_b (by decide) rfl (sok_a (by decide) (by decide) (sok_a (by decide) (by decide) (sok_a (by decide) (by decide) trivial)))) ?_
    refine G_lv [2, 3, 4, 1, 0] rfl ?_
    exact g_L_chosen_b315 l N z N v0 v1 v2 ((1 : Int32) + i96) (0 : Int32) x99
  · refine G_aload_n 0 dL_chosen_63 rfl rfl ?_
    refine G_iconst (v := (2 : Int32)) dL_chosen_64 rfl ?_
    refine G_iload_n 3 dL_chosen_65 rfl rfl ?_
    refine G_iadd dL_chosen_66 ?_
    refine G_callS (av := [va_rf v0, .int ((2 : Int32) + v3)]) [] (ct_L_cell l N z v0 ((2 : Int32) + v3)) yn_L_cell (by decide) (by decide) gw_1114 gw_1115 gw_38 gw_1116 rfl (by decide) dL_chosen_67 (fun i101 x100 => ?_)
    refine G_bipush (v := (127 : Int32)) dL_chosen_70 (by decide) ?_
    refine G_iload_n 3 dL_chosen_72 rfl rfl ?_
    refine G_imul dL_chosen_73 ?_
    refine G_iadd dL_chosen_74 ?_
    refine G_istore (i := 4) (l2 := [(0, va_rf v0), (1, va_rf v1), (2, .int v2), (3, .int v3)]) [0, 1, 2, 3] dL_chosen_75 (by decide) rfl (sok_a (by decide) (by decide) (sok_a (by decide) (by decide) (sok_a (by decide) (by decide) (sok_b (by decide) rfl trivial)))) ?_
    refine G_new K_13 rfl gw_1376 gw_1377 gw_55 dL_chosen_77 (fun r102 x103 => ?_)
    refine G_dup dL_chosen_80 (rf_cat _) ?_
    refine G_callN (av := []) [va_rf r102] (fun q105 => ct_X11_init l N z q105) rfl yn_X11_init (by decide) (by decide) gn_1378 gw_1379 gw_55 gw_1380 rfl (by simp only [hw_n, hw_i, hw_r, hw_j, hw_d]; decide) dL_chosen_81 (fun x104 => ?_)
    refine G_astore (i := 5) (l2 := [(4, .int (i101 + ((127 : Int32) * v3))), (0, va_rf v0), (1, va_rf v1), (2, .int v2), (3, .int v3)]) [0, 1, 2, 3, 4] dL_chosen_84 (by decide) rfl (sok_b (by decide) rfl (sok_a (by decide) (by decide) (sok_a (by decide) (by decide) (sok_a (by decide) (by decide) (sok_a (by decide) (by decide) trivial))))) ?_
    refine G_aload 0 dL_chosen_86 rfl ?_
    refine G_iload_n 5 dL_chosen_88 rfl rfl ?_
    refine G_puti (k := 1) K_13 (by decide) rfl rfl rfl gw_1385 rfl (Or.inl rfl) nar_int.1 nar_int.2 dL_chosen_89 (fun x106 => ?_)
    refine G_aload 0 dL_chosen_92 rfl ?_
    refine G_iload_n 5 dL_chosen_94 rfl rfl ?_
    refine G_if_eq (tgt := 107) dL_chosen_95 (by decide) (fun _ => ?_) (fun _ => ?_)
    · refine G_lv [2, 3, 4, 5, 1, 0] rfl ?_
      exact g_L_chosen_b107 l N z ih v0 v1 v2 v3 (i101 + ((127 : Int32) * v3)) r102 r102 x106
    · refine G_iload 1 dL_chosen_98 rfl ?_
      refine G_iconst (v := (3 : Int32)) dL_chosen_100 rfl ?_
      refine G_callS (av := [.int (i101 + ((127 : Int32) * v3)), .int (3 : Int32)]) [va_rf r102] (ct_L_below l N z (i101 + ((127 : Int32) * v3)) (3 : Int32)) yn_L_below (by decide) (by decide) gw_1372 gw_1373 gw_38 gw_1374 rfl (by simp only [hw_n, hw_i, hw_r, hw_j, hw_d]; decide) dL_chosen_101 (fun i108 x107 => ?_)
      refine G_if_ne (tgt := 111) dL_chosen_104 (by decide) (fun _ => ?_) (fun _ => ?_)
      · refine G_lv [2, 3, 4, 5, 1, 0] rfl ?_
        exact g_L_chosen_b107 l N z ih v0 v1 v2 v3 (i101 + ((127 : Int32) * v3)) r102 r102 x107
      · refine G_aload_n 3 dL_chosen_111 rfl rfl ?_
        refine G_getr (k := 5) K_14 (by decide) rfl rfl rfl gw_1350 rfl dL_chosen_112 (fun r109 => ?_)
        refine G_iload 1 dL_chosen_115 rfl ?_
        refine G_iconst (v := (1 : Int32)) dL_chosen_117 rfl ?_
        refine G_ishr dL_chosen_118 ?_
        refine G_iload_n 5 dL_chosen_119 rfl rfl ?_
        refine G_callS (av := [.int ((i101 + ((127 : Int32) * v3)) >>> ((1 : Int32) &&& 31)), .int v3]) [va_rf r109, va_rf r102] (ct_L_below l N z ((i101 + ((127 : Int32) * v3)) >>> ((1 : Int32) &&& 31)) v3) yn_L_below (by decide) (by decide) gw_1372 gw_1373 gw_38 gw_1374 rfl (by simp only [hw_n, hw_i, hw_r, hw_j, hw_d]; decide) dL_chosen_120 (fun i111 x110 => ?_)
        refine G_aald (t := 6) rfl (by decide) (by decide) dL_chosen_123 (fun r112 => ?_)
        refine G_lv [2, 3, 4, 5, 1, 0] rfl ?_
        exact g_L_chosen_b124 l N z ih v0 v1 v2 v3 (i101 + ((127 : Int32) * v3)) r102 r112 r102 x110

set_option maxRecDepth 100000 in
set_option maxHeartbeats 4000000 in
theorem g_L_chosen_b36 (l : Launch) (N : Nat) (z : Nat → Nat) (v0 : Option Nat) (v1 : Option Nat) (x0 : Hp) : G l z m_L_chosen okT enR 36 [(0, va_rf v0), (1, va_rf v1)] [] x0 (f_L_chosen_b36 N z v0 v1 x0) := by
  unfold f_L_chosen_b36
  refine G_iconst (v := (1 : Int32)) dL_chosen_36 rfl ?_
  refine G_aload_n 0 dL_chosen_37 rfl rfl ?_
  refine G_iconst (v := (1 : Int32)) dL_chosen_38 rfl ?_
  refine G_callS (av := [va_rf v0, .int (1 : Int32)]) [.int (1 : Int32)] (ct_L_cell l N z v0 (1 : Int32)) yn_L_cell (by decide) (by decide) gw_1114 gw_1115 gw_38 gw_1116 rfl (by simp only [hw_n, hw_i, hw_r, hw_j, hw_d]; decide) dL_chosen_39 (fun i114 x113 => ?_)
  refine G_iconst (v := (5 : Int32)) dL_chosen_42 rfl ?_
  refine G_callS (av := [.int i114, .int (5 : Int32)]) [.int (1 : Int32)] (ct_L_below l N z i114 (5 : Int32)) yn_L_below (by decide) (by decide) gw_1372 gw_1373 gw_38 gw_1374 rfl (by simp only [hw_n, hw_i, hw_r, hw_j, hw_d]; decide) dL_chosen_43 (fun i116 x115 => ?_)
  refine G_iadd dL_chosen_46 ?_
  refine G_istore_n (i := 2) (l2 := [(0, va_rf v0), (1, va_rf v1)]) [0, 1] dL_chosen_47 rfl (by decide) rfl (sok_a (by decide) (by decide) (sok_b (by decide) (rf_cat _) trivial)) ?_
  refine G_aload_n 2 dL_chosen_48 rfl rfl ?_
  refine G_iload_n 0 dL_chosen_49 rfl rfl ?_
  refine G_anew (t := 6) rfl (by decide) (by decide) (fun _ => rfl) gw_1376 (by decide) dL_chosen_50 (fun r117 x118 => ?_)
  refine G_putr (k := 5) K_14 (by decide) rfl rfl rfl gw_1350 rfl (Or.inl rfl) nar_arr.1 nar_arr.2 dL_chosen_53 (fun x119 => ?_)
  refine G_iconst (v := (0 : Int32)) dL_chosen_56 rfl ?_
  refine G_istore_n (i := 3) (l2 := [(2, .int ((1 : Int32) + i116)), (0, va_rf v0), (1, va_rf v1)]) [0, 1, 2] dL_chosen_57 rfl (by decide) rfl (sok_b (by decide) rfl (sok_a (by decide) (by decide) (sok_a (by decide) (by decide) trivial))) ?_
  refine G_lv [2, 3, 1, 0] rfl ?_
  exact g_L_chosen_b58 l N z N v0 v1 ((1 : Int32) + i116) (0 : Int32) x119

set_option maxRecDepth 100000 in
set_option maxHeartbeats 4000000 in
theorem g_L_chosen (l : Launch) (N : Nat) (z : Nat → Nat) (v0 : Option Nat) (x0 : Hp) : G l z m_L_chosen okT enR 0 [(0, va_rf v0)] [] x0 (f_L_chosen N z v0 x0) := by
  unfold f_L_chosen
  refine G_new K_14 rfl gw_1334 gw_792 gw_54 dL_chosen_0 (fun r120 x121 => ?_)
  refine G_dup dL_chosen_3 (rf_cat _) ?_
  refine G_callN (av := []) [va_rf r120] (fun q123 => ct_X12_init l N z q123) rfl yn_X12_init (by decide) (by decide) gn_1335 gw_1336 gw_54 gw_1337 rfl (by simp only [hw_n, hw_i, hw_r, hw_j, hw_d]; decide) dL_chosen_4 (fun x122 => ?_)
  refine G_astore_n (i := 1) (l2 := [(0, va_rf v0)]) [0] dL_chosen_7 rfl (by decide) rfl (sok_b (by decide) (rf_cat _) trivial) ?_
  refine G_aload_n 1 dL_chosen_8 rfl rfl ?_
  refine G_iconst (v := (0 : Int32)) dL_chosen_9 rfl ?_
  refine G_callS (av := [va_rf v0, .int (0 : Int32)]) [] (ct_L_cell l N z v0 (0 : Int32)) yn_L_cell (by decide) (by decide) gw_1114 gw_1115 gw_38 gw_1116 rfl (by decide) dL_chosen_10 (fun i125 x124 => ?_)
  refine G_iconst (v := (3 : Int32)) dL_chosen_13 rfl ?_
  refine G_callS (av := [.int i125, .int (3 : Int32)]) [] (ct_L_below l N z i125 (3 : Int32)) yn_L_below (by decide) (by decide) gw_1372 gw_1373 gw_38 gw_1374 rfl (by decide) dL_chosen_14 (fun i127 x126 => ?_)
  refine G_if_le (tgt := 36) dL_chosen_17 (by decide) (fun _ => ?_) (fun _ => ?_)
  · refine G_lv [1, 0] rfl ?_
    exact g_L_chosen_b36 l N z v0 r120 x126
  · refine G_aload_n 0 dL_chosen_20 rfl rfl ?_
    refine G_aload_n 1 dL_chosen_21 rfl rfl ?_
    refine G_iconst (v := (0 : Int32)) dL_chosen_22 rfl ?_
    refine G_callS (av := [va_rf v0, .int (0 : Int32)]) [va_rf r120] (ct_L_cell l N z v0 (0 : Int32)) yn_L_cell (by decide) (by decide) gw_1114 gw_1115 gw_38 gw_1116 rfl (by simp only [hw_n, hw_i, hw_r, hw_j, hw_d]; decide) dL_chosen_23 (fun i129 x128 => ?_)
    refine G_iconst (v := (2 : Int32)) dL_chosen_26 rfl ?_
    refine G_ishr dL_chosen_27 ?_
    refine G_bipush (v := (31 : Int32)) dL_chosen_28 (by decide) ?_
    refine G_callS (av := [.int (i129 >>> ((2 : Int32) &&& 31)), .int (31 : Int32)]) [va_rf r120] (ct_L_below l N z (i129 >>> ((2 : Int32) &&& 31)) (31 : Int32)) yn_L_below (by decide) (by decide) gw_1372 gw_1373 gw_38 gw_1374 rfl (by simp only [hw_n, hw_i, hw_r, hw_j, hw_d]; decide) dL_chosen_30 (fun i131 x130 => ?_)
    refine G_puti (k := 1) K_14 (by decide) rfl rfl rfl gw_1345 rfl (Or.inl rfl) nar_int.1 nar_int.2 dL_chosen_33 (fun x132 => ?_)
    refine G_lv [1, 0] rfl ?_
    exact g_L_chosen_b36 l N z v0 r120 x132

theorem yn_L_chosen : Yn yL_chosen 1 := ⟨by decide +kernel, by decide +kernel, by decide +kernel⟩
theorem ct_L_chosen (l : Launch) (N : Nat) (z : Nat → Nat) (v0 : Option Nat) : Ct l z yL_chosen cL_chosen 7 (some (.object "BucketBrigadeLaw$Sim")) 3 enR [va_rf v0] (f_L_chosen N z v0) :=
  Ct_r (fun x => G_lv0 (by simp only [lva_n, lva_i, lva_o, lva_r, lva_j]) (g_L_chosen l N z v0 x)) (by decide +kernel) (by simp only [lgl_n, lgl_i, lgl_o, lgl_r, lgl_j]; decide)

theorem dL_act_0 : decode cL_act 0 = .ok (.iload_n 2, 1) := by decide +kernel
theorem dL_act_1 : decode cL_act 1 = .ok (.iconst 1, 1) := by decide +kernel
theorem dL_act_2 : decode cL_act 2 = .ok (.ishr, 1) := by decide +kernel
theorem dL_act_3 : decode cL_act 3 = .ok (.aload_n 1, 1) := by decide +kernel
theorem dL_act_4 : decode cL_act 4 = .ok (.getfield 51, 3) := by decide +kernel
theorem dL_act_7 : decode cL_act 7 = .ok (.arraylength, 1) := by decide +kernel
theorem dL_act_8 : decode cL_act 8 = .ok (.invokestatic 41, 3) := by decide +kernel
theorem dL_act_11 : decode cL_act 11 = .ok (.istore_n 3, 1) := by decide +kernel
theorem dL_act_12 : decode cL_act 12 = .ok (.aload_n 1, 1) := by decide +kernel
theorem dL_act_13 : decode cL_act 13 = .ok (.getfield 51, 3) := by decide +kernel
theorem dL_act_16 : decode cL_act 16 = .ok (.iload_n 3, 1) := by decide +kernel
theorem dL_act_17 : decode cL_act 17 = .ok (.aaload, 1) := by decide +kernel
theorem dL_act_18 : decode cL_act 18 = .ok (.astore 4, 2) := by decide +kernel
theorem dL_act_20 : decode cL_act 20 = .ok (.iload_n 2, 1) := by decide +kernel
theorem dL_act_21 : decode cL_act 21 = .ok (.bipush 7, 2) := by decide +kernel
theorem dL_act_23 : decode cL_act 23 = .ok (.ishr, 1) := by decide +kernel
theorem dL_act_24 : decode cL_act 24 = .ok (.bipush 9, 2) := by decide +kernel
theorem dL_act_26 : decode cL_act 26 = .ok (.invokestatic 41, 3) := by decide +kernel
theorem dL_act_29 : decode cL_act 29 = .ok (.tableswitch 282 0 5 #[39, 39, 87, 153, 194, 235], 39) := by decide +kernel
theorem dL_act_68 : decode cL_act 68 = .ok (.iconst 1, 1) := by decide +kernel
theorem dL_act_69 : decode cL_act 69 = .ok (.iload_n 2, 1) := by decide +kernel
theorem dL_act_70 : decode cL_act 70 = .ok (.iconst 2, 1) := by decide +kernel
theorem dL_act_71 : decode cL_act 71 = .ok (.ishr, 1) := by decide +kernel
theorem dL_act_72 : decode cL_act 72 = .ok (.iload_n 2, 1) := by decide +kernel
theorem dL_act_73 : decode cL_act 73 = .ok (.iconst 2, 1) := by decide +kernel
theorem dL_act_74 : decode cL_act 74 = .ok (.invokestatic 41, 3) := by decide +kernel
theorem dL_act_77 : decode cL_act 77 = .ok (.ifCond .ne 8, 3) := by decide +kernel
theorem dL_act_80 : decode cL_act 80 = .ok (.bipush 30, 2) := by decide +kernel
theorem dL_act_82 : decode cL_act 82 = .ok (.goto 4, 3) := by decide +kernel
theorem dL_act_85 : decode cL_act 85 = .ok (.iconst 5, 1) := by decide +kernel
theorem dL_act_86 : decode cL_act 86 = .ok (.invokestatic 41, 3) := by decide +kernel
theorem dL_act_89 : decode cL_act 89 = .ok (.iadd, 1) := by decide +kernel
theorem dL_act_90 : decode cL_act 90 = .ok (.istore 5, 2) := by decide +kernel
theorem dL_act_92 : decode cL_act 92 = .ok (.aload_n 0, 1) := by decide +kernel
theorem dL_act_93 : decode cL_act 93 = .ok (.iload_n 3, 1) := by decide +kernel
theorem dL_act_94 : decode cL_act 94 = .ok (.iload 5, 2) := by decide +kernel
theorem dL_act_96 : decode cL_act 96 = .ok (.invokevirtual 94, 3) := by decide +kernel
theorem dL_act_99 : decode cL_act 99 = .ok (.aload_n 1, 1) := by decide +kernel
theorem dL_act_100 : decode cL_act 100 = .ok (.aload 4, 2) := by decide +kernel
theorem dL_act_102 : decode cL_act 102 = .ok (.iload 5, 2) := by decide +kernel
theorem dL_act_104 : decode cL_act 104 = .ok (.invokevirtual 97, 3) := by decide +kernel
theorem dL_act_107 : decode cL_act 107 = .ok (.if_icmp .ne 7, 3) := by decide +kernel
theorem dL_act_110 : decode cL_act 110 = .ok (.iconst 1, 1) := by decide +kernel
theorem dL_act_111 : decode cL_act 111 = .ok (.goto 4, 3) := by decide +kernel
theorem dL_act_114 : decode cL_act 114 = .ok (.iconst 0, 1) := by decide +kernel
theorem dL_act_115 : decode cL_act 115 = .ok (.ireturn, 1) := by decide +kernel
theorem dL_act_116 : decode cL_act 116 = .ok (.iconst 1, 1) := by decide +kernel
theorem dL_act_117 : decode cL_act 117 = .ok (.iload_n 2, 1) := by decide +kernel
theorem dL_act_118 : decode cL_act 118 = .ok (.iconst 2, 1) := by decide +kernel
theorem dL_act_119 : decode cL_act 119 = .ok (.ishr, 1) := by decide +kernel
theorem dL_act_120 : decode cL_act 120 = .ok (.iload_n 2, 1) := by decide +kernel
theorem dL_act_121 : decode cL_act 121 = .ok (.iconst 2, 1) := by decide +kernel
theorem dL_act_122 : decode cL_act 122 = .ok (.invokestatic 41, 3) := by decide +kernel
theorem dL_act_125 : decode cL_act 125 = .ok (.ifCond .ne 8, 3) := by decide +kernel
theorem dL_act_128 : decode cL_act 128 = .ok (.bipush 99, 2) := by decide +kernel
theorem dL_act_130 : decode cL_act 130 = .ok (.goto 4, 3) := by decide +kernel
theorem dL_act_133 : decode cL_act 133 = .ok (.iconst 5, 1) := by decide +kernel
theorem dL_act_134 : decode cL_act 134 = .ok (.invokestatic 41, 3) := by decide +kernel
theorem dL_act_137 : decode cL_act 137 = .ok (.iadd, 1) := by decide +kernel
theorem dL_act_138 : decode cL_act 138 = .ok (.istore 6, 2) := by decide +kernel
theorem dL_act_140 : decode cL_act 140 = .ok (.aload 4, 2) := by decide +kernel
theorem dL_act_142 : decode cL_act 142 = .ok (.aload 4, 2) := by decide +kernel
theorem dL_act_144 : decode cL_act 144 = .ok (.getfield 69, 3) := by decide +kernel
theorem dL_act_147 : decode cL_act 147 = .ok (.aload 4, 2) := by decide +kernel
theorem dL_act_149 : decode cL_act 149 = .ok (.getfield 82, 3) := by decide +kernel
theorem dL_act_152 : decode cL_act 152 = .ok (.iload 6, 2) := by decide +kernel
theorem dL_act_154 : decode cL_act 154 = .ok (.iadd, 1) := by decide +kernel
theorem dL_act_155 : decode cL_act 155 = .ok (.invokestatic 100, 3) := by decide +kernel
theorem dL_act_158 : decode cL_act 158 = .ok (.putfield 82, 3) := by decide +kernel
theorem dL_act_161 : decode cL_act 161 = .ok (.aload_n 0, 1) := by decide +kernel
theorem dL_act_162 : decode cL_act 162 = .ok (.iload_n 3, 1) := by decide +kernel
theorem dL_act_163 : decode cL_act 163 = .ok (.iload 6, 2) := by decide +kernel
theorem dL_act_165 : decode cL_act 165 = .ok (.invokevirtual 105, 3) := by decide +kernel
theorem dL_act_168 : decode cL_act 168 = .ok (.aload 4, 2) := by decide +kernel
theorem dL_act_170 : decode cL_act 170 = .ok (.getfield 82, 3) := by decide +kernel
theorem dL_act_173 : decode cL_act 173 = .ok (.if_icmp .ne 7, 3) := by decide +kernel
theorem dL_act_176 : decode cL_act 176 = .ok (.iconst 1, 1) := by decide +kernel
theorem dL_act_177 : decode cL_act 177 = .ok (.goto 4, 3) := by decide +kernel
theorem dL_act_180 : decode cL_act 180 = .ok (.iconst 0, 1) := by decide +kernel
theorem dL_act_181 : decode cL_act 181 = .ok (.ireturn, 1) := by decide +kernel
theorem dL_act_182 : decode cL_act 182 = .ok (.aload 4, 2) := by decide +kernel
theorem dL_act_184 : decode cL_act 184 = .ok (.getfield 63, 3) := by decide +kernel
theorem dL_act_187 : decode cL_act 187 = .ok (.istore 7, 2) := by decide +kernel
theorem dL_act_189 : decode cL_act 189 = .ok (.aload 4, 2) := by decide +kernel
theorem dL_act_191 : decode cL_act 191 = .ok (.iload_n 2, 1) := by decide +kernel
theorem dL_act_192 : decode cL_act 192 = .ok (.iconst 2, 1) := by decide +kernel
theorem dL_act_193 : decode cL_act 193 = .ok (.ishr, 1) := by decide +kernel
theorem dL_act_194 : decode cL_act 194 = .ok (.bipush 31, 2) := by decide +kernel
theorem dL_act_196 : decode cL_act 196 = .ok (.invokestatic 41, 3) := by decide +kernel
theorem dL_act_199 : decode cL_act 199 = .ok (.putfield 63, 3) := by decide +kernel
theorem dL_act_202 : decode cL_act 202 = .ok (.aload_n 0, 1) := by decide +kernel
theorem dL_act_203 : decode cL_act 203 = .ok (.iload_n 3, 1) := by decide +kernel
theorem dL_act_204 : decode cL_act 204 = .ok (.aload 4, 2) := by decide +kernel
theorem dL_act_206 : decode cL_act 206 = .ok (.getfield 63, 3) := by decide +kernel
theorem dL_act_209 : decode cL_act 209 = .ok (.invokevirtual 108, 3) := by decide +kernel
theorem dL_act_212 : decode cL_act 212 = .ok (.iload 7, 2) := by decide +kernel
theorem dL_act_214 : decode cL_act 214 = .ok (.if_icmp .ne 7, 3) := by decide +kernel
theorem dL_act_217 : decode cL_act 217 = .ok (.iconst 1, 1) := by decide +kernel
theorem dL_act_218 : decode cL_act 218 = .ok (.goto 4, 3) := by decide +kernel
theorem dL_act_221 : decode cL_act 221 = .ok (.iconst 0, 1) := by decide +kernel
theorem dL_act_222 : decode cL_act 222 = .ok (.ireturn, 1) := by decide +kernel
theorem dL_act_223 : decode cL_act 223 = .ok (.aload 4, 2) := by decide +kernel
theorem dL_act_225 : decode cL_act 225 = .ok (.getfield 66, 3) := by decide +kernel
theorem dL_act_228 : decode cL_act 228 = .ok (.istore 8, 2) := by decide +kernel
theorem dL_act_230 : decode cL_act 230 = .ok (.aload 4, 2) := by decide +kernel
theorem dL_act_232 : decode cL_act 232 = .ok (.iload_n 2, 1) := by decide +kernel
theorem dL_act_233 : decode cL_act 233 = .ok (.iconst 2, 1) := by decide +kernel
theorem dL_act_234 : decode cL_act 234 = .ok (.ishr, 1) := by decide +kernel
theorem dL_act_235 : decode cL_act 235 = .ok (.bipush 31, 2) := by decide +kernel
theorem dL_act_237 : decode cL_act 237 = .ok (.invokestatic 41, 3) := by decide +kernel
theorem dL_act_240 : decode cL_act 240 = .ok (.putfield 66, 3) := by decide +kernel
theorem dL_act_243 : decode cL_act 243 = .ok (.aload_n 0, 1) := by decide +kernel
theorem dL_act_244 : decode cL_act 244 = .ok (.iload_n 3, 1) := by decide +kernel
theorem dL_act_245 : decode cL_act 245 = .ok (.aload 4, 2) := by decide +kernel
theorem dL_act_247 : decode cL_act 247 = .ok (.getfield 66, 3) := by decide +kernel
theorem dL_act_250 : decode cL_act 250 = .ok (.invokevirtual 111, 3) := by decide +kernel
theorem dL_act_253 : decode cL_act 253 = .ok (.iload 8, 2) := by decide +kernel
theorem dL_act_255 : decode cL_act 255 = .ok (.if_icmp .ne 7, 3) := by decide +kernel
theorem dL_act_258 : decode cL_act 258 = .ok (.iconst 1, 1) := by decide +kernel
theorem dL_act_259 : decode cL_act 259 = .ok (.goto 4, 3) := by decide +kernel
theorem dL_act_262 : decode cL_act 262 = .ok (.iconst 0, 1) := by decide +kernel
theorem dL_act_263 : decode cL_act 263 = .ok (.ireturn, 1) := by decide +kernel
theorem dL_act_264 : decode cL_act 264 = .ok (.iload_n 2, 1) := by decide +kernel
theorem dL_act_265 : decode cL_act 265 = .ok (.iconst 3, 1) := by decide +kernel
theorem dL_act_266 : decode cL_act 266 = .ok (.invokestatic 41, 3) := by decide +kernel
theorem dL_act_269 : decode cL_act 269 = .ok (.ifCond .le 5, 3) := by decide +kernel
theorem dL_act_272 : decode cL_act 272 = .ok (.iconst 1, 1) := by decide +kernel
theorem dL_act_273 : decode cL_act 273 = .ok (.ireturn, 1) := by decide +kernel
theorem dL_act_274 : decode cL_act 274 = .ok (.aload_n 1, 1) := by decide +kernel
theorem dL_act_275 : decode cL_act 275 = .ok (.getfield 45, 3) := by decide +kernel
theorem dL_act_278 : decode cL_act 278 = .ok (.istore 9, 2) := by decide +kernel
theorem dL_act_280 : decode cL_act 280 = .ok (.aload_n 1, 1) := by decide +kernel
theorem dL_act_281 : decode cL_act 281 = .ok (.iload_n 2, 1) := by decide +kernel
theorem dL_act_282 : decode cL_act 282 = .ok (.iconst 2, 1) := by decide +kernel
theorem dL_act_283 : decode cL_act 283 = .ok (.ishr, 1) := by decide +kernel
theorem dL_act_284 : decode cL_act 284 = .ok (.bipush 31, 2) := by decide +kernel
theorem dL_act_286 : decode cL_act 286 = .ok (.invokestatic 41, 3) := by decide +kernel
theorem dL_act_289 : decode cL_act 289 = .ok (.putfield 45, 3) := by decide +kernel
theorem dL_act_292 : decode cL_act 292 = .ok (.aload_n 0, 1) := by decide +kernel
theorem dL_act_293 : decode cL_act 293 = .ok (.aload_n 1, 1) := by decide +kernel
theorem dL_act_294 : decode cL_act 294 = .ok (.getfield 45, 3) := by decide +kernel
theorem dL_act_297 : decode cL_act 297 = .ok (.invokevirtual 114, 3) := by decide +kernel
theorem dL_act_300 : decode cL_act 300 = .ok (.iload 9, 2) := by decide +kernel
theorem dL_act_302 : decode cL_act 302 = .ok (.if_icmp .ne 7, 3) := by decide +kernel
theorem dL_act_305 : decode cL_act 305 = .ok (.iconst 1, 1) := by decide +kernel
theorem dL_act_306 : decode cL_act 306 = .ok (.goto 4, 3) := by decide +kernel
theorem dL_act_309 : decode cL_act 309 = .ok (.iconst 0, 1) := by decide +kernel
theorem dL_act_310 : decode cL_act 310 = .ok (.ireturn, 1) := by decide +kernel
theorem dL_act_311 : decode cL_act 311 = .ok (.iconst 1, 1) := by decide +kernel
theorem dL_act_312 : decode cL_act 312 = .ok (.iload_n 2, 1) := by decide +kernel
theorem dL_act_313 : decode cL_act 313 = .ok (.iconst 2, 1) := by decide +kernel
theorem dL_act_314 : decode cL_act 314 = .ok (.ishr, 1) := by decide +kernel
theorem dL_act_315 : decode cL_act 315 = .ok (.bipush 6, 2) := by decide +kernel
theorem dL_act_317 : decode cL_act 317 = .ok (.invokestatic 41, 3) := by decide +kernel
theorem dL_act_320 : decode cL_act 320 = .ok (.iadd, 1) := by decide +kernel
theorem dL_act_321 : decode cL_act 321 = .ok (.istore 10, 2) := by decide +kernel
theorem dL_act_323 : decode cL_act 323 = .ok (.aload_n 1, 1) := by decide +kernel
theorem dL_act_324 : decode cL_act 324 = .ok (.bipush 7, 2) := by decide +kernel
theorem dL_act_326 : decode cL_act 326 = .ok (.invokevirtual 117, 3) := by decide +kernel
theorem dL_act_329 : decode cL_act 329 = .ok (.istore 11, 2) := by decide +kernel
theorem dL_act_331 : decode cL_act 331 = .ok (.aload_n 1, 1) := by decide +kernel
theorem dL_act_332 : decode cL_act 332 = .ok (.iload 10, 2) := by decide +kernel
theorem dL_act_334 : decode cL_act 334 = .ok (.invokevirtual 120, 3) := by decide +kernel
theorem dL_act_337 : decode cL_act 337 = .ok (.pop, 1) := by decide +kernel
theorem dL_act_338 : decode cL_act 338 = .ok (.aload_n 0, 1) := by decide +kernel
theorem dL_act_339 : decode cL_act 339 = .ok (.iload 10, 2) := by decide +kernel
theorem dL_act_341 : decode cL_act 341 = .ok (.invokevirtual 124, 3) := by decide +kernel
theorem dL_act_344 : decode cL_act 344 = .ok (.aload_n 1, 1) := by decide +kernel
theorem dL_act_345 : decode cL_act 345 = .ok (.bipush 7, 2) := by decide +kernel
theorem dL_act_347 : decode cL_act 347 = .ok (.invokevirtual 117, 3) := by decide +kernel
theorem dL_act_350 : decode cL_act 350 = .ok (.iload 11, 2) := by decide +kernel
theorem dL_act_352 : decode cL_act 352 = .ok (.isub, 1) := by decide +kernel
theorem dL_act_353 : decode cL_act 353 = .ok (.if_icmp .ne 7, 3) := by decide +kernel
theorem dL_act_356 : decode cL_act 356 = .ok (.iconst 1, 1) := by decide +kernel
theorem dL_act_357 : decode cL_act 357 = .ok (.goto 4, 3) := by decide +kernel
theorem dL_act_360 : decode cL_act 360 = .ok (.iconst 0, 1) := by decide +kernel
theorem dL_act_361 : decode cL_act 361 = .ok (.ireturn, 1) := by decide +kernel
abbrev m_L_act : Mt := (cL_act, RL, "act", 12, .ireturn, 8)
def f_L_act_b86 (N : Nat) (z : Nat → Nat) (v0 : Option Nat) (v1 : Option Nat) (v3 : Int32) (v4 : Option Nat) (s0 : Int32) (s1 : Int32) (s2 : Int32) (x0 : Hp) : Option (Int32 × Hp) :=
  bnd (f_L_below N z s1 s0 x0) fun i2 x1 =>
  obj v0 x1 13 fun q5 => bnd (f_X10_bring N z q5 v3 (s2 + i2) x1) fun i4 x3 =>
  obj v1 x3 15 fun q8 => bnd (f_X12_bring N z q8 v4 (s2 + i2) x3) fun i7 x6 =>
  if i4 = i7 then (some ((1 : Int32), x6)) else (some ((0 : Int32), x6))
def f_L_act_b134 (N : Nat) (z : Nat → Nat) (v0 : Option Nat) (v3 : Int32) (v4 : Option Nat) (s0 : Int32) (s1 : Int32) (s2 : Int32) (x0 : Hp) : Option (Int32 × Hp) :=
  bnd (f_L_below N z s1 s0 x0) fun i10 x9 =>
  geti v4 x9 14 264 fun i11 =>
  geti v4 x9 14 266 fun i12 =>
  puti v4 x9 14 266 (if (i12 + (s2 + i10)) < i11 then (i12 + (s2 + i10)) else i11) fun x13 =>
  obj v0 x13 13 fun q16 => bnd (f_X10_give N z q16 v3 (s2 + i10) x13) fun i15 x14 =>
  geti v4 x14 14 266 fun i17 =>
  if i15 = i17 then (some ((1 : Int32), x14)) else (some ((0 : Int32), x14))
def f_L_act (N : Nat) (z : Nat → Nat) (v0 : Option Nat) (v1 : Option Nat) (v2 : Int32) (x0 : Hp) : Option (Int32 × Hp) :=
  getr v1 x0 15 285 fun r18 =>
  alen r18 x0 106 fun i19 =>
  bnd (f_L_below N z (v2 >>> ((1 : Int32) &&& 31)) i19 x0) fun i21 x20 =>
  getr v1 x20 15 285 fun r22 =>
  aldr r22 x20 106 i21 fun r23 =>
  bnd (f_L_below N z (v2 >>> ((7 : Int32) &&& 31)) (9 : Int32) x20) fun i25 x24 =>
  if i25 = (0 : Int32) then (bnd (f_L_below N z v2 (2 : Int32) x24) fun i28 x27 =>
  if i28 = 0 then (f_L_act_b86 N z v0 v1 i21 r23 (30 : Int32) (v2 >>> ((2 : Int32) &&& 31)) (1 : Int32) x27) else (f_L_act_b86 N z v0 v1 i21 r23 (5 : Int32) (v2 >>> ((2 : Int32) &&& 31)) (1 : Int32) x27)) else (if i25 = (1 : Int32) then (bnd (f_L_below N z v2 (2 : Int32) x24) fun i31 x30 =>
  if i31 = 0 then (f_L_act_b86 N z v0 v1 i21 r23 (30 : Int32) (v2 >>> ((2 : Int32) &&& 31)) (1 : Int32) x30) else (f_L_act_b86 N z v0 v1 i21 r23 (5 : Int32) (v2 >>> ((2 : Int32) &&& 31)) (1 : Int32) x30)) else (if i25 = (2 : Int32) then (bnd (f_L_below N z v2 (2 : Int32) x24) fun i34 x33 =>
  if i34 = 0 then (f_L_act_b134 N z v0 i21 r23 (99 : Int32) (v2 >>> ((2 : Int32) &&& 31)) (1 : Int32) x33) else (f_L_act_b134 N z v0 i21 r23 (5 : Int32) (v2 >>> ((2 : Int32) &&& 31)) (1 : Int32) x33)) else (if i25 = (3 : Int32) then (geti r23 x24 14 262 fun i36 =>
  bnd (f_L_below N z (v2 >>> ((2 : Int32) &&& 31)) (31 : Int32) x24) fun i38 x37 =>
  puti r23 x37 14 262 i38 fun x39 =>
  geti r23 x39 14 262 fun i40 =>
  obj v0 x39 13 fun q43 => bnd (f_X10_setRate N z q43 i21 i40 x39) fun i42 x41 =>
  if i42 = i36 then (some ((1 : Int32), x41)) else (some ((0 : Int32), x41))) else (if i25 = (4 : Int32) then (geti r23 x24 14 263 fun i45 =>
  bnd (f_L_below N z (v2 >>> ((2 : Int32) &&& 31)) (31 : Int32) x24) fun i47 x46 =>
  puti r23 x46 14 263 i47 fun x48 =>
  geti r23 x48 14 263 fun i49 =>
  obj v0 x48 13 fun q52 => bnd (f_X10_setMost N z q52 i21 i49 x48) fun i51 x50 =>
  if i51 = i45 then (some ((1 : Int32), x50)) else (some ((0 : Int32), x50))) else (if i25 = (5 : Int32) then (bnd (f_L_below N z v2 (3 : Int32) x24) fun i55 x54 =>
  if i55 ≤ 0 then (geti v1 x54 15 281 fun i56 =>
  bnd (f_L_below N z (v2 >>> ((2 : Int32) &&& 31)) (31 : Int32) x54) fun i58 x57 =>
  puti v1 x57 15 281 i58 fun x59 =>
  geti v1 x59 15 281 fun i60 =>
  obj v0 x59 13 fun q63 => bnd (f_X10_setWell N z q63 i60 x59) fun i62 x61 =>
  if i62 = i56 then (some ((1 : Int32), x61)) else (some ((0 : Int32), x61))) else (some ((1 : Int32), x54))) else (bnd (f_L_below N z (v2 >>> ((2 : Int32) &&& 31)) (6 : Int32) x24) fun i65 x64 =>
  obj v1 x64 15 fun q68 => bnd (f_X12_counted N z q68 (7 : Int32) x64) fun i67 x66 =>
  obj v1 x66 15 fun q71 => bnd (f_X12_behind N z q71 ((1 : Int32) + i65) x66) fun r70 x69 =>
  obj v0 x69 13 fun q74 => bnd (f_X10_pass N z q74 ((1 : Int32) + i65) x69) fun i73 x72 =>
  obj v1 x72 15 fun q77 => bnd (f_X12_counted N z q77 (7 : Int32) x72) fun i76 x75 =>
  if i73 = (i76 - i67) then (some ((1 : Int32), x75)) else (some ((0 : Int32), x75))))))))
set_option maxRecDepth 100000 in
set_option maxHeartbeats 4000000 in
theorem g_L_act_b86 (l : Launch) (N : Nat) (z : Nat → Nat) (v0 : Option Nat) (v1 : Option Nat) (v3 : Int32) (v4 : Option Nat) (s0 : Int32) (s1 : Int32) (s2 : Int32) (x0 : Hp) : G l z m_L_act okZ enI 86 [(0, va_rf v0), (1, va_rf v1), (3, .int v3), (4, va_rf v4)] [.int s0, .int s1, .int s2] x0 (f_L_act_b86 N z v0 v1 v3 v4 s0 s1 s2 x0) := by
  unfold f_L_act_b86
  refine G_callS (av := [.int s1, .int s0]) [.int s2] (ct_L_below l N z s1 s0) yn_L_below (by decide) (by decide) gw_1372 gw_1373 gw_38 gw_1374 rfl (by simp only [hw_n, hw_i, hw_r, hw_j, hw_d]; decide) dL_act_86 (fun i2 x1 => ?_)
  refine G_iadd dL_act_89 ?_
  refine G_istore (i := 5) (l2 := [(0, va_rf v0), (1, va_rf v1), (3, .int v3), (4, va_rf v4)]) [0, 1, 2, 3] dL_act_90 (by decide) rfl (sok_a (by decide) (by decide) (sok_a (by decide) (by decide) (sok_a (by decide) (by decide) (sok_b (by decide) (rf_cat _) trivial)))) ?_
  refine G_aload_n 1 dL_act_92 rfl rfl ?_
  refine G_iload_n 3 dL_act_93 rfl rfl ?_
  refine G_iload 0 dL_act_94 rfl ?_
  refine G_callV (av := [.int v3, .int (s2 + i2)]) [] (fun q5 => ct_X10_bring l N z q5 v3 (s2 + i2)) K_12 rfl yn_X10_bring (by decide) (by decide) gw_1462 gw_1463 gw_1464 gw_39 gw_1465 rfl (by decide) dL_act_96 (fun i4 x3 => ?_)
  refine G_aload_n 2 dL_act_99 rfl rfl ?_
  refine G_aload 4 dL_act_100 rfl ?_
  refine G_iload 0 dL_act_102 rfl ?_
  refine G_callV (av := [va_rf v4, .int (s2 + i2)]) [.int i4] (fun q8 => ct_X12_bring l N z q8 v4 (s2 + i2)) K_14 rfl yn_X12_bring (by decide) (by decide) gw_1468 gw_800 gw_801 gw_54 gw_802 rfl (by simp only [hw_n, hw_i, hw_r, hw_j, hw_d]; decide) dL_act_104 (fun i7 x6 => ?_)
  refine G_icmp_ne (tgt := 114) dL_act_107 (by decide) (fun _ => ?_) (fun _ => ?_)
  · refine G_iconst (v := (1 : Int32)) dL_act_110 rfl ?_
    refine G_goto (tgt := 115) dL_act_111 (by decide) ?_
    exact G_ret (Or.inr rfl) dL_act_115 rfl
  · refine G_iconst (v := (0 : Int32)) dL_act_114 rfl ?_
    exact G_ret (Or.inl rfl) dL_act_115 rfl

set_option maxRecDepth 100000 in
set_option maxHeartbeats 4000000 in
theorem g_L_act_b134 (l : Launch) (N : Nat) (z : Nat → Nat) (v0 : Option Nat) (v3 : Int32) (v4 : Option Nat) (s0 : Int32) (s1 : Int32) (s2 : Int32) (x0 : Hp) : G l z m_L_act okZ enI 134 [(0, va_rf v0), (3, .int v3), (4, va_rf v4)] [.int s0, .int s1, .int s2] x0 (f_L_act_b134 N z v0 v3 v4 s0 s1 s2 x0) := by
  unfold f_L_act_b134
  refine G_callS (av := [.int s1, .int s0]) [.int s2] (ct_L_below l N z s1 s0) yn_L_below (by decide) (by decide) gw_1372 gw_1373 gw_38 gw_1374 rfl (by simp only [hw_n, hw_i, hw_r, hw_j, hw_d]; decide) dL_act_134 (fun i10 x9 => ?_)
  refine G_iadd dL_act_137 ?_
  refine G_istore (i := 6) (l2 := [(0, va_rf v0), (3, .int v3), (4, va_rf v4)]) [0, 1, 2] dL_act_138 (by decide) rfl (sok_a (by decide) (by decide) (sok_a (by decide) (by decide) (sok_a (by decide) (by decide) trivial))) ?_
  refine G_aload 3 dL_act_140 rfl ?_
  refine G_aload 3 dL_act_142 rfl ?_
  refine G_geti (k := 4) K_13 (by decide) rfl rfl rfl gw_1392 rfl dL_act_144 (fun i11 => ?_)
  refine G_aload 3 dL_act_147 rfl ?_
  refine G_geti (k := 6) K_13 (by decide) rfl rfl rfl gw_1399 rfl dL_act_149 (fun i12 => ?_)
  refine G_iload 0 dL_act_152 rfl ?_
  refine G_iadd dL_act_154 ?_
  refine G_mmin (st := [va_rf v4]) gw_1469 gw_670 gw_59 gw_671 (by decide) (by simp only [hw_n, hw_i, hw_r, hw_j, hw_d]; decide) dL_act_155 ?_
  refine G_puti (k := 6) K_13 (by decide) rfl rfl rfl gw_1399 rfl (Or.inl rfl) nar_int.1 nar_int.2 dL_act_158 (fun x13 => ?_)
  refine G_aload_n 1 dL_act_161 rfl rfl ?_
  refine G_iload_n 2 dL_act_162 rfl rfl ?_
  refine G_iload 0 dL_act_163 rfl ?_
  refine G_callV (av := [.int v3, .int (s2 + i10)]) [] (fun q16 => ct_X10_give l N z q16 v3 (s2 + i10)) K_12 rfl yn_X10_give (by decide) (by decide) gw_1470 gw_1471 gw_1472 gw_39 gw_1473 rfl (by decide) dL_act_165 (fun i15 x14 => ?_)
  refine G_aload 3 dL_act_168 rfl ?_
  refine G_geti (k := 6) K_13 (by decide) rfl rfl rfl gw_1399 rfl dL_act_170 (fun i17 => ?_)
  refine G_icmp_ne (tgt := 180) dL_act_173 (by decide) (fun _ => ?_) (fun _ => ?_)
  · refine G_iconst (v := (1 : Int32)) dL_act_176 rfl ?_
    refine G_goto (tgt := 181) dL_act_177 (by decide) ?_
    exact G_ret (Or.inr rfl) dL_act_181 rfl
  · refine G_iconst (v := (0 : Int32)) dL_act_180 rfl ?_
    exact G_ret (Or.inl rfl) dL_act_181 rfl

set_option maxRecDepth 100000 in
set_option maxHeartbeats 4000000 in
theorem g_L_act (l : Launch) (N : Nat) (z : Nat → Nat) (v0 : Option Nat) (v1 : Option Nat) (v2 : Int32) (x0 : Hp) : G l z m_L_act okZ enI 0 [(0, va_rf v0), (1, va_rf v1), (2, .int v2)] [] x0 (f_L_act N z v0 v1 v2 x0) := by
  unfold f_L_act
  refine G_iload_n 2 dL_act_0 rfl rfl ?_
  refine G_iconst (v := (1 : Int32)) dL_act_1 rfl ?_
  refine G_ishr dL_act_2 ?_
  refine G_aload_n 1 dL_act_3 rfl rfl ?_
  refine G_getr (k := 5) K_14 (by decide) rfl rfl rfl gw_1350 rfl dL_act_4 (fun r18 => ?_)
  refine G_alen (t := 6) rfl (by decide) dL_act_7 (fun i19 => ?_)
  refine G_callS (av := [.int (v2 >>> ((1 : Int32) &&& 31)), .int i19]) [] (ct_L_below l N z (v2 >>> ((1 : Int32) &&& 31)) i19) yn_L_below (by decide) (by decide) gw_1372 gw_1373 gw_38 gw_1374 rfl (by decide) dL_act_8 (fun i21 x20 => ?_)
  refine G_istore_n (i := 3) (l2 := [(0, va_rf v0), (1, va_rf v1), (2, .int v2)]) [0, 1, 2] dL_act_11 rfl (by decide) rfl (sok_a (by decide) (by decide) (sok_a (by decide) (by decide) (sok_b (by decide) rfl trivial))) ?_
  refine G_aload_n 2 dL_act_12 rfl rfl ?_
  refine G_getr (k := 5) K_14 (by decide) rfl rfl rfl gw_1350 rfl dL_act_13 (fun r22 => ?_)
  refine G_iload_n 0 dL_act_16 rfl rfl ?_
  refine G_aald (t := 6) rfl (by decide) (by decide) dL_act_17 (fun r23 => ?_)
  refine G_astore (i := 4) (l2 := [(3, .int i21), (0, va_rf v0), (1, va_rf v1), (2, .int v2)]) [0, 1, 2, 3] dL_act_18 (by decide) rfl (sok_b (by decide) rfl (sok_a (by decide) (by decide) (sok_a (by decide) (by decide) (sok_a (by decide) (by decide) trivial)))) ?_
  refine G_iload_n 4 dL_act_20 rfl rfl ?_
  refine G_bipush (v := (7 : Int32)) dL_act_21 (by decide) ?_
  refine G_ishr dL_act_23 ?_
  refine G_bipush (v := (9 : Int32)) dL_act_24 (by decide) ?_
  refine G_callS (av := [.int (v2 >>> ((7 : Int32) &&& 31)), .int (9 : Int32)]) [] (ct_L_below l N z (v2 >>> ((7 : Int32) &&& 31)) (9 : Int32)) yn_L_below (by decide) (by decide) gw_1372 gw_1373 gw_38 gw_1374 rfl (by decide) dL_act_26 (fun i25 x24 => ?_)
  refine G_if (fun hs26 => ?_) (fun hs26 => ?_)
  · refine G_tableIn (tgt := 68) dL_act_29 (by rw [hs26]; decide) (by rw [hs26]; decide) (by rw [hs26]; rfl) (by decide) ?_
    refine G_iconst (v := (1 : Int32)) dL_act_68 rfl ?_
    refine G_iload_n 4 dL_act_69 rfl rfl ?_
    refine G_iconst (v := (2 : Int32)) dL_act_70 rfl ?_
    refine G_ishr dL_act_71 ?_
    refine G_iload_n 4 dL_act_72 rfl rfl ?_
    refine G_iconst (v := (2 : Int32)) dL_act_73 rfl ?_
    refine G_callS (av := [.int v2, .int (2 : Int32)]) [.int (v2 >>> ((2 : Int32) &&& 31)), .int (1 : Int32)] (ct_L_below l N z v2 (2 : Int32)) yn_L_below (by decide) (by decide) gw_1372 gw_1373 gw_38 gw_1374 rfl (by simp only [hw_n, hw_i, hw_r, hw_j, hw_d]; decide) dL_act_74 (fun i28 x27 => ?_)
    refine G_if_ne (tgt := 85) dL_act_77 (by decide) (fun _ => ?_) (fun _ => ?_)
    · refine G_bipush (v := (30 : Int32)) dL_act_80 (by decide) ?_
      refine G_goto (tgt := 86) dL_act_82 (by decide) ?_
      refine G_lv [2, 3, 1, 0] rfl ?_
      exact g_L_act_b86 l N z v0 v1 i21 r23 (30 : Int32) (v2 >>> ((2 : Int32) &&& 31)) (1 : Int32) x27
    · refine G_iconst (v := (5 : Int32)) dL_act_85 rfl ?_
      refine G_lv [2, 3, 1, 0] rfl ?_
      exact g_L_act_b86 l N z v0 v1 i21 r23 (5 : Int32) (v2 >>> ((2 : Int32) &&& 31)) (1 : Int32) x27
  refine G_if (fun hs29 => ?_) (fun hs29 => ?_)
  · refine G_tableIn (tgt := 68) dL_act_29 (by rw [hs29]; decide) (by rw [hs29]; decide) (by rw [hs29]; rfl) (by decide) ?_
    refine G_iconst (v := (1 : Int32)) dL_act_68 rfl ?_
    refine G_iload_n 4 dL_act_69 rfl rfl ?_
    refine G_iconst (v := (2 : Int32)) dL_act_70 rfl ?_
    refine G_ishr dL_act_71 ?_
    refine G_iload_n 4 dL_act_72 rfl rfl ?_
    refine G_iconst (v := (2 : Int32)) dL_act_73 rfl ?_
    refine G_callS (av := [.int v2, .int (2 : Int32)]) [.int (v2 >>> ((2 : Int32) &&& 31)), .int (1 : Int32)] (ct_L_below l N z v2 (2 : Int32)) yn_L_below (by decide) (by decide) gw_1372 gw_1373 gw_38 gw_1374 rfl (by simp only [hw_n, hw_i, hw_r, hw_j, hw_d]; decide) dL_act_74 (fun i31 x30 => ?_)
    refine G_if_ne (tgt := 85) dL_act_77 (by decide) (fun _ => ?_) (fun _ => ?_)
    · refine G_bipush (v := (30 : Int32)) dL_act_80 (by decide) ?_
      refine G_goto (tgt := 86) dL_act_82 (by decide) ?_
      refine G_lv [2, 3, 1, 0] rfl ?_
      exact g_L_act_b86 l N z v0 v1 i21 r23 (30 : Int32) (v2 >>> ((2 : Int32) &&& 31)) (1 : Int32) x30
    · refine G_iconst (v := (5 : Int32)) dL_act_85 rfl ?_
      refine G_lv [2, 3, 1, 0] rfl ?_
      exact g_L_act_b86 l N z v0 v1 i21 r23 (5 : Int32) (v2 >>> ((2 : Int32) &&& 31)) (1 : Int32) x30
  refine G_if (fun hs32 => ?_) (fun hs32 => ?_)
  · refine G_tableIn (tgt := 116) dL_act_29 (by rw [hs32]; decide) (by rw [hs32]; decide) (by rw [hs32]; rfl) (by decide) ?_
    refine G_iconst (v := (1 : Int32)) dL_act_116 rfl ?_
    refine G_iload_n 4 dL_act_117 rfl rfl ?_
    refine G_iconst (v := (2 : Int32)) dL_act_118 rfl ?_
    refine G_ishr dL_act_119 ?_
    refine G_iload_n 4 dL_act_120 rfl rfl ?_
    refine G_iconst (v := (2 : Int32)) dL_act_121 rfl ?_
    refine G_callS (av := [.int v2, .int (2 : Int32)]) [.int (v2 >>> ((2 : Int32) &&& 31)), .int (1 : Int32)] (ct_L_below l N z v2 (2 : Int32)) yn_L_below (by decide) (by decide) gw_1372 gw_1373 gw_38 gw_1374 rfl (by simp only [hw_n, hw_i, hw_r, hw_j, hw_d]; decide) dL_act_122 (fun i34 x33 => ?_)
    refine G_if_ne (tgt := 133) dL_act_125 (by decide) (fun _ => ?_) (fun _ => ?_)
    · refine G_bipush (v := (99 : Int32)) dL_act_128 (by decide) ?_
      refine G_goto (tgt := 134) dL_act_130 (by decide) ?_
      refine G_lv [2, 1, 0] rfl ?_
      exact g_L_act_b134 l N z v0 i21 r23 (99 : Int32) (v2 >>> ((2 : Int32) &&& 31)) (1 : Int32) x33
    · refine G_iconst (v := (5 : Int32)) dL_act_133 rfl ?_
      refine G_lv [2, 1, 0] rfl ?_
      exact g_L_act_b134 l N z v0 i21 r23 (5 : Int32) (v2 >>> ((2 : Int32) &&& 31)) (1 : Int32) x33
  refine G_if (fun hs35 => ?_) (fun hs35 => ?_)
  · refine G_tableIn (tgt := 182) dL_act_29 (by rw [hs35]; decide) (by rw [hs35]; decide) (by rw [hs35]; rfl) (by decide) ?_
    refine G_aload 0 dL_act_182 rfl ?_
    refine G_geti (k := 2) K_13 (by decide) rfl rfl rfl gw_1387 rfl dL_act_184 (fun i36 => ?_)
    refine G_istore (i := 7) (l2 := [(4, va_rf r23), (3, .int i21), (0, va_rf v0), (1, va_rf v1), (2, .int v2)]) [0, 1, 2, 3, 4] dL_act_187 (by decide) rfl (sok_a (by decide) (by decide) (sok_a (by decide) (by decide) (sok_a (by decide) (by decide) (sok_a (by decide) (by decide) (sok_a (by decide) (by decide) trivial))))) ?_
    refine G_aload 1 dL_act_189 rfl ?_
    refine G_iload_n 5 dL_act_191 rfl rfl ?_
    refine G_iconst (v := (2 : Int32)) dL_act_192 rfl ?_
    refine G_ishr dL_act_193 ?_
    refine G_bipush (v := (31 : Int32)) dL_act_194 (by decide) ?_
    refine G_callS (av := [.int (v2 >>> ((2 : Int32) &&& 31)), .int (31 : Int32)]) [va_rf r23] (ct_L_below l N z (v2 >>> ((2 : Int32) &&& 31)) (31 : Int32)) yn_L_below (by decide) (by decide) gw_1372 gw_1373 gw_38 gw_1374 rfl (by simp only [hw_n, hw_i, hw_r, hw_j, hw_d]; decide) dL_act_196 (fun i38 x37 => ?_)
    refine G_puti (k := 2) K_13 (by decide) rfl rfl rfl gw_1387 rfl (Or.inl rfl) nar_int.1 nar_int.2 dL_act_199 (fun x39 => ?_)
    refine G_aload_n 3 dL_act_202 rfl rfl ?_
    refine G_iload_n 2 dL_act_203 rfl rfl ?_
    refine G_aload 1 dL_act_204 rfl ?_
    refine G_geti (k := 2) K_13 (by decide) rfl rfl rfl gw_1387 rfl dL_act_206 (fun i40 => ?_)
    refine G_callV (av := [.int i21, .int i40]) [] (fun q43 => ct_X10_setRate l N z q43 i21 i40) K_12 rfl yn_X10_setRate (by decide) (by decide) gw_1476 gw_1477 gw_1478 gw_39 gw_1479 rfl (by decide) dL_act_209 (fun i42 x41 => ?_)
    refine G_iload 0 dL_act_212 rfl ?_
    refine G_icmp_ne (tgt := 221) dL_act_214 (by decide) (fun _ => ?_) (fun _ => ?_)
    · refine G_iconst (v := (1 : Int32)) dL_act_217 rfl ?_
      refine G_goto (tgt := 222) dL_act_218 (by decide) ?_
      exact G_ret (Or.inr rfl) dL_act_222 rfl
    · refine G_iconst (v := (0 : Int32)) dL_act_221 rfl ?_
      exact G_ret (Or.inl rfl) dL_act_222 rfl
  refine G_if (fun hs44 => ?_) (fun hs44 => ?_)
  · refine G_tableIn (tgt := 223) dL_act_29 (by rw [hs44]; decide) (by rw [hs44]; decide) (by rw [hs44]; rfl) (by decide) ?_
    refine G_aload 0 dL_act_223 rfl ?_
    refine G_geti (k := 3) K_13 (by decide) rfl rfl rfl gw_1390 rfl dL_act_225 (fun i45 => ?_)
    refine G_istore (i := 8) (l2 := [(4, va_rf r23), (3, .int i21), (0, va_rf v0), (1, va_rf v1), (2, .int v2)]) [0, 1, 2, 3, 4] dL_act_228 (by decide) rfl (sok_a (by decide) (by decide) (sok_a (by decide) (by decide) (sok_a (by decide) (by decide) (sok_a (by decide) (by decide) (sok_a (by decide) (by decide) trivial))))) ?_
    refine G_aload 1 dL_act_230 rfl ?_
    refine G_iload_n 5 dL_act_232 rfl rfl ?_
    refine G_iconst (v := (2 : Int32)) dL_act_233 rfl ?_
    refine G_ishr dL_act_234 ?_
    refine G_bipush (v := (31 : Int32)) dL_act_235 (by decide) ?_
    refine G_callS (av := [.int (v2 >>> ((2 : Int32) &&& 31)), .int (31 : Int32)]) [va_rf r23] (ct_L_below l N z (v2 >>> ((2 : Int32) &&& 31)) (31 : Int32)) yn_L_below (by decide) (by decide) gw_1372 gw_1373 gw_38 gw_1374 rfl (by simp only [hw_n, hw_i, hw_r, hw_j, hw_d]; decide) dL_act_237 (fun i47 x46 => ?_)
    refine G_puti (k := 3) K_13 (by decide) rfl rfl rfl gw_1390 rfl (Or.inl rfl) nar_int.1 nar_int.2 dL_act_240 (fun x48 => ?_)
    refine G_aload_n 3 dL_act_243 rfl rfl ?_
    refine G_iload_n 2 dL_act_244 rfl rfl ?_
    refine G_aload 1 dL_act_245 rfl ?_
    refine G_geti (k := 3) K_13 (by decide) rfl rfl rfl gw_1390 rfl dL_act_247 (fun i49 => ?_)
    refine G_callV (av := [.int i21, .int i49]) [] (fun q52 => ct_X10_setMost l N z q52 i21 i49) K_12 rfl yn_X10_setMost (by decide) (by decide) gw_1481 gw_1482 gw_1483 gw_39 gw_1484 rfl (by decide) dL_act_250 (fun i51 x50 => ?_)
    refine G_iload 0 dL_act_253 rfl ?_
    refine G_icmp_ne (tgt := 262) dL_act_255 (by decide) (fun _ => ?_) (fun _ => ?_)
    · refine G_iconst (v := (1 : Int32)) dL_act_258 rfl ?_
      refine G_goto (tgt := 263) dL_act_259 (by decide) ?_
      exact G_ret (Or.inr rfl) dL_act_263 rfl
    · refine G_iconst (v := (0 : Int32)) dL_act_262 rfl ?_
      exact G_ret (Or.inl rfl) dL_act_263 rfl
  refine G_if (fun hs53 => ?_) (fun hs53 => ?_)
  · refine G_tableIn (tgt := 264) dL_act_29 (by rw [hs53]; decide) (by rw [hs53]; decide) (by rw [hs53]; rfl) (by decide) ?_
    refine G_iload_n 4 dL_act_264 rfl rfl ?_
    refine G_iconst (v := (3 : Int32)) dL_act_265 rfl ?_
    refine G_callS (av := [.int v2, .int (3 : Int32)]) [] (ct_L_below l N z v2 (3 : Int32)) yn_L_below (by decide) (by decide) gw_1372 gw_1373 gw_38 gw_1374 rfl (by decide) dL_act_266 (fun i55 x54 => ?_)
    refine G_if_le (tgt := 274) dL_act_269 (by decide) (fun _ => ?_) (fun _ => ?_)
    · refine G_aload_n 3 dL_act_274 rfl rfl ?_
      refine G_geti (k := 1) K_14 (by decide) rfl rfl rfl gw_1345 rfl dL_act_275 (fun i56 => ?_)
      refine G_istore (i := 9) (l2 := [(4, va_rf r23), (3, .int i21), (0, va_rf v0), (1, va_rf v1), (2, .int v2)]) [0, 1, 2, 3, 4] dL_act_278 (by decide) rfl (sok_a (by decide) (by decide) (sok_a (by decide) (by decide) (sok_a (by decide) (by decide) (sok_a (by decide) (by decide) (sok_a (by decide) (by decide) trivial))))) ?_
      refine G_aload_n 4 dL_act_280 rfl rfl ?_
      refine G_iload_n 5 dL_act_281 rfl rfl ?_
      refine G_iconst (v := (2 : Int32)) dL_act_282 rfl ?_
      refine G_ishr dL_act_283 ?_
      refine G_bipush (v := (31 : Int32)) dL_act_284 (by decide) ?_
      refine G_callS (av := [.int (v2 >>> ((2 : Int32) &&& 31)), .int (31 : Int32)]) [va_rf v1] (ct_L_below l N z (v2 >>> ((2 : Int32) &&& 31)) (31 : Int32)) yn_L_below (by decide) (by decide) gw_1372 gw_1373 gw_38 gw_1374 rfl (by simp only [hw_n, hw_i, hw_r, hw_j, hw_d]; decide) dL_act_286 (fun i58 x57 => ?_)
      refine G_puti (k := 1) K_14 (by decide) rfl rfl rfl gw_1345 rfl (Or.inl rfl) nar_int.1 nar_int.2 dL_act_289 (fun x59 => ?_)
      refine G_aload_n 3 dL_act_292 rfl rfl ?_
      refine G_aload_n 4 dL_act_293 rfl rfl ?_
      refine G_geti (k := 1) K_14 (by decide) rfl rfl rfl gw_1345 rfl dL_act_294 (fun i60 => ?_)
      refine G_callV (av := [.int i60]) [] (fun q63 => ct_X10_setWell l N z q63 i60) K_12 rfl yn_X10_setWell (by decide) (by decide) gw_1486 gw_1487 gw_1488 gw_39 gw_1489 rfl (by decide) dL_act_297 (fun i62 x61 => ?_)
      refine G_iload 0 dL_act_300 rfl ?_
      refine G_icmp_ne (tgt := 309) dL_act_302 (by decide) (fun _ => ?_) (fun _ => ?_)
      · refine G_iconst (v := (1 : Int32)) dL_act_305 rfl ?_
        refine G_goto (tgt := 310) dL_act_306 (by decide) ?_
        exact G_ret (Or.inr rfl) dL_act_310 rfl
      · refine G_iconst (v := (0 : Int32)) dL_act_309 rfl ?_
        exact G_ret (Or.inl rfl) dL_act_310 rfl
    · refine G_iconst (v := (1 : Int32)) dL_act_272 rfl ?_
      exact G_ret (Or.inr rfl) dL_act_273 rfl
  refine G_tableOut (tgt := 311) dL_act_29 (by have q0 := i32_ne hs26; rw [show (0 : Int32).toInt = 0 from by decide] at q0; have q1 := i32_ne hs29; rw [show (1 : Int32).toInt = 1 from by decide] at q1; have q2 := i32_ne hs32; rw [show (2 : Int32).toInt = 2 from by decide] at q2; have q3 := i32_ne hs35; rw [show (3 : Int32).toInt = 3 from by decide] at q3; have q4 := i32_ne hs44; rw [show (4 : Int32).toInt = 4 from by decide] at q4; have q5 := i32_ne hs53; rw [show (5 : Int32).toInt = 5 from by decide] at q5; omega) (by decide) ?_
  refine G_iconst (v := (1 : Int32)) dL_act_311 rfl ?_
  refine G_iload_n 4 dL_act_312 rfl rfl ?_
  refine G_iconst (v := (2 : Int32)) dL_act_313 rfl ?_
  refine G_ishr dL_act_314 ?_
  refine G_bipush (v := (6 : Int32)) dL_act_315 (by decide) ?_
  refine G_callS (av := [.int (v2 >>> ((2 : Int32) &&& 31)), .int (6 : Int32)]) [.int (1 : Int32)] (ct_L_below l N z (v2 >>> ((2 : Int32) &&& 31)) (6 : Int32)) yn_L_below (by decide) (by decide) gw_1372 gw_1373 gw_38 gw_1374 rfl (by simp only [hw_n, hw_i, hw_r, hw_j, hw_d]; decide) dL_act_317 (fun i65 x64 => ?_)
  refine G_iadd dL_act_320 ?_
  refine G_istore (i := 10) (l2 := [(4, va_rf r23), (3, .int i21), (0, va_rf v0), (1, va_rf v1), (2, .int v2)]) [0, 1, 2, 3, 4] dL_act_321 (by decide) rfl (sok_a (by decide) (by decide) (sok_a (by decide) (by decide) (sok_a (by decide) (by decide) (sok_a (by decide) (by decide) (sok_a (by decide) (by decide) trivial))))) ?_
  refine G_aload_n 4 dL_act_323 rfl rfl ?_
  refine G_bipush (v := (7 : Int32)) dL_act_324 (by decide) ?_
  refine G_callV (av := [.int (7 : Int32)]) [] (fun q68 => ct_X12_counted l N z q68 (7 : Int32)) K_14 rfl yn_X12_counted (by decide) (by decide) gw_1491 gw_826 gw_827 gw_54 gw_828 rfl (by decide) dL_act_326 (fun i67 x66 => ?_)
  refine G_istore (i := 11) (l2 := [(10, .int ((1 : Int32) + i65)), (4, va_rf r23), (3, .int i21), (0, va_rf v0), (1, va_rf v1), (2, .int v2)]) [0, 1, 2, 3, 4, 5] dL_act_329 (by decide) rfl (sok_b (by decide) rfl (sok_a (by decide) (by decide) (sok_a (by decide) (by decide) (sok_a (by decide) (by decide) (sok_a (by decide) (by decide) (sok_a (by decide) (by decide) trivial)))))) ?_
  refine G_aload_n 5 dL_act_331 rfl rfl ?_
  refine G_iload 1 dL_act_332 rfl ?_
  refine G_callV (av := [.int ((1 : Int32) + i65)]) [] (fun q71 => ct_X12_behind l N z q71 ((1 : Int32) + i65)) K_14 rfl yn_X12_behind (by decide) (by decide) gw_1492 gw_1493 gw_1494 gw_54 gw_1495 rfl (by decide) dL_act_334 (fun r70 x69 => ?_)
  refine G_pop dL_act_337 (rf_cat _) ?_
  refine G_aload_n 4 dL_act_338 rfl rfl ?_
  refine G_iload 1 dL_act_339 rfl ?_
  refine G_callV (av := [.int ((1 : Int32) + i65)]) [] (fun q74 => ct_X10_pass l N z q74 ((1 : Int32) + i65)) K_12 rfl yn_X10_pass (by decide) (by decide) gw_603 gw_604 gw_605 gw_39 gw_606 rfl (by decide) dL_act_341 (fun i73 x72 => ?_)
  refine G_aload_n 5 dL_act_344 rfl rfl ?_
  refine G_bipush (v := (7 : Int32)) dL_act_345 (by decide) ?_
  refine G_callV (av := [.int (7 : Int32)]) [.int i73] (fun q77 => ct_X12_counted l N z q77 (7 : Int32)) K_14 rfl yn_X12_counted (by decide) (by decide) gw_1491 gw_826 gw_827 gw_54 gw_828 rfl (by simp only [hw_n, hw_i, hw_r, hw_j, hw_d]; decide) dL_act_347 (fun i76 x75 => ?_)
  refine G_iload 0 dL_act_350 rfl ?_
  refine G_isub dL_act_352 ?_
  refine G_icmp_ne (tgt := 360) dL_act_353 (by decide) (fun _ => ?_) (fun _ => ?_)
  · refine G_iconst (v := (1 : Int32)) dL_act_356 rfl ?_
    refine G_goto (tgt := 361) dL_act_357 (by decide) ?_
    exact G_ret (Or.inr rfl) dL_act_361 rfl
  · refine G_iconst (v := (0 : Int32)) dL_act_360 rfl ?_
    exact G_ret (Or.inl rfl) dL_act_361 rfl

theorem yn_L_act : Yn yL_act 3 := ⟨by decide +kernel, by decide +kernel, by decide +kernel⟩
theorem ct_L_act (l : Launch) (N : Nat) (z : Nat → Nat) (v0 : Option Nat) (v1 : Option Nat) (v2 : Int32) : Ct l z yL_act cL_act 12 (some .boolean) 8 enI [va_rf v0, va_rf v1, .int v2] (f_L_act N z v0 v1 v2) :=
  Ct_z (fun x => G_lv0 (by simp only [lva_n, lva_i, lva_o, lva_r, lva_j]) (g_L_act l N z v0 v1 v2 x)) (by decide +kernel) (by simp only [lgl_n, lgl_i, lgl_o, lgl_r, lgl_j]; decide)

theorem dL_hasShut_0 : decode cL_hasShut 0 = .ok (.aload_n 0, 1) := by decide +kernel
theorem dL_hasShut_1 : decode cL_hasShut 1 = .ok (.getfield 91, 3) := by decide +kernel
theorem dL_hasShut_4 : decode cL_hasShut 4 = .ok (.astore_n 2, 1) := by decide +kernel
theorem dL_hasShut_5 : decode cL_hasShut 5 = .ok (.aload_n 2, 1) := by decide +kernel
theorem dL_hasShut_6 : decode cL_hasShut 6 = .ok (.arraylength, 1) := by decide +kernel
theorem dL_hasShut_7 : decode cL_hasShut 7 = .ok (.istore_n 3, 1) := by decide +kernel
theorem dL_hasShut_8 : decode cL_hasShut 8 = .ok (.iconst 0, 1) := by decide +kernel
theorem dL_hasShut_9 : decode cL_hasShut 9 = .ok (.istore 4, 2) := by decide +kernel
theorem dL_hasShut_11 : decode cL_hasShut 11 = .ok (.iload 4, 2) := by decide +kernel
theorem dL_hasShut_13 : decode cL_hasShut 13 = .ok (.iload_n 3, 1) := by decide +kernel
theorem dL_hasShut_14 : decode cL_hasShut 14 = .ok (.if_icmp .ge 33, 3) := by decide +kernel
theorem dL_hasShut_17 : decode cL_hasShut 17 = .ok (.aload_n 2, 1) := by decide +kernel
theorem dL_hasShut_18 : decode cL_hasShut 18 = .ok (.iload 4, 2) := by decide +kernel
theorem dL_hasShut_20 : decode cL_hasShut 20 = .ok (.aaload, 1) := by decide +kernel
theorem dL_hasShut_21 : decode cL_hasShut 21 = .ok (.astore 5, 2) := by decide +kernel
theorem dL_hasShut_23 : decode cL_hasShut 23 = .ok (.aload 5, 2) := by decide +kernel
theorem dL_hasShut_25 : decode cL_hasShut 25 = .ok (.iconst 0, 1) := by decide +kernel
theorem dL_hasShut_26 : decode cL_hasShut 26 = .ok (.iaload, 1) := by decide +kernel
theorem dL_hasShut_27 : decode cL_hasShut 27 = .ok (.iconst 2, 1) := by decide +kernel
theorem dL_hasShut_28 : decode cL_hasShut 28 = .ok (.if_icmp .ne 13, 3) := by decide +kernel
theorem dL_hasShut_31 : decode cL_hasShut 31 = .ok (.aload 5, 2) := by decide +kernel
theorem dL_hasShut_33 : decode cL_hasShut 33 = .ok (.iconst 1, 1) := by decide +kernel
theorem dL_hasShut_34 : decode cL_hasShut 34 = .ok (.iaload, 1) := by decide +kernel
theorem dL_hasShut_35 : decode cL_hasShut 35 = .ok (.iload_n 1, 1) := by decide +kernel
theorem dL_hasShut_36 : decode cL_hasShut 36 = .ok (.if_icmp .ne 5, 3) := by decide +kernel
theorem dL_hasShut_39 : decode cL_hasShut 39 = .ok (.iconst 1, 1) := by decide +kernel
theorem dL_hasShut_40 : decode cL_hasShut 40 = .ok (.ireturn, 1) := by decide +kernel
theorem dL_hasShut_41 : decode cL_hasShut 41 = .ok (.iinc 4 1, 3) := by decide +kernel
theorem dL_hasShut_44 : decode cL_hasShut 44 = .ok (.goto (-33), 3) := by decide +kernel
theorem dL_hasShut_47 : decode cL_hasShut 47 = .ok (.iconst 0, 1) := by decide +kernel
theorem dL_hasShut_48 : decode cL_hasShut 48 = .ok (.ireturn, 1) := by decide +kernel
abbrev m_L_hasShut : Mt := (cL_hasShut, RL, "hasShut", 6, .ireturn, 1)
def f_L_hasShut_b41 (N : Nat) (z : Nat → Nat) (k11 : Int32 → Option Nat → Int32 → Int32 → Hp → Option (Int32 × Hp)) (v1 : Int32) (v2 : Option Nat) (v3 : Int32) (v4 : Int32) (x0 : Hp) : Option (Int32 × Hp) :=
  k11 v1 v2 v3 (v4 + (1 : Int32)) x0
def f_L_hasShut_b11 (N : Nat) (z : Nat → Nat) : Nat → Int32 → Option Nat → Int32 → Int32 → Hp → Option (Int32 × Hp)
  | 0, _, _, _, _, _ => none
  | n + 1, v1, v2, v3, v4, x0 => if v3 ≤ v4 then (some ((0 : Int32), x0)) else (aldr v2 x0 107 v4 fun r1 =>
  aldi r1 x0 101 (0 : Int32) fun i2 =>
  if i2 = (2 : Int32) then (aldi r1 x0 101 (1 : Int32) fun i3 =>
  if i3 = v1 then (some ((1 : Int32), x0)) else (f_L_hasShut_b41 N z (f_L_hasShut_b11 N z n) v1 v2 v3 v4 x0)) else (f_L_hasShut_b41 N z (f_L_hasShut_b11 N z n) v1 v2 v3 v4 x0))
def f_L_hasShut (N : Nat) (z : Nat → Nat) (v0 : Option Nat) (v1 : Int32) (x0 : Hp) : Option (Int32 × Hp) :=
  getr v0 x0 15 287 fun r4 =>
  alen r4 x0 107 fun i5 =>
  f_L_hasShut_b11 N z N v1 r4 i5 (0 : Int32) x0
set_option maxRecDepth 100000 in
set_option maxHeartbeats 4000000 in
theorem g_L_hasShut_b41 (l : Launch) (N : Nat) (z : Nat → Nat) {k11 : Int32 → Option Nat → Int32 → Int32 → Hp → Option (Int32 × Hp)} (hk11 : ∀ v1 v2 v3 v4 x, G l z m_L_hasShut okZ enI 11 [(1, .int v1), (2, va_rf v2), (3, .int v3), (4, .int v4)] [] x (k11 v1 v2 v3 v4 x)) (v1 : Int32) (v2 : Option Nat) (v3 : Int32) (v4 : Int32) (x0 : Hp) : G l z m_L_hasShut okZ enI 41 [(1, .int v1), (2, va_rf v2), (3, .int v3), (4, .int v4)] [] x0 (f_L_hasShut_b41 N z k11 v1 v2 v3 v4 x0) := by
  unfold f_L_hasShut_b41
  refine G_iinc (i := 4) (l2 := [(1, .int v1), (2, va_rf v2), (3, .int v3)]) 3 [0, 1, 2] dL_hasShut_41 rfl rfl (by decide) rfl (sok_a (by decide) (by decide) (sok_a (by decide) (by decide) (sok_b (by decide) rfl trivial))) ?_
  refine G_goto (tgt := 11) dL_hasShut_44 (by decide) ?_
  refine G_lv [1, 2, 3, 0] rfl ?_
  exact hk11 v1 v2 v3 (v4 + (1 : Int32)) x0

set_option maxRecDepth 100000 in
set_option maxHeartbeats 4000000 in
theorem g_L_hasShut_b11 (l : Launch) (N : Nat) (z : Nat → Nat) : ∀ (n : Nat) (v1 : Int32) (v2 : Option Nat) (v3 : Int32) (v4 : Int32) (x0 : Hp), G l z m_L_hasShut okZ enI 11 [(1, .int v1), (2, va_rf v2), (3, .int v3), (4, .int v4)] [] x0 (f_L_hasShut_b11 N z n v1 v2 v3 v4 x0) := by
  intro n
  induction n with
  | zero => intro v1 v2 v3 v4 x0; exact G_none
  | succ n ih =>
  intro v1 v2 v3 v4 x0
  rw [f_L_hasShut_b11]
  refine G_iload 3 dL_hasShut_11 rfl ?_
  refine G_iload_n 2 dL_hasShut_13 rfl rfl ?_
  refine G_icmp_ge (tgt := 47) dL_hasShut_14 (by decide) (fun _ => ?_) (fun _ => ?_)
  · refine G_iconst (v := (0 : Int32)) dL_hasShut_47 rfl ?_
    exact G_ret (Or.inl rfl) dL_hasShut_48 rfl
  · refine G_aload_n 1 dL_hasShut_17 rfl rfl ?_
    refine G_iload 3 dL_hasShut_18 rfl ?_
    refine G_aald (t := 7) rfl (by decide) (by decide) dL_hasShut_20 (fun r1 => ?_)
    refine G_astore (i := 5) (l2 := [(1, .int v1), (2, va_rf v2), (3, .int v3), (4, .int v4)]) [0, 1, 2, 3] dL_hasShut_21 (by decide) rfl (sok_a (by decide) (by decide) (sok_a (by decide) (by decide) (sok_a (by decide) (by decide) (sok_b (by decide) rfl trivial)))) ?_
    refine G_aload 0 dL_hasShut_23 rfl ?_
    refine G_iconst (v := (0 : Int32)) dL_hasShut_25 rfl ?_
    refine G_iald dL_hasShut_26 (fun i2 => ?_)
    refine G_iconst (v := (2 : Int32)) dL_hasShut_27 rfl ?_
    refine G_icmp_ne (tgt := 41) dL_hasShut_28 (by decide) (fun _ => ?_) (fun _ => ?_)
    · refine G_aload 0 dL_hasShut_31 rfl ?_
      refine G_iconst (v := (1 : Int32)) dL_hasShut_33 rfl ?_
      refine G_iald dL_hasShut_34 (fun i3 => ?_)
      refine G_iload_n 1 dL_hasShut_35 rfl rfl ?_
      refine G_icmp_ne (tgt := 41) dL_hasShut_36 (by decide) (fun _ => ?_) (fun _ => ?_)
      · refine G_iconst (v := (1 : Int32)) dL_hasShut_39 rfl ?_
        exact G_ret (Or.inr rfl) dL_hasShut_40 rfl
      · refine G_lv [1, 2, 3, 4] rfl ?_
        exact g_L_hasShut_b41 l N z ih v1 v2 v3 v4 x0
    · refine G_lv [1, 2, 3, 4] rfl ?_
      exact g_L_hasShut_b41 l N z ih v1 v2 v3 v4 x0

set_option maxRecDepth 100000 in
set_option maxHeartbeats 4000000 in
theorem g_L_hasShut (l : Launch) (N : Nat) (z : Nat → Nat) (v0 : Option Nat) (v1 : Int32) (x0 : Hp) : G l z m_L_hasShut okZ enI 0 [(0, va_rf v0), (1, .int v1)] [] x0 (f_L_hasShut N z v0 v1 x0) := by
  unfold f_L_hasShut
  refine G_aload_n 0 dL_hasShut_0 rfl rfl ?_
  refine G_getr (k := 7) K_14 (by decide) rfl rfl rfl gw_1354 rfl dL_hasShut_1 (fun r4 => ?_)
  refine G_astore_n (i := 2) (l2 := [(0, va_rf v0), (1, .int v1)]) [0, 1] dL_hasShut_4 rfl (by decide) rfl (sok_a (by decide) (by decide) (sok_b (by decide) rfl trivial)) ?_
  refine G_aload_n 0 dL_hasShut_5 rfl rfl ?_
  refine G_alen (t := 7) rfl (by decide) dL_hasShut_6 (fun i5 => ?_)
  refine G_istore_n (i := 3) (l2 := [(2, va_rf r4), (0, va_rf v0), (1, .int v1)]) [0, 1, 2] dL_hasShut_7 rfl (by decide) rfl (sok_b (by decide) (rf_cat _) (sok_a (by decide) (by decide) (sok_a (by decide) (by decide) trivial))) ?_
  refine G_iconst (v := (0 : Int32)) dL_hasShut_8 rfl ?_
  refine G_istore (i := 4) (l2 := [(3, .int i5), (2, va_rf r4), (0, va_rf v0), (1, .int v1)]) [0, 1, 2, 3] dL_hasShut_9 (by decide) rfl (sok_b (by decide) rfl (sok_a (by decide) (by decide) (sok_a (by decide) (by decide) (sok_a (by decide) (by decide) trivial)))) ?_
  refine G_lv [4, 2, 1, 0] rfl ?_
  exact g_L_hasShut_b11 l N z N v1 r4 i5 (0 : Int32) x0

theorem yn_L_hasShut : Yn yL_hasShut 2 := ⟨by decide +kernel, by decide +kernel, by decide +kernel⟩
theorem ct_L_hasShut (l : Launch) (N : Nat) (z : Nat → Nat) (v0 : Option Nat) (v1 : Int32) : Ct l z yL_hasShut cL_hasShut 6 (some .boolean) 1 enI [va_rf v0, .int v1] (f_L_hasShut N z v0 v1) :=
  Ct_z (fun x => G_lv0 (by simp only [lva_n, lva_i, lva_o, lva_r, lva_j]) (g_L_hasShut l N z v0 v1 x)) (by decide +kernel) (by simp only [lgl_n, lgl_i, lgl_o, lgl_r, lgl_j]; decide)
