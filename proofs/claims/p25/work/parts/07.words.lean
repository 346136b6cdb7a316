abbrev okT {α : Type} : α → Prop := fun _ => True
abbrev okZ : Int32 → Prop := fun v => v = 0 ∨ v = 1
abbrev enI : Int32 → Option Value := fun v => some (.int v)
abbrev enL : Int64 → Option Value := fun v => some (.long v)
abbrev enD : UInt64 → Option Value := fun v => some (.double v)
abbrev enR : Option Nat → Option Value := fun v => some (va_rf v)
abbrev enV : Unit → Option Value := fun _ => none
theorem i32_ne {a b : Int32} (h : ¬ a = b) : a.toInt ≠ b.toInt := fun e => h (Int32.toInt_inj.mp e)
theorem G_lv0 {α : Type} {l : Launch} {z : Nat → Nat} {M : Mt} {okv : α → Prop} {en : α → Option Value} {pc : Nat} {lv lv' : List (Nat × Value)} {st : List Value} {x : Hp} {E : Option (α × Hp)} (h : lv = lv') (k : G l z M okv en pc lv' st x E) : G l z M okv en pc lv st x E := h ▸ k
theorem gw_s1 : Cond.selects RX10 yX10_countNow yX10_countNow ∈ gT := gT_in 1 (by decide +kernel) (by decide +kernel)
theorem gw_s2 : Cond.selects RX6 yX6_sumOverLanes yX6_sumOverLanes ∈ gT := gT_in 2 (by decide +kernel) (by decide +kernel)
theorem gw_s3 : Cond.selects RX4 yX4_slotOf yX4_slotOf ∈ gT := gT_in 3 (by decide +kernel) (by decide +kernel)
theorem gw_s4 : Cond.selects RX6 yX6_obey yX6_obey ∈ gT := gT_in 4 (by decide +kernel) (by decide +kernel)
theorem gw_s5 : Cond.selects RX6 yX6_reckon yX6_reckon ∈ gT := gT_in 5 (by decide +kernel) (by decide +kernel)
theorem gw_s6 : Cond.selects RX6 yX6_step yX6_step ∈ gT := gT_in 6 (by decide +kernel) (by decide +kernel)
theorem gw_s7 : Cond.selects RX6 yX6_letFolkCome yX6_letFolkCome ∈ gT := gT_in 7 (by decide +kernel) (by decide +kernel)
theorem gw_s8 : Cond.selects RX6 yX6_sendPails yX6_sendPails ∈ gT := gT_in 8 (by decide +kernel) (by decide +kernel)
theorem gw_s9 : Cond.selects RX6 yX6_whoSends yX6_whoSends ∈ gT := gT_in 9 (by decide +kernel) (by decide +kernel)
theorem gw_s10 : Cond.selects RX2 yX2_isLetSend yX2_isLetSend ∈ gT := gT_in 10 (by decide +kernel) (by decide +kernel)
theorem gw_s11 : Cond.selects RX12 yX12_holds yX12_holds ∈ gT := gT_in 11 (by decide +kernel) (by decide +kernel)
theorem gw_s12 : Cond.selects RX12 yX12_value yX12_value ∈ gT := gT_in 12 (by decide +kernel) (by decide +kernel)
theorem gw_s13 : Cond.selects RX9 yX9_scanToken yX9_scanToken ∈ gT := gT_in 13 (by decide +kernel) (by decide +kernel)
theorem gw_s14 : Cond.selects RX9 yX9_add yX9_add ∈ gT := gT_in 14 (by decide +kernel) (by decide +kernel)
theorem gw_s15 : Cond.selects RX9 yX9_scanWord yX9_scanWord ∈ gT := gT_in 15 (by decide +kernel) (by decide +kernel)
theorem gw_s16 : Cond.selects RX9 yX9_kindOfWord yX9_kindOfWord ∈ gT := gT_in 16 (by decide +kernel) (by decide +kernel)
theorem gw_s17 : Cond.selects RX9 yX9_scanNumber yX9_scanNumber ∈ gT := gT_in 17 (by decide +kernel) (by decide +kernel)
theorem gw_s18 : Cond.selects RX9 yX9_scanSymbol yX9_scanSymbol ∈ gT := gT_in 18 (by decide +kernel) (by decide +kernel)
theorem gw_s19 : Cond.selects RX5 yX5_kind yX5_kind ∈ gT := gT_in 19 (by decide +kernel) (by decide +kernel)
theorem gw_s20 : Cond.selects RX5 yX5_number yX5_number ∈ gT := gT_in 20 (by decide +kernel) (by decide +kernel)
theorem gw_s21 : Cond.selects RX5 yX5_fail yX5_fail ∈ gT := gT_in 21 (by decide +kernel) (by decide +kernel)
theorem gw_s22 : Cond.selects RX5 yX5_blame yX5_blame ∈ gT := gT_in 22 (by decide +kernel) (by decide +kernel)
theorem gw_s23 : Cond.selects RX5 yX5_readLane yX5_readLane ∈ gT := gT_in 23 (by decide +kernel) (by decide +kernel)
theorem gw_s24 : Cond.selects RX5 yX5_newName yX5_newName ∈ gT := gT_in 24 (by decide +kernel) (by decide +kernel)
theorem gw_s25 : Cond.selects RX5 yX5_takes yX5_takes ∈ gT := gT_in 25 (by decide +kernel) (by decide +kernel)
theorem gw_s26 : Cond.selects RX5 yX5_toldLane yX5_toldLane ∈ gT := gT_in 26 (by decide +kernel) (by decide +kernel)
theorem gw_s27 : Cond.selects RX5 yX5_need yX5_need ∈ gT := gT_in 27 (by decide +kernel) (by decide +kernel)
theorem gw_s28 : Cond.selects RX5 yX5_readFolk yX5_readFolk ∈ gT := gT_in 28 (by decide +kernel) (by decide +kernel)
theorem gw_s29 : Cond.selects RX5 yX5_readOrder yX5_readOrder ∈ gT := gT_in 29 (by decide +kernel) (by decide +kernel)
theorem gw_s30 : Cond.selects RX5 yX5_sum yX5_sum ∈ gT := gT_in 30 (by decide +kernel) (by decide +kernel)
theorem gw_s31 : Cond.selects RX5 yX5_product yX5_product ∈ gT := gT_in 31 (by decide +kernel) (by decide +kernel)
theorem gw_s32 : Cond.selects RX5 yX5_value yX5_value ∈ gT := gT_in 32 (by decide +kernel) (by decide +kernel)
theorem gw_s33 : Cond.selects RX5 yX5_enters yX5_enters ∈ gT := gT_in 33 (by decide +kernel) (by decide +kernel)
theorem gw_s34 : Cond.selects RX5 yX5_pair yX5_pair ∈ gT := gT_in 34 (by decide +kernel) (by decide +kernel)
theorem gw_s35 : Cond.selects RX5 yX5_test yX5_test ∈ gT := gT_in 35 (by decide +kernel) (by decide +kernel)
theorem gw_s36 : Cond.selects RX5 yX5_both yX5_both ∈ gT := gT_in 36 (by decide +kernel) (by decide +kernel)
theorem gw_s37 : Cond.selects RX5 yX5_single yX5_single ∈ gT := gT_in 37 (by decide +kernel) (by decide +kernel)
theorem gw_38 : Cond.initialized RL ∈ gT := gT_in 38 (by decide +kernel) (by decide +kernel)
theorem gw_39 : Cond.initialized RX10 ∈ gT := gT_in 39 (by decide +kernel) (by decide +kernel)
theorem gw_40 : Cond.initialized RX8 ∈ gT := gT_in 40 (by decide +kernel) (by decide +kernel)
theorem gw_41 : Cond.initialized RX5 ∈ gT := gT_in 41 (by decide +kernel) (by decide +kernel)
theorem gw_42 : Cond.initialized RX6 ∈ gT := gT_in 42 (by decide +kernel) (by decide +kernel)
theorem gw_43 : Cond.initialized RX0 ∈ gT := gT_in 43 (by decide +kernel) (by decide +kernel)
theorem gw_44 : Cond.initialized RX3 ∈ gT := gT_in 44 (by decide +kernel) (by decide +kernel)
theorem gw_45 : Cond.initialized RX7 ∈ gT := gT_in 45 (by decide +kernel) (by decide +kernel)
theorem gw_46 : Cond.initialized RX2 ∈ gT := gT_in 46 (by decide +kernel) (by decide +kernel)
theorem gw_47 : Cond.initialized RX4 ∈ gT := gT_in 47 (by decide +kernel) (by decide +kernel)
theorem gw_48 : Cond.initialized RX1 ∈ gT := gT_in 48 (by decide +kernel) (by decide +kernel)
theorem gw_49 : Cond.initialized RX9 ∈ gT := gT_in 49 (by decide +kernel) (by decide +kernel)
theorem gw_50 : Cond.initialized RJ0 ∈ gT := gT_in 50 (by decide +kernel) (by decide +kernel)
theorem gw_51 : Cond.initialized RJ1 ∈ gT := gT_in 51 (by decide +kernel) (by decide +kernel)
theorem gw_52 : Cond.initialized RJ3 ∈ gT := gT_in 52 (by decide +kernel) (by decide +kernel)
theorem gw_54 : Cond.initialized RX12 ∈ gT := gT_in 54 (by decide +kernel) (by decide +kernel)
theorem gw_55 : Cond.initialized RX11 ∈ gT := gT_in 55 (by decide +kernel) (by decide +kernel)
theorem gw_56 : Cond.initialized RJ5 ∈ gT := gT_in 56 (by decide +kernel) (by decide +kernel)
theorem gw_57 : Cond.initialized RJ4 ∈ gT := gT_in 57 (by decide +kernel) (by decide +kernel)
theorem gw_58 : Cond.initialized RJ8 ∈ gT := gT_in 58 (by decide +kernel) (by decide +kernel)
theorem gw_59 : Cond.initialized RJ9 ∈ gT := gT_in 59 (by decide +kernel) (by decide +kernel)
theorem gw_60 : Cond.initialized RJ7 ∈ gT := gT_in 60 (by decide +kernel) (by decide +kernel)
theorem gw_61 : Cond.initialized RJ10 ∈ gT := gT_in 61 (by decide +kernel) (by decide +kernel)
theorem gw_62 : Cond.initialized RJ6 ∈ gT := gT_in 62 (by decide +kernel) (by decide +kernel)
theorem gw_69 : Cond.classLink RL 20 RX10 ∈ gT := gT_in 69 (by decide +kernel) (by decide +kernel)
theorem gw_70 : Cond.instantiable RX10 5 ∈ gT := gT_in 70 (by decide +kernel) (by decide +kernel)
theorem gw_71 : Cond.methodLink RL 127 yX10_init ∈ gT := gT_in 71 (by decide +kernel) (by decide +kernel)
theorem gw_72 : Cond.instanceMethod yX10_init ∈ gT := gT_in 72 (by decide +kernel) (by decide +kernel)
set_option maxRecDepth 100000 in
theorem gw_73 : Cond.code yX10_init cX10_init 2 none ∈ gT := gT_in 73 rfl rfl
theorem gw_74 : Cond.methodLink RX10 1 Lib.objectInit ∈ gT := gT_in 74 (by decide +kernel) (by decide +kernel)
theorem gw_75 : Cond.instanceMethod Lib.objectInit ∈ gT := gT_in 75 (by decide +kernel) (by decide +kernel)
set_option maxRecDepth 100000 in
theorem gw_76 : Cond.code Lib.objectInit ⟨#[0xb1]⟩ 1 none ∈ gT := gT_in 76 rfl rfl
theorem gw_77 : Cond.classLink RX10 7 RX8 ∈ gT := gT_in 77 (by decide +kernel) (by decide +kernel)
theorem gw_78 : Cond.instantiable RX8 2 ∈ gT := gT_in 78 (by decide +kernel) (by decide +kernel)
theorem gn_79 : Cond.methodLinkNest RX10 9 yX8_init RX10 ∈ gNw := List.mem_filter.mpr ⟨List.mem_of_getElem? (i := 41) (by decide +kernel), rfl⟩
theorem gw_80 : Cond.instanceMethod yX8_init ∈ gT := gT_in 80 (by decide +kernel) (by decide +kernel)
set_option maxRecDepth 100000 in
theorem gw_81 : Cond.code yX8_init cX8_init 1 none ∈ gT := gT_in 81 rfl rfl
theorem gw_82 : Cond.methodLink RX8 3 Lib.objectInit ∈ gT := gT_in 82 (by decide +kernel) (by decide +kernel)
theorem gw_83 : Cond.fieldLink RX8 9 RX8 "bytes" "[B" ∈ gT := gT_in 83 (by decide +kernel) (by decide +kernel)
theorem gw_84 : Cond.fieldLink RX10 42 RX8 "length" "I" ∈ gT := gT_in 84 (by decide +kernel) (by decide +kernel)
theorem gw_85 : Cond.fieldLink RX8 15 RX8 "length" "I" ∈ gT := gT_in 85 (by decide +kernel) (by decide +kernel)
theorem gw_86 : Cond.fieldLink RX9 56 RX8 "length" "I" ∈ gT := gT_in 86 (by decide +kernel) (by decide +kernel)
theorem gw_92 : Cond.arrayClass .byte ∈ gT := gT_in 92 (by decide +kernel) (by decide +kernel)
theorem gw_93 : Cond.classLink RX10 16 RX5 ∈ gT := gT_in 93 (by decide +kernel) (by decide +kernel)
theorem gw_94 : Cond.instantiable RX5 7 ∈ gT := gT_in 94 (by decide +kernel) (by decide +kernel)
theorem gn_95 : Cond.methodLinkNest RX10 18 yX5_init RX10 ∈ gNw := List.mem_filter.mpr ⟨List.mem_of_getElem? (i := 57) (by decide +kernel), rfl⟩
theorem gw_96 : Cond.instanceMethod yX5_init ∈ gT := gT_in 96 (by decide +kernel) (by decide +kernel)
set_option maxRecDepth 100000 in
theorem gw_97 : Cond.code yX5_init cX5_init 1 none ∈ gT := gT_in 97 rfl rfl
theorem gw_98 : Cond.methodLink RX5 3 Lib.objectInit ∈ gT := gT_in 98 (by decide +kernel) (by decide +kernel)
theorem gw_99 : Cond.classLink RX5 9 RX6 ∈ gT := gT_in 99 (by decide +kernel) (by decide +kernel)
theorem gw_100 : Cond.instantiable RX6 11 ∈ gT := gT_in 100 (by decide +kernel) (by decide +kernel)
theorem gw_101 : Cond.classLink RX5 11 RX0 ∈ gT := gT_in 101 (by decide +kernel) (by decide +kernel)
theorem gw_102 : Cond.instantiable RX0 5 ∈ gT := gT_in 102 (by decide +kernel) (by decide +kernel)
theorem gw_103 : Cond.methodLink RX5 13 yX0_init ∈ gT := gT_in 103 (by decide +kernel) (by decide +kernel)
theorem gw_104 : Cond.instanceMethod yX0_init ∈ gT := gT_in 104 (by decide +kernel) (by decide +kernel)
set_option maxRecDepth 100000 in
theorem gw_105 : Cond.code yX0_init cX0_init 2 none ∈ gT := gT_in 105 rfl rfl
theorem gw_106 : Cond.methodLink RX0 3 Lib.objectInit ∈ gT := gT_in 106 (by decide +kernel) (by decide +kernel)
theorem gw_107 : Cond.classLink RX0 18 RX3 ∈ gT := gT_in 107 (by decide +kernel) (by decide +kernel)
theorem gw_109 : Cond.instantiable RX3 5 ∈ gT := gT_in 109 (by decide +kernel) (by decide +kernel)
theorem gn_110 : Cond.methodLinkNest RX0 24 yX3_init RX10 ∈ gNw := List.mem_filter.mpr ⟨List.mem_of_getElem? (i := 72) (by decide +kernel), rfl⟩
theorem gw_111 : Cond.instanceMethod yX3_init ∈ gT := gT_in 111 (by decide +kernel) (by decide +kernel)
set_option maxRecDepth 100000 in
theorem gw_112 : Cond.code yX3_init cX3_init 1 none ∈ gT := gT_in 112 rfl rfl
theorem gw_113 : Cond.methodLink RX3 1 Lib.objectInit ∈ gT := gT_in 113 (by decide +kernel) (by decide +kernel)
theorem gw_114 : Cond.fieldLink RX3 7 RX3 "kind" "I" ∈ gT := gT_in 114 (by decide +kernel) (by decide +kernel)
theorem gw_115 : Cond.fieldLink RX0 47 RX3 "kind" "I" ∈ gT := gT_in 115 (by decide +kernel) (by decide +kernel)
theorem gw_116 : Cond.fieldLink RX6 140 RX3 "kind" "I" ∈ gT := gT_in 116 (by decide +kernel) (by decide +kernel)
theorem gw_117 : Cond.fieldLink RX3 13 RX3 "lane" "I" ∈ gT := gT_in 117 (by decide +kernel) (by decide +kernel)
theorem gw_118 : Cond.fieldLink RX0 50 RX3 "lane" "I" ∈ gT := gT_in 118 (by decide +kernel) (by decide +kernel)
theorem gw_119 : Cond.fieldLink RX6 125 RX3 "lane" "I" ∈ gT := gT_in 119 (by decide +kernel) (by decide +kernel)
theorem gw_120 : Cond.fieldLink RX3 16 RX3 "sumFrom" "I" ∈ gT := gT_in 120 (by decide +kernel) (by decide +kernel)
theorem gw_121 : Cond.fieldLink RX0 53 RX3 "sumFrom" "I" ∈ gT := gT_in 121 (by decide +kernel) (by decide +kernel)
theorem gw_122 : Cond.fieldLink RX6 147 RX3 "sumFrom" "I" ∈ gT := gT_in 122 (by decide +kernel) (by decide +kernel)
theorem gw_123 : Cond.fieldLink RX3 19 RX3 "testFrom" "I" ∈ gT := gT_in 123 (by decide +kernel) (by decide +kernel)
theorem gw_124 : Cond.fieldLink RX0 56 RX3 "testFrom" "I" ∈ gT := gT_in 124 (by decide +kernel) (by decide +kernel)
theorem gw_125 : Cond.fieldLink RX6 130 RX3 "testFrom" "I" ∈ gT := gT_in 125 (by decide +kernel) (by decide +kernel)
theorem gw_126 : Cond.fieldLink RX3 22 RX3 "end" "I" ∈ gT := gT_in 126 (by decide +kernel) (by decide +kernel)
theorem gw_127 : Cond.fieldLink RX0 59 RX3 "end" "I" ∈ gT := gT_in 127 (by decide +kernel) (by decide +kernel)
theorem gw_128 : Cond.fieldLink RX6 133 RX3 "end" "I" ∈ gT := gT_in 128 (by decide +kernel) (by decide +kernel)
theorem gw_140 : Cond.arrayClass .int ∈ gT := gT_in 140 (by decide +kernel) (by decide +kernel)
theorem gw_141 : Cond.fieldLink RX0 9 RX0 "signs" "[I" ∈ gT := gT_in 141 (by decide +kernel) (by decide +kernel)
theorem gw_142 : Cond.fieldLink RX6 164 RX0 "signs" "[I" ∈ gT := gT_in 142 (by decide +kernel) (by decide +kernel)
theorem gw_143 : Cond.fieldLink RX0 15 RX0 "details" "[I" ∈ gT := gT_in 143 (by decide +kernel) (by decide +kernel)
theorem gw_144 : Cond.fieldLink RX6 168 RX0 "details" "[I" ∈ gT := gT_in 144 (by decide +kernel) (by decide +kernel)
theorem gw_145 : Cond.fieldLink RX0 25 RX0 "length" "I" ∈ gT := gT_in 145 (by decide +kernel) (by decide +kernel)
theorem gw_146 : Cond.fieldLink RX5 140 RX0 "length" "I" ∈ gT := gT_in 146 (by decide +kernel) (by decide +kernel)
theorem gw_147 : Cond.fieldLink RX0 29 RX0 "orderCount" "I" ∈ gT := gT_in 147 (by decide +kernel) (by decide +kernel)
theorem gw_148 : Cond.fieldLink RX5 134 RX0 "orderCount" "I" ∈ gT := gT_in 148 (by decide +kernel) (by decide +kernel)
theorem gw_149 : Cond.fieldLink RX6 96 RX0 "orderCount" "I" ∈ gT := gT_in 149 (by decide +kernel) (by decide +kernel)
theorem gw_150 : Cond.fieldLink RX0 20 RX0 "orders" "[LBucketBrigade$Order;" ∈ gT := gT_in 150 (by decide +kernel) (by decide +kernel)
theorem gw_162 : Cond.methodLink RX5 14 yX6_init ∈ gT := gT_in 162 (by decide +kernel) (by decide +kernel)
theorem gw_163 : Cond.instanceMethod yX6_init ∈ gT := gT_in 163 (by decide +kernel) (by decide +kernel)
set_option maxRecDepth 100000 in
theorem gw_164 : Cond.code yX6_init cX6_init 3 none ∈ gT := gT_in 164 rfl rfl
theorem gw_165 : Cond.methodLink RX6 3 Lib.objectInit ∈ gT := gT_in 165 (by decide +kernel) (by decide +kernel)
theorem gw_166 : Cond.classLink RX6 9 RX2 ∈ gT := gT_in 166 (by decide +kernel) (by decide +kernel)
theorem gw_168 : Cond.classLink RX6 17 RX1 ∈ gT := gT_in 168 (by decide +kernel) (by decide +kernel)
theorem gw_170 : Cond.classLink RX6 23 RX7 ∈ gT := gT_in 170 (by decide +kernel) (by decide +kernel)
theorem gw_171 : Cond.instantiable RX7 2 ∈ gT := gT_in 171 (by decide +kernel) (by decide +kernel)
theorem gn_172 : Cond.methodLinkNest RX6 25 yX7_init RX10 ∈ gNw := List.mem_filter.mpr ⟨List.mem_of_getElem? (i := 134) (by decide +kernel), rfl⟩
theorem gw_173 : Cond.instanceMethod yX7_init ∈ gT := gT_in 173 (by decide +kernel) (by decide +kernel)
set_option maxRecDepth 100000 in
theorem gw_174 : Cond.code yX7_init cX7_init 1 none ∈ gT := gT_in 174 rfl rfl
theorem gw_175 : Cond.methodLink RX7 3 Lib.objectInit ∈ gT := gT_in 175 (by decide +kernel) (by decide +kernel)
theorem gw_176 : Cond.fieldLink RX7 9 RX7 "numbers" "[I" ∈ gT := gT_in 176 (by decide +kernel) (by decide +kernel)
theorem gw_177 : Cond.fieldLink RX7 15 RX7 "height" "I" ∈ gT := gT_in 177 (by decide +kernel) (by decide +kernel)
theorem gw_183 : Cond.instantiable RX2 18 ∈ gT := gT_in 183 (by decide +kernel) (by decide +kernel)
theorem gw_184 : Cond.methodLink RX6 38 yX2_init ∈ gT := gT_in 184 (by decide +kernel) (by decide +kernel)
theorem gw_185 : Cond.instanceMethod yX2_init ∈ gT := gT_in 185 (by decide +kernel) (by decide +kernel)
set_option maxRecDepth 100000 in
theorem gw_186 : Cond.code yX2_init cX2_init 2 none ∈ gT := gT_in 186 rfl rfl
theorem gw_187 : Cond.methodLink RX2 3 Lib.objectInit ∈ gT := gT_in 187 (by decide +kernel) (by decide +kernel)
theorem gw_188 : Cond.classLink RX2 9 RX4 ∈ gT := gT_in 188 (by decide +kernel) (by decide +kernel)
theorem gw_189 : Cond.instantiable RX4 3 ∈ gT := gT_in 189 (by decide +kernel) (by decide +kernel)
theorem gn_190 : Cond.methodLinkNest RX2 11 yX4_init RX10 ∈ gNw := List.mem_filter.mpr ⟨List.mem_of_getElem? (i := 152) (by decide +kernel), rfl⟩
theorem gw_191 : Cond.instanceMethod yX4_init ∈ gT := gT_in 191 (by decide +kernel) (by decide +kernel)
set_option maxRecDepth 100000 in
theorem gw_192 : Cond.code yX4_init cX4_init 1 none ∈ gT := gT_in 192 rfl rfl
theorem gw_193 : Cond.methodLink RX4 3 Lib.objectInit ∈ gT := gT_in 193 (by decide +kernel) (by decide +kernel)
theorem gw_194 : Cond.fieldLink RX4 15 RX4 "size" "I" ∈ gT := gT_in 194 (by decide +kernel) (by decide +kernel)
theorem gw_195 : Cond.fieldLink RX2 86 RX4 "size" "I" ∈ gT := gT_in 195 (by decide +kernel) (by decide +kernel)
theorem gw_196 : Cond.fieldLink RX10 106 RX4 "size" "I" ∈ gT := gT_in 196 (by decide +kernel) (by decide +kernel)
theorem gw_197 : Cond.fieldLink RX6 229 RX4 "size" "I" ∈ gT := gT_in 197 (by decide +kernel) (by decide +kernel)
theorem gw_198 : Cond.fieldLink RX4 9 RX4 "minutes" "[I" ∈ gT := gT_in 198 (by decide +kernel) (by decide +kernel)
theorem gw_199 : Cond.fieldLink RX4 19 RX4 "front" "I" ∈ gT := gT_in 199 (by decide +kernel) (by decide +kernel)
theorem gw_207 : Cond.fieldLink RX2 18 RX2 "number" "I" ∈ gT := gT_in 207 (by decide +kernel) (by decide +kernel)
theorem gw_208 : Cond.fieldLink RX6 75 RX2 "number" "I" ∈ gT := gT_in 208 (by decide +kernel) (by decide +kernel)
theorem gw_209 : Cond.fieldLink RX5 106 RX2 "number" "I" ∈ gT := gT_in 209 (by decide +kernel) (by decide +kernel)
theorem gw_210 : Cond.fieldLink RX10 139 RX2 "number" "I" ∈ gT := gT_in 210 (by decide +kernel) (by decide +kernel)
theorem gw_211 : Cond.fieldLink RX2 12 RX2 "queue" "LBucketBrigade$Queue;" ∈ gT := gT_in 211 (by decide +kernel) (by decide +kernel)
theorem gw_212 : Cond.fieldLink RX10 102 RX2 "queue" "LBucketBrigade$Queue;" ∈ gT := gT_in 212 (by decide +kernel) (by decide +kernel)
theorem gw_213 : Cond.fieldLink RX6 225 RX2 "queue" "LBucketBrigade$Queue;" ∈ gT := gT_in 213 (by decide +kernel) (by decide +kernel)
theorem gw_214 : Cond.fieldLink RX2 22 RX2 "over" "LBucketBrigade$Lane;" ∈ gT := gT_in 214 (by decide +kernel) (by decide +kernel)
theorem gw_215 : Cond.fieldLink RX6 71 RX2 "over" "LBucketBrigade$Lane;" ∈ gT := gT_in 215 (by decide +kernel) (by decide +kernel)
theorem gw_216 : Cond.fieldLink RX10 142 RX2 "over" "LBucketBrigade$Lane;" ∈ gT := gT_in 216 (by decide +kernel) (by decide +kernel)
theorem gw_217 : Cond.fieldLink RX2 26 RX2 "rate" "I" ∈ gT := gT_in 217 (by decide +kernel) (by decide +kernel)
theorem gw_218 : Cond.fieldLink RX6 112 RX2 "rate" "I" ∈ gT := gT_in 218 (by decide +kernel) (by decide +kernel)
theorem gw_219 : Cond.fieldLink RX10 168 RX2 "rate" "I" ∈ gT := gT_in 219 (by decide +kernel) (by decide +kernel)
theorem gw_220 : Cond.fieldLink RX2 29 RX2 "most" "I" ∈ gT := gT_in 220 (by decide +kernel) (by decide +kernel)
theorem gw_221 : Cond.fieldLink RX6 158 RX2 "most" "I" ∈ gT := gT_in 221 (by decide +kernel) (by decide +kernel)
theorem gw_222 : Cond.fieldLink RX10 173 RX2 "most" "I" ∈ gT := gT_in 222 (by decide +kernel) (by decide +kernel)
theorem gw_223 : Cond.fieldLink RX2 45 RX2 "tokens" "I" ∈ gT := gT_in 223 (by decide +kernel) (by decide +kernel)
theorem gw_224 : Cond.fieldLink RX10 163 RX2 "tokens" "I" ∈ gT := gT_in 224 (by decide +kernel) (by decide +kernel)
theorem gw_225 : Cond.fieldLink RX2 48 RX2 "sent" "I" ∈ gT := gT_in 225 (by decide +kernel) (by decide +kernel)
theorem gw_226 : Cond.fieldLink RX6 234 RX2 "sent" "I" ∈ gT := gT_in 226 (by decide +kernel) (by decide +kernel)
theorem gw_227 : Cond.fieldLink RX10 200 RX2 "sent" "I" ∈ gT := gT_in 227 (by decide +kernel) (by decide +kernel)
theorem gw_228 : Cond.fieldLink RX2 51 RX2 "lost" "I" ∈ gT := gT_in 228 (by decide +kernel) (by decide +kernel)
theorem gw_229 : Cond.fieldLink RX10 151 RX2 "lost" "I" ∈ gT := gT_in 229 (by decide +kernel) (by decide +kernel)
theorem gw_230 : Cond.fieldLink RX6 237 RX2 "lost" "I" ∈ gT := gT_in 230 (by decide +kernel) (by decide +kernel)
theorem gw_231 : Cond.fieldLink RX2 57 RX2 "borrowed" "I" ∈ gT := gT_in 231 (by decide +kernel) (by decide +kernel)
theorem gw_232 : Cond.fieldLink RX6 240 RX2 "borrowed" "I" ∈ gT := gT_in 232 (by decide +kernel) (by decide +kernel)
theorem gw_233 : Cond.fieldLink RX2 60 RX2 "waited" "I" ∈ gT := gT_in 233 (by decide +kernel) (by decide +kernel)
theorem gw_234 : Cond.fieldLink RX10 203 RX2 "waited" "I" ∈ gT := gT_in 234 (by decide +kernel) (by decide +kernel)
theorem gw_235 : Cond.fieldLink RX2 77 RX2 "shut" "Z" ∈ gT := gT_in 235 (by decide +kernel) (by decide +kernel)
theorem gw_236 : Cond.fieldLink RX6 143 RX2 "shut" "Z" ∈ gT := gT_in 236 (by decide +kernel) (by decide +kernel)
theorem gw_237 : Cond.fieldLink RX2 32 RX2 "burst" "I" ∈ gT := gT_in 237 (by decide +kernel) (by decide +kernel)
theorem gw_238 : Cond.fieldLink RX2 35 RX2 "rank" "I" ∈ gT := gT_in 238 (by decide +kernel) (by decide +kernel)
theorem gw_239 : Cond.fieldLink RX2 38 RX2 "holds" "I" ∈ gT := gT_in 239 (by decide +kernel) (by decide +kernel)
theorem gw_240 : Cond.fieldLink RX2 41 RX2 "dropsOld" "Z" ∈ gT := gT_in 240 (by decide +kernel) (by decide +kernel)
theorem gw_241 : Cond.fieldLink RX2 54 RX2 "lent" "I" ∈ gT := gT_in 241 (by decide +kernel) (by decide +kernel)
theorem gw_242 : Cond.fieldLink RX2 80 RX2 "ownInMinute" "I" ∈ gT := gT_in 242 (by decide +kernel) (by decide +kernel)
theorem gw_243 : Cond.fieldLink RX2 83 RX2 "allInMinute" "I" ∈ gT := gT_in 243 (by decide +kernel) (by decide +kernel)
theorem gw_281 : Cond.instantiable RX1 5 ∈ gT := gT_in 281 (by decide +kernel) (by decide +kernel)
theorem gn_282 : Cond.methodLinkNest RX6 41 yX1_init RX10 ∈ gNw := List.mem_filter.mpr ⟨List.mem_of_getElem? (i := 244) (by decide +kernel), rfl⟩
theorem gw_283 : Cond.instanceMethod yX1_init ∈ gT := gT_in 283 (by decide +kernel) (by decide +kernel)
set_option maxRecDepth 100000 in
theorem gw_284 : Cond.code yX1_init cX1_init 1 none ∈ gT := gT_in 284 rfl rfl
theorem gw_285 : Cond.methodLink RX1 1 Lib.objectInit ∈ gT := gT_in 285 (by decide +kernel) (by decide +kernel)
theorem gw_286 : Cond.fieldLink RX1 7 RX1 "lane" "I" ∈ gT := gT_in 286 (by decide +kernel) (by decide +kernel)
theorem gw_287 : Cond.fieldLink RX6 193 RX1 "lane" "I" ∈ gT := gT_in 287 (by decide +kernel) (by decide +kernel)
theorem gw_288 : Cond.fieldLink RX1 13 RX1 "many" "I" ∈ gT := gT_in 288 (by decide +kernel) (by decide +kernel)
theorem gw_289 : Cond.fieldLink RX6 194 RX1 "many" "I" ∈ gT := gT_in 289 (by decide +kernel) (by decide +kernel)
theorem gw_290 : Cond.fieldLink RX1 22 RX1 "brought" "I" ∈ gT := gT_in 290 (by decide +kernel) (by decide +kernel)
theorem gw_291 : Cond.fieldLink RX6 201 RX1 "brought" "I" ∈ gT := gT_in 291 (by decide +kernel) (by decide +kernel)
theorem gw_292 : Cond.fieldLink RX1 16 RX1 "every" "I" ∈ gT := gT_in 292 (by decide +kernel) (by decide +kernel)
theorem gw_293 : Cond.fieldLink RX1 19 RX1 "from" "I" ∈ gT := gT_in 293 (by decide +kernel) (by decide +kernel)
theorem gw_305 : Cond.fieldLink RX6 30 RX6 "book" "LBucketBrigade$Book;" ∈ gT := gT_in 305 (by decide +kernel) (by decide +kernel)
theorem gw_306 : Cond.fieldLink RX5 45 RX6 "book" "LBucketBrigade$Book;" ∈ gT := gT_in 306 (by decide +kernel) (by decide +kernel)
theorem gw_307 : Cond.fieldLink RX10 76 RX6 "book" "LBucketBrigade$Book;" ∈ gT := gT_in 307 (by decide +kernel) (by decide +kernel)
theorem gw_308 : Cond.fieldLink RX6 42 RX6 "minute" "I" ∈ gT := gT_in 308 (by decide +kernel) (by decide +kernel)
theorem gw_309 : Cond.fieldLink RX10 61 RX6 "minute" "I" ∈ gT := gT_in 309 (by decide +kernel) (by decide +kernel)
theorem gw_310 : Cond.fieldLink RX6 34 RX6 "well" "I" ∈ gT := gT_in 310 (by decide +kernel) (by decide +kernel)
theorem gw_311 : Cond.fieldLink RX5 70 RX6 "well" "I" ∈ gT := gT_in 311 (by decide +kernel) (by decide +kernel)
theorem gw_312 : Cond.fieldLink RX10 178 RX6 "well" "I" ∈ gT := gT_in 312 (by decide +kernel) (by decide +kernel)
theorem gw_313 : Cond.fieldLink RX6 45 RX6 "laneCount" "I" ∈ gT := gT_in 313 (by decide +kernel) (by decide +kernel)
theorem gw_314 : Cond.fieldLink RX5 88 RX6 "laneCount" "I" ∈ gT := gT_in 314 (by decide +kernel) (by decide +kernel)
theorem gw_315 : Cond.fieldLink RX10 146 RX6 "laneCount" "I" ∈ gT := gT_in 315 (by decide +kernel) (by decide +kernel)
theorem gw_316 : Cond.fieldLink RX6 48 RX6 "folkCount" "I" ∈ gT := gT_in 316 (by decide +kernel) (by decide +kernel)
theorem gw_317 : Cond.fieldLink RX5 122 RX6 "folkCount" "I" ∈ gT := gT_in 317 (by decide +kernel) (by decide +kernel)
theorem gw_318 : Cond.fieldLink RX6 11 RX6 "lanes" "[LBucketBrigade$Lane;" ∈ gT := gT_in 318 (by decide +kernel) (by decide +kernel)
theorem gw_319 : Cond.fieldLink RX6 19 RX6 "folks" "[LBucketBrigade$Folk;" ∈ gT := gT_in 319 (by decide +kernel) (by decide +kernel)
theorem gw_320 : Cond.fieldLink RX6 26 RX6 "stack" "LBucketBrigade$Stack;" ∈ gT := gT_in 320 (by decide +kernel) (by decide +kernel)
theorem gw_321 : Cond.fieldLink RX6 51 RX6 "spare" "I" ∈ gT := gT_in 321 (by decide +kernel) (by decide +kernel)
theorem gw_322 : Cond.fieldLink RX6 54 RX6 "came" "I" ∈ gT := gT_in 322 (by decide +kernel) (by decide +kernel)
theorem gw_323 : Cond.fieldLink RX6 57 RX6 "carriedOut" "I" ∈ gT := gT_in 323 (by decide +kernel) (by decide +kernel)
theorem gw_347 : Cond.classLink RX5 23 RX9 ∈ gT := gT_in 347 (by decide +kernel) (by decide +kernel)
theorem gw_348 : Cond.instantiable RX9 5 ∈ gT := gT_in 348 (by decide +kernel) (by decide +kernel)
theorem gw_349 : Cond.methodLink RX5 25 yX9_init ∈ gT := gT_in 349 (by decide +kernel) (by decide +kernel)
theorem gw_350 : Cond.instanceMethod yX9_init ∈ gT := gT_in 350 (by decide +kernel) (by decide +kernel)
set_option maxRecDepth 100000 in
theorem gw_351 : Cond.code yX9_init cX9_init 6 none ∈ gT := gT_in 351 rfl rfl
theorem gw_352 : Cond.methodLink RX9 3 Lib.objectInit ∈ gT := gT_in 352 (by decide +kernel) (by decide +kernel)
theorem gw_354 : Cond.methodLink RX9 27 yJ0_length_8abf5 ∈ gT := gT_in 354 (by decide +kernel) (by decide +kernel)
theorem gw_355 : Cond.instanceMethod yJ0_length_8abf5 ∈ gT := gT_in 355 (by decide +kernel) (by decide +kernel)
theorem gw_356 : Cond.selects RJ0 yJ0_length_8abf5 yJ0_length_8abf5 ∈ gT := gT_in 356 (by decide +kernel) (by decide +kernel)
set_option maxRecDepth 100000 in
theorem gw_357 : Cond.code yJ0_length_8abf5 cJ0_length_8abf5 1 (some .int) ∈ gT := gT_in 357 rfl rfl
theorem gw_358 : Cond.methodLink RJ0 335 yJ0_coder_7d493 ∈ gT := gT_in 358 (by decide +kernel) (by decide +kernel)
theorem gw_359 : Cond.instanceMethod yJ0_coder_7d493 ∈ gT := gT_in 359 (by decide +kernel) (by decide +kernel)
theorem gw_360 : Cond.selects RJ0 yJ0_coder_7d493 yJ0_coder_7d493 ∈ gT := gT_in 360 (by decide +kernel) (by decide +kernel)
set_option maxRecDepth 100000 in
theorem gw_361 : Cond.code yJ0_coder_7d493 cJ0_coder_7d493 1 (some .byte) ∈ gT := gT_in 361 rfl rfl
theorem gw_362 : Cond.fieldLink RJ0 38 RJ0 "COMPACT_STRINGS" "Z" ∈ gT := gT_in 362 (by decide +kernel) (by decide +kernel)
theorem gw_364 : Cond.methodLink RX9 33 yJ0_charAt_5068e ∈ gT := gT_in 364 (by decide +kernel) (by decide +kernel)
theorem gw_365 : Cond.instanceMethod yJ0_charAt_5068e ∈ gT := gT_in 365 (by decide +kernel) (by decide +kernel)
theorem gw_366 : Cond.selects RJ0 yJ0_charAt_5068e yJ0_charAt_5068e ∈ gT := gT_in 366 (by decide +kernel) (by decide +kernel)
set_option maxRecDepth 100000 in
theorem gw_367 : Cond.code yJ0_charAt_5068e cJ0_charAt_5068e 2 (some .char) ∈ gT := gT_in 367 rfl rfl
theorem gw_368 : Cond.methodLink RJ0 492 yJ0_isLatin1_aae02 ∈ gT := gT_in 368 (by decide +kernel) (by decide +kernel)
theorem gw_369 : Cond.instanceMethod yJ0_isLatin1_aae02 ∈ gT := gT_in 369 (by decide +kernel) (by decide +kernel)
theorem gw_370 : Cond.selects RJ0 yJ0_isLatin1_aae02 yJ0_isLatin1_aae02 ∈ gT := gT_in 370 (by decide +kernel) (by decide +kernel)
set_option maxRecDepth 100000 in
theorem gw_371 : Cond.code yJ0_isLatin1_aae02 cJ0_isLatin1_aae02 1 (some .boolean) ∈ gT := gT_in 371 rfl rfl
theorem gw_372 : Cond.methodLink RJ0 495 yJ1_charAt_3b067 ∈ gT := gT_in 372 (by decide +kernel) (by decide +kernel)
theorem gw_373 : Cond.static yJ1_charAt_3b067 ∈ gT := gT_in 373 (by decide +kernel) (by decide +kernel)
set_option maxRecDepth 100000 in
theorem gw_374 : Cond.code yJ1_charAt_3b067 cJ1_charAt_3b067 2 (some .char) ∈ gT := gT_in 374 rfl rfl
theorem gw_375 : Cond.methodLink RJ1 9 yJ0_checkIndex_df160 ∈ gT := gT_in 375 (by decide +kernel) (by decide +kernel)
theorem gw_376 : Cond.static yJ0_checkIndex_df160 ∈ gT := gT_in 376 (by decide +kernel) (by decide +kernel)
set_option maxRecDepth 100000 in
theorem gw_377 : Cond.code yJ0_checkIndex_df160 cJ0_checkIndex_df160 2 none ∈ gT := gT_in 377 rfl rfl
theorem gw_378 : Cond.fieldLink RJ0 1053 RJ3 "SIOOBE_FORMATTER" "Ljava/util/function/BiFunction;" ∈ gT := gT_in 378 (by decide +kernel) (by decide +kernel)
theorem gw_380 : Cond.methodLink RJ0 1059 yJ3_checkIndex_8e157 ∈ gT := gT_in 380 (by decide +kernel) (by decide +kernel)
theorem gw_381 : Cond.static yJ3_checkIndex_8e157 ∈ gT := gT_in 381 (by decide +kernel) (by decide +kernel)
set_option maxRecDepth 100000 in
theorem gw_382 : Cond.code yJ3_checkIndex_8e157 cJ3_checkIndex_8e157 3 (some .int) ∈ gT := gT_in 382 rfl rfl
theorem gw_402 : Cond.methodLink RX9 37 yX9_longer ∈ gT := gT_in 402 (by decide +kernel) (by decide +kernel)
theorem gw_403 : Cond.static yX9_longer ∈ gT := gT_in 403 (by decide +kernel) (by decide +kernel)
set_option maxRecDepth 100000 in
theorem gw_404 : Cond.code yX9_longer cX9_longer 3 (some .long) ∈ gT := gT_in 404 rfl rfl
theorem gw_405 : Cond.constantLong RX9 92 64 ∈ gT := gT_in 405 (by decide +kernel) (by decide +kernel)
theorem gw_406 : Cond.methodLink RX9 74 yX9_isDigit ∈ gT := gT_in 406 (by decide +kernel) (by decide +kernel)
theorem gw_407 : Cond.static yX9_isDigit ∈ gT := gT_in 407 (by decide +kernel) (by decide +kernel)
set_option maxRecDepth 100000 in
theorem gw_408 : Cond.code yX9_isDigit cX9_isDigit 1 (some .boolean) ∈ gT := gT_in 408 rfl rfl
theorem gw_409 : Cond.fieldLink RX9 9 RX9 "keywords" "[J" ∈ gT := gT_in 409 (by decide +kernel) (by decide +kernel)
theorem gw_410 : Cond.fieldLink RX9 15 RX9 "kinds" "[I" ∈ gT := gT_in 410 (by decide +kernel) (by decide +kernel)
theorem gw_411 : Cond.fieldLink RX9 19 RX9 "starts" "[I" ∈ gT := gT_in 411 (by decide +kernel) (by decide +kernel)
theorem gw_412 : Cond.fieldLink RX9 22 RX9 "values" "[J" ∈ gT := gT_in 412 (by decide +kernel) (by decide +kernel)
theorem gw_413 : Cond.fieldLink RX9 41 RX9 "size" "I" ∈ gT := gT_in 413 (by decide +kernel) (by decide +kernel)
theorem gw_425 : Cond.arrayClass .long ∈ gT := gT_in 425 (by decide +kernel) (by decide +kernel)
theorem gw_426 : Cond.fieldLink RX5 17 RX5 "draft" "LBucketBrigade$Site;" ∈ gT := gT_in 426 (by decide +kernel) (by decide +kernel)
theorem gw_427 : Cond.fieldLink RX10 69 RX5 "draft" "LBucketBrigade$Site;" ∈ gT := gT_in 427 (by decide +kernel) (by decide +kernel)
theorem gw_428 : Cond.fieldLink RX5 59 RX5 "errorPlace" "I" ∈ gT := gT_in 428 (by decide +kernel) (by decide +kernel)
theorem gw_429 : Cond.fieldLink RX10 68 RX5 "errorPlace" "I" ∈ gT := gT_in 429 (by decide +kernel) (by decide +kernel)
theorem gw_430 : Cond.fieldLink RX5 26 RX5 "tokens" "LBucketBrigade$Tokens;" ∈ gT := gT_in 430 (by decide +kernel) (by decide +kernel)
theorem gw_431 : Cond.fieldLink RX5 30 RX5 "laneNames" "[J" ∈ gT := gT_in 431 (by decide +kernel) (by decide +kernel)
theorem gw_432 : Cond.fieldLink RX5 34 RX5 "folkNames" "[J" ∈ gT := gT_in 432 (by decide +kernel) (by decide +kernel)
theorem gw_433 : Cond.fieldLink RX5 52 RX5 "next" "I" ∈ gT := gT_in 433 (by decide +kernel) (by decide +kernel)
theorem gw_434 : Cond.fieldLink RX5 56 RX5 "error" "I" ∈ gT := gT_in 434 (by decide +kernel) (by decide +kernel)
theorem gw_450 : Cond.classLink RX10 23 RX0 ∈ gT := gT_in 450 (by decide +kernel) (by decide +kernel)
theorem gw_451 : Cond.methodLink RX10 25 yX0_init ∈ gT := gT_in 451 (by decide +kernel) (by decide +kernel)
theorem gw_452 : Cond.classLink RX10 26 RX6 ∈ gT := gT_in 452 (by decide +kernel) (by decide +kernel)
theorem gw_453 : Cond.methodLink RX10 28 yX6_init ∈ gT := gT_in 453 (by decide +kernel) (by decide +kernel)
theorem gw_454 : Cond.fieldLink RX10 10 RX10 "tape" "LBucketBrigade$Tape;" ∈ gT := gT_in 454 (by decide +kernel) (by decide +kernel)
theorem gw_455 : Cond.fieldLink RX10 19 RX10 "reader" "LBucketBrigade$Reader;" ∈ gT := gT_in 455 (by decide +kernel) (by decide +kernel)
theorem gw_456 : Cond.fieldLink RX10 31 RX10 "now" "LBucketBrigade$Site;" ∈ gT := gT_in 456 (by decide +kernel) (by decide +kernel)
theorem gw_457 : Cond.fieldLink RX10 35 RX10 "ahead" "LBucketBrigade$Site;" ∈ gT := gT_in 457 (by decide +kernel) (by decide +kernel)
theorem gw_458 : Cond.fieldLink RX10 38 RX10 "errorPlace" "I" ∈ gT := gT_in 458 (by decide +kernel) (by decide +kernel)
theorem gw_470 : Cond.methodLink RL 144 yX10_count ∈ gT := gT_in 470 (by decide +kernel) (by decide +kernel)
theorem gw_471 : Cond.instanceMethod yX10_count ∈ gT := gT_in 471 (by decide +kernel) (by decide +kernel)
theorem gw_472 : Cond.selects RX10 yX10_count yX10_count ∈ gT := gT_in 472 (by decide +kernel) (by decide +kernel)
set_option maxRecDepth 100000 in
theorem gw_473 : Cond.code yX10_count cX10_count 2 (some .int) ∈ gT := gT_in 473 rfl rfl
theorem gw_541 : Cond.methodLink RX10 87 yX10_countNow ∈ gT := gT_in 541 (by decide +kernel) (by decide +kernel)
theorem gw_543 : Cond.instanceMethod yX10_countNow ∈ gT := gT_in 543 (by decide +kernel) (by decide +kernel)
set_option maxRecDepth 100000 in
theorem gw_544 : Cond.code yX10_countNow cX10_countNow 2 (some .int) ∈ gT := gT_in 544 rfl rfl
theorem gw_545 : Cond.methodLink RX10 191 yX6_tally ∈ gT := gT_in 545 (by decide +kernel) (by decide +kernel)
theorem gw_546 : Cond.instanceMethod yX6_tally ∈ gT := gT_in 546 (by decide +kernel) (by decide +kernel)
theorem gw_547 : Cond.selects RX6 yX6_tally yX6_tally ∈ gT := gT_in 547 (by decide +kernel) (by decide +kernel)
set_option maxRecDepth 100000 in
theorem gw_548 : Cond.code yX6_tally cX6_tally 2 (some .int) ∈ gT := gT_in 548 rfl rfl
theorem gw_549 : Cond.methodLink RX6 218 yX6_sumOverLanes ∈ gT := gT_in 549 (by decide +kernel) (by decide +kernel)
theorem gw_551 : Cond.instanceMethod yX6_sumOverLanes ∈ gT := gT_in 551 (by decide +kernel) (by decide +kernel)
set_option maxRecDepth 100000 in
theorem gw_552 : Cond.code yX6_sumOverLanes cX6_sumOverLanes 5 (some .int) ∈ gT := gT_in 552 rfl rfl
theorem gw_553 : Cond.methodLink RX6 63 yX6_laneAt ∈ gT := gT_in 553 (by decide +kernel) (by decide +kernel)
theorem gw_554 : Cond.instanceMethod yX6_laneAt ∈ gT := gT_in 554 (by decide +kernel) (by decide +kernel)
theorem gw_555 : Cond.selects RX6 yX6_laneAt yX6_laneAt ∈ gT := gT_in 555 (by decide +kernel) (by decide +kernel)
set_option maxRecDepth 100000 in
theorem gw_556 : Cond.code yX6_laneAt cX6_laneAt 2 (some (.object "BucketBrigade$Lane")) ∈ gT := gT_in 556 rfl rfl
theorem gw_557 : Cond.methodLink RX6 221 yX6_shareOf ∈ gT := gT_in 557 (by decide +kernel) (by decide +kernel)
theorem gw_558 : Cond.static yX6_shareOf ∈ gT := gT_in 558 (by decide +kernel) (by decide +kernel)
set_option maxRecDepth 100000 in
theorem gw_559 : Cond.code yX6_shareOf cX6_shareOf 2 (some .int) ∈ gT := gT_in 559 rfl rfl
theorem gw_560 : Cond.methodLink RL 147 yX10_lane ∈ gT := gT_in 560 (by decide +kernel) (by decide +kernel)
theorem gw_561 : Cond.instanceMethod yX10_lane ∈ gT := gT_in 561 (by decide +kernel) (by decide +kernel)
theorem gw_562 : Cond.selects RX10 yX10_lane yX10_lane ∈ gT := gT_in 562 (by decide +kernel) (by decide +kernel)
set_option maxRecDepth 100000 in
theorem gw_563 : Cond.code yX10_lane cX10_lane 4 (some .int) ∈ gT := gT_in 563 rfl rfl
theorem gw_564 : Cond.methodLink RX10 91 yX6_laneAt ∈ gT := gT_in 564 (by decide +kernel) (by decide +kernel)
theorem gw_566 : Cond.methodLink RX10 97 yX2_fact ∈ gT := gT_in 566 (by decide +kernel) (by decide +kernel)
theorem gw_567 : Cond.instanceMethod yX2_fact ∈ gT := gT_in 567 (by decide +kernel) (by decide +kernel)
theorem gw_568 : Cond.selects RX2 yX2_fact yX2_fact ∈ gT := gT_in 568 (by decide +kernel) (by decide +kernel)
set_option maxRecDepth 100000 in
theorem gw_569 : Cond.code yX2_fact cX2_fact 2 (some .int) ∈ gT := gT_in 569 rfl rfl
theorem gw_570 : Cond.methodLink RL 155 yX10_pail ∈ gT := gT_in 570 (by decide +kernel) (by decide +kernel)
theorem gw_571 : Cond.instanceMethod yX10_pail ∈ gT := gT_in 571 (by decide +kernel) (by decide +kernel)
theorem gw_572 : Cond.selects RX10 yX10_pail yX10_pail ∈ gT := gT_in 572 (by decide +kernel) (by decide +kernel)
set_option maxRecDepth 100000 in
theorem gw_573 : Cond.code yX10_pail cX10_pail 4 (some .int) ∈ gT := gT_in 573 rfl rfl
theorem gw_575 : Cond.methodLink RX10 113 yX4_at ∈ gT := gT_in 575 (by decide +kernel) (by decide +kernel)
theorem gw_576 : Cond.instanceMethod yX4_at ∈ gT := gT_in 576 (by decide +kernel) (by decide +kernel)
theorem gw_577 : Cond.selects RX4 yX4_at yX4_at ∈ gT := gT_in 577 (by decide +kernel) (by decide +kernel)
set_option maxRecDepth 100000 in
theorem gw_578 : Cond.code yX4_at cX4_at 3 (some .int) ∈ gT := gT_in 578 rfl rfl
theorem gw_579 : Cond.methodLink RX4 22 yX4_slotOf ∈ gT := gT_in 579 (by decide +kernel) (by decide +kernel)
theorem gw_581 : Cond.instanceMethod yX4_slotOf ∈ gT := gT_in 581 (by decide +kernel) (by decide +kernel)
set_option maxRecDepth 100000 in
theorem gw_582 : Cond.code yX4_slotOf cX4_slotOf 3 (some .int) ∈ gT := gT_in 582 rfl rfl
theorem gw_583 : Cond.methodLink RL 161 yX10_lender ∈ gT := gT_in 583 (by decide +kernel) (by decide +kernel)
theorem gw_584 : Cond.instanceMethod yX10_lender ∈ gT := gT_in 584 (by decide +kernel) (by decide +kernel)
theorem gw_585 : Cond.selects RX10 yX10_lender yX10_lender ∈ gT := gT_in 585 (by decide +kernel) (by decide +kernel)
set_option maxRecDepth 100000 in
theorem gw_586 : Cond.code yX10_lender cX10_lender 3 (some .int) ∈ gT := gT_in 586 rfl rfl
theorem gw_588 : Cond.methodLink RX10 127 yX2_whoLends ∈ gT := gT_in 588 (by decide +kernel) (by decide +kernel)
theorem gw_589 : Cond.instanceMethod yX2_whoLends ∈ gT := gT_in 589 (by decide +kernel) (by decide +kernel)
theorem gw_590 : Cond.selects RX2 yX2_whoLends yX2_whoLends ∈ gT := gT_in 590 (by decide +kernel) (by decide +kernel)
set_option maxRecDepth 100000 in
theorem gw_591 : Cond.code yX2_whoLends cX2_whoLends 2 (some (.object "BucketBrigade$Lane")) ∈ gT := gT_in 591 rfl rfl
theorem gw_592 : Cond.methodLink RX10 131 yX10_numberOf ∈ gT := gT_in 592 (by decide +kernel) (by decide +kernel)
theorem gw_593 : Cond.static yX10_numberOf ∈ gT := gT_in 593 (by decide +kernel) (by decide +kernel)
set_option maxRecDepth 100000 in
theorem gw_594 : Cond.code yX10_numberOf cX10_numberOf 1 (some .int) ∈ gT := gT_in 594 rfl rfl
theorem gw_595 : Cond.methodLink RL 158 yX10_common ∈ gT := gT_in 595 (by decide +kernel) (by decide +kernel)
theorem gw_596 : Cond.instanceMethod yX10_common ∈ gT := gT_in 596 (by decide +kernel) (by decide +kernel)
theorem gw_597 : Cond.selects RX10 yX10_common yX10_common ∈ gT := gT_in 597 (by decide +kernel) (by decide +kernel)
set_option maxRecDepth 100000 in
theorem gw_598 : Cond.code yX10_common cX10_common 6 (some .int) ∈ gT := gT_in 598 rfl rfl
theorem gw_599 : Cond.methodLink RX10 135 yX2_isOrIsUnder ∈ gT := gT_in 599 (by decide +kernel) (by decide +kernel)
theorem gw_600 : Cond.instanceMethod yX2_isOrIsUnder ∈ gT := gT_in 600 (by decide +kernel) (by decide +kernel)
theorem gw_601 : Cond.selects RX2 yX2_isOrIsUnder yX2_isOrIsUnder ∈ gT := gT_in 601 (by decide +kernel) (by decide +kernel)
set_option maxRecDepth 100000 in
theorem gw_602 : Cond.code yX2_isOrIsUnder cX2_isOrIsUnder 3 (some .boolean) ∈ gT := gT_in 602 rfl rfl
theorem gw_603 : Cond.methodLink RL 124 yX10_pass ∈ gT := gT_in 603 (by decide +kernel) (by decide +kernel)
theorem gw_604 : Cond.instanceMethod yX10_pass ∈ gT := gT_in 604 (by decide +kernel) (by decide +kernel)
theorem gw_605 : Cond.selects RX10 yX10_pass yX10_pass ∈ gT := gT_in 605 (by decide +kernel) (by decide +kernel)
set_option maxRecDepth 100000 in
theorem gw_606 : Cond.code yX10_pass cX10_pass 4 (some .int) ∈ gT := gT_in 606 rfl rfl
theorem gw_623 : Cond.methodLink RX10 183 yX6_goOneMinute ∈ gT := gT_in 623 (by decide +kernel) (by decide +kernel)
theorem gw_624 : Cond.instanceMethod yX6_goOneMinute ∈ gT := gT_in 624 (by decide +kernel) (by decide +kernel)
theorem gw_625 : Cond.selects RX6 yX6_goOneMinute yX6_goOneMinute ∈ gT := gT_in 625 (by decide +kernel) (by decide +kernel)
set_option maxRecDepth 100000 in
theorem gw_626 : Cond.code yX6_goOneMinute cX6_goOneMinute 4 (some .int) ∈ gT := gT_in 626 rfl rfl
theorem gw_627 : Cond.methodLink RX6 101 yX0_orderAt ∈ gT := gT_in 627 (by decide +kernel) (by decide +kernel)
theorem gw_628 : Cond.instanceMethod yX0_orderAt ∈ gT := gT_in 628 (by decide +kernel) (by decide +kernel)
theorem gw_629 : Cond.selects RX0 yX0_orderAt yX0_orderAt ∈ gT := gT_in 629 (by decide +kernel) (by decide +kernel)
set_option maxRecDepth 100000 in
theorem gw_630 : Cond.code yX0_orderAt cX0_orderAt 2 (some (.object "BucketBrigade$Order")) ∈ gT := gT_in 630 rfl rfl
theorem gw_631 : Cond.methodLink RX6 105 yX6_obey ∈ gT := gT_in 631 (by decide +kernel) (by decide +kernel)
theorem gw_633 : Cond.instanceMethod yX6_obey ∈ gT := gT_in 633 (by decide +kernel) (by decide +kernel)
set_option maxRecDepth 100000 in
theorem gw_634 : Cond.code yX6_obey cX6_obey 6 none ∈ gT := gT_in 634 rfl rfl
theorem gw_635 : Cond.methodLink RX6 136 yX6_reckon ∈ gT := gT_in 635 (by decide +kernel) (by decide +kernel)
theorem gw_637 : Cond.instanceMethod yX6_reckon ∈ gT := gT_in 637 (by decide +kernel) (by decide +kernel)
set_option maxRecDepth 100000 in
theorem gw_638 : Cond.code yX6_reckon cX6_reckon 4 (some .int) ∈ gT := gT_in 638 rfl rfl
theorem gw_639 : Cond.methodLink RX6 161 yX7_clear ∈ gT := gT_in 639 (by decide +kernel) (by decide +kernel)
theorem gw_640 : Cond.instanceMethod yX7_clear ∈ gT := gT_in 640 (by decide +kernel) (by decide +kernel)
theorem gw_641 : Cond.selects RX7 yX7_clear yX7_clear ∈ gT := gT_in 641 (by decide +kernel) (by decide +kernel)
set_option maxRecDepth 100000 in
theorem gw_642 : Cond.code yX7_clear cX7_clear 1 none ∈ gT := gT_in 642 rfl rfl
theorem gw_643 : Cond.methodLink RX6 155 yJ9_max_7cf53 ∈ gT := gT_in 643 (by decide +kernel) (by decide +kernel)
theorem gw_644 : Cond.static yJ9_max_7cf53 ∈ gT := gT_in 644 (by decide +kernel) (by decide +kernel)
set_option maxRecDepth 100000 in
theorem gw_645 : Cond.code yJ9_max_7cf53 cJ9_max_7cf53 2 (some .int) ∈ gT := gT_in 645 rfl rfl
theorem gw_646 : Cond.methodLink RX6 171 yX6_step ∈ gT := gT_in 646 (by decide +kernel) (by decide +kernel)
theorem gw_648 : Cond.instanceMethod yX6_step ∈ gT := gT_in 648 (by decide +kernel) (by decide +kernel)
set_option maxRecDepth 100000 in
theorem gw_649 : Cond.code yX6_step cX6_step 6 none ∈ gT := gT_in 649 rfl rfl
theorem gw_650 : Cond.methodLink RX6 178 yX7_push ∈ gT := gT_in 650 (by decide +kernel) (by decide +kernel)
theorem gw_651 : Cond.instanceMethod yX7_push ∈ gT := gT_in 651 (by decide +kernel) (by decide +kernel)
theorem gw_652 : Cond.selects RX7 yX7_push yX7_push ∈ gT := gT_in 652 (by decide +kernel) (by decide +kernel)
set_option maxRecDepth 100000 in
theorem gw_653 : Cond.code yX7_push cX7_push 2 none ∈ gT := gT_in 653 rfl rfl
theorem gw_654 : Cond.methodLink RX6 175 yX7_pop ∈ gT := gT_in 654 (by decide +kernel) (by decide +kernel)
theorem gw_655 : Cond.instanceMethod yX7_pop ∈ gT := gT_in 655 (by decide +kernel) (by decide +kernel)
theorem gw_656 : Cond.selects RX7 yX7_pop yX7_pop ∈ gT := gT_in 656 (by decide +kernel) (by decide +kernel)
set_option maxRecDepth 100000 in
theorem gw_657 : Cond.code yX7_pop cX7_pop 1 (some .int) ∈ gT := gT_in 657 rfl rfl
theorem gw_658 : Cond.methodLink RX6 181 yX2_known ∈ gT := gT_in 658 (by decide +kernel) (by decide +kernel)
theorem gw_659 : Cond.instanceMethod yX2_known ∈ gT := gT_in 659 (by decide +kernel) (by decide +kernel)
theorem gw_660 : Cond.selects RX2 yX2_known yX2_known ∈ gT := gT_in 660 (by decide +kernel) (by decide +kernel)
set_option maxRecDepth 100000 in
theorem gw_661 : Cond.code yX2_known cX2_known 2 (some .int) ∈ gT := gT_in 661 rfl rfl
theorem gw_662 : Cond.methodLink RX2 89 yX2_isFull ∈ gT := gT_in 662 (by decide +kernel) (by decide +kernel)
theorem gw_663 : Cond.instanceMethod yX2_isFull ∈ gT := gT_in 663 (by decide +kernel) (by decide +kernel)
theorem gw_664 : Cond.selects RX2 yX2_isFull yX2_isFull ∈ gT := gT_in 664 (by decide +kernel) (by decide +kernel)
set_option maxRecDepth 100000 in
theorem gw_665 : Cond.code yX2_isFull cX2_isFull 1 (some .boolean) ∈ gT := gT_in 665 rfl rfl
theorem gw_666 : Cond.methodLink RX6 185 yX6_combined ∈ gT := gT_in 666 (by decide +kernel) (by decide +kernel)
theorem gw_667 : Cond.static yX6_combined ∈ gT := gT_in 667 (by decide +kernel) (by decide +kernel)
set_option maxRecDepth 100000 in
theorem gw_668 : Cond.code yX6_combined cX6_combined 3 (some .int) ∈ gT := gT_in 668 rfl rfl
theorem gw_669 : Cond.methodLink RX6 150 yJ9_min_7cf53 ∈ gT := gT_in 669 (by decide +kernel) (by decide +kernel)
theorem gw_670 : Cond.static yJ9_min_7cf53 ∈ gT := gT_in 670 (by decide +kernel) (by decide +kernel)
set_option maxRecDepth 100000 in
theorem gw_671 : Cond.code yJ9_min_7cf53 cJ9_min_7cf53 2 (some .int) ∈ gT := gT_in 671 rfl rfl
theorem gw_672 : Cond.methodLink RX6 109 yX6_letFolkCome ∈ gT := gT_in 672 (by decide +kernel) (by decide +kernel)
theorem gw_674 : Cond.instanceMethod yX6_letFolkCome ∈ gT := gT_in 674 (by decide +kernel) (by decide +kernel)
set_option maxRecDepth 100000 in
theorem gw_675 : Cond.code yX6_letFolkCome cX6_letFolkCome 4 none ∈ gT := gT_in 675 rfl rfl
theorem gw_676 : Cond.methodLink RX6 82 yX6_folkAt ∈ gT := gT_in 676 (by decide +kernel) (by decide +kernel)
theorem gw_677 : Cond.instanceMethod yX6_folkAt ∈ gT := gT_in 677 (by decide +kernel) (by decide +kernel)
theorem gw_678 : Cond.selects RX6 yX6_folkAt yX6_folkAt ∈ gT := gT_in 678 (by decide +kernel) (by decide +kernel)
set_option maxRecDepth 100000 in
theorem gw_679 : Cond.code yX6_folkAt cX6_folkAt 2 (some (.object "BucketBrigade$Folk")) ∈ gT := gT_in 679 rfl rfl
theorem gw_680 : Cond.methodLink RX6 189 yX1_comeIn ∈ gT := gT_in 680 (by decide +kernel) (by decide +kernel)
theorem gw_681 : Cond.instanceMethod yX1_comeIn ∈ gT := gT_in 681 (by decide +kernel) (by decide +kernel)
theorem gw_682 : Cond.selects RX1 yX1_comeIn yX1_comeIn ∈ gT := gT_in 682 (by decide +kernel) (by decide +kernel)
set_option maxRecDepth 100000 in
theorem gw_683 : Cond.code yX1_comeIn cX1_comeIn 2 (some .boolean) ∈ gT := gT_in 683 rfl rfl
theorem gw_684 : Cond.methodLink RX6 197 yX6_takeIn ∈ gT := gT_in 684 (by decide +kernel) (by decide +kernel)
theorem gw_685 : Cond.instanceMethod yX6_takeIn ∈ gT := gT_in 685 (by decide +kernel) (by decide +kernel)
theorem gw_686 : Cond.selects RX6 yX6_takeIn yX6_takeIn ∈ gT := gT_in 686 (by decide +kernel) (by decide +kernel)
set_option maxRecDepth 100000 in
theorem gw_687 : Cond.code yX6_takeIn cX6_takeIn 4 none ∈ gT := gT_in 687 rfl rfl
theorem gw_688 : Cond.methodLink RX6 93 yX2_takePail ∈ gT := gT_in 688 (by decide +kernel) (by decide +kernel)
theorem gw_689 : Cond.instanceMethod yX2_takePail ∈ gT := gT_in 689 (by decide +kernel) (by decide +kernel)
theorem gw_690 : Cond.selects RX2 yX2_takePail yX2_takePail ∈ gT := gT_in 690 (by decide +kernel) (by decide +kernel)
set_option maxRecDepth 100000 in
theorem gw_691 : Cond.code yX2_takePail cX2_takePail 2 none ∈ gT := gT_in 691 rfl rfl
theorem gw_692 : Cond.methodLink RX2 93 yX4_dropFront ∈ gT := gT_in 692 (by decide +kernel) (by decide +kernel)
theorem gw_693 : Cond.instanceMethod yX4_dropFront ∈ gT := gT_in 693 (by decide +kernel) (by decide +kernel)
theorem gw_694 : Cond.selects RX4 yX4_dropFront yX4_dropFront ∈ gT := gT_in 694 (by decide +kernel) (by decide +kernel)
set_option maxRecDepth 100000 in
theorem gw_695 : Cond.code yX4_dropFront cX4_dropFront 1 none ∈ gT := gT_in 695 rfl rfl
theorem gw_696 : Cond.methodLink RX2 96 yX4_add ∈ gT := gT_in 696 (by decide +kernel) (by decide +kernel)
theorem gw_697 : Cond.instanceMethod yX4_add ∈ gT := gT_in 697 (by decide +kernel) (by decide +kernel)
theorem gw_698 : Cond.selects RX4 yX4_add yX4_add ∈ gT := gT_in 698 (by decide +kernel) (by decide +kernel)
set_option maxRecDepth 100000 in
theorem gw_699 : Cond.code yX4_add cX4_add 3 none ∈ gT := gT_in 699 rfl rfl
theorem gw_700 : Cond.methodLink RX6 115 yX2_getTokens ∈ gT := gT_in 700 (by decide +kernel) (by decide +kernel)
theorem gw_701 : Cond.instanceMethod yX2_getTokens ∈ gT := gT_in 701 (by decide +kernel) (by decide +kernel)
theorem gw_702 : Cond.selects RX2 yX2_getTokens yX2_getTokens ∈ gT := gT_in 702 (by decide +kernel) (by decide +kernel)
set_option maxRecDepth 100000 in
theorem gw_703 : Cond.code yX2_getTokens cX2_getTokens 2 none ∈ gT := gT_in 703 rfl rfl
theorem gw_704 : Cond.methodLink RX2 100 yJ9_min_7cf53 ∈ gT := gT_in 704 (by decide +kernel) (by decide +kernel)
theorem gw_705 : Cond.methodLink RX6 118 yX6_sendPails ∈ gT := gT_in 705 (by decide +kernel) (by decide +kernel)
theorem gw_707 : Cond.instanceMethod yX6_sendPails ∈ gT := gT_in 707 (by decide +kernel) (by decide +kernel)
set_option maxRecDepth 100000 in
theorem gw_708 : Cond.code yX6_sendPails cX6_sendPails 3 (some .int) ∈ gT := gT_in 708 rfl rfl
theorem gw_709 : Cond.methodLink RX6 204 yX6_whoSends ∈ gT := gT_in 709 (by decide +kernel) (by decide +kernel)
theorem gw_711 : Cond.instanceMethod yX6_whoSends ∈ gT := gT_in 711 (by decide +kernel) (by decide +kernel)
set_option maxRecDepth 100000 in
theorem gw_712 : Cond.code yX6_whoSends cX6_whoSends 4 (some (.object "BucketBrigade$Lane")) ∈ gT := gT_in 712 rfl rfl
theorem gw_713 : Cond.methodLink RX6 210 yX2_canSend ∈ gT := gT_in 713 (by decide +kernel) (by decide +kernel)
theorem gw_714 : Cond.instanceMethod yX2_canSend ∈ gT := gT_in 714 (by decide +kernel) (by decide +kernel)
theorem gw_715 : Cond.selects RX2 yX2_canSend yX2_canSend ∈ gT := gT_in 715 (by decide +kernel) (by decide +kernel)
set_option maxRecDepth 100000 in
theorem gw_716 : Cond.code yX2_canSend cX2_canSend 1 (some .boolean) ∈ gT := gT_in 716 rfl rfl
theorem gw_717 : Cond.methodLink RX2 106 yX2_isLetSend ∈ gT := gT_in 717 (by decide +kernel) (by decide +kernel)
theorem gw_719 : Cond.instanceMethod yX2_isLetSend ∈ gT := gT_in 719 (by decide +kernel) (by decide +kernel)
set_option maxRecDepth 100000 in
theorem gw_720 : Cond.code yX2_isLetSend cX2_isLetSend 2 (some .boolean) ∈ gT := gT_in 720 rfl rfl
theorem gw_721 : Cond.methodLink RX2 109 yX2_whoLends ∈ gT := gT_in 721 (by decide +kernel) (by decide +kernel)
theorem gw_722 : Cond.methodLink RX6 214 yX2_goesAheadOf ∈ gT := gT_in 722 (by decide +kernel) (by decide +kernel)
theorem gw_723 : Cond.instanceMethod yX2_goesAheadOf ∈ gT := gT_in 723 (by decide +kernel) (by decide +kernel)
theorem gw_724 : Cond.selects RX2 yX2_goesAheadOf yX2_goesAheadOf ∈ gT := gT_in 724 (by decide +kernel) (by decide +kernel)
set_option maxRecDepth 100000 in
theorem gw_725 : Cond.code yX2_goesAheadOf cX2_goesAheadOf 3 (some .boolean) ∈ gT := gT_in 725 rfl rfl
theorem gw_726 : Cond.methodLink RX6 207 yX2_sendPail ∈ gT := gT_in 726 (by decide +kernel) (by decide +kernel)
theorem gw_727 : Cond.instanceMethod yX2_sendPail ∈ gT := gT_in 727 (by decide +kernel) (by decide +kernel)
theorem gw_728 : Cond.selects RX2 yX2_sendPail yX2_sendPail ∈ gT := gT_in 728 (by decide +kernel) (by decide +kernel)
set_option maxRecDepth 100000 in
theorem gw_729 : Cond.code yX2_sendPail cX2_sendPail 4 none ∈ gT := gT_in 729 rfl rfl
theorem gw_730 : Cond.methodLink RX2 113 yX4_at ∈ gT := gT_in 730 (by decide +kernel) (by decide +kernel)
theorem gw_731 : Cond.methodLink RX6 122 yX2_beginMinute ∈ gT := gT_in 731 (by decide +kernel) (by decide +kernel)
theorem gw_732 : Cond.instanceMethod yX2_beginMinute ∈ gT := gT_in 732 (by decide +kernel) (by decide +kernel)
theorem gw_733 : Cond.selects RX2 yX2_beginMinute yX2_beginMinute ∈ gT := gT_in 733 (by decide +kernel) (by decide +kernel)
set_option maxRecDepth 100000 in
theorem gw_734 : Cond.code yX2_beginMinute cX2_beginMinute 1 none ∈ gT := gT_in 734 rfl rfl
theorem gw_735 : Cond.methodLink RL 150 yX10_foresee ∈ gT := gT_in 735 (by decide +kernel) (by decide +kernel)
theorem gw_736 : Cond.instanceMethod yX10_foresee ∈ gT := gT_in 736 (by decide +kernel) (by decide +kernel)
theorem gw_737 : Cond.selects RX10 yX10_foresee yX10_foresee ∈ gT := gT_in 737 (by decide +kernel) (by decide +kernel)
set_option maxRecDepth 100000 in
theorem gw_738 : Cond.code yX10_foresee cX10_foresee 4 (some .int) ∈ gT := gT_in 738 rfl rfl
theorem gw_741 : Cond.methodLink RX10 72 yX6_copyFrom ∈ gT := gT_in 741 (by decide +kernel) (by decide +kernel)
theorem gw_742 : Cond.instanceMethod yX6_copyFrom ∈ gT := gT_in 742 (by decide +kernel) (by decide +kernel)
theorem gw_743 : Cond.selects RX6 yX6_copyFrom yX6_copyFrom ∈ gT := gT_in 743 (by decide +kernel) (by decide +kernel)
set_option maxRecDepth 100000 in
theorem gw_744 : Cond.code yX6_copyFrom cX6_copyFrom 5 none ∈ gT := gT_in 744 rfl rfl
theorem gw_745 : Cond.methodLink RX6 60 yX6_begin ∈ gT := gT_in 745 (by decide +kernel) (by decide +kernel)
theorem gw_746 : Cond.instanceMethod yX6_begin ∈ gT := gT_in 746 (by decide +kernel) (by decide +kernel)
theorem gw_747 : Cond.selects RX6 yX6_begin yX6_begin ∈ gT := gT_in 747 (by decide +kernel) (by decide +kernel)
set_option maxRecDepth 100000 in
theorem gw_748 : Cond.code yX6_begin cX6_begin 2 none ∈ gT := gT_in 748 rfl rfl
theorem gw_749 : Cond.methodLink RX6 67 yX6_addLane ∈ gT := gT_in 749 (by decide +kernel) (by decide +kernel)
theorem gw_750 : Cond.instanceMethod yX6_addLane ∈ gT := gT_in 750 (by decide +kernel) (by decide +kernel)
theorem gw_751 : Cond.selects RX6 yX6_addLane yX6_addLane ∈ gT := gT_in 751 (by decide +kernel) (by decide +kernel)
set_option maxRecDepth 100000 in
theorem gw_752 : Cond.code yX6_addLane cX6_addLane 1 (some (.object "BucketBrigade$Lane")) ∈ gT := gT_in 752 rfl rfl
theorem gw_753 : Cond.methodLink RX6 78 yX2_copyFrom ∈ gT := gT_in 753 (by decide +kernel) (by decide +kernel)
theorem gw_754 : Cond.instanceMethod yX2_copyFrom ∈ gT := gT_in 754 (by decide +kernel) (by decide +kernel)
theorem gw_755 : Cond.selects RX2 yX2_copyFrom yX2_copyFrom ∈ gT := gT_in 755 (by decide +kernel) (by decide +kernel)
set_option maxRecDepth 100000 in
theorem gw_756 : Cond.code yX2_copyFrom cX2_copyFrom 3 none ∈ gT := gT_in 756 rfl rfl
theorem gw_757 : Cond.methodLink RX2 69 yX2_tell ∈ gT := gT_in 757 (by decide +kernel) (by decide +kernel)
theorem gw_758 : Cond.instanceMethod yX2_tell ∈ gT := gT_in 758 (by decide +kernel) (by decide +kernel)
theorem gw_759 : Cond.selects RX2 yX2_tell yX2_tell ∈ gT := gT_in 759 (by decide +kernel) (by decide +kernel)
set_option maxRecDepth 100000 in
theorem gw_760 : Cond.code yX2_tell cX2_tell 8 none ∈ gT := gT_in 760 rfl rfl
theorem gw_761 : Cond.methodLink RX2 63 yX2_beginMinute ∈ gT := gT_in 761 (by decide +kernel) (by decide +kernel)
theorem gw_762 : Cond.methodLink RX2 66 yX4_clear ∈ gT := gT_in 762 (by decide +kernel) (by decide +kernel)
theorem gw_763 : Cond.instanceMethod yX4_clear ∈ gT := gT_in 763 (by decide +kernel) (by decide +kernel)
theorem gw_764 : Cond.selects RX4 yX4_clear yX4_clear ∈ gT := gT_in 764 (by decide +kernel) (by decide +kernel)
set_option maxRecDepth 100000 in
theorem gw_765 : Cond.code yX4_clear cX4_clear 1 none ∈ gT := gT_in 765 rfl rfl
theorem gw_766 : Cond.methodLink RX2 73 yX4_copyFrom ∈ gT := gT_in 766 (by decide +kernel) (by decide +kernel)
theorem gw_767 : Cond.instanceMethod yX4_copyFrom ∈ gT := gT_in 767 (by decide +kernel) (by decide +kernel)
theorem gw_768 : Cond.selects RX4 yX4_copyFrom yX4_copyFrom ∈ gT := gT_in 768 (by decide +kernel) (by decide +kernel)
set_option maxRecDepth 100000 in
theorem gw_769 : Cond.code yX4_copyFrom cX4_copyFrom 3 none ∈ gT := gT_in 769 rfl rfl
theorem gw_770 : Cond.methodLink RX4 26 yX4_clear ∈ gT := gT_in 770 (by decide +kernel) (by decide +kernel)
theorem gw_771 : Cond.methodLink RX4 29 yX4_at ∈ gT := gT_in 771 (by decide +kernel) (by decide +kernel)
theorem gw_772 : Cond.methodLink RX4 32 yX4_add ∈ gT := gT_in 772 (by decide +kernel) (by decide +kernel)
theorem gw_773 : Cond.methodLink RX6 86 yX6_addFolk ∈ gT := gT_in 773 (by decide +kernel) (by decide +kernel)
theorem gw_774 : Cond.instanceMethod yX6_addFolk ∈ gT := gT_in 774 (by decide +kernel) (by decide +kernel)
theorem gw_775 : Cond.selects RX6 yX6_addFolk yX6_addFolk ∈ gT := gT_in 775 (by decide +kernel) (by decide +kernel)
set_option maxRecDepth 100000 in
theorem gw_776 : Cond.code yX6_addFolk cX6_addFolk 1 (some (.object "BucketBrigade$Folk")) ∈ gT := gT_in 776 rfl rfl
theorem gw_777 : Cond.methodLink RX6 90 yX1_copyFrom ∈ gT := gT_in 777 (by decide +kernel) (by decide +kernel)
theorem gw_778 : Cond.instanceMethod yX1_copyFrom ∈ gT := gT_in 778 (by decide +kernel) (by decide +kernel)
theorem gw_779 : Cond.selects RX1 yX1_copyFrom yX1_copyFrom ∈ gT := gT_in 779 (by decide +kernel) (by decide +kernel)
set_option maxRecDepth 100000 in
theorem gw_780 : Cond.code yX1_copyFrom cX1_copyFrom 2 none ∈ gT := gT_in 780 rfl rfl
theorem gw_781 : Cond.methodLink RX1 25 yX1_tell ∈ gT := gT_in 781 (by decide +kernel) (by decide +kernel)
theorem gw_782 : Cond.instanceMethod yX1_tell ∈ gT := gT_in 782 (by decide +kernel) (by decide +kernel)
theorem gw_783 : Cond.selects RX1 yX1_tell yX1_tell ∈ gT := gT_in 783 (by decide +kernel) (by decide +kernel)
set_option maxRecDepth 100000 in
theorem gw_784 : Cond.code yX1_tell cX1_tell 5 none ∈ gT := gT_in 784 rfl rfl
theorem gw_785 : Cond.methodLink RL 153 yX12_pass ∈ gT := gT_in 785 (by decide +kernel) (by decide +kernel)
theorem gw_786 : Cond.instanceMethod yX12_pass ∈ gT := gT_in 786 (by decide +kernel) (by decide +kernel)
theorem gw_787 : Cond.selects RX12 yX12_pass yX12_pass ∈ gT := gT_in 787 (by decide +kernel) (by decide +kernel)
set_option maxRecDepth 100000 in
theorem gw_788 : Cond.code yX12_pass cX12_pass 8 none ∈ gT := gT_in 788 rfl rfl
theorem gw_789 : Cond.methodLink RX12 172 yX12_holds ∈ gT := gT_in 789 (by decide +kernel) (by decide +kernel)
theorem gw_791 : Cond.instanceMethod yX12_holds ∈ gT := gT_in 791 (by decide +kernel) (by decide +kernel)
theorem gw_792 : Cond.instantiable RX12 8 ∈ gT := gT_in 792 (by decide +kernel) (by decide +kernel)
set_option maxRecDepth 100000 in
theorem gw_793 : Cond.code yX12_holds cX12_holds 5 (some .boolean) ∈ gT := gT_in 793 rfl rfl
theorem gw_794 : Cond.methodLink RX12 143 yX12_value ∈ gT := gT_in 794 (by decide +kernel) (by decide +kernel)
theorem gw_796 : Cond.instanceMethod yX12_value ∈ gT := gT_in 796 (by decide +kernel) (by decide +kernel)
set_option maxRecDepth 100000 in
theorem gw_797 : Cond.code yX12_value cX12_value 4 (some .int) ∈ gT := gT_in 797 rfl rfl
theorem gw_798 : Cond.methodLink RX12 99 yJ9_min_7cf53 ∈ gT := gT_in 798 (by decide +kernel) (by decide +kernel)
theorem gw_799 : Cond.methodLink RX12 175 yX12_bring ∈ gT := gT_in 799 (by decide +kernel) (by decide +kernel)
theorem gw_800 : Cond.instanceMethod yX12_bring ∈ gT := gT_in 800 (by decide +kernel) (by decide +kernel)
theorem gw_801 : Cond.selects RX12 yX12_bring yX12_bring ∈ gT := gT_in 801 (by decide +kernel) (by decide +kernel)
set_option maxRecDepth 100000 in
theorem gw_802 : Cond.code yX12_bring cX12_bring 5 (some .int) ∈ gT := gT_in 802 rfl rfl
theorem gw_803 : Cond.methodLink RX12 96 yX11_pop ∈ gT := gT_in 803 (by decide +kernel) (by decide +kernel)
theorem gw_804 : Cond.instanceMethod yX11_pop ∈ gT := gT_in 804 (by decide +kernel) (by decide +kernel)
theorem gw_805 : Cond.selects RX11 yX11_pop yX11_pop ∈ gT := gT_in 805 (by decide +kernel) (by decide +kernel)
set_option maxRecDepth 100000 in
theorem gw_806 : Cond.code yX11_pop cX11_pop 2 none ∈ gT := gT_in 806 rfl rfl
theorem gw_807 : Cond.methodLink RX12 185 yX11_can ∈ gT := gT_in 807 (by decide +kernel) (by decide +kernel)
theorem gw_808 : Cond.instanceMethod yX11_can ∈ gT := gT_in 808 (by decide +kernel) (by decide +kernel)
theorem gw_809 : Cond.selects RX11 yX11_can yX11_can ∈ gT := gT_in 809 (by decide +kernel) (by decide +kernel)
set_option maxRecDepth 100000 in
theorem gw_810 : Cond.code yX11_can cX11_can 2 (some .boolean) ∈ gT := gT_in 810 rfl rfl
theorem gw_811 : Cond.methodLink RX11 31 yX11_lender ∈ gT := gT_in 811 (by decide +kernel) (by decide +kernel)
theorem gw_812 : Cond.instanceMethod yX11_lender ∈ gT := gT_in 812 (by decide +kernel) (by decide +kernel)
theorem gw_813 : Cond.selects RX11 yX11_lender yX11_lender ∈ gT := gT_in 813 (by decide +kernel) (by decide +kernel)
set_option maxRecDepth 100000 in
theorem gw_814 : Cond.code yX11_lender cX11_lender 2 (some (.object "BucketBrigadeLaw$Lane")) ∈ gT := gT_in 814 rfl rfl
theorem gw_815 : Cond.methodLink RX12 189 yX11_order ∈ gT := gT_in 815 (by decide +kernel) (by decide +kernel)
theorem gw_816 : Cond.instanceMethod yX11_order ∈ gT := gT_in 816 (by decide +kernel) (by decide +kernel)
theorem gw_817 : Cond.selects RX11 yX11_order yX11_order ∈ gT := gT_in 817 (by decide +kernel) (by decide +kernel)
set_option maxRecDepth 100000 in
theorem gw_818 : Cond.code yX11_order cX11_order 1 (some .int) ∈ gT := gT_in 818 rfl rfl
theorem gw_819 : Cond.methodLink RX12 193 yX11_lender ∈ gT := gT_in 819 (by decide +kernel) (by decide +kernel)
theorem gw_820 : Cond.methodLink RL 168 yX12_isSame ∈ gT := gT_in 820 (by decide +kernel) (by decide +kernel)
theorem gw_821 : Cond.instanceMethod yX12_isSame ∈ gT := gT_in 821 (by decide +kernel) (by decide +kernel)
theorem gw_822 : Cond.selects RX12 yX12_isSame yX12_isSame ∈ gT := gT_in 822 (by decide +kernel) (by decide +kernel)
set_option maxRecDepth 100000 in
theorem gw_823 : Cond.code yX12_isSame cX12_isSame 8 (some .boolean) ∈ gT := gT_in 823 rfl rfl
theorem gw_824 : Cond.methodLink RX12 200 yX10_count ∈ gT := gT_in 824 (by decide +kernel) (by decide +kernel)
theorem gw_825 : Cond.methodLink RX12 206 yX12_counted ∈ gT := gT_in 825 (by decide +kernel) (by decide +kernel)
theorem gw_826 : Cond.instanceMethod yX12_counted ∈ gT := gT_in 826 (by decide +kernel) (by decide +kernel)
theorem gw_827 : Cond.selects RX12 yX12_counted yX12_counted ∈ gT := gT_in 827 (by decide +kernel) (by decide +kernel)
set_option maxRecDepth 100000 in
theorem gw_828 : Cond.code yX12_counted cX12_counted 10 (some .int) ∈ gT := gT_in 828 rfl rfl
theorem gw_829 : Cond.methodLink RX12 209 yX10_lane ∈ gT := gT_in 829 (by decide +kernel) (by decide +kernel)
theorem gw_830 : Cond.methodLink RX12 212 yX10_pail ∈ gT := gT_in 830 (by decide +kernel) (by decide +kernel)
theorem gw_831 : Cond.methodLink RX12 215 yX10_lender ∈ gT := gT_in 831 (by decide +kernel) (by decide +kernel)
theorem gw_832 : Cond.methodLink RX12 217 yX10_folk ∈ gT := gT_in 832 (by decide +kernel) (by decide +kernel)
theorem gw_833 : Cond.instanceMethod yX10_folk ∈ gT := gT_in 833 (by decide +kernel) (by decide +kernel)
theorem gw_834 : Cond.selects RX10 yX10_folk yX10_folk ∈ gT := gT_in 834 (by decide +kernel) (by decide +kernel)
set_option maxRecDepth 100000 in
theorem gw_835 : Cond.code yX10_folk cX10_folk 4 (some .int) ∈ gT := gT_in 835 rfl rfl
theorem gw_836 : Cond.methodLink RX10 116 yX6_folkAt ∈ gT := gT_in 836 (by decide +kernel) (by decide +kernel)
theorem gw_838 : Cond.methodLink RX10 122 yX1_fact ∈ gT := gT_in 838 (by decide +kernel) (by decide +kernel)
theorem gw_839 : Cond.instanceMethod yX1_fact ∈ gT := gT_in 839 (by decide +kernel) (by decide +kernel)
theorem gw_840 : Cond.selects RX1 yX1_fact yX1_fact ∈ gT := gT_in 840 (by decide +kernel) (by decide +kernel)
set_option maxRecDepth 100000 in
theorem gw_841 : Cond.code yX1_fact cX1_fact 2 (some .int) ∈ gT := gT_in 841 rfl rfl
theorem gw_842 : Cond.methodLink RX12 219 yX10_eldest ∈ gT := gT_in 842 (by decide +kernel) (by decide +kernel)
theorem gw_843 : Cond.instanceMethod yX10_eldest ∈ gT := gT_in 843 (by decide +kernel) (by decide +kernel)
theorem gw_844 : Cond.selects RX10 yX10_eldest yX10_eldest ∈ gT := gT_in 844 (by decide +kernel) (by decide +kernel)
set_option maxRecDepth 100000 in
theorem gw_845 : Cond.code yX10_eldest cX10_eldest 6 (some .int) ∈ gT := gT_in 845 rfl rfl
theorem gw_846 : Cond.methodLink RX12 222 yX10_mean ∈ gT := gT_in 846 (by decide +kernel) (by decide +kernel)
theorem gw_847 : Cond.instanceMethod yX10_mean ∈ gT := gT_in 847 (by decide +kernel) (by decide +kernel)
theorem gw_848 : Cond.selects RX10 yX10_mean yX10_mean ∈ gT := gT_in 848 (by decide +kernel) (by decide +kernel)
set_option maxRecDepth 100000 in
theorem gw_849 : Cond.code yX10_mean cX10_mean 5 (some .double) ∈ gT := gT_in 849 rfl rfl
theorem gw_850 : Cond.methodLink RL 132 yX12_text ∈ gT := gT_in 850 (by decide +kernel) (by decide +kernel)
theorem gw_851 : Cond.instanceMethod yX12_text ∈ gT := gT_in 851 (by decide +kernel) (by decide +kernel)
theorem gw_852 : Cond.selects RX12 yX12_text yX12_text ∈ gT := gT_in 852 (by decide +kernel) (by decide +kernel)
set_option maxRecDepth 100000 in
theorem gw_853 : Cond.code yX12_text cX12_text 6 (some (.object "java/lang/String")) ∈ gT := gT_in 853 rfl rfl
theorem gw_854 : Cond.classLink RX12 105 RJ4 ∈ gT := gT_in 854 (by decide +kernel) (by decide +kernel)
theorem gw_855 : Cond.instantiable RJ4 4 ∈ gT := gT_in 855 (by decide +kernel) (by decide +kernel)
theorem gw_856 : Cond.methodLink RX12 107 yJ4_init_da8c8 ∈ gT := gT_in 856 (by decide +kernel) (by decide +kernel)
theorem gw_857 : Cond.instanceMethod yJ4_init_da8c8 ∈ gT := gT_in 857 (by decide +kernel) (by decide +kernel)
set_option maxRecDepth 100000 in
theorem gw_858 : Cond.code yJ4_init_da8c8 cJ4_init_da8c8 1 none ∈ gT := gT_in 858 rfl rfl
theorem gw_859 : Cond.methodLink RJ4 1 yJ5_init_d00df ∈ gT := gT_in 859 (by decide +kernel) (by decide +kernel)
theorem gw_860 : Cond.instanceMethod yJ5_init_d00df ∈ gT := gT_in 860 (by decide +kernel) (by decide +kernel)
set_option maxRecDepth 100000 in
theorem gw_861 : Cond.code yJ5_init_d00df cJ5_init_d00df 2 none ∈ gT := gT_in 861 rfl rfl
theorem gw_862 : Cond.methodLink RJ5 3 Lib.objectInit ∈ gT := gT_in 862 (by decide +kernel) (by decide +kernel)
theorem gw_863 : Cond.fieldLink RJ5 18 RJ0 "COMPACT_STRINGS" "Z" ∈ gT := gT_in 863 (by decide +kernel) (by decide +kernel)
theorem gw_871 : Cond.fieldLink RJ5 15 RJ5 "value" "[B" ∈ gT := gT_in 871 (by decide +kernel) (by decide +kernel)
theorem gw_872 : Cond.fieldLink RJ5 22 RJ5 "coder" "B" ∈ gT := gT_in 872 (by decide +kernel) (by decide +kernel)
theorem gw_873 : Cond.fieldLink RJ0 1048 RJ5 "maybeLatin1" "Z" ∈ gT := gT_in 873 (by decide +kernel) (by decide +kernel)
theorem gw_874 : Cond.fieldLink RJ5 79 RJ5 "count" "I" ∈ gT := gT_in 874 (by decide +kernel) (by decide +kernel)
theorem gw_883 : Cond.superclass RJ4 RJ5 ∈ gT := gT_in 883 (by decide +kernel) (by decide +kernel)
theorem gw_885 : Cond.methodLink RX12 110 yJ4_append_15ec4 ∈ gT := gT_in 885 (by decide +kernel) (by decide +kernel)
theorem gw_886 : Cond.instanceMethod yJ4_append_15ec4 ∈ gT := gT_in 886 (by decide +kernel) (by decide +kernel)
theorem gw_887 : Cond.selects RJ4 yJ4_append_15ec4 yJ4_append_15ec4 ∈ gT := gT_in 887 (by decide +kernel) (by decide +kernel)
set_option maxRecDepth 100000 in
theorem gw_888 : Cond.code yJ4_append_15ec4 cJ4_append_15ec4 2 (some (.object "java/lang/StringBuilder")) ∈ gT := gT_in 888 rfl rfl
theorem gw_889 : Cond.methodLink RJ4 29 yJ5_append_cf1ce ∈ gT := gT_in 889 (by decide +kernel) (by decide +kernel)
theorem gw_890 : Cond.instanceMethod yJ5_append_cf1ce ∈ gT := gT_in 890 (by decide +kernel) (by decide +kernel)
set_option maxRecDepth 100000 in
theorem gw_891 : Cond.code yJ5_append_cf1ce cJ5_append_cf1ce 3 (some (.object "java/lang/AbstractStringBuilder")) ∈ gT := gT_in 891 rfl rfl
theorem gw_896 : Cond.methodLink RJ5 100 yJ5_ensureCapacityInternal_d00df ∈ gT := gT_in 896 (by decide +kernel) (by decide +kernel)
theorem gw_898 : Cond.instanceMethod yJ5_ensureCapacityInternal_d00df ∈ gT := gT_in 898 (by decide +kernel) (by decide +kernel)
set_option maxRecDepth 100000 in
theorem gw_899 : Cond.code yJ5_ensureCapacityInternal_d00df cJ5_ensureCapacityInternal_d00df 3 none ∈ gT := gT_in 899 rfl rfl
theorem gw_900 : Cond.methodLink RJ5 104 yJ5_newCapacity_0f7a4 ∈ gT := gT_in 900 (by decide +kernel) (by decide +kernel)
theorem gw_902 : Cond.instanceMethod yJ5_newCapacity_0f7a4 ∈ gT := gT_in 902 (by decide +kernel) (by decide +kernel)
set_option maxRecDepth 100000 in
theorem gw_903 : Cond.code yJ5_newCapacity_0f7a4 cJ5_newCapacity_0f7a4 6 (some .int) ∈ gT := gT_in 903 rfl rfl
theorem gw_904 : Cond.methodLink RJ5 114 yJ8_newLength_cabcc ∈ gT := gT_in 904 (by decide +kernel) (by decide +kernel)
theorem gw_905 : Cond.static yJ8_newLength_cabcc ∈ gT := gT_in 905 (by decide +kernel) (by decide +kernel)
set_option maxRecDepth 100000 in
theorem gw_906 : Cond.code yJ8_newLength_cabcc cJ8_newLength_cabcc 4 (some .int) ∈ gT := gT_in 906 rfl rfl
theorem gw_907 : Cond.methodLink RJ8 194 yJ9_max_7cf53 ∈ gT := gT_in 907 (by decide +kernel) (by decide +kernel)
theorem gw_908 : Cond.constant RJ8 200 2147483639 ∈ gT := gT_in 908 (by decide +kernel) (by decide +kernel)
theorem gw_912 : Cond.constant RJ5 39 2147483647 ∈ gT := gT_in 912 (by decide +kernel) (by decide +kernel)
theorem gw_913 : Cond.methodLink RJ5 108 yJ7_copyOf_9075b ∈ gT := gT_in 913 (by decide +kernel) (by decide +kernel)
theorem gw_914 : Cond.static yJ7_copyOf_9075b ∈ gT := gT_in 914 (by decide +kernel) (by decide +kernel)
set_option maxRecDepth 100000 in
theorem gw_915 : Cond.code yJ7_copyOf_9075b cJ7_copyOf_9075b 3 (some (.array .byte)) ∈ gT := gT_in 915 rfl rfl
theorem gw_916 : Cond.methodLink RJ7 310 ⟨"[B", "clone", "()Ljava/lang/Object;"⟩ ∈ gT := gT_in 916 (by decide +kernel) (by decide +kernel)
theorem gw_917 : Cond.sameMethod "[B" "java/lang/Object" "clone" "()Ljava/lang/Object;" ∈ gT := gT_in 917 (by decide +kernel) (by decide +kernel)
theorem gw_918 : Cond.native ⟨"java/lang/Object", "clone", "()Ljava/lang/Object;"⟩ ∈ gT := gT_in 918 (by decide +kernel) (by decide +kernel)
theorem gw_919 : Cond.instanceMethod ⟨"java/lang/Object", "clone", "()Ljava/lang/Object;"⟩ ∈ gT := gT_in 919 (by decide +kernel) (by decide +kernel)
theorem gw_920 : Cond.selects "[B" ⟨"[B", "clone", "()Ljava/lang/Object;"⟩ ⟨"java/lang/Object", "clone", "()Ljava/lang/Object;"⟩ ∈ gT := gT_in 920 (by decide +kernel) (by decide +kernel)
theorem gw_922 : Cond.classLink RJ7 311 "[B" ∈ gT := gT_in 922 (by decide +kernel) (by decide +kernel)
theorem gw_923 : Cond.methodLink RJ7 304 yJ9_min_7cf53 ∈ gT := gT_in 923 (by decide +kernel) (by decide +kernel)
theorem gw_924 : Cond.methodLink RJ7 150 ⟨"java/lang/System", "arraycopy", "(Ljava/lang/Object;ILjava/lang/Object;II)V"⟩ ∈ gT := gT_in 924 (by decide +kernel) (by decide +kernel)
theorem gw_925 : Cond.static ⟨"java/lang/System", "arraycopy", "(Ljava/lang/Object;ILjava/lang/Object;II)V"⟩ ∈ gT := gT_in 925 (by decide +kernel) (by decide +kernel)
theorem gw_926 : Cond.native ⟨"java/lang/System", "arraycopy", "(Ljava/lang/Object;ILjava/lang/Object;II)V"⟩ ∈ gT := gT_in 926 (by decide +kernel) (by decide +kernel)
theorem gw_927 : Cond.methodLink RJ5 83 yJ5_isLatin1_aae02 ∈ gT := gT_in 927 (by decide +kernel) (by decide +kernel)
theorem gw_928 : Cond.instanceMethod yJ5_isLatin1_aae02 ∈ gT := gT_in 928 (by decide +kernel) (by decide +kernel)
theorem gw_929 : Cond.sameMethod "java/lang/AbstractStringBuilder" "java/lang/AbstractStringBuilder" "isLatin1" "()Z" ∈ gT := gT_in 929 (by decide +kernel) (by decide +kernel)
theorem gw_930 : Cond.selects RJ4 yJ5_isLatin1_aae02 yJ5_isLatin1_aae02 ∈ gT := gT_in 930 (by decide +kernel) (by decide +kernel)
set_option maxRecDepth 100000 in
theorem gw_931 : Cond.code yJ5_isLatin1_aae02 cJ5_isLatin1_aae02 1 (some .boolean) ∈ gT := gT_in 931 rfl rfl
theorem gw_947 : Cond.methodLink RJ5 32 yJ0_length_8abf5 ∈ gT := gT_in 947 (by decide +kernel) (by decide +kernel)
theorem gw_948 : Cond.methodLink RJ5 208 yJ5_putStringAt_47b60 ∈ gT := gT_in 948 (by decide +kernel) (by decide +kernel)
theorem gw_950 : Cond.instanceMethod yJ5_putStringAt_47b60 ∈ gT := gT_in 950 (by decide +kernel) (by decide +kernel)
set_option maxRecDepth 100000 in
theorem gw_951 : Cond.code yJ5_putStringAt_47b60 cJ5_putStringAt_47b60 3 none ∈ gT := gT_in 951 rfl rfl
theorem gw_952 : Cond.methodLink RJ5 397 yJ5_inflateIfNeededFor_a7421 ∈ gT := gT_in 952 (by decide +kernel) (by decide +kernel)
theorem gw_954 : Cond.instanceMethod yJ5_inflateIfNeededFor_a7421 ∈ gT := gT_in 954 (by decide +kernel) (by decide +kernel)
set_option maxRecDepth 100000 in
theorem gw_955 : Cond.code yJ5_inflateIfNeededFor_a7421 cJ5_inflateIfNeededFor_a7421 2 none ∈ gT := gT_in 955 rfl rfl
theorem gw_956 : Cond.methodLink RJ5 40 yJ0_coder_7d493 ∈ gT := gT_in 956 (by decide +kernel) (by decide +kernel)
theorem gw_976 : Cond.methodLink RJ5 399 yJ0_getBytes_840e7 ∈ gT := gT_in 976 (by decide +kernel) (by decide +kernel)
theorem gw_977 : Cond.instanceMethod yJ0_getBytes_840e7 ∈ gT := gT_in 977 (by decide +kernel) (by decide +kernel)
theorem gw_978 : Cond.selects RJ0 yJ0_getBytes_840e7 yJ0_getBytes_840e7 ∈ gT := gT_in 978 (by decide +kernel) (by decide +kernel)
set_option maxRecDepth 100000 in
theorem gw_979 : Cond.code yJ0_getBytes_840e7 cJ0_getBytes_840e7 4 none ∈ gT := gT_in 979 rfl rfl
theorem gw_980 : Cond.methodLink RJ0 212 ⟨"java/lang/System", "arraycopy", "(Ljava/lang/Object;ILjava/lang/Object;II)V"⟩ ∈ gT := gT_in 980 (by decide +kernel) (by decide +kernel)
theorem gw_982 : Cond.methodLink RX12 114 yJ4_append_bf812 ∈ gT := gT_in 982 (by decide +kernel) (by decide +kernel)
theorem gw_983 : Cond.instanceMethod yJ4_append_bf812 ∈ gT := gT_in 983 (by decide +kernel) (by decide +kernel)
theorem gw_984 : Cond.selects RJ4 yJ4_append_bf812 yJ4_append_bf812 ∈ gT := gT_in 984 (by decide +kernel) (by decide +kernel)
set_option maxRecDepth 100000 in
theorem gw_985 : Cond.code yJ4_append_bf812 cJ4_append_bf812 2 (some (.object "java/lang/StringBuilder")) ∈ gT := gT_in 985 rfl rfl
theorem gw_986 : Cond.methodLink RJ4 53 yJ5_append_c97b9 ∈ gT := gT_in 986 (by decide +kernel) (by decide +kernel)
theorem gw_987 : Cond.instanceMethod yJ5_append_c97b9 ∈ gT := gT_in 987 (by decide +kernel) (by decide +kernel)
set_option maxRecDepth 100000 in
theorem gw_988 : Cond.code yJ5_append_c97b9 cJ5_append_c97b9 4 (some (.object "java/lang/AbstractStringBuilder")) ∈ gT := gT_in 988 rfl rfl
theorem gw_989 : Cond.methodLink RJ5 245 yJ6_stringSize_0f7a4 ∈ gT := gT_in 989 (by decide +kernel) (by decide +kernel)
theorem gw_990 : Cond.static yJ6_stringSize_0f7a4 ∈ gT := gT_in 990 (by decide +kernel) (by decide +kernel)
set_option maxRecDepth 100000 in
theorem gw_991 : Cond.code yJ6_stringSize_0f7a4 cJ6_stringSize_0f7a4 4 (some .int) ∈ gT := gT_in 991 rfl rfl
theorem gw_992 : Cond.methodLink RJ5 248 yJ6_getChars_ba4f3 ∈ gT := gT_in 992 (by decide +kernel) (by decide +kernel)
theorem gw_993 : Cond.static yJ6_getChars_ba4f3 ∈ gT := gT_in 993 (by decide +kernel) (by decide +kernel)
set_option maxRecDepth 100000 in
theorem gw_994 : Cond.code yJ6_getChars_ba4f3 cJ6_getChars_ba4f3 7 (some .int) ∈ gT := gT_in 994 rfl rfl
theorem gw_995 : Cond.fieldLink RJ6 83 RJ6 "DigitOnes" "[B" ∈ gT := gT_in 995 (by decide +kernel) (by decide +kernel)
theorem gw_997 : Cond.fieldLink RJ6 87 RJ6 "DigitTens" "[B" ∈ gT := gT_in 997 (by decide +kernel) (by decide +kernel)
theorem gw_1028 : Cond.methodLink RX12 161 yX12_told ∈ gT := gT_in 1028 (by decide +kernel) (by decide +kernel)
theorem gw_1029 : Cond.static yX12_told ∈ gT := gT_in 1029 (by decide +kernel) (by decide +kernel)
set_option maxRecDepth 100000 in
theorem gw_1030 : Cond.code yX12_told cX12_told 3 (some (.object "java/lang/String")) ∈ gT := gT_in 1030 rfl rfl
theorem gw_1032 : Cond.methodLink RX12 117 yJ4_toString_0e30d ∈ gT := gT_in 1032 (by decide +kernel) (by decide +kernel)
theorem gw_1033 : Cond.instanceMethod yJ4_toString_0e30d ∈ gT := gT_in 1033 (by decide +kernel) (by decide +kernel)
theorem gw_1034 : Cond.selects RJ4 yJ4_toString_0e30d yJ4_toString_0e30d ∈ gT := gT_in 1034 (by decide +kernel) (by decide +kernel)
set_option maxRecDepth 100000 in
theorem gw_1035 : Cond.code yJ4_toString_0e30d cJ4_toString_0e30d 1 (some (.object "java/lang/String")) ∈ gT := gT_in 1035 rfl rfl
theorem gw_1036 : Cond.classLink RJ4 18 RJ0 ∈ gT := gT_in 1036 (by decide +kernel) (by decide +kernel)
theorem gw_1037 : Cond.instantiable RJ0 4 ∈ gT := gT_in 1037 (by decide +kernel) (by decide +kernel)
theorem gw_1038 : Cond.methodLink RJ4 137 yJ0_init_81219 ∈ gT := gT_in 1038 (by decide +kernel) (by decide +kernel)
theorem gw_1039 : Cond.instanceMethod yJ0_init_81219 ∈ gT := gT_in 1039 (by decide +kernel) (by decide +kernel)
set_option maxRecDepth 100000 in
theorem gw_1040 : Cond.code yJ0_init_81219 cJ0_init_81219 2 none ∈ gT := gT_in 1040 rfl rfl
theorem gw_1041 : Cond.methodLink RJ0 489 yJ0_init_db425 ∈ gT := gT_in 1041 (by decide +kernel) (by decide +kernel)
theorem gw_1042 : Cond.instanceMethod yJ0_init_db425 ∈ gT := gT_in 1042 (by decide +kernel) (by decide +kernel)
set_option maxRecDepth 100000 in
theorem gw_1043 : Cond.code yJ0_init_db425 cJ0_init_db425 5 none ∈ gT := gT_in 1043 rfl rfl
theorem gw_1044 : Cond.methodLink RJ0 1 Lib.objectInit ∈ gT := gT_in 1044 (by decide +kernel) (by decide +kernel)
theorem gw_1045 : Cond.methodLink RJ0 552 yJ5_getValue_6d5f1 ∈ gT := gT_in 1045 (by decide +kernel) (by decide +kernel)
theorem gw_1046 : Cond.instanceMethod yJ5_getValue_6d5f1 ∈ gT := gT_in 1046 (by decide +kernel) (by decide +kernel)
theorem gw_1047 : Cond.sameMethod "java/lang/AbstractStringBuilder" "java/lang/AbstractStringBuilder" "getValue" "()[B" ∈ gT := gT_in 1047 (by decide +kernel) (by decide +kernel)
theorem gw_1048 : Cond.selects RJ4 yJ5_getValue_6d5f1 yJ5_getValue_6d5f1 ∈ gT := gT_in 1048 (by decide +kernel) (by decide +kernel)
set_option maxRecDepth 100000 in
theorem gw_1049 : Cond.code yJ5_getValue_6d5f1 cJ5_getValue_6d5f1 1 (some (.array .byte)) ∈ gT := gT_in 1049 rfl rfl
theorem gw_1050 : Cond.methodLink RJ0 549 yJ5_length_8abf5 ∈ gT := gT_in 1050 (by decide +kernel) (by decide +kernel)
theorem gw_1051 : Cond.instanceMethod yJ5_length_8abf5 ∈ gT := gT_in 1051 (by decide +kernel) (by decide +kernel)
theorem gw_1052 : Cond.sameMethod "java/lang/AbstractStringBuilder" "java/lang/AbstractStringBuilder" "length" "()I" ∈ gT := gT_in 1052 (by decide +kernel) (by decide +kernel)
theorem gw_1053 : Cond.selects RJ4 yJ5_length_8abf5 yJ4_length_8abf5 ∈ gT := gT_in 1053 (by decide +kernel) (by decide +kernel)
theorem gw_1054 : Cond.instanceMethod yJ4_length_8abf5 ∈ gT := gT_in 1054 (by decide +kernel) (by decide +kernel)
set_option maxRecDepth 100000 in
theorem gw_1055 : Cond.code yJ4_length_8abf5 cJ4_length_8abf5 1 (some .int) ∈ gT := gT_in 1055 rfl rfl
theorem gw_1056 : Cond.methodLink RJ4 343 yJ5_length_8abf5 ∈ gT := gT_in 1056 (by decide +kernel) (by decide +kernel)
set_option maxRecDepth 100000 in
theorem gw_1057 : Cond.code yJ5_length_8abf5 cJ5_length_8abf5 1 (some .int) ∈ gT := gT_in 1057 rfl rfl
theorem gw_1058 : Cond.methodLink RJ0 1047 yJ5_isLatin1_aae02 ∈ gT := gT_in 1058 (by decide +kernel) (by decide +kernel)
theorem gw_1059 : Cond.methodLink RJ0 54 yJ7_copyOfRange_39247 ∈ gT := gT_in 1059 (by decide +kernel) (by decide +kernel)
theorem gw_1060 : Cond.static yJ7_copyOfRange_39247 ∈ gT := gT_in 1060 (by decide +kernel) (by decide +kernel)
set_option maxRecDepth 100000 in
theorem gw_1061 : Cond.code yJ7_copyOfRange_39247 cJ7_copyOfRange_39247 3 (some (.array .byte)) ∈ gT := gT_in 1061 rfl rfl
theorem gw_1062 : Cond.methodLink RJ7 339 yJ7_copyOfRangeByte_39247 ∈ gT := gT_in 1062 (by decide +kernel) (by decide +kernel)
theorem gw_1063 : Cond.static yJ7_copyOfRangeByte_39247 ∈ gT := gT_in 1063 (by decide +kernel) (by decide +kernel)
set_option maxRecDepth 100000 in
theorem gw_1064 : Cond.code yJ7_copyOfRangeByte_39247 cJ7_copyOfRangeByte_39247 5 (some (.array .byte)) ∈ gT := gT_in 1064 rfl rfl
theorem gw_1065 : Cond.methodLink RJ7 343 yJ7_checkLength_df160 ∈ gT := gT_in 1065 (by decide +kernel) (by decide +kernel)
theorem gw_1066 : Cond.static yJ7_checkLength_df160 ∈ gT := gT_in 1066 (by decide +kernel) (by decide +kernel)
set_option maxRecDepth 100000 in
theorem gw_1067 : Cond.code yJ7_checkLength_df160 cJ7_checkLength_df160 2 none ∈ gT := gT_in 1067 rfl rfl
theorem gw_1078 : Cond.fieldLink RJ0 9 RJ0 "value" "[B" ∈ gT := gT_in 1078 (by decide +kernel) (by decide +kernel)
theorem gw_1079 : Cond.fieldLink RJ0 15 RJ0 "coder" "B" ∈ gT := gT_in 1079 (by decide +kernel) (by decide +kernel)
theorem gw_1101 : Cond.methodLink RX12 272 yX12_test ∈ gT := gT_in 1101 (by decide +kernel) (by decide +kernel)
theorem gw_1102 : Cond.static yX12_test ∈ gT := gT_in 1102 (by decide +kernel) (by decide +kernel)
set_option maxRecDepth 100000 in
theorem gw_1103 : Cond.code yX12_test cX12_test 3 (some (.object "java/lang/String")) ∈ gT := gT_in 1103 rfl rfl
theorem gw_1114 : Cond.methodLink RL 35 yL_cell ∈ gT := gT_in 1114 (by decide +kernel) (by decide +kernel)
theorem gw_1115 : Cond.static yL_cell ∈ gT := gT_in 1115 (by decide +kernel) (by decide +kernel)
set_option maxRecDepth 100000 in
theorem gw_1116 : Cond.code yL_cell cL_cell 2 (some .int) ∈ gT := gT_in 1116 rfl rfl
theorem gw_1117 : Cond.constant RL 8 790386105 ∈ gT := gT_in 1117 (by decide +kernel) (by decide +kernel)
theorem gw_1118 : Cond.methodLink RL 136 yL_say ∈ gT := gT_in 1118 (by decide +kernel) (by decide +kernel)
theorem gw_1119 : Cond.static yL_say ∈ gT := gT_in 1119 (by decide +kernel) (by decide +kernel)
set_option maxRecDepth 100000 in
theorem gw_1120 : Cond.code yL_say cL_say 6 (some .int) ∈ gT := gT_in 1120 rfl rfl
theorem gw_1121 : Cond.methodLink RL 9 yJ0_length_8abf5 ∈ gT := gT_in 1121 (by decide +kernel) (by decide +kernel)
theorem gw_1122 : Cond.methodLink RL 15 yJ0_charAt_5068e ∈ gT := gT_in 1122 (by decide +kernel) (by decide +kernel)
theorem gw_1123 : Cond.methodLink RL 19 yX10_feed ∈ gT := gT_in 1123 (by decide +kernel) (by decide +kernel)
theorem gw_1124 : Cond.instanceMethod yX10_feed ∈ gT := gT_in 1124 (by decide +kernel) (by decide +kernel)
theorem gw_1125 : Cond.selects RX10 yX10_feed yX10_feed ∈ gT := gT_in 1125 (by decide +kernel) (by decide +kernel)
set_option maxRecDepth 100000 in
theorem gw_1126 : Cond.code yX10_feed cX10_feed 6 (some .int) ∈ gT := gT_in 1126 rfl rfl
theorem gw_1143 : Cond.methodLink RX10 52 yX8_append ∈ gT := gT_in 1143 (by decide +kernel) (by decide +kernel)
theorem gw_1144 : Cond.instanceMethod yX8_append ∈ gT := gT_in 1144 (by decide +kernel) (by decide +kernel)
theorem gw_1145 : Cond.selects RX8 yX8_append yX8_append ∈ gT := gT_in 1145 (by decide +kernel) (by decide +kernel)
set_option maxRecDepth 100000 in
theorem gw_1146 : Cond.code yX8_append cX8_append 3 none ∈ gT := gT_in 1146 rfl rfl
theorem gw_1147 : Cond.methodLink RL 25 yX10_trim ∈ gT := gT_in 1147 (by decide +kernel) (by decide +kernel)
theorem gw_1148 : Cond.instanceMethod yX10_trim ∈ gT := gT_in 1148 (by decide +kernel) (by decide +kernel)
theorem gw_1149 : Cond.selects RX10 yX10_trim yX10_trim ∈ gT := gT_in 1149 (by decide +kernel) (by decide +kernel)
set_option maxRecDepth 100000 in
theorem gw_1150 : Cond.code yX10_trim cX10_trim 2 (some .int) ∈ gT := gT_in 1150 rfl rfl
theorem gw_1152 : Cond.methodLink RL 29 yX10_teach ∈ gT := gT_in 1152 (by decide +kernel) (by decide +kernel)
theorem gw_1153 : Cond.instanceMethod yX10_teach ∈ gT := gT_in 1153 (by decide +kernel) (by decide +kernel)
theorem gw_1154 : Cond.selects RX10 yX10_teach yX10_teach ∈ gT := gT_in 1154 (by decide +kernel) (by decide +kernel)
set_option maxRecDepth 100000 in
theorem gw_1155 : Cond.code yX10_teach cX10_teach 2 (some .int) ∈ gT := gT_in 1155 rfl rfl
theorem gw_1156 : Cond.methodLink RX10 64 yX5_read ∈ gT := gT_in 1156 (by decide +kernel) (by decide +kernel)
theorem gw_1157 : Cond.instanceMethod yX5_read ∈ gT := gT_in 1157 (by decide +kernel) (by decide +kernel)
theorem gw_1158 : Cond.selects RX5 yX5_read yX5_read ∈ gT := gT_in 1158 (by decide +kernel) (by decide +kernel)
set_option maxRecDepth 100000 in
theorem gw_1159 : Cond.code yX5_read cX5_read 5 (some .int) ∈ gT := gT_in 1159 rfl rfl
theorem gw_1160 : Cond.methodLink RX5 37 yX9_scan ∈ gT := gT_in 1160 (by decide +kernel) (by decide +kernel)
theorem gw_1161 : Cond.instanceMethod yX9_scan ∈ gT := gT_in 1161 (by decide +kernel) (by decide +kernel)
theorem gw_1162 : Cond.selects RX9 yX9_scan yX9_scan ∈ gT := gT_in 1162 (by decide +kernel) (by decide +kernel)
set_option maxRecDepth 100000 in
theorem gw_1163 : Cond.code yX9_scan cX9_scan 7 none ∈ gT := gT_in 1163 rfl rfl
theorem gw_1164 : Cond.methodLink RX9 45 yX9_behindBlanks ∈ gT := gT_in 1164 (by decide +kernel) (by decide +kernel)
theorem gw_1165 : Cond.static yX9_behindBlanks ∈ gT := gT_in 1165 (by decide +kernel) (by decide +kernel)
set_option maxRecDepth 100000 in
theorem gw_1166 : Cond.code yX9_behindBlanks cX9_behindBlanks 3 (some .int) ∈ gT := gT_in 1166 rfl rfl
theorem gw_1167 : Cond.methodLink RX9 60 yX8_at ∈ gT := gT_in 1167 (by decide +kernel) (by decide +kernel)
theorem gw_1168 : Cond.instanceMethod yX8_at ∈ gT := gT_in 1168 (by decide +kernel) (by decide +kernel)
theorem gw_1169 : Cond.selects RX8 yX8_at yX8_at ∈ gT := gT_in 1169 (by decide +kernel) (by decide +kernel)
set_option maxRecDepth 100000 in
theorem gw_1170 : Cond.code yX8_at cX8_at 3 (some .int) ∈ gT := gT_in 1170 rfl rfl
theorem gw_1171 : Cond.methodLink RX9 49 yX9_scanToken ∈ gT := gT_in 1171 (by decide +kernel) (by decide +kernel)
theorem gw_1173 : Cond.instanceMethod yX9_scanToken ∈ gT := gT_in 1173 (by decide +kernel) (by decide +kernel)
set_option maxRecDepth 100000 in
theorem gw_1174 : Cond.code yX9_scanToken cX9_scanToken 4 (some .int) ∈ gT := gT_in 1174 rfl rfl
theorem gw_1175 : Cond.methodLink RX9 63 yX9_add ∈ gT := gT_in 1175 (by decide +kernel) (by decide +kernel)
theorem gw_1177 : Cond.instanceMethod yX9_add ∈ gT := gT_in 1177 (by decide +kernel) (by decide +kernel)
set_option maxRecDepth 100000 in
theorem gw_1178 : Cond.code yX9_add cX9_add 5 none ∈ gT := gT_in 1178 rfl rfl
theorem gw_1179 : Cond.methodLink RX9 67 yX9_isLetter ∈ gT := gT_in 1179 (by decide +kernel) (by decide +kernel)
theorem gw_1180 : Cond.static yX9_isLetter ∈ gT := gT_in 1180 (by decide +kernel) (by decide +kernel)
set_option maxRecDepth 100000 in
theorem gw_1181 : Cond.code yX9_isLetter cX9_isLetter 1 (some .boolean) ∈ gT := gT_in 1181 rfl rfl
theorem gw_1182 : Cond.methodLink RX9 71 yX9_scanWord ∈ gT := gT_in 1182 (by decide +kernel) (by decide +kernel)
theorem gw_1184 : Cond.instanceMethod yX9_scanWord ∈ gT := gT_in 1184 (by decide +kernel) (by decide +kernel)
set_option maxRecDepth 100000 in
theorem gw_1185 : Cond.code yX9_scanWord cX9_scanWord 6 (some .int) ∈ gT := gT_in 1185 rfl rfl
theorem gw_1186 : Cond.methodLink RX9 83 yX9_kindOfWord ∈ gT := gT_in 1186 (by decide +kernel) (by decide +kernel)
theorem gw_1188 : Cond.instanceMethod yX9_kindOfWord ∈ gT := gT_in 1188 (by decide +kernel) (by decide +kernel)
set_option maxRecDepth 100000 in
theorem gw_1189 : Cond.code yX9_kindOfWord cX9_kindOfWord 4 (some .int) ∈ gT := gT_in 1189 rfl rfl
theorem gw_1190 : Cond.methodLink RX9 77 yX9_scanNumber ∈ gT := gT_in 1190 (by decide +kernel) (by decide +kernel)
theorem gw_1192 : Cond.instanceMethod yX9_scanNumber ∈ gT := gT_in 1192 (by decide +kernel) (by decide +kernel)
set_option maxRecDepth 100000 in
theorem gw_1193 : Cond.code yX9_scanNumber cX9_scanNumber 6 (some .int) ∈ gT := gT_in 1193 rfl rfl
theorem gw_1194 : Cond.constantLong RX9 87 10 ∈ gT := gT_in 1194 (by decide +kernel) (by decide +kernel)
theorem gw_1195 : Cond.methodLink RX9 80 yX9_scanSymbol ∈ gT := gT_in 1195 (by decide +kernel) (by decide +kernel)
theorem gw_1197 : Cond.instanceMethod yX9_scanSymbol ∈ gT := gT_in 1197 (by decide +kernel) (by decide +kernel)
set_option maxRecDepth 100000 in
theorem gw_1198 : Cond.code yX9_scanSymbol cX9_scanSymbol 4 (some .int) ∈ gT := gT_in 1198 rfl rfl
theorem gw_1199 : Cond.methodLink RX9 89 yX9_isSymbol ∈ gT := gT_in 1199 (by decide +kernel) (by decide +kernel)
theorem gw_1200 : Cond.static yX9_isSymbol ∈ gT := gT_in 1200 (by decide +kernel) (by decide +kernel)
set_option maxRecDepth 100000 in
theorem gw_1201 : Cond.code yX9_isSymbol cX9_isSymbol 1 (some .boolean) ∈ gT := gT_in 1201 rfl rfl
theorem gw_1202 : Cond.methodLink RX9 52 yX9_kindOf ∈ gT := gT_in 1202 (by decide +kernel) (by decide +kernel)
theorem gw_1203 : Cond.instanceMethod yX9_kindOf ∈ gT := gT_in 1203 (by decide +kernel) (by decide +kernel)
theorem gw_1204 : Cond.selects RX9 yX9_kindOf yX9_kindOf ∈ gT := gT_in 1204 (by decide +kernel) (by decide +kernel)
set_option maxRecDepth 100000 in
theorem gw_1205 : Cond.code yX9_kindOf cX9_kindOf 2 (some .int) ∈ gT := gT_in 1205 rfl rfl
theorem gw_1206 : Cond.methodLink RX5 41 yX6_begin ∈ gT := gT_in 1206 (by decide +kernel) (by decide +kernel)
theorem gw_1207 : Cond.methodLink RX5 49 yX0_clear ∈ gT := gT_in 1207 (by decide +kernel) (by decide +kernel)
theorem gw_1208 : Cond.instanceMethod yX0_clear ∈ gT := gT_in 1208 (by decide +kernel) (by decide +kernel)
theorem gw_1209 : Cond.selects RX0 yX0_clear yX0_clear ∈ gT := gT_in 1209 (by decide +kernel) (by decide +kernel)
set_option maxRecDepth 100000 in
theorem gw_1210 : Cond.code yX0_clear cX0_clear 1 none ∈ gT := gT_in 1210 rfl rfl
theorem gw_1211 : Cond.methodLink RX5 62 yX5_kind ∈ gT := gT_in 1211 (by decide +kernel) (by decide +kernel)
theorem gw_1213 : Cond.instanceMethod yX5_kind ∈ gT := gT_in 1213 (by decide +kernel) (by decide +kernel)
set_option maxRecDepth 100000 in
theorem gw_1214 : Cond.code yX5_kind cX5_kind 1 (some .int) ∈ gT := gT_in 1214 rfl rfl
theorem gw_1215 : Cond.methodLink RX5 187 yX9_kindOf ∈ gT := gT_in 1215 (by decide +kernel) (by decide +kernel)
theorem gw_1216 : Cond.methodLink RX5 66 yX5_number ∈ gT := gT_in 1216 (by decide +kernel) (by decide +kernel)
theorem gw_1218 : Cond.instanceMethod yX5_number ∈ gT := gT_in 1218 (by decide +kernel) (by decide +kernel)
set_option maxRecDepth 100000 in
theorem gw_1219 : Cond.code yX5_number cX5_number 4 (some .int) ∈ gT := gT_in 1219 rfl rfl
theorem gw_1220 : Cond.methodLink RX5 82 yX5_fail ∈ gT := gT_in 1220 (by decide +kernel) (by decide +kernel)
theorem gw_1222 : Cond.instanceMethod yX5_fail ∈ gT := gT_in 1222 (by decide +kernel) (by decide +kernel)
set_option maxRecDepth 100000 in
theorem gw_1223 : Cond.code yX5_fail cX5_fail 1 none ∈ gT := gT_in 1223 rfl rfl
theorem gw_1224 : Cond.methodLink RX5 195 yX9_startOf ∈ gT := gT_in 1224 (by decide +kernel) (by decide +kernel)
theorem gw_1225 : Cond.instanceMethod yX9_startOf ∈ gT := gT_in 1225 (by decide +kernel) (by decide +kernel)
theorem gw_1226 : Cond.selects RX9 yX9_startOf yX9_startOf ∈ gT := gT_in 1226 (by decide +kernel) (by decide +kernel)
set_option maxRecDepth 100000 in
theorem gw_1227 : Cond.code yX9_startOf cX9_startOf 2 (some .int) ∈ gT := gT_in 1227 rfl rfl
theorem gw_1228 : Cond.methodLink RX5 180 yX9_valueOf ∈ gT := gT_in 1228 (by decide +kernel) (by decide +kernel)
theorem gw_1229 : Cond.instanceMethod yX9_valueOf ∈ gT := gT_in 1229 (by decide +kernel) (by decide +kernel)
theorem gw_1230 : Cond.selects RX9 yX9_valueOf yX9_valueOf ∈ gT := gT_in 1230 (by decide +kernel) (by decide +kernel)
set_option maxRecDepth 100000 in
theorem gw_1231 : Cond.code yX9_valueOf cX9_valueOf 2 (some .long) ∈ gT := gT_in 1231 rfl rfl
theorem gw_1232 : Cond.methodLink RX5 137 yX5_blame ∈ gT := gT_in 1232 (by decide +kernel) (by decide +kernel)
theorem gw_1234 : Cond.instanceMethod yX5_blame ∈ gT := gT_in 1234 (by decide +kernel) (by decide +kernel)
set_option maxRecDepth 100000 in
theorem gw_1235 : Cond.code yX5_blame cX5_blame 2 none ∈ gT := gT_in 1235 rfl rfl
theorem gw_1236 : Cond.methodLink RX5 73 yX5_readLane ∈ gT := gT_in 1236 (by decide +kernel) (by decide +kernel)
theorem gw_1238 : Cond.instanceMethod yX5_readLane ∈ gT := gT_in 1238 (by decide +kernel) (by decide +kernel)
set_option maxRecDepth 100000 in
theorem gw_1239 : Cond.code yX5_readLane cX5_readLane 11 none ∈ gT := gT_in 1239 rfl rfl
theorem gw_1240 : Cond.methodLink RX5 91 yX5_newName ∈ gT := gT_in 1240 (by decide +kernel) (by decide +kernel)
theorem gw_1242 : Cond.instanceMethod yX5_newName ∈ gT := gT_in 1242 (by decide +kernel) (by decide +kernel)
set_option maxRecDepth 100000 in
theorem gw_1243 : Cond.code yX5_newName cX5_newName 5 (some .long) ∈ gT := gT_in 1243 rfl rfl
theorem gw_1244 : Cond.methodLink RX5 191 yX5_placeOf ∈ gT := gT_in 1244 (by decide +kernel) (by decide +kernel)
theorem gw_1245 : Cond.static yX5_placeOf ∈ gT := gT_in 1245 (by decide +kernel) (by decide +kernel)
set_option maxRecDepth 100000 in
theorem gw_1246 : Cond.code yX5_placeOf cX5_placeOf 5 (some .int) ∈ gT := gT_in 1246 rfl rfl
theorem gw_1247 : Cond.methodLink RX5 95 yX5_takes ∈ gT := gT_in 1247 (by decide +kernel) (by decide +kernel)
theorem gw_1249 : Cond.instanceMethod yX5_takes ∈ gT := gT_in 1249 (by decide +kernel) (by decide +kernel)
set_option maxRecDepth 100000 in
theorem gw_1250 : Cond.code yX5_takes cX5_takes 2 (some .boolean) ∈ gT := gT_in 1250 rfl rfl
theorem gw_1251 : Cond.methodLink RX5 99 yX5_toldLane ∈ gT := gT_in 1251 (by decide +kernel) (by decide +kernel)
theorem gw_1253 : Cond.instanceMethod yX5_toldLane ∈ gT := gT_in 1253 (by decide +kernel) (by decide +kernel)
set_option maxRecDepth 100000 in
theorem gw_1254 : Cond.code yX5_toldLane cX5_toldLane 2 (some .int) ∈ gT := gT_in 1254 rfl rfl
theorem gw_1255 : Cond.methodLink RX5 85 yX5_need ∈ gT := gT_in 1255 (by decide +kernel) (by decide +kernel)
theorem gw_1257 : Cond.instanceMethod yX5_need ∈ gT := gT_in 1257 (by decide +kernel) (by decide +kernel)
set_option maxRecDepth 100000 in
theorem gw_1258 : Cond.code yX5_need cX5_need 2 none ∈ gT := gT_in 1258 rfl rfl
theorem gw_1259 : Cond.methodLink RX5 102 yX6_addLane ∈ gT := gT_in 1259 (by decide +kernel) (by decide +kernel)
theorem gw_1260 : Cond.methodLink RX5 110 yX5_keepName ∈ gT := gT_in 1260 (by decide +kernel) (by decide +kernel)
theorem gw_1261 : Cond.static yX5_keepName ∈ gT := gT_in 1261 (by decide +kernel) (by decide +kernel)
set_option maxRecDepth 100000 in
theorem gw_1262 : Cond.code yX5_keepName cX5_keepName 4 none ∈ gT := gT_in 1262 rfl rfl
theorem gw_1263 : Cond.methodLink RX5 114 yX6_laneAt ∈ gT := gT_in 1263 (by decide +kernel) (by decide +kernel)
theorem gw_1264 : Cond.methodLink RX5 118 yX2_tell ∈ gT := gT_in 1264 (by decide +kernel) (by decide +kernel)
theorem gw_1265 : Cond.methodLink RX5 76 yX5_readFolk ∈ gT := gT_in 1265 (by decide +kernel) (by decide +kernel)
theorem gw_1267 : Cond.instanceMethod yX5_readFolk ∈ gT := gT_in 1267 (by decide +kernel) (by decide +kernel)
set_option maxRecDepth 100000 in
theorem gw_1268 : Cond.code yX5_readFolk cX5_readFolk 8 none ∈ gT := gT_in 1268 rfl rfl
theorem gw_1269 : Cond.methodLink RX5 125 yX6_addFolk ∈ gT := gT_in 1269 (by decide +kernel) (by decide +kernel)
theorem gw_1270 : Cond.methodLink RX5 129 yX1_tell ∈ gT := gT_in 1270 (by decide +kernel) (by decide +kernel)
theorem gw_1271 : Cond.methodLink RX5 79 yX5_readOrder ∈ gT := gT_in 1271 (by decide +kernel) (by decide +kernel)
theorem gw_1273 : Cond.instanceMethod yX5_readOrder ∈ gT := gT_in 1273 (by decide +kernel) (by decide +kernel)
set_option maxRecDepth 100000 in
theorem gw_1274 : Cond.code yX5_readOrder cX5_readOrder 7 none ∈ gT := gT_in 1274 rfl rfl
theorem gw_1275 : Cond.methodLink RX5 143 yX5_sum ∈ gT := gT_in 1275 (by decide +kernel) (by decide +kernel)
theorem gw_1277 : Cond.instanceMethod yX5_sum ∈ gT := gT_in 1277 (by decide +kernel) (by decide +kernel)
set_option maxRecDepth 100000 in
theorem gw_1278 : Cond.code yX5_sum cX5_sum 4 none ∈ gT := gT_in 1278 rfl rfl
theorem gw_1279 : Cond.methodLink RX5 174 yX5_product ∈ gT := gT_in 1279 (by decide +kernel) (by decide +kernel)
theorem gw_1281 : Cond.instanceMethod yX5_product ∈ gT := gT_in 1281 (by decide +kernel) (by decide +kernel)
set_option maxRecDepth 100000 in
theorem gw_1282 : Cond.code yX5_product cX5_product 4 none ∈ gT := gT_in 1282 rfl rfl
theorem gw_1283 : Cond.methodLink RX5 177 yX5_value ∈ gT := gT_in 1283 (by decide +kernel) (by decide +kernel)
theorem gw_1285 : Cond.instanceMethod yX5_value ∈ gT := gT_in 1285 (by decide +kernel) (by decide +kernel)
set_option maxRecDepth 100000 in
theorem gw_1286 : Cond.code yX5_value cX5_value 3 none ∈ gT := gT_in 1286 rfl rfl
theorem gw_1287 : Cond.methodLink RX5 161 yX0_add ∈ gT := gT_in 1287 (by decide +kernel) (by decide +kernel)
theorem gw_1288 : Cond.instanceMethod yX0_add ∈ gT := gT_in 1288 (by decide +kernel) (by decide +kernel)
theorem gw_1289 : Cond.selects RX0 yX0_add yX0_add ∈ gT := gT_in 1289 (by decide +kernel) (by decide +kernel)
set_option maxRecDepth 100000 in
theorem gw_1290 : Cond.code yX0_add cX0_add 3 none ∈ gT := gT_in 1290 rfl rfl
theorem gw_1291 : Cond.methodLink RX5 168 yX5_enters ∈ gT := gT_in 1291 (by decide +kernel) (by decide +kernel)
theorem gw_1293 : Cond.instanceMethod yX5_enters ∈ gT := gT_in 1293 (by decide +kernel) (by decide +kernel)
set_option maxRecDepth 100000 in
theorem gw_1294 : Cond.code yX5_enters cX5_enters 2 (some .boolean) ∈ gT := gT_in 1294 rfl rfl
theorem gw_1295 : Cond.methodLink RX5 184 yX5_pair ∈ gT := gT_in 1295 (by decide +kernel) (by decide +kernel)
theorem gw_1297 : Cond.instanceMethod yX5_pair ∈ gT := gT_in 1297 (by decide +kernel) (by decide +kernel)
set_option maxRecDepth 100000 in
theorem gw_1298 : Cond.code yX5_pair cX5_pair 3 none ∈ gT := gT_in 1298 rfl rfl
theorem gw_1299 : Cond.methodLink RX5 146 yX5_test ∈ gT := gT_in 1299 (by decide +kernel) (by decide +kernel)
theorem gw_1301 : Cond.instanceMethod yX5_test ∈ gT := gT_in 1301 (by decide +kernel) (by decide +kernel)
set_option maxRecDepth 100000 in
theorem gw_1302 : Cond.code yX5_test cX5_test 3 none ∈ gT := gT_in 1302 rfl rfl
theorem gw_1303 : Cond.methodLink RX5 158 yX5_both ∈ gT := gT_in 1303 (by decide +kernel) (by decide +kernel)
theorem gw_1305 : Cond.instanceMethod yX5_both ∈ gT := gT_in 1305 (by decide +kernel) (by decide +kernel)
set_option maxRecDepth 100000 in
theorem gw_1306 : Cond.code yX5_both cX5_both 3 none ∈ gT := gT_in 1306 rfl rfl
theorem gw_1307 : Cond.methodLink RX5 165 yX5_single ∈ gT := gT_in 1307 (by decide +kernel) (by decide +kernel)
theorem gw_1309 : Cond.instanceMethod yX5_single ∈ gT := gT_in 1309 (by decide +kernel) (by decide +kernel)
set_option maxRecDepth 100000 in
theorem gw_1310 : Cond.code yX5_single cX5_single 4 none ∈ gT := gT_in 1310 rfl rfl
theorem gw_1311 : Cond.methodLink RX5 171 yX5_compares ∈ gT := gT_in 1311 (by decide +kernel) (by decide +kernel)
theorem gw_1312 : Cond.static yX5_compares ∈ gT := gT_in 1312 (by decide +kernel) (by decide +kernel)
set_option maxRecDepth 100000 in
theorem gw_1313 : Cond.code yX5_compares cX5_compares 1 (some .boolean) ∈ gT := gT_in 1313 rfl rfl
theorem gw_1314 : Cond.methodLink RX5 149 yX0_addOrder ∈ gT := gT_in 1314 (by decide +kernel) (by decide +kernel)
theorem gw_1315 : Cond.instanceMethod yX0_addOrder ∈ gT := gT_in 1315 (by decide +kernel) (by decide +kernel)
theorem gw_1316 : Cond.selects RX0 yX0_addOrder yX0_addOrder ∈ gT := gT_in 1316 (by decide +kernel) (by decide +kernel)
set_option maxRecDepth 100000 in
theorem gw_1317 : Cond.code yX0_addOrder cX0_addOrder 1 (some (.object "BucketBrigade$Order")) ∈ gT := gT_in 1317 rfl rfl
theorem gw_1318 : Cond.methodLink RX0 32 yX0_orderAt ∈ gT := gT_in 1318 (by decide +kernel) (by decide +kernel)
theorem gw_1319 : Cond.methodLink RX5 153 yX3_tell ∈ gT := gT_in 1319 (by decide +kernel) (by decide +kernel)
theorem gw_1320 : Cond.instanceMethod yX3_tell ∈ gT := gT_in 1320 (by decide +kernel) (by decide +kernel)
theorem gw_1321 : Cond.selects RX3 yX3_tell yX3_tell ∈ gT := gT_in 1321 (by decide +kernel) (by decide +kernel)
set_option maxRecDepth 100000 in
theorem gw_1322 : Cond.code yX3_tell cX3_tell 6 none ∈ gT := gT_in 1322 rfl rfl
theorem gw_1323 : Cond.methodLink RX10 80 yX0_copyFrom ∈ gT := gT_in 1323 (by decide +kernel) (by decide +kernel)
theorem gw_1324 : Cond.instanceMethod yX0_copyFrom ∈ gT := gT_in 1324 (by decide +kernel) (by decide +kernel)
theorem gw_1325 : Cond.selects RX0 yX0_copyFrom yX0_copyFrom ∈ gT := gT_in 1325 (by decide +kernel) (by decide +kernel)
set_option maxRecDepth 100000 in
theorem gw_1326 : Cond.code yX0_copyFrom cX0_copyFrom 5 none ∈ gT := gT_in 1326 rfl rfl
theorem gw_1327 : Cond.methodLink RX0 36 yX0_clear ∈ gT := gT_in 1327 (by decide +kernel) (by decide +kernel)
theorem gw_1328 : Cond.methodLink RX0 39 yX0_add ∈ gT := gT_in 1328 (by decide +kernel) (by decide +kernel)
theorem gw_1329 : Cond.methodLink RX0 43 yX0_addOrder ∈ gT := gT_in 1329 (by decide +kernel) (by decide +kernel)
theorem gw_1330 : Cond.methodLink RX0 62 yX3_tell ∈ gT := gT_in 1330 (by decide +kernel) (by decide +kernel)
theorem gw_1331 : Cond.methodLink RL 128 yL_chosen ∈ gT := gT_in 1331 (by decide +kernel) (by decide +kernel)
theorem gw_1332 : Cond.static yL_chosen ∈ gT := gT_in 1332 (by decide +kernel) (by decide +kernel)
set_option maxRecDepth 100000 in
theorem gw_1333 : Cond.code yL_chosen cL_chosen 7 (some (.object "BucketBrigadeLaw$Sim")) ∈ gT := gT_in 1333 rfl rfl
theorem gw_1334 : Cond.classLink RL 32 RX12 ∈ gT := gT_in 1334 (by decide +kernel) (by decide +kernel)
theorem gn_1335 : Cond.methodLinkNest RL 34 yX12_init RL ∈ gNw := List.mem_filter.mpr ⟨List.mem_of_getElem? (i := 1297) (by decide +kernel), rfl⟩
theorem gw_1336 : Cond.instanceMethod yX12_init ∈ gT := gT_in 1336 (by decide +kernel) (by decide +kernel)
set_option maxRecDepth 100000 in
theorem gw_1337 : Cond.code yX12_init cX12_init 1 none ∈ gT := gT_in 1337 rfl rfl
theorem gw_1338 : Cond.methodLink RX12 1 Lib.objectInit ∈ gT := gT_in 1338 (by decide +kernel) (by decide +kernel)
theorem gw_1339 : Cond.classLink RX12 13 RX11 ∈ gT := gT_in 1339 (by decide +kernel) (by decide +kernel)
theorem gw_1341 : Cond.classLink RX12 19 "[I" ∈ gT := gT_in 1341 (by decide +kernel) (by decide +kernel)
theorem gw_1343 : Cond.fieldLink RX12 29 RX12 "minute" "I" ∈ gT := gT_in 1343 (by decide +kernel) (by decide +kernel)
theorem gw_1344 : Cond.fieldLink RX12 7 RX12 "well" "I" ∈ gT := gT_in 1344 (by decide +kernel) (by decide +kernel)
theorem gw_1345 : Cond.fieldLink RL 45 RX12 "well" "I" ∈ gT := gT_in 1345 (by decide +kernel) (by decide +kernel)
theorem gw_1346 : Cond.fieldLink RX12 32 RX12 "came" "I" ∈ gT := gT_in 1346 (by decide +kernel) (by decide +kernel)
theorem gw_1347 : Cond.fieldLink RX12 35 RX12 "done" "I" ∈ gT := gT_in 1347 (by decide +kernel) (by decide +kernel)
theorem gw_1348 : Cond.fieldLink RX12 38 RX12 "spare" "I" ∈ gT := gT_in 1348 (by decide +kernel) (by decide +kernel)
theorem gw_1349 : Cond.fieldLink RX12 15 RX12 "lanes" "[LBucketBrigadeLaw$Lane;" ∈ gT := gT_in 1349 (by decide +kernel) (by decide +kernel)
theorem gw_1350 : Cond.fieldLink RL 51 RX12 "lanes" "[LBucketBrigadeLaw$Lane;" ∈ gT := gT_in 1350 (by decide +kernel) (by decide +kernel)
theorem gw_1351 : Cond.fieldLink RX12 21 RX12 "folk" "[[I" ∈ gT := gT_in 1351 (by decide +kernel) (by decide +kernel)
theorem gw_1352 : Cond.fieldLink RL 87 RX12 "folk" "[[I" ∈ gT := gT_in 1352 (by decide +kernel) (by decide +kernel)
theorem gw_1353 : Cond.fieldLink RX12 25 RX12 "orders" "[[I" ∈ gT := gT_in 1353 (by decide +kernel) (by decide +kernel)
theorem gw_1354 : Cond.fieldLink RL 91 RX12 "orders" "[[I" ∈ gT := gT_in 1354 (by decide +kernel) (by decide +kernel)
theorem gw_1372 : Cond.methodLink RL 41 yL_below ∈ gT := gT_in 1372 (by decide +kernel) (by decide +kernel)
theorem gw_1373 : Cond.static yL_below ∈ gT := gT_in 1373 (by decide +kernel) (by decide +kernel)
set_option maxRecDepth 100000 in
theorem gw_1374 : Cond.code yL_below cL_below 2 (some .int) ∈ gT := gT_in 1374 rfl rfl
theorem gw_1375 : Cond.constant RL 7 2147483647 ∈ gT := gT_in 1375 (by decide +kernel) (by decide +kernel)
theorem gw_1376 : Cond.classLink RL 49 RX11 ∈ gT := gT_in 1376 (by decide +kernel) (by decide +kernel)
theorem gw_1377 : Cond.instantiable RX11 19 ∈ gT := gT_in 1377 (by decide +kernel) (by decide +kernel)
theorem gn_1378 : Cond.methodLinkNest RL 55 yX11_init RL ∈ gNw := List.mem_filter.mpr ⟨List.mem_of_getElem? (i := 1340) (by decide +kernel), rfl⟩
theorem gw_1379 : Cond.instanceMethod yX11_init ∈ gT := gT_in 1379 (by decide +kernel) (by decide +kernel)
set_option maxRecDepth 100000 in
theorem gw_1380 : Cond.code yX11_init cX11_init 1 none ∈ gT := gT_in 1380 rfl rfl
theorem gw_1381 : Cond.methodLink RX11 1 Lib.objectInit ∈ gT := gT_in 1381 (by decide +kernel) (by decide +kernel)
theorem gw_1382 : Cond.fieldLink RX11 20 RX11 "over" "LBucketBrigadeLaw$Lane;" ∈ gT := gT_in 1382 (by decide +kernel) (by decide +kernel)
theorem gw_1383 : Cond.fieldLink RL 59 RX11 "over" "LBucketBrigadeLaw$Lane;" ∈ gT := gT_in 1383 (by decide +kernel) (by decide +kernel)
theorem gw_1384 : Cond.fieldLink RX12 46 RX11 "over" "LBucketBrigadeLaw$Lane;" ∈ gT := gT_in 1384 (by decide +kernel) (by decide +kernel)
theorem gw_1385 : Cond.fieldLink RL 56 RX11 "number" "I" ∈ gT := gT_in 1385 (by decide +kernel) (by decide +kernel)
theorem gw_1386 : Cond.fieldLink RX12 50 RX11 "number" "I" ∈ gT := gT_in 1386 (by decide +kernel) (by decide +kernel)
theorem gw_1387 : Cond.fieldLink RL 63 RX11 "rate" "I" ∈ gT := gT_in 1387 (by decide +kernel) (by decide +kernel)
theorem gw_1388 : Cond.fieldLink RX12 53 RX11 "rate" "I" ∈ gT := gT_in 1388 (by decide +kernel) (by decide +kernel)
theorem gw_1389 : Cond.fieldLink RX11 17 RX11 "most" "I" ∈ gT := gT_in 1389 (by decide +kernel) (by decide +kernel)
theorem gw_1390 : Cond.fieldLink RL 66 RX11 "most" "I" ∈ gT := gT_in 1390 (by decide +kernel) (by decide +kernel)
theorem gw_1391 : Cond.fieldLink RX12 56 RX11 "most" "I" ∈ gT := gT_in 1391 (by decide +kernel) (by decide +kernel)
theorem gw_1392 : Cond.fieldLink RL 69 RX11 "burst" "I" ∈ gT := gT_in 1392 (by decide +kernel) (by decide +kernel)
theorem gw_1393 : Cond.fieldLink RX12 59 RX11 "burst" "I" ∈ gT := gT_in 1393 (by decide +kernel) (by decide +kernel)
theorem gw_1394 : Cond.fieldLink RX11 38 RX11 "rank" "I" ∈ gT := gT_in 1394 (by decide +kernel) (by decide +kernel)
theorem gw_1395 : Cond.fieldLink RL 72 RX11 "rank" "I" ∈ gT := gT_in 1395 (by decide +kernel) (by decide +kernel)
theorem gw_1396 : Cond.fieldLink RX12 62 RX11 "rank" "I" ∈ gT := gT_in 1396 (by decide +kernel) (by decide +kernel)
theorem gw_1397 : Cond.fieldLink RX11 35 RX11 "tokens" "I" ∈ gT := gT_in 1397 (by decide +kernel) (by decide +kernel)
theorem gw_1398 : Cond.fieldLink RX12 65 RX11 "tokens" "I" ∈ gT := gT_in 1398 (by decide +kernel) (by decide +kernel)
theorem gw_1399 : Cond.fieldLink RL 82 RX11 "tokens" "I" ∈ gT := gT_in 1399 (by decide +kernel) (by decide +kernel)
theorem gw_1400 : Cond.fieldLink RX12 68 RX11 "holds" "I" ∈ gT := gT_in 1400 (by decide +kernel) (by decide +kernel)
theorem gw_1401 : Cond.fieldLink RL 75 RX11 "holds" "I" ∈ gT := gT_in 1401 (by decide +kernel) (by decide +kernel)
theorem gw_1402 : Cond.fieldLink RX12 71 RX11 "isOld" "Z" ∈ gT := gT_in 1402 (by decide +kernel) (by decide +kernel)
theorem gw_1403 : Cond.fieldLink RL 78 RX11 "isOld" "Z" ∈ gT := gT_in 1403 (by decide +kernel) (by decide +kernel)
theorem gw_1404 : Cond.fieldLink RX11 7 RX11 "pails" "[I" ∈ gT := gT_in 1404 (by decide +kernel) (by decide +kernel)
theorem gw_1405 : Cond.fieldLink RX12 78 RX11 "pails" "[I" ∈ gT := gT_in 1405 (by decide +kernel) (by decide +kernel)
theorem gw_1406 : Cond.fieldLink RX11 24 RX11 "waits" "I" ∈ gT := gT_in 1406 (by decide +kernel) (by decide +kernel)
theorem gw_1407 : Cond.fieldLink RX12 75 RX11 "waits" "I" ∈ gT := gT_in 1407 (by decide +kernel) (by decide +kernel)
theorem gw_1408 : Cond.fieldLink RX12 81 RX11 "sent" "I" ∈ gT := gT_in 1408 (by decide +kernel) (by decide +kernel)
theorem gw_1409 : Cond.fieldLink RX12 84 RX11 "lost" "I" ∈ gT := gT_in 1409 (by decide +kernel) (by decide +kernel)
theorem gw_1410 : Cond.fieldLink RX12 87 RX11 "lent" "I" ∈ gT := gT_in 1410 (by decide +kernel) (by decide +kernel)
theorem gw_1411 : Cond.fieldLink RX12 90 RX11 "borrowed" "I" ∈ gT := gT_in 1411 (by decide +kernel) (by decide +kernel)
theorem gw_1412 : Cond.fieldLink RX12 93 RX11 "waited" "I" ∈ gT := gT_in 1412 (by decide +kernel) (by decide +kernel)
theorem gw_1413 : Cond.fieldLink RX11 27 RX11 "isShut" "Z" ∈ gT := gT_in 1413 (by decide +kernel) (by decide +kernel)
theorem gw_1414 : Cond.fieldLink RX12 169 RX11 "isShut" "Z" ∈ gT := gT_in 1414 (by decide +kernel) (by decide +kernel)
theorem gw_1415 : Cond.fieldLink RX11 41 RX11 "own" "I" ∈ gT := gT_in 1415 (by decide +kernel) (by decide +kernel)
theorem gw_1416 : Cond.fieldLink RX12 179 RX11 "own" "I" ∈ gT := gT_in 1416 (by decide +kernel) (by decide +kernel)
theorem gw_1417 : Cond.fieldLink RX11 13 RX11 "all" "I" ∈ gT := gT_in 1417 (by decide +kernel) (by decide +kernel)
theorem gw_1418 : Cond.fieldLink RX12 182 RX11 "all" "I" ∈ gT := gT_in 1418 (by decide +kernel) (by decide +kernel)
theorem gw_1458 : Cond.classLink RL 85 "[I" ∈ gT := gT_in 1458 (by decide +kernel) (by decide +kernel)
theorem gw_1459 : Cond.methodLink RL 140 yL_act ∈ gT := gT_in 1459 (by decide +kernel) (by decide +kernel)
theorem gw_1460 : Cond.static yL_act ∈ gT := gT_in 1460 (by decide +kernel) (by decide +kernel)
set_option maxRecDepth 100000 in
theorem gw_1461 : Cond.code yL_act cL_act 12 (some .boolean) ∈ gT := gT_in 1461 rfl rfl
theorem gw_1462 : Cond.methodLink RL 94 yX10_bring ∈ gT := gT_in 1462 (by decide +kernel) (by decide +kernel)
theorem gw_1463 : Cond.instanceMethod yX10_bring ∈ gT := gT_in 1463 (by decide +kernel) (by decide +kernel)
theorem gw_1464 : Cond.selects RX10 yX10_bring yX10_bring ∈ gT := gT_in 1464 (by decide +kernel) (by decide +kernel)
set_option maxRecDepth 100000 in
theorem gw_1465 : Cond.code yX10_bring cX10_bring 5 (some .int) ∈ gT := gT_in 1465 rfl rfl
theorem gw_1467 : Cond.methodLink RX10 154 yX6_takeIn ∈ gT := gT_in 1467 (by decide +kernel) (by decide +kernel)
theorem gw_1468 : Cond.methodLink RL 97 yX12_bring ∈ gT := gT_in 1468 (by decide +kernel) (by decide +kernel)
theorem gw_1469 : Cond.methodLink RL 100 yJ9_min_7cf53 ∈ gT := gT_in 1469 (by decide +kernel) (by decide +kernel)
theorem gw_1470 : Cond.methodLink RL 105 yX10_give ∈ gT := gT_in 1470 (by decide +kernel) (by decide +kernel)
theorem gw_1471 : Cond.instanceMethod yX10_give ∈ gT := gT_in 1471 (by decide +kernel) (by decide +kernel)
theorem gw_1472 : Cond.selects RX10 yX10_give yX10_give ∈ gT := gT_in 1472 (by decide +kernel) (by decide +kernel)
set_option maxRecDepth 100000 in
theorem gw_1473 : Cond.code yX10_give cX10_give 4 (some .int) ∈ gT := gT_in 1473 rfl rfl
theorem gw_1475 : Cond.methodLink RX10 160 yX2_getTokens ∈ gT := gT_in 1475 (by decide +kernel) (by decide +kernel)
theorem gw_1476 : Cond.methodLink RL 108 yX10_setRate ∈ gT := gT_in 1476 (by decide +kernel) (by decide +kernel)
theorem gw_1477 : Cond.instanceMethod yX10_setRate ∈ gT := gT_in 1477 (by decide +kernel) (by decide +kernel)
theorem gw_1478 : Cond.selects RX10 yX10_setRate yX10_setRate ∈ gT := gT_in 1478 (by decide +kernel) (by decide +kernel)
set_option maxRecDepth 100000 in
theorem gw_1479 : Cond.code yX10_setRate cX10_setRate 5 (some .int) ∈ gT := gT_in 1479 rfl rfl
theorem gw_1481 : Cond.methodLink RL 111 yX10_setMost ∈ gT := gT_in 1481 (by decide +kernel) (by decide +kernel)
theorem gw_1482 : Cond.instanceMethod yX10_setMost ∈ gT := gT_in 1482 (by decide +kernel) (by decide +kernel)
theorem gw_1483 : Cond.selects RX10 yX10_setMost yX10_setMost ∈ gT := gT_in 1483 (by decide +kernel) (by decide +kernel)
set_option maxRecDepth 100000 in
theorem gw_1484 : Cond.code yX10_setMost cX10_setMost 5 (some .int) ∈ gT := gT_in 1484 rfl rfl
theorem gw_1486 : Cond.methodLink RL 114 yX10_setWell ∈ gT := gT_in 1486 (by decide +kernel) (by decide +kernel)
theorem gw_1487 : Cond.instanceMethod yX10_setWell ∈ gT := gT_in 1487 (by decide +kernel) (by decide +kernel)
theorem gw_1488 : Cond.selects RX10 yX10_setWell yX10_setWell ∈ gT := gT_in 1488 (by decide +kernel) (by decide +kernel)
set_option maxRecDepth 100000 in
theorem gw_1489 : Cond.code yX10_setWell cX10_setWell 3 (some .int) ∈ gT := gT_in 1489 rfl rfl
theorem gw_1491 : Cond.methodLink RL 117 yX12_counted ∈ gT := gT_in 1491 (by decide +kernel) (by decide +kernel)
theorem gw_1492 : Cond.methodLink RL 120 yX12_behind ∈ gT := gT_in 1492 (by decide +kernel) (by decide +kernel)
theorem gw_1493 : Cond.instanceMethod yX12_behind ∈ gT := gT_in 1493 (by decide +kernel) (by decide +kernel)
theorem gw_1494 : Cond.selects RX12 yX12_behind yX12_behind ∈ gT := gT_in 1494 (by decide +kernel) (by decide +kernel)
set_option maxRecDepth 100000 in
theorem gw_1495 : Cond.code yX12_behind cX12_behind 3 (some (.object "BucketBrigadeLaw$Sim")) ∈ gT := gT_in 1495 rfl rfl
theorem gw_1496 : Cond.methodLink RX12 197 yX12_pass ∈ gT := gT_in 1496 (by decide +kernel) (by decide +kernel)
theorem gw_1497 : Cond.methodLink RL 164 yL_hasShut ∈ gT := gT_in 1497 (by decide +kernel) (by decide +kernel)
theorem gw_1498 : Cond.static yL_hasShut ∈ gT := gT_in 1498 (by decide +kernel) (by decide +kernel)
set_option maxRecDepth 100000 in
theorem gw_1499 : Cond.code yL_hasShut cL_hasShut 6 (some .boolean) ∈ gT := gT_in 1499 rfl rfl
theorem gw_1501 : Cond.sameMethod "java/lang/AbstractStringBuilder" "java/lang/AbstractStringBuilder" "append" "(Ljava/lang/String;)Ljava/lang/AbstractStringBuilder;" ∈ gT := gT_in 1501 (by decide +kernel) (by decide +kernel)
theorem gw_1508 : Cond.sameMethod "java/lang/AbstractStringBuilder" "java/lang/AbstractStringBuilder" "append" "(I)Ljava/lang/AbstractStringBuilder;" ∈ gT := gT_in 1508 (by decide +kernel) (by decide +kernel)
theorem kin_0 : ∀ w ∈ u_ws RJ0 TJ0 4, w ∈ gT := fun w hw => by
  obtain ⟨k, hk, rfl⟩ := List.mem_map.mp hw
  have hk := List.mem_range.mp hk
  rcases (show k = 0 ∨ k = 1 ∨ k = 2 ∨ k = 3 by omega) with rfl | rfl | rfl | rfl
  · exact gT_in 1080 (by decide +kernel) (by decide +kernel)
  · exact gT_in 1082 (by decide +kernel) (by decide +kernel)
  · exact gT_in 1084 (by decide +kernel) (by decide +kernel)
  · exact gT_in 1086 (by decide +kernel) (by decide +kernel)
theorem K_0 : Cl 0 RJ0 TJ0 4 tyJ0 := ⟨rfl, by decide, kin_0, tyJ0_ok, nmJ0, rfl, by decide +kernel⟩
theorem kin_1 : ∀ w ∈ u_ws RJ4 TJ4 4, w ∈ gT := fun w hw => by
  obtain ⟨k, hk, rfl⟩ := List.mem_map.mp hw
  have hk := List.mem_range.mp hk
  rcases (show k = 0 ∨ k = 1 ∨ k = 2 ∨ k = 3 by omega) with rfl | rfl | rfl | rfl
  · exact gT_in 875 (by decide +kernel) (by decide +kernel)
  · exact gT_in 877 (by decide +kernel) (by decide +kernel)
  · exact gT_in 879 (by decide +kernel) (by decide +kernel)
  · exact gT_in 881 (by decide +kernel) (by decide +kernel)
theorem K_1 : Cl 1 RJ4 TJ4 4 tyJ4 := ⟨rfl, by decide, kin_1, tyJ4_ok, nmJ4, rfl, by decide +kernel⟩
theorem kin_2 : ∀ w ∈ u_ws RX0 TX0 5, w ∈ gT := fun w hw => by
  obtain ⟨k, hk, rfl⟩ := List.mem_map.mp hw
  have hk := List.mem_range.mp hk
  rcases (show k = 0 ∨ k = 1 ∨ k = 2 ∨ k = 3 ∨ k = 4 by omega) with rfl | rfl | rfl | rfl | rfl
  · exact gT_in 151 (by decide +kernel) (by decide +kernel)
  · exact gT_in 153 (by decide +kernel) (by decide +kernel)
  · exact gT_in 155 (by decide +kernel) (by decide +kernel)
  · exact gT_in 157 (by decide +kernel) (by decide +kernel)
  · exact gT_in 159 (by decide +kernel) (by decide +kernel)
theorem K_2 : Cl 2 RX0 TX0 5 tyX0 := ⟨rfl, by decide, kin_2, tyX0_ok, nmX0, rfl, by decide +kernel⟩
theorem kin_3 : ∀ w ∈ u_ws RX1 TX1 5, w ∈ gT := fun w hw => by
  obtain ⟨k, hk, rfl⟩ := List.mem_map.mp hw
  have hk := List.mem_range.mp hk
  rcases (show k = 0 ∨ k = 1 ∨ k = 2 ∨ k = 3 ∨ k = 4 by omega) with rfl | rfl | rfl | rfl | rfl
  · exact gT_in 294 (by decide +kernel) (by decide +kernel)
  · exact gT_in 296 (by decide +kernel) (by decide +kernel)
  · exact gT_in 298 (by decide +kernel) (by decide +kernel)
  · exact gT_in 300 (by decide +kernel) (by decide +kernel)
  · exact gT_in 302 (by decide +kernel) (by decide +kernel)
theorem K_3 : Cl 3 RX1 TX1 5 tyX1 := ⟨rfl, by decide, kin_3, tyX1_ok, nmX1, rfl, by decide +kernel⟩
theorem kin_4 : ∀ w ∈ u_ws RX2 TX2 18, w ∈ gT := fun w hw => by
  obtain ⟨k, hk, rfl⟩ := List.mem_map.mp hw
  have hk := List.mem_range.mp hk
  rcases (show k = 0 ∨ k = 1 ∨ k = 2 ∨ k = 3 ∨ k = 4 ∨ k = 5 ∨ k = 6 ∨ k = 7 ∨ k = 8 ∨ k = 9 ∨ k = 10 ∨ k = 11 ∨ k = 12 ∨ k = 13 ∨ k = 14 ∨ k = 15 ∨ k = 16 ∨ k = 17 by omega) with rfl | rfl | rfl | rfl | rfl | rfl | rfl | rfl | rfl | rfl | rfl | rfl | rfl | rfl | rfl | rfl | rfl | rfl
  · exact gT_in 244 (by decide +kernel) (by decide +kernel)
  · exact gT_in 246 (by decide +kernel) (by decide +kernel)
  · exact gT_in 248 (by decide +kernel) (by decide +kernel)
  · exact gT_in 250 (by decide +kernel) (by decide +kernel)
  · exact gT_in 252 (by decide +kernel) (by decide +kernel)
  · exact gT_in 254 (by decide +kernel) (by decide +kernel)
  · exact gT_in 256 (by decide +kernel) (by decide +kernel)
  · exact gT_in 258 (by decide +kernel) (by decide +kernel)
  · exact gT_in 260 (by decide +kernel) (by decide +kernel)
  · exact gT_in 262 (by decide +kernel) (by decide +kernel)
  · exact gT_in 264 (by decide +kernel) (by decide +kernel)
  · exact gT_in 266 (by decide +kernel) (by decide +kernel)
  · exact gT_in 268 (by decide +kernel) (by decide +kernel)
  · exact gT_in 270 (by decide +kernel) (by decide +kernel)
  · exact gT_in 272 (by decide +kernel) (by decide +kernel)
  · exact gT_in 274 (by decide +kernel) (by decide +kernel)
  · exact gT_in 276 (by decide +kernel) (by decide +kernel)
  · exact gT_in 278 (by decide +kernel) (by decide +kernel)
theorem K_4 : Cl 4 RX2 TX2 18 tyX2 := ⟨rfl, by decide, kin_4, tyX2_ok, nmX2, rfl, by decide +kernel⟩
theorem kin_5 : ∀ w ∈ u_ws RX3 TX3 5, w ∈ gT := fun w hw => by
  obtain ⟨k, hk, rfl⟩ := List.mem_map.mp hw
  have hk := List.mem_range.mp hk
  rcases (show k = 0 ∨ k = 1 ∨ k = 2 ∨ k = 3 ∨ k = 4 by omega) with rfl | rfl | rfl | rfl | rfl
  · exact gT_in 129 (by decide +kernel) (by decide +kernel)
  · exact gT_in 131 (by decide +kernel) (by decide +kernel)
  · exact gT_in 133 (by decide +kernel) (by decide +kernel)
  · exact gT_in 135 (by decide +kernel) (by decide +kernel)
  · exact gT_in 137 (by decide +kernel) (by decide +kernel)
theorem K_5 : Cl 5 RX3 TX3 5 tyX3 := ⟨rfl, by decide, kin_5, tyX3_ok, nmX3, rfl, by decide +kernel⟩
theorem kin_6 : ∀ w ∈ u_ws RX4 TX4 3, w ∈ gT := fun w hw => by
  obtain ⟨k, hk, rfl⟩ := List.mem_map.mp hw
  have hk := List.mem_range.mp hk
  rcases (show k = 0 ∨ k = 1 ∨ k = 2 by omega) with rfl | rfl | rfl
  · exact gT_in 200 (by decide +kernel) (by decide +kernel)
  · exact gT_in 202 (by decide +kernel) (by decide +kernel)
  · exact gT_in 204 (by decide +kernel) (by decide +kernel)
theorem K_6 : Cl 6 RX4 TX4 3 tyX4 := ⟨rfl, by decide, kin_6, tyX4_ok, nmX4, rfl, by decide +kernel⟩
theorem kin_7 : ∀ w ∈ u_ws RX5 TX5 7, w ∈ gT := fun w hw => by
  obtain ⟨k, hk, rfl⟩ := List.mem_map.mp hw
  have hk := List.mem_range.mp hk
  rcases (show k = 0 ∨ k = 1 ∨ k = 2 ∨ k = 3 ∨ k = 4 ∨ k = 5 ∨ k = 6 by omega) with rfl | rfl | rfl | rfl | rfl | rfl | rfl
  · exact gT_in 435 (by decide +kernel) (by decide +kernel)
  · exact gT_in 437 (by decide +kernel) (by decide +kernel)
  · exact gT_in 439 (by decide +kernel) (by decide +kernel)
  · exact gT_in 441 (by decide +kernel) (by decide +kernel)
  · exact gT_in 443 (by decide +kernel) (by decide +kernel)
  · exact gT_in 445 (by decide +kernel) (by decide +kernel)
  · exact gT_in 447 (by decide +kernel) (by decide +kernel)
theorem K_7 : Cl 7 RX5 TX5 7 tyX5 := ⟨rfl, by decide, kin_7, tyX5_ok, nmX5, rfl, by decide +kernel⟩
theorem kin_8 : ∀ w ∈ u_ws RX6 TX6 11, w ∈ gT := fun w hw => by
  obtain ⟨k, hk, rfl⟩ := List.mem_map.mp hw
  have hk := List.mem_range.mp hk
  rcases (show k = 0 ∨ k = 1 ∨ k = 2 ∨ k = 3 ∨ k = 4 ∨ k = 5 ∨ k = 6 ∨ k = 7 ∨ k = 8 ∨ k = 9 ∨ k = 10 by omega) with rfl | rfl | rfl | rfl | rfl | rfl | rfl | rfl | rfl | rfl | rfl
  · exact gT_in 324 (by decide +kernel) (by decide +kernel)
  · exact gT_in 326 (by decide +kernel) (by decide +kernel)
  · exact gT_in 328 (by decide +kernel) (by decide +kernel)
  · exact gT_in 330 (by decide +kernel) (by decide +kernel)
  · exact gT_in 332 (by decide +kernel) (by decide +kernel)
  · exact gT_in 334 (by decide +kernel) (by decide +kernel)
  · exact gT_in 336 (by decide +kernel) (by decide +kernel)
  · exact gT_in 338 (by decide +kernel) (by decide +kernel)
  · exact gT_in 340 (by decide +kernel) (by decide +kernel)
  · exact gT_in 342 (by decide +kernel) (by decide +kernel)
  · exact gT_in 344 (by decide +kernel) (by decide +kernel)
theorem K_8 : Cl 8 RX6 TX6 11 tyX6 := ⟨rfl, by decide, kin_8, tyX6_ok, nmX6, rfl, by decide +kernel⟩
theorem kin_9 : ∀ w ∈ u_ws RX7 TX7 2, w ∈ gT := fun w hw => by
  obtain ⟨k, hk, rfl⟩ := List.mem_map.mp hw
  have hk := List.mem_range.mp hk
  rcases (show k = 0 ∨ k = 1 by omega) with rfl | rfl
  · exact gT_in 178 (by decide +kernel) (by decide +kernel)
  · exact gT_in 180 (by decide +kernel) (by decide +kernel)
theorem K_9 : Cl 9 RX7 TX7 2 tyX7 := ⟨rfl, by decide, kin_9, tyX7_ok, nmX7, rfl, by decide +kernel⟩
theorem kin_10 : ∀ w ∈ u_ws RX8 TX8 2, w ∈ gT := fun w hw => by
  obtain ⟨k, hk, rfl⟩ := List.mem_map.mp hw
  have hk := List.mem_range.mp hk
  rcases (show k = 0 ∨ k = 1 by omega) with rfl | rfl
  · exact gT_in 87 (by decide +kernel) (by decide +kernel)
  · exact gT_in 89 (by decide +kernel) (by decide +kernel)
theorem K_10 : Cl 10 RX8 TX8 2 tyX8 := ⟨rfl, by decide, kin_10, tyX8_ok, nmX8, rfl, by decide +kernel⟩
theorem kin_11 : ∀ w ∈ u_ws RX9 TX9 5, w ∈ gT := fun w hw => by
  obtain ⟨k, hk, rfl⟩ := List.mem_map.mp hw
  have hk := List.mem_range.mp hk
  rcases (show k = 0 ∨ k = 1 ∨ k = 2 ∨ k = 3 ∨ k = 4 by omega) with rfl | rfl | rfl | rfl | rfl
  · exact gT_in 414 (by decide +kernel) (by decide +kernel)
  · exact gT_in 416 (by decide +kernel) (by decide +kernel)
  · exact gT_in 418 (by decide +kernel) (by decide +kernel)
  · exact gT_in 420 (by decide +kernel) (by decide +kernel)
  · exact gT_in 422 (by decide +kernel) (by decide +kernel)
theorem K_11 : Cl 11 RX9 TX9 5 tyX9 := ⟨rfl, by decide, kin_11, tyX9_ok, nmX9, rfl, by decide +kernel⟩
theorem kin_12 : ∀ w ∈ u_ws RX10 TX10 5, w ∈ gT := fun w hw => by
  obtain ⟨k, hk, rfl⟩ := List.mem_map.mp hw
  have hk := List.mem_range.mp hk
  rcases (show k = 0 ∨ k = 1 ∨ k = 2 ∨ k = 3 ∨ k = 4 by omega) with rfl | rfl | rfl | rfl | rfl
  · exact gT_in 459 (by decide +kernel) (by decide +kernel)
  · exact gT_in 461 (by decide +kernel) (by decide +kernel)
  · exact gT_in 463 (by decide +kernel) (by decide +kernel)
  · exact gT_in 465 (by decide +kernel) (by decide +kernel)
  · exact gT_in 467 (by decide +kernel) (by decide +kernel)
theorem K_12 : Cl 12 RX10 TX10 5 tyX10 := ⟨rfl, by decide, kin_12, tyX10_ok, nmX10, rfl, by decide +kernel⟩
theorem kin_13 : ∀ w ∈ u_ws RX11 TX11 19, w ∈ gT := fun w hw => by
  obtain ⟨k, hk, rfl⟩ := List.mem_map.mp hw
  have hk := List.mem_range.mp hk
  rcases (show k = 0 ∨ k = 1 ∨ k = 2 ∨ k = 3 ∨ k = 4 ∨ k = 5 ∨ k = 6 ∨ k = 7 ∨ k = 8 ∨ k = 9 ∨ k = 10 ∨ k = 11 ∨ k = 12 ∨ k = 13 ∨ k = 14 ∨ k = 15 ∨ k = 16 ∨ k = 17 ∨ k = 18 by omega) with rfl | rfl | rfl | rfl | rfl | rfl | rfl | rfl | rfl | rfl | rfl | rfl | rfl | rfl | rfl | rfl | rfl | rfl | rfl
  · exact gT_in 1419 (by decide +kernel) (by decide +kernel)
  · exact gT_in 1421 (by decide +kernel) (by decide +kernel)
  · exact gT_in 1423 (by decide +kernel) (by decide +kernel)
  · exact gT_in 1425 (by decide +kernel) (by decide +kernel)
  · exact gT_in 1427 (by decide +kernel) (by decide +kernel)
  · exact gT_in 1429 (by decide +kernel) (by decide +kernel)
  · exact gT_in 1431 (by decide +kernel) (by decide +kernel)
  · exact gT_in 1433 (by decide +kernel) (by decide +kernel)
  · exact gT_in 1435 (by decide +kernel) (by decide +kernel)
  · exact gT_in 1437 (by decide +kernel) (by decide +kernel)
  · exact gT_in 1439 (by decide +kernel) (by decide +kernel)
  · exact gT_in 1441 (by decide +kernel) (by decide +kernel)
  · exact gT_in 1443 (by decide +kernel) (by decide +kernel)
  · exact gT_in 1445 (by decide +kernel) (by decide +kernel)
  · exact gT_in 1447 (by decide +kernel) (by decide +kernel)
  · exact gT_in 1449 (by decide +kernel) (by decide +kernel)
  · exact gT_in 1451 (by decide +kernel) (by decide +kernel)
  · exact gT_in 1453 (by decide +kernel) (by decide +kernel)
  · exact gT_in 1455 (by decide +kernel) (by decide +kernel)
theorem K_13 : Cl 13 RX11 TX11 19 tyX11 := ⟨rfl, by decide, kin_13, tyX11_ok, nmX11, rfl, by decide +kernel⟩
theorem kin_14 : ∀ w ∈ u_ws RX12 TX12 8, w ∈ gT := fun w hw => by
  obtain ⟨k, hk, rfl⟩ := List.mem_map.mp hw
  have hk := List.mem_range.mp hk
  rcases (show k = 0 ∨ k = 1 ∨ k = 2 ∨ k = 3 ∨ k = 4 ∨ k = 5 ∨ k = 6 ∨ k = 7 by omega) with rfl | rfl | rfl | rfl | rfl | rfl | rfl | rfl
  · exact gT_in 1355 (by decide +kernel) (by decide +kernel)
  · exact gT_in 1357 (by decide +kernel) (by decide +kernel)
  · exact gT_in 1359 (by decide +kernel) (by decide +kernel)
  · exact gT_in 1361 (by decide +kernel) (by decide +kernel)
  · exact gT_in 1363 (by decide +kernel) (by decide +kernel)
  · exact gT_in 1365 (by decide +kernel) (by decide +kernel)
  · exact gT_in 1367 (by decide +kernel) (by decide +kernel)
  · exact gT_in 1369 (by decide +kernel) (by decide +kernel)
theorem K_14 : Cl 14 RX12 TX12 8 tyX12 := ⟨rfl, by decide, kin_14, tyX12_ok, nmX12, rfl, by decide +kernel⟩
theorem gs_0 : (RX9, 25, "well lane under rate most burst rank holds drops old new folk to brings every from raise cap shut when minute spare tokens waits sent lost lent full dry not and or min max ", 0) ∈ gStr := List.mem_of_getElem? (i := 0) rfl
theorem gs_1 : (RX12, 226, "well 3;well ", 1) ∈ gStr := List.mem_of_getElem? (i := 1) rfl
theorem gs_2 : (RX12, 228, ";", 2) ∈ gStr := List.mem_of_getElem? (i := 2) rfl
theorem gs_3 : (RX12, 230, "lane l", 3) ∈ gStr := List.mem_of_getElem? (i := 3) rfl
theorem gs_4 : (RX12, 232, " under l", 4) ∈ gStr := List.mem_of_getElem? (i := 4) rfl
theorem gs_5 : (RX12, 234, " rate ", 5) ∈ gStr := List.mem_of_getElem? (i := 5) rfl
theorem gs_6 : (RX12, 236, " most ", 6) ∈ gStr := List.mem_of_getElem? (i := 6) rfl
theorem gs_7 : (RX12, 238, " burst ", 7) ∈ gStr := List.mem_of_getElem? (i := 7) rfl
theorem gs_8 : (RX12, 240, " rank ", 8) ∈ gStr := List.mem_of_getElem? (i := 8) rfl
theorem gs_9 : (RX12, 242, " holds ", 9) ∈ gStr := List.mem_of_getElem? (i := 9) rfl
theorem gs_10 : (RX12, 244, " drops ", 10) ∈ gStr := List.mem_of_getElem? (i := 10) rfl
theorem gs_11 : (RX12, 246, "old", 11) ∈ gStr := List.mem_of_getElem? (i := 11) rfl
theorem gs_12 : (RX12, 248, "new", 12) ∈ gStr := List.mem_of_getElem? (i := 12) rfl
theorem gs_13 : (RX12, 250, ";\n", 13) ∈ gStr := List.mem_of_getElem? (i := 13) rfl
theorem gs_14 : (RX12, 252, "folk f", 14) ∈ gStr := List.mem_of_getElem? (i := 14) rfl
theorem gs_15 : (RX12, 254, " to l", 15) ∈ gStr := List.mem_of_getElem? (i := 15) rfl
theorem gs_16 : (RX12, 256, " brings ", 16) ∈ gStr := List.mem_of_getElem? (i := 16) rfl
theorem gs_17 : (RX12, 258, " every ", 17) ∈ gStr := List.mem_of_getElem? (i := 17) rfl
theorem gs_18 : (RX12, 260, " from ", 18) ∈ gStr := List.mem_of_getElem? (i := 18) rfl
theorem gs_19 : (RX12, 262, "raise l", 19) ∈ gStr := List.mem_of_getElem? (i := 19) rfl
theorem gs_20 : (RX12, 264, "cap l", 20) ∈ gStr := List.mem_of_getElem? (i := 20) rfl
theorem gs_21 : (RX12, 266, "shut l", 21) ∈ gStr := List.mem_of_getElem? (i := 21) rfl
theorem gs_22 : (RX12, 268, " to ", 22) ∈ gStr := List.mem_of_getElem? (i := 22) rfl
theorem gs_23 : (RX12, 108, "", 23) ∈ gStr := List.mem_of_getElem? (i := 23) rfl
theorem gs_24 : (RX12, 121, "minute - ", 24) ∈ gStr := List.mem_of_getElem? (i := 24) rfl
theorem gs_25 : (RX12, 123, "spare+tokens l", 25) ∈ gStr := List.mem_of_getElem? (i := 25) rfl
theorem gs_26 : (RX12, 125, "waits l", 26) ∈ gStr := List.mem_of_getElem? (i := 26) rfl
theorem gs_27 : (RX12, 127, " * 2 - ", 27) ∈ gStr := List.mem_of_getElem? (i := 27) rfl
theorem gs_28 : (RX12, 129, "sent l", 28) ∈ gStr := List.mem_of_getElem? (i := 28) rfl
theorem gs_29 : (RX12, 131, "/2", 29) ∈ gStr := List.mem_of_getElem? (i := 29) rfl
theorem gs_30 : (RX12, 133, "lost l", 30) ∈ gStr := List.mem_of_getElem? (i := 30) rfl
theorem gs_31 : (RX12, 135, " - lent l", 31) ∈ gStr := List.mem_of_getElem? (i := 31) rfl
theorem gs_32 : (RX12, 137, "min(", 32) ∈ gStr := List.mem_of_getElem? (i := 32) rfl
theorem gs_33 : (RX12, 139, ",30 - tokens l", 33) ∈ gStr := List.mem_of_getElem? (i := 33) rfl
theorem gs_34 : (RX12, 141, ")", 34) ∈ gStr := List.mem_of_getElem? (i := 34) rfl
theorem gs_35 : (RX12, 270, " when ", 35) ∈ gStr := List.mem_of_getElem? (i := 35) rfl
theorem gs_36 : (RX12, 147, "full l", 36) ∈ gStr := List.mem_of_getElem? (i := 36) rfl
theorem gs_37 : (RX12, 149, "not dry l", 37) ∈ gStr := List.mem_of_getElem? (i := 37) rfl
theorem gs_38 : (RX12, 151, "minute >= ", 38) ∈ gStr := List.mem_of_getElem? (i := 38) rfl
theorem gs_39 : (RX12, 153, "dry l", 39) ∈ gStr := List.mem_of_getElem? (i := 39) rfl
theorem gs_40 : (RX12, 155, " or spare < ", 40) ∈ gStr := List.mem_of_getElem? (i := 40) rfl
theorem gs_41 : (RX12, 157, "[not full l", 41) ∈ gStr := List.mem_of_getElem? (i := 41) rfl
theorem gs_42 : (RX12, 159, " and minute / 4 * 4 = minute]", 42) ∈ gStr := List.mem_of_getElem? (i := 42) rfl
theorem gs_43 : (RX12, 165, " > ", 43) ∈ gStr := List.mem_of_getElem? (i := 43) rfl
theorem gs_44 : (RX12, 167, "2 > 1", 44) ∈ gStr := List.mem_of_getElem? (i := 44) rfl
theorem gs_45 : (RX12, 275, "; ", 45) ∈ gStr := List.mem_of_getElem? (i := 45) rfl
