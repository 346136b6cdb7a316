section
-- ===== PART A: goes FIRST, ahead of the names: the tables' words, and 'selects' of the private methods out of them =====
/-- a private method of a class that the tables say can be made, by its rows of tables_1 -/
def lw_okq (q : MethodName × Nat) : Prop := (q.1.cls ≠ "java/lang/invoke/MethodHandle" ∧ q.1.cls ≠ "java/lang/invoke/VarHandle") ∧ Cond.instantiable q.1.cls q.2 ∈ tables_1 ∧ Cond.privateMethod q.1 ∈ tables_1 ∧ Cond.instanceMethod q.1 ∈ tables_1
theorem lw_p0 : lw_okq (⟨"java/lang/Throwable", "fillInStackTrace", "(I)Ljava/lang/Throwable;"⟩, 6) := ⟨⟨by decide +kernel, by decide +kernel⟩, List.mem_of_getElem? (i := 475) (by decide +kernel), List.mem_of_getElem? (i := 473) (by decide +kernel), List.mem_of_getElem? (i := 474) (by decide +kernel)⟩
theorem lw_p1 : lw_okq (⟨"BucketBrigade", "countNow", "(I)I"⟩, 5) := ⟨⟨by decide +kernel, by decide +kernel⟩, List.mem_of_getElem? (i := 32) (by decide +kernel), List.mem_of_getElem? (i := 504) (by decide +kernel), List.mem_of_getElem? (i := 505) (by decide +kernel)⟩
theorem lw_p2 : lw_okq (⟨"BucketBrigade$Site", "sumOverLanes", "(I)I"⟩, 11) := ⟨⟨by decide +kernel, by decide +kernel⟩, List.mem_of_getElem? (i := 62) (by decide +kernel), List.mem_of_getElem? (i := 512) (by decide +kernel), List.mem_of_getElem? (i := 513) (by decide +kernel)⟩
theorem lw_p3 : lw_okq (⟨"BucketBrigade$Queue", "slotOf", "(I)I"⟩, 3) := ⟨⟨by decide +kernel, by decide +kernel⟩, List.mem_of_getElem? (i := 151) (by decide +kernel), List.mem_of_getElem? (i := 542) (by decide +kernel), List.mem_of_getElem? (i := 543) (by decide +kernel)⟩
theorem lw_p4 : lw_okq (⟨"BucketBrigade$Site", "obey", "(LBucketBrigade$Order;)V"⟩, 11) := ⟨⟨by decide +kernel, by decide +kernel⟩, List.mem_of_getElem? (i := 62) (by decide +kernel), List.mem_of_getElem? (i := 594) (by decide +kernel), List.mem_of_getElem? (i := 595) (by decide +kernel)⟩
theorem lw_p5 : lw_okq (⟨"BucketBrigade$Site", "reckon", "(II)I"⟩, 11) := ⟨⟨by decide +kernel, by decide +kernel⟩, List.mem_of_getElem? (i := 62) (by decide +kernel), List.mem_of_getElem? (i := 598) (by decide +kernel), List.mem_of_getElem? (i := 599) (by decide +kernel)⟩
theorem lw_p6 : lw_okq (⟨"BucketBrigade$Site", "step", "(II)V"⟩, 11) := ⟨⟨by decide +kernel, by decide +kernel⟩, List.mem_of_getElem? (i := 62) (by decide +kernel), List.mem_of_getElem? (i := 609) (by decide +kernel), List.mem_of_getElem? (i := 610) (by decide +kernel)⟩
theorem lw_p7 : lw_okq (⟨"BucketBrigade$Site", "letFolkCome", "()V"⟩, 11) := ⟨⟨by decide +kernel, by decide +kernel⟩, List.mem_of_getElem? (i := 62) (by decide +kernel), List.mem_of_getElem? (i := 635) (by decide +kernel), List.mem_of_getElem? (i := 636) (by decide +kernel)⟩
theorem lw_p8 : lw_okq (⟨"BucketBrigade$Site", "sendPails", "()I"⟩, 11) := ⟨⟨by decide +kernel, by decide +kernel⟩, List.mem_of_getElem? (i := 62) (by decide +kernel), List.mem_of_getElem? (i := 668) (by decide +kernel), List.mem_of_getElem? (i := 669) (by decide +kernel)⟩
theorem lw_p9 : lw_okq (⟨"BucketBrigade$Site", "whoSends", "()LBucketBrigade$Lane;"⟩, 11) := ⟨⟨by decide +kernel, by decide +kernel⟩, List.mem_of_getElem? (i := 62) (by decide +kernel), List.mem_of_getElem? (i := 672) (by decide +kernel), List.mem_of_getElem? (i := 673) (by decide +kernel)⟩
theorem lw_p10 : lw_okq (⟨"BucketBrigade$Lane", "isLetSend", "()Z"⟩, 18) := ⟨⟨by decide +kernel, by decide +kernel⟩, List.mem_of_getElem? (i := 145) (by decide +kernel), List.mem_of_getElem? (i := 680) (by decide +kernel), List.mem_of_getElem? (i := 681) (by decide +kernel)⟩
theorem lw_p11 : lw_okq (⟨"BucketBrigadeLaw$Sim", "holds", "(III)Z"⟩, 8) := ⟨⟨by decide +kernel, by decide +kernel⟩, List.mem_of_getElem? (i := 754) (by decide +kernel), List.mem_of_getElem? (i := 752) (by decide +kernel), List.mem_of_getElem? (i := 753) (by decide +kernel)⟩
theorem lw_p12 : lw_okq (⟨"BucketBrigadeLaw$Sim", "value", "(ILBucketBrigadeLaw$Lane;I)I"⟩, 8) := ⟨⟨by decide +kernel, by decide +kernel⟩, List.mem_of_getElem? (i := 754) (by decide +kernel), List.mem_of_getElem? (i := 757) (by decide +kernel), List.mem_of_getElem? (i := 758) (by decide +kernel)⟩
theorem lw_p13 : lw_okq (⟨"BucketBrigade$Tokens", "scanToken", "(LBucketBrigade$Tape;I)I"⟩, 5) := ⟨⟨by decide +kernel, by decide +kernel⟩, List.mem_of_getElem? (i := 310) (by decide +kernel), List.mem_of_getElem? (i := 1134) (by decide +kernel), List.mem_of_getElem? (i := 1135) (by decide +kernel)⟩
theorem lw_p14 : lw_okq (⟨"BucketBrigade$Tokens", "add", "(IIJ)V"⟩, 5) := ⟨⟨by decide +kernel, by decide +kernel⟩, List.mem_of_getElem? (i := 310) (by decide +kernel), List.mem_of_getElem? (i := 1138) (by decide +kernel), List.mem_of_getElem? (i := 1139) (by decide +kernel)⟩
theorem lw_p15 : lw_okq (⟨"BucketBrigade$Tokens", "scanWord", "(LBucketBrigade$Tape;I)I"⟩, 5) := ⟨⟨by decide +kernel, by decide +kernel⟩, List.mem_of_getElem? (i := 310) (by decide +kernel), List.mem_of_getElem? (i := 1145) (by decide +kernel), List.mem_of_getElem? (i := 1146) (by decide +kernel)⟩
def lw_privs_1 : List (MethodName × Nat) := [(⟨"java/lang/Throwable", "fillInStackTrace", "(I)Ljava/lang/Throwable;"⟩, 6), (⟨"BucketBrigade", "countNow", "(I)I"⟩, 5), (⟨"BucketBrigade$Site", "sumOverLanes", "(I)I"⟩, 11), (⟨"BucketBrigade$Queue", "slotOf", "(I)I"⟩, 3), (⟨"BucketBrigade$Site", "obey", "(LBucketBrigade$Order;)V"⟩, 11), (⟨"BucketBrigade$Site", "reckon", "(II)I"⟩, 11), (⟨"BucketBrigade$Site", "step", "(II)V"⟩, 11), (⟨"BucketBrigade$Site", "letFolkCome", "()V"⟩, 11), (⟨"BucketBrigade$Site", "sendPails", "()I"⟩, 11), (⟨"BucketBrigade$Site", "whoSends", "()LBucketBrigade$Lane;"⟩, 11), (⟨"BucketBrigade$Lane", "isLetSend", "()Z"⟩, 18), (⟨"BucketBrigadeLaw$Sim", "holds", "(III)Z"⟩, 8), (⟨"BucketBrigadeLaw$Sim", "value", "(ILBucketBrigadeLaw$Lane;I)I"⟩, 8), (⟨"BucketBrigade$Tokens", "scanToken", "(LBucketBrigade$Tape;I)I"⟩, 5), (⟨"BucketBrigade$Tokens", "add", "(IIJ)V"⟩, 5), (⟨"BucketBrigade$Tokens", "scanWord", "(LBucketBrigade$Tape;I)I"⟩, 5)]
theorem lw_r1 : ∀ q ∈ lw_privs_1, lw_okq q := List.forall_mem_cons.mpr ⟨lw_p0, List.forall_mem_cons.mpr ⟨lw_p1, List.forall_mem_cons.mpr ⟨lw_p2, List.forall_mem_cons.mpr ⟨lw_p3, List.forall_mem_cons.mpr ⟨lw_p4, List.forall_mem_cons.mpr ⟨lw_p5, List.forall_mem_cons.mpr ⟨lw_p6, List.forall_mem_cons.mpr ⟨lw_p7, List.forall_mem_cons.mpr ⟨lw_p8, List.forall_mem_cons.mpr ⟨lw_p9, List.forall_mem_cons.mpr ⟨lw_p10, List.forall_mem_cons.mpr ⟨lw_p11, List.forall_mem_cons.mpr ⟨lw_p12, List.forall_mem_cons.mpr ⟨lw_p13, List.forall_mem_cons.mpr ⟨lw_p14, List.forall_mem_cons.mpr ⟨lw_p15, fun _ h => absurd h List.not_mem_nil⟩⟩⟩⟩⟩⟩⟩⟩⟩⟩⟩⟩⟩⟩⟩⟩
theorem lw_p16 : lw_okq (⟨"BucketBrigade$Tokens", "kindOfWord", "(J)I"⟩, 5) := ⟨⟨by decide +kernel, by decide +kernel⟩, List.mem_of_getElem? (i := 310) (by decide +kernel), List.mem_of_getElem? (i := 1149) (by decide +kernel), List.mem_of_getElem? (i := 1150) (by decide +kernel)⟩
theorem lw_p17 : lw_okq (⟨"BucketBrigade$Tokens", "scanNumber", "(LBucketBrigade$Tape;I)I"⟩, 5) := ⟨⟨by decide +kernel, by decide +kernel⟩, List.mem_of_getElem? (i := 310) (by decide +kernel), List.mem_of_getElem? (i := 1153) (by decide +kernel), List.mem_of_getElem? (i := 1154) (by decide +kernel)⟩
theorem lw_p18 : lw_okq (⟨"BucketBrigade$Tokens", "scanSymbol", "(LBucketBrigade$Tape;I)I"⟩, 5) := ⟨⟨by decide +kernel, by decide +kernel⟩, List.mem_of_getElem? (i := 310) (by decide +kernel), List.mem_of_getElem? (i := 1158) (by decide +kernel), List.mem_of_getElem? (i := 1159) (by decide +kernel)⟩
theorem lw_p19 : lw_okq (⟨"BucketBrigade$Reader", "kind", "()I"⟩, 7) := ⟨⟨by decide +kernel, by decide +kernel⟩, List.mem_of_getElem? (i := 56) (by decide +kernel), List.mem_of_getElem? (i := 1174) (by decide +kernel), List.mem_of_getElem? (i := 1175) (by decide +kernel)⟩
theorem lw_p20 : lw_okq (⟨"BucketBrigade$Reader", "number", "(II)I"⟩, 7) := ⟨⟨by decide +kernel, by decide +kernel⟩, List.mem_of_getElem? (i := 56) (by decide +kernel), List.mem_of_getElem? (i := 1179) (by decide +kernel), List.mem_of_getElem? (i := 1180) (by decide +kernel)⟩
theorem lw_p21 : lw_okq (⟨"BucketBrigade$Reader", "fail", "()V"⟩, 7) := ⟨⟨by decide +kernel, by decide +kernel⟩, List.mem_of_getElem? (i := 56) (by decide +kernel), List.mem_of_getElem? (i := 1183) (by decide +kernel), List.mem_of_getElem? (i := 1184) (by decide +kernel)⟩
theorem lw_p22 : lw_okq (⟨"BucketBrigade$Reader", "blame", "(I)V"⟩, 7) := ⟨⟨by decide +kernel, by decide +kernel⟩, List.mem_of_getElem? (i := 56) (by decide +kernel), List.mem_of_getElem? (i := 1195) (by decide +kernel), List.mem_of_getElem? (i := 1196) (by decide +kernel)⟩
theorem lw_p23 : lw_okq (⟨"BucketBrigade$Reader", "readLane", "()V"⟩, 7) := ⟨⟨by decide +kernel, by decide +kernel⟩, List.mem_of_getElem? (i := 56) (by decide +kernel), List.mem_of_getElem? (i := 1199) (by decide +kernel), List.mem_of_getElem? (i := 1200) (by decide +kernel)⟩
theorem lw_p24 : lw_okq (⟨"BucketBrigade$Reader", "newName", "([JI)J"⟩, 7) := ⟨⟨by decide +kernel, by decide +kernel⟩, List.mem_of_getElem? (i := 56) (by decide +kernel), List.mem_of_getElem? (i := 1203) (by decide +kernel), List.mem_of_getElem? (i := 1204) (by decide +kernel)⟩
theorem lw_p25 : lw_okq (⟨"BucketBrigade$Reader", "takes", "(I)Z"⟩, 7) := ⟨⟨by decide +kernel, by decide +kernel⟩, List.mem_of_getElem? (i := 56) (by decide +kernel), List.mem_of_getElem? (i := 1210) (by decide +kernel), List.mem_of_getElem? (i := 1211) (by decide +kernel)⟩
theorem lw_p26 : lw_okq (⟨"BucketBrigade$Reader", "toldLane", "()I"⟩, 7) := ⟨⟨by decide +kernel, by decide +kernel⟩, List.mem_of_getElem? (i := 56) (by decide +kernel), List.mem_of_getElem? (i := 1214) (by decide +kernel), List.mem_of_getElem? (i := 1215) (by decide +kernel)⟩
theorem lw_p27 : lw_okq (⟨"BucketBrigade$Reader", "need", "(I)V"⟩, 7) := ⟨⟨by decide +kernel, by decide +kernel⟩, List.mem_of_getElem? (i := 56) (by decide +kernel), List.mem_of_getElem? (i := 1218) (by decide +kernel), List.mem_of_getElem? (i := 1219) (by decide +kernel)⟩
theorem lw_p28 : lw_okq (⟨"BucketBrigade$Reader", "readFolk", "()V"⟩, 7) := ⟨⟨by decide +kernel, by decide +kernel⟩, List.mem_of_getElem? (i := 56) (by decide +kernel), List.mem_of_getElem? (i := 1228) (by decide +kernel), List.mem_of_getElem? (i := 1229) (by decide +kernel)⟩
theorem lw_p29 : lw_okq (⟨"BucketBrigade$Reader", "readOrder", "(I)V"⟩, 7) := ⟨⟨by decide +kernel, by decide +kernel⟩, List.mem_of_getElem? (i := 56) (by decide +kernel), List.mem_of_getElem? (i := 1234) (by decide +kernel), List.mem_of_getElem? (i := 1235) (by decide +kernel)⟩
theorem lw_p30 : lw_okq (⟨"BucketBrigade$Reader", "sum", "(I)V"⟩, 7) := ⟨⟨by decide +kernel, by decide +kernel⟩, List.mem_of_getElem? (i := 56) (by decide +kernel), List.mem_of_getElem? (i := 1238) (by decide +kernel), List.mem_of_getElem? (i := 1239) (by decide +kernel)⟩
theorem lw_p31 : lw_okq (⟨"BucketBrigade$Reader", "product", "(I)V"⟩, 7) := ⟨⟨by decide +kernel, by decide +kernel⟩, List.mem_of_getElem? (i := 56) (by decide +kernel), List.mem_of_getElem? (i := 1242) (by decide +kernel), List.mem_of_getElem? (i := 1243) (by decide +kernel)⟩
def lw_privs_2 : List (MethodName × Nat) := [(⟨"BucketBrigade$Tokens", "kindOfWord", "(J)I"⟩, 5), (⟨"BucketBrigade$Tokens", "scanNumber", "(LBucketBrigade$Tape;I)I"⟩, 5), (⟨"BucketBrigade$Tokens", "scanSymbol", "(LBucketBrigade$Tape;I)I"⟩, 5), (⟨"BucketBrigade$Reader", "kind", "()I"⟩, 7), (⟨"BucketBrigade$Reader", "number", "(II)I"⟩, 7), (⟨"BucketBrigade$Reader", "fail", "()V"⟩, 7), (⟨"BucketBrigade$Reader", "blame", "(I)V"⟩, 7), (⟨"BucketBrigade$Reader", "readLane", "()V"⟩, 7), (⟨"BucketBrigade$Reader", "newName", "([JI)J"⟩, 7), (⟨"BucketBrigade$Reader", "takes", "(I)Z"⟩, 7), (⟨"BucketBrigade$Reader", "toldLane", "()I"⟩, 7), (⟨"BucketBrigade$Reader", "need", "(I)V"⟩, 7), (⟨"BucketBrigade$Reader", "readFolk", "()V"⟩, 7), (⟨"BucketBrigade$Reader", "readOrder", "(I)V"⟩, 7), (⟨"BucketBrigade$Reader", "sum", "(I)V"⟩, 7), (⟨"BucketBrigade$Reader", "product", "(I)V"⟩, 7)]
theorem lw_r2 : ∀ q ∈ lw_privs_2, lw_okq q := List.forall_mem_cons.mpr ⟨lw_p16, List.forall_mem_cons.mpr ⟨lw_p17, List.forall_mem_cons.mpr ⟨lw_p18, List.forall_mem_cons.mpr ⟨lw_p19, List.forall_mem_cons.mpr ⟨lw_p20, List.forall_mem_cons.mpr ⟨lw_p21, List.forall_mem_cons.mpr ⟨lw_p22, List.forall_mem_cons.mpr ⟨lw_p23, List.forall_mem_cons.mpr ⟨lw_p24, List.forall_mem_cons.mpr ⟨lw_p25, List.forall_mem_cons.mpr ⟨lw_p26, List.forall_mem_cons.mpr ⟨lw_p27, List.forall_mem_cons.mpr ⟨lw_p28, List.forall_mem_cons.mpr ⟨lw_p29, List.forall_mem_cons.mpr ⟨lw_p30, List.forall_mem_cons.mpr ⟨lw_p31, fun _ h => absurd h List.not_mem_nil⟩⟩⟩⟩⟩⟩⟩⟩⟩⟩⟩⟩⟩⟩⟩⟩
theorem lw_p32 : lw_okq (⟨"BucketBrigade$Reader", "value", "(I)V"⟩, 7) := ⟨⟨by decide +kernel, by decide +kernel⟩, List.mem_of_getElem? (i := 56) (by decide +kernel), List.mem_of_getElem? (i := 1246) (by decide +kernel), List.mem_of_getElem? (i := 1247) (by decide +kernel)⟩
theorem lw_p33 : lw_okq (⟨"BucketBrigade$Reader", "enters", "(I)Z"⟩, 7) := ⟨⟨by decide +kernel, by decide +kernel⟩, List.mem_of_getElem? (i := 56) (by decide +kernel), List.mem_of_getElem? (i := 1254) (by decide +kernel), List.mem_of_getElem? (i := 1255) (by decide +kernel)⟩
theorem lw_p34 : lw_okq (⟨"BucketBrigade$Reader", "pair", "(II)V"⟩, 7) := ⟨⟨by decide +kernel, by decide +kernel⟩, List.mem_of_getElem? (i := 56) (by decide +kernel), List.mem_of_getElem? (i := 1258) (by decide +kernel), List.mem_of_getElem? (i := 1259) (by decide +kernel)⟩
theorem lw_p35 : lw_okq (⟨"BucketBrigade$Reader", "test", "(I)V"⟩, 7) := ⟨⟨by decide +kernel, by decide +kernel⟩, List.mem_of_getElem? (i := 56) (by decide +kernel), List.mem_of_getElem? (i := 1262) (by decide +kernel), List.mem_of_getElem? (i := 1263) (by decide +kernel)⟩
theorem lw_p36 : lw_okq (⟨"BucketBrigade$Reader", "both", "(I)V"⟩, 7) := ⟨⟨by decide +kernel, by decide +kernel⟩, List.mem_of_getElem? (i := 56) (by decide +kernel), List.mem_of_getElem? (i := 1266) (by decide +kernel), List.mem_of_getElem? (i := 1267) (by decide +kernel)⟩
theorem lw_p37 : lw_okq (⟨"BucketBrigade$Reader", "single", "(I)V"⟩, 7) := ⟨⟨by decide +kernel, by decide +kernel⟩, List.mem_of_getElem? (i := 56) (by decide +kernel), List.mem_of_getElem? (i := 1270) (by decide +kernel), List.mem_of_getElem? (i := 1271) (by decide +kernel)⟩
def lw_privs_3 : List (MethodName × Nat) := [(⟨"BucketBrigade$Reader", "value", "(I)V"⟩, 7), (⟨"BucketBrigade$Reader", "enters", "(I)Z"⟩, 7), (⟨"BucketBrigade$Reader", "pair", "(II)V"⟩, 7), (⟨"BucketBrigade$Reader", "test", "(I)V"⟩, 7), (⟨"BucketBrigade$Reader", "both", "(I)V"⟩, 7), (⟨"BucketBrigade$Reader", "single", "(I)V"⟩, 7)]
theorem lw_r3 : ∀ q ∈ lw_privs_3, lw_okq q := List.forall_mem_cons.mpr ⟨lw_p32, List.forall_mem_cons.mpr ⟨lw_p33, List.forall_mem_cons.mpr ⟨lw_p34, List.forall_mem_cons.mpr ⟨lw_p35, List.forall_mem_cons.mpr ⟨lw_p36, List.forall_mem_cons.mpr ⟨lw_p37, fun _ h => absurd h List.not_mem_nil⟩⟩⟩⟩⟩⟩
def lw_privs : List (MethodName × Nat) := lw_privs_1 ++ (lw_privs_2 ++ (lw_privs_3))
def lw_tbl : List Cond := k2_sels lw_privs ++ tables_1
theorem lw_privs_ok : ∀ q ∈ lw_privs, lw_okq q := by
  show ∀ q ∈ lw_privs_1 ++ (lw_privs_2 ++ (lw_privs_3)), lw_okq q
  exact List.forall_mem_append.mpr ⟨lw_r1, List.forall_mem_append.mpr ⟨lw_r2, lw_r3⟩⟩
/-- the streams that the claim lets the run draw from -/
abbrev lw_cs : List Choice := [Jvm.Choice.named "NaN.bits"]
theorem lw_bits : nanBits ∈ lw_cs := by first | decide | exact List.mem_cons_self | simp [lw_cs, nanBits]
-- ===== end of PART A; then your names; then what follows =====
def RX0 : String := "BucketBrigade$Book"
def TX0 : u_T := fun k => match k with
  | 0 => ("BucketBrigade$Book", "signs", "[I", true)
  | 1 => ("BucketBrigade$Book", "details", "[I", true)
  | 2 => ("BucketBrigade$Book", "length", "I", false)
  | 3 => ("BucketBrigade$Book", "orderCount", "I", false)
  | _ => ("BucketBrigade$Book", "orders", "[LBucketBrigade$Order;", true)
def tyX0 : Nat → FieldType := fun k => match k with
  | 0 => .array .int
  | 1 => .array .int
  | 2 => .int
  | 3 => .int
  | _ => .array (.object "BucketBrigade$Order")
abbrev wsX00 : List Cond := u_ws RX0 TX0 5
theorem nmX0 : ∀ a, a < 5 → ∀ b, b < 5 → a ≠ b → (TX0 a).2.1 ≠ (TX0 b).2.1 := by decide +kernel
theorem tyX0_ok : ∀ k, k < 5 → parseFieldDescriptor (TX0 k).2.2.1 = some (tyX0 k) := by decide +kernel
abbrev cX0_init : ByteArray := prog_2_method_1_code
def yX0_init : MethodName := ⟨RX0, "<init>", "()V"⟩
abbrev cX0_clear : ByteArray := prog_2_method_2_code
def yX0_clear : MethodName := ⟨RX0, "clear", "()V"⟩
abbrev cX0_add : ByteArray := prog_2_method_3_code
def yX0_add : MethodName := ⟨RX0, "add", "(II)V"⟩
abbrev cX0_addOrder : ByteArray := prog_2_method_4_code
def yX0_addOrder : MethodName := ⟨RX0, "addOrder", "()LBucketBrigade$Order;"⟩
abbrev cX0_orderAt : ByteArray := prog_2_method_5_code
def yX0_orderAt : MethodName := ⟨RX0, "orderAt", "(I)LBucketBrigade$Order;"⟩
abbrev cX0_copyFrom : ByteArray := prog_2_method_6_code
def yX0_copyFrom : MethodName := ⟨RX0, "copyFrom", "(LBucketBrigade$Book;)V"⟩
def RX1 : String := "BucketBrigade$Folk"
def TX1 : u_T := fun k => match k with
  | 0 => ("BucketBrigade$Folk", "lane", "I", false)
  | 1 => ("BucketBrigade$Folk", "many", "I", false)
  | 2 => ("BucketBrigade$Folk", "brought", "I", false)
  | 3 => ("BucketBrigade$Folk", "every", "I", false)
  | _ => ("BucketBrigade$Folk", "from", "I", false)
def tyX1 : Nat → FieldType := fun k => match k with
  | 0 => .int
  | 1 => .int
  | 2 => .int
  | 3 => .int
  | _ => .int
abbrev wsX10 : List Cond := u_ws RX1 TX1 5
theorem nmX1 : ∀ a, a < 5 → ∀ b, b < 5 → a ≠ b → (TX1 a).2.1 ≠ (TX1 b).2.1 := by decide +kernel
theorem tyX1_ok : ∀ k, k < 5 → parseFieldDescriptor (TX1 k).2.2.1 = some (tyX1 k) := by decide +kernel
abbrev cX1_init : ByteArray := prog_3_method_1_code
def yX1_init : MethodName := ⟨RX1, "<init>", "()V"⟩
abbrev cX1_tell : ByteArray := prog_3_method_2_code
def yX1_tell : MethodName := ⟨RX1, "tell", "(IIII)V"⟩
abbrev cX1_copyFrom : ByteArray := prog_3_method_3_code
def yX1_copyFrom : MethodName := ⟨RX1, "copyFrom", "(LBucketBrigade$Folk;)V"⟩
abbrev cX1_comeIn : ByteArray := prog_3_method_4_code
def yX1_comeIn : MethodName := ⟨RX1, "comeIn", "(I)Z"⟩
abbrev cX1_fact : ByteArray := prog_3_method_5_code
def yX1_fact : MethodName := ⟨RX1, "fact", "(I)I"⟩
def RX2 : String := "BucketBrigade$Lane"
def TX2 : u_T := fun k => match k with
  | 0 => ("BucketBrigade$Lane", "number", "I", true)
  | 1 => ("BucketBrigade$Lane", "queue", "LBucketBrigade$Queue;", true)
  | 2 => ("BucketBrigade$Lane", "over", "LBucketBrigade$Lane;", false)
  | 3 => ("BucketBrigade$Lane", "rate", "I", false)
  | 4 => ("BucketBrigade$Lane", "most", "I", false)
  | 5 => ("BucketBrigade$Lane", "tokens", "I", false)
  | 6 => ("BucketBrigade$Lane", "sent", "I", false)
  | 7 => ("BucketBrigade$Lane", "lost", "I", false)
  | 8 => ("BucketBrigade$Lane", "borrowed", "I", false)
  | 9 => ("BucketBrigade$Lane", "waited", "I", false)
  | 10 => ("BucketBrigade$Lane", "shut", "Z", false)
  | 11 => ("BucketBrigade$Lane", "burst", "I", false)
  | 12 => ("BucketBrigade$Lane", "rank", "I", false)
  | 13 => ("BucketBrigade$Lane", "holds", "I", false)
  | 14 => ("BucketBrigade$Lane", "dropsOld", "Z", false)
  | 15 => ("BucketBrigade$Lane", "lent", "I", false)
  | 16 => ("BucketBrigade$Lane", "ownInMinute", "I", false)
  | _ => ("BucketBrigade$Lane", "allInMinute", "I", false)
def tyX2 : Nat → FieldType := fun k => match k with
  | 0 => .int
  | 1 => .object "BucketBrigade$Queue"
  | 2 => .object "BucketBrigade$Lane"
  | 3 => .int
  | 4 => .int
  | 5 => .int
  | 6 => .int
  | 7 => .int
  | 8 => .int
  | 9 => .int
  | 10 => .boolean
  | 11 => .int
  | 12 => .int
  | 13 => .int
  | 14 => .boolean
  | 15 => .int
  | 16 => .int
  | _ => .int
abbrev wsX20 : List Cond := u_ws RX2 TX2 18
theorem nmX2 : ∀ a, a < 18 → ∀ b, b < 18 → a ≠ b → (TX2 a).2.1 ≠ (TX2 b).2.1 := by decide +kernel
theorem tyX2_ok : ∀ k, k < 18 → parseFieldDescriptor (TX2 k).2.2.1 = some (tyX2 k) := by decide +kernel
abbrev cX2_init : ByteArray := prog_4_method_1_code
def yX2_init : MethodName := ⟨RX2, "<init>", "(I)V"⟩
abbrev cX2_tell : ByteArray := prog_4_method_2_code
def yX2_tell : MethodName := ⟨RX2, "tell", "(LBucketBrigade$Lane;IIIIIZ)V"⟩
abbrev cX2_copyFrom : ByteArray := prog_4_method_3_code
def yX2_copyFrom : MethodName := ⟨RX2, "copyFrom", "(LBucketBrigade$Lane;LBucketBrigade$Lane;)V"⟩
abbrev cX2_beginMinute : ByteArray := prog_4_method_4_code
def yX2_beginMinute : MethodName := ⟨RX2, "beginMinute", "()V"⟩
abbrev cX2_isFull : ByteArray := prog_4_method_5_code
def yX2_isFull : MethodName := ⟨RX2, "isFull", "()Z"⟩
abbrev cX2_takePail : ByteArray := prog_4_method_6_code
def yX2_takePail : MethodName := ⟨RX2, "takePail", "(I)V"⟩
abbrev cX2_getTokens : ByteArray := prog_4_method_7_code
def yX2_getTokens : MethodName := ⟨RX2, "getTokens", "(I)V"⟩
abbrev cX2_isOrIsUnder : ByteArray := prog_4_method_8_code
def yX2_isOrIsUnder : MethodName := ⟨RX2, "isOrIsUnder", "(LBucketBrigade$Lane;)Z"⟩
abbrev cX2_whoLends : ByteArray := prog_4_method_9_code
def yX2_whoLends : MethodName := ⟨RX2, "whoLends", "()LBucketBrigade$Lane;"⟩
abbrev cX2_canSend : ByteArray := prog_4_method_10_code
def yX2_canSend : MethodName := ⟨RX2, "canSend", "()Z"⟩
abbrev cX2_isLetSend : ByteArray := prog_4_method_11_code
def yX2_isLetSend : MethodName := ⟨RX2, "isLetSend", "()Z"⟩
abbrev cX2_goesAheadOf : ByteArray := prog_4_method_12_code
def yX2_goesAheadOf : MethodName := ⟨RX2, "goesAheadOf", "(LBucketBrigade$Lane;)Z"⟩
abbrev cX2_sendPail : ByteArray := prog_4_method_13_code
def yX2_sendPail : MethodName := ⟨RX2, "sendPail", "(I)V"⟩
abbrev cX2_fact : ByteArray := prog_4_method_14_code
def yX2_fact : MethodName := ⟨RX2, "fact", "(I)I"⟩
abbrev cX2_known : ByteArray := prog_4_method_15_code
def yX2_known : MethodName := ⟨RX2, "known", "(I)I"⟩
def RX3 : String := "BucketBrigade$Order"
def TX3 : u_T := fun k => match k with
  | 0 => ("BucketBrigade$Order", "kind", "I", false)
  | 1 => ("BucketBrigade$Order", "lane", "I", false)
  | 2 => ("BucketBrigade$Order", "sumFrom", "I", false)
  | 3 => ("BucketBrigade$Order", "testFrom", "I", false)
  | _ => ("BucketBrigade$Order", "end", "I", false)
def tyX3 : Nat → FieldType := fun k => match k with
  | 0 => .int
  | 1 => .int
  | 2 => .int
  | 3 => .int
  | _ => .int
abbrev wsX30 : List Cond := u_ws RX3 TX3 5
theorem nmX3 : ∀ a, a < 5 → ∀ b, b < 5 → a ≠ b → (TX3 a).2.1 ≠ (TX3 b).2.1 := by decide +kernel
theorem tyX3_ok : ∀ k, k < 5 → parseFieldDescriptor (TX3 k).2.2.1 = some (tyX3 k) := by decide +kernel
abbrev cX3_init : ByteArray := prog_5_method_1_code
def yX3_init : MethodName := ⟨RX3, "<init>", "()V"⟩
abbrev cX3_tell : ByteArray := prog_5_method_2_code
def yX3_tell : MethodName := ⟨RX3, "tell", "(IIIII)V"⟩
def RX4 : String := "BucketBrigade$Queue"
def TX4 : u_T := fun k => match k with
  | 0 => ("BucketBrigade$Queue", "size", "I", false)
  | 1 => ("BucketBrigade$Queue", "minutes", "[I", true)
  | _ => ("BucketBrigade$Queue", "front", "I", false)
def tyX4 : Nat → FieldType := fun k => match k with
  | 0 => .int
  | 1 => .array .int
  | _ => .int
abbrev wsX40 : List Cond := u_ws RX4 TX4 3
theorem nmX4 : ∀ a, a < 3 → ∀ b, b < 3 → a ≠ b → (TX4 a).2.1 ≠ (TX4 b).2.1 := by decide +kernel
theorem tyX4_ok : ∀ k, k < 3 → parseFieldDescriptor (TX4 k).2.2.1 = some (tyX4 k) := by decide +kernel
abbrev cX4_init : ByteArray := prog_6_method_1_code
def yX4_init : MethodName := ⟨RX4, "<init>", "()V"⟩
abbrev cX4_clear : ByteArray := prog_6_method_2_code
def yX4_clear : MethodName := ⟨RX4, "clear", "()V"⟩
abbrev cX4_add : ByteArray := prog_6_method_3_code
def yX4_add : MethodName := ⟨RX4, "add", "(I)V"⟩
abbrev cX4_at : ByteArray := prog_6_method_4_code
def yX4_at : MethodName := ⟨RX4, "at", "(I)I"⟩
abbrev cX4_dropFront : ByteArray := prog_6_method_5_code
def yX4_dropFront : MethodName := ⟨RX4, "dropFront", "()V"⟩
abbrev cX4_copyFrom : ByteArray := prog_6_method_6_code
def yX4_copyFrom : MethodName := ⟨RX4, "copyFrom", "(LBucketBrigade$Queue;)V"⟩
abbrev cX4_slotOf : ByteArray := prog_6_method_7_code
def yX4_slotOf : MethodName := ⟨RX4, "slotOf", "(I)I"⟩
def RX5 : String := "BucketBrigade$Reader"
def TX5 : u_T := fun k => match k with
  | 0 => ("BucketBrigade$Reader", "draft", "LBucketBrigade$Site;", true)
  | 1 => ("BucketBrigade$Reader", "errorPlace", "I", false)
  | 2 => ("BucketBrigade$Reader", "tokens", "LBucketBrigade$Tokens;", true)
  | 3 => ("BucketBrigade$Reader", "laneNames", "[J", true)
  | 4 => ("BucketBrigade$Reader", "folkNames", "[J", true)
  | 5 => ("BucketBrigade$Reader", "next", "I", false)
  | _ => ("BucketBrigade$Reader", "error", "I", false)
def tyX5 : Nat → FieldType := fun k => match k with
  | 0 => .object "BucketBrigade$Site"
  | 1 => .int
  | 2 => .object "BucketBrigade$Tokens"
  | 3 => .array .long
  | 4 => .array .long
  | 5 => .int
  | _ => .int
abbrev wsX50 : List Cond := u_ws RX5 TX5 7
theorem nmX5 : ∀ a, a < 7 → ∀ b, b < 7 → a ≠ b → (TX5 a).2.1 ≠ (TX5 b).2.1 := by decide +kernel
theorem tyX5_ok : ∀ k, k < 7 → parseFieldDescriptor (TX5 k).2.2.1 = some (tyX5 k) := by decide +kernel
abbrev cX5_init : ByteArray := prog_7_method_1_code
def yX5_init : MethodName := ⟨RX5, "<init>", "()V"⟩
abbrev cX5_read : ByteArray := prog_7_method_2_code
def yX5_read : MethodName := ⟨RX5, "read", "(LBucketBrigade$Tape;I)I"⟩
abbrev cX5_readLane : ByteArray := prog_7_method_3_code
def yX5_readLane : MethodName := ⟨RX5, "readLane", "()V"⟩
abbrev cX5_readFolk : ByteArray := prog_7_method_4_code
def yX5_readFolk : MethodName := ⟨RX5, "readFolk", "()V"⟩
abbrev cX5_readOrder : ByteArray := prog_7_method_5_code
def yX5_readOrder : MethodName := ⟨RX5, "readOrder", "(I)V"⟩
abbrev cX5_test : ByteArray := prog_7_method_6_code
def yX5_test : MethodName := ⟨RX5, "test", "(I)V"⟩
abbrev cX5_both : ByteArray := prog_7_method_7_code
def yX5_both : MethodName := ⟨RX5, "both", "(I)V"⟩
abbrev cX5_single : ByteArray := prog_7_method_8_code
def yX5_single : MethodName := ⟨RX5, "single", "(I)V"⟩
abbrev cX5_compares : ByteArray := prog_7_method_9_code
def yX5_compares : MethodName := ⟨RX5, "compares", "(I)Z"⟩
abbrev cX5_sum : ByteArray := prog_7_method_10_code
def yX5_sum : MethodName := ⟨RX5, "sum", "(I)V"⟩
abbrev cX5_product : ByteArray := prog_7_method_11_code
def yX5_product : MethodName := ⟨RX5, "product", "(I)V"⟩
abbrev cX5_value : ByteArray := prog_7_method_12_code
def yX5_value : MethodName := ⟨RX5, "value", "(I)V"⟩
abbrev cX5_pair : ByteArray := prog_7_method_13_code
def yX5_pair : MethodName := ⟨RX5, "pair", "(II)V"⟩
abbrev cX5_kind : ByteArray := prog_7_method_14_code
def yX5_kind : MethodName := ⟨RX5, "kind", "()I"⟩
abbrev cX5_takes : ByteArray := prog_7_method_15_code
def yX5_takes : MethodName := ⟨RX5, "takes", "(I)Z"⟩
abbrev cX5_need : ByteArray := prog_7_method_16_code
def yX5_need : MethodName := ⟨RX5, "need", "(I)V"⟩
abbrev cX5_enters : ByteArray := prog_7_method_17_code
def yX5_enters : MethodName := ⟨RX5, "enters", "(I)Z"⟩
abbrev cX5_number : ByteArray := prog_7_method_18_code
def yX5_number : MethodName := ⟨RX5, "number", "(II)I"⟩
abbrev cX5_newName : ByteArray := prog_7_method_19_code
def yX5_newName : MethodName := ⟨RX5, "newName", "([JI)J"⟩
abbrev cX5_toldLane : ByteArray := prog_7_method_20_code
def yX5_toldLane : MethodName := ⟨RX5, "toldLane", "()I"⟩
abbrev cX5_placeOf : ByteArray := prog_7_method_21_code
def yX5_placeOf : MethodName := ⟨RX5, "placeOf", "(J[JI)I"⟩
abbrev cX5_keepName : ByteArray := prog_7_method_22_code
def yX5_keepName : MethodName := ⟨RX5, "keepName", "([JIJ)V"⟩
abbrev cX5_fail : ByteArray := prog_7_method_23_code
def yX5_fail : MethodName := ⟨RX5, "fail", "()V"⟩
abbrev cX5_blame : ByteArray := prog_7_method_24_code
def yX5_blame : MethodName := ⟨RX5, "blame", "(I)V"⟩
def RX6 : String := "BucketBrigade$Site"
def TX6 : u_T := fun k => match k with
  | 0 => ("BucketBrigade$Site", "book", "LBucketBrigade$Book;", true)
  | 1 => ("BucketBrigade$Site", "minute", "I", false)
  | 2 => ("BucketBrigade$Site", "well", "I", false)
  | 3 => ("BucketBrigade$Site", "laneCount", "I", false)
  | 4 => ("BucketBrigade$Site", "folkCount", "I", false)
  | 5 => ("BucketBrigade$Site", "lanes", "[LBucketBrigade$Lane;", true)
  | 6 => ("BucketBrigade$Site", "folks", "[LBucketBrigade$Folk;", true)
  | 7 => ("BucketBrigade$Site", "stack", "LBucketBrigade$Stack;", true)
  | 8 => ("BucketBrigade$Site", "spare", "I", false)
  | 9 => ("BucketBrigade$Site", "came", "I", false)
  | _ => ("BucketBrigade$Site", "carriedOut", "I", false)
def tyX6 : Nat → FieldType := fun k => match k with
  | 0 => .object "BucketBrigade$Book"
  | 1 => .int
  | 2 => .int
  | 3 => .int
  | 4 => .int
  | 5 => .array (.object "BucketBrigade$Lane")
  | 6 => .array (.object "BucketBrigade$Folk")
  | 7 => .object "BucketBrigade$Stack"
  | 8 => .int
  | 9 => .int
  | _ => .int
abbrev wsX60 : List Cond := u_ws RX6 TX6 11
theorem nmX6 : ∀ a, a < 11 → ∀ b, b < 11 → a ≠ b → (TX6 a).2.1 ≠ (TX6 b).2.1 := by decide +kernel
theorem tyX6_ok : ∀ k, k < 11 → parseFieldDescriptor (TX6 k).2.2.1 = some (tyX6 k) := by decide +kernel
abbrev cX6_init : ByteArray := prog_8_method_1_code
def yX6_init : MethodName := ⟨RX6, "<init>", "(LBucketBrigade$Book;)V"⟩
abbrev cX6_begin : ByteArray := prog_8_method_2_code
def yX6_begin : MethodName := ⟨RX6, "begin", "(I)V"⟩
abbrev cX6_copyFrom : ByteArray := prog_8_method_3_code
def yX6_copyFrom : MethodName := ⟨RX6, "copyFrom", "(LBucketBrigade$Site;)V"⟩
abbrev cX6_addLane : ByteArray := prog_8_method_4_code
def yX6_addLane : MethodName := ⟨RX6, "addLane", "()LBucketBrigade$Lane;"⟩
abbrev cX6_laneAt : ByteArray := prog_8_method_5_code
def yX6_laneAt : MethodName := ⟨RX6, "laneAt", "(I)LBucketBrigade$Lane;"⟩
abbrev cX6_addFolk : ByteArray := prog_8_method_6_code
def yX6_addFolk : MethodName := ⟨RX6, "addFolk", "()LBucketBrigade$Folk;"⟩
abbrev cX6_folkAt : ByteArray := prog_8_method_7_code
def yX6_folkAt : MethodName := ⟨RX6, "folkAt", "(I)LBucketBrigade$Folk;"⟩
abbrev cX6_takeIn : ByteArray := prog_8_method_8_code
def yX6_takeIn : MethodName := ⟨RX6, "takeIn", "(LBucketBrigade$Lane;I)V"⟩
abbrev cX6_goOneMinute : ByteArray := prog_8_method_9_code
def yX6_goOneMinute : MethodName := ⟨RX6, "goOneMinute", "()I"⟩
abbrev cX6_obey : ByteArray := prog_8_method_10_code
def yX6_obey : MethodName := ⟨RX6, "obey", "(LBucketBrigade$Order;)V"⟩
abbrev cX6_reckon : ByteArray := prog_8_method_11_code
def yX6_reckon : MethodName := ⟨RX6, "reckon", "(II)I"⟩
abbrev cX6_step : ByteArray := prog_8_method_12_code
def yX6_step : MethodName := ⟨RX6, "step", "(II)V"⟩
abbrev cX6_combined : ByteArray := prog_8_method_13_code
def yX6_combined : MethodName := ⟨RX6, "combined", "(III)I"⟩
abbrev cX6_letFolkCome : ByteArray := prog_8_method_14_code
def yX6_letFolkCome : MethodName := ⟨RX6, "letFolkCome", "()V"⟩
abbrev cX6_sendPails : ByteArray := prog_8_method_15_code
def yX6_sendPails : MethodName := ⟨RX6, "sendPails", "()I"⟩
abbrev cX6_whoSends : ByteArray := prog_8_method_16_code
def yX6_whoSends : MethodName := ⟨RX6, "whoSends", "()LBucketBrigade$Lane;"⟩
abbrev cX6_tally : ByteArray := prog_8_method_17_code
def yX6_tally : MethodName := ⟨RX6, "tally", "(I)I"⟩
abbrev cX6_sumOverLanes : ByteArray := prog_8_method_18_code
def yX6_sumOverLanes : MethodName := ⟨RX6, "sumOverLanes", "(I)I"⟩
abbrev cX6_shareOf : ByteArray := prog_8_method_19_code
def yX6_shareOf : MethodName := ⟨RX6, "shareOf", "(LBucketBrigade$Lane;I)I"⟩
def RX7 : String := "BucketBrigade$Stack"
def TX7 : u_T := fun k => match k with
  | 0 => ("BucketBrigade$Stack", "numbers", "[I", true)
  | _ => ("BucketBrigade$Stack", "height", "I", false)
def tyX7 : Nat → FieldType := fun k => match k with
  | 0 => .array .int
  | _ => .int
abbrev wsX70 : List Cond := u_ws RX7 TX7 2
theorem nmX7 : ∀ a, a < 2 → ∀ b, b < 2 → a ≠ b → (TX7 a).2.1 ≠ (TX7 b).2.1 := by decide +kernel
theorem tyX7_ok : ∀ k, k < 2 → parseFieldDescriptor (TX7 k).2.2.1 = some (tyX7 k) := by decide +kernel
abbrev cX7_init : ByteArray := prog_9_method_1_code
def yX7_init : MethodName := ⟨RX7, "<init>", "()V"⟩
abbrev cX7_clear : ByteArray := prog_9_method_2_code
def yX7_clear : MethodName := ⟨RX7, "clear", "()V"⟩
abbrev cX7_push : ByteArray := prog_9_method_3_code
def yX7_push : MethodName := ⟨RX7, "push", "(I)V"⟩
abbrev cX7_pop : ByteArray := prog_9_method_4_code
def yX7_pop : MethodName := ⟨RX7, "pop", "()I"⟩
def RX8 : String := "BucketBrigade$Tape"
def TX8 : u_T := fun k => match k with
  | 0 => ("BucketBrigade$Tape", "bytes", "[B", true)
  | _ => ("BucketBrigade$Tape", "length", "I", false)
def tyX8 : Nat → FieldType := fun k => match k with
  | 0 => .array .byte
  | _ => .int
abbrev wsX80 : List Cond := u_ws RX8 TX8 2
theorem nmX8 : ∀ a, a < 2 → ∀ b, b < 2 → a ≠ b → (TX8 a).2.1 ≠ (TX8 b).2.1 := by decide +kernel
theorem tyX8_ok : ∀ k, k < 2 → parseFieldDescriptor (TX8 k).2.2.1 = some (tyX8 k) := by decide +kernel
abbrev cX8_init : ByteArray := prog_10_method_1_code
def yX8_init : MethodName := ⟨RX8, "<init>", "()V"⟩
abbrev cX8_append : ByteArray := prog_10_method_2_code
def yX8_append : MethodName := ⟨RX8, "append", "(I)V"⟩
abbrev cX8_at : ByteArray := prog_10_method_3_code
def yX8_at : MethodName := ⟨RX8, "at", "(I)I"⟩
def RX9 : String := "BucketBrigade$Tokens"
def TX9 : u_T := fun k => match k with
  | 0 => ("BucketBrigade$Tokens", "keywords", "[J", true)
  | 1 => ("BucketBrigade$Tokens", "kinds", "[I", true)
  | 2 => ("BucketBrigade$Tokens", "starts", "[I", true)
  | 3 => ("BucketBrigade$Tokens", "values", "[J", true)
  | _ => ("BucketBrigade$Tokens", "size", "I", false)
def tyX9 : Nat → FieldType := fun k => match k with
  | 0 => .array .long
  | 1 => .array .int
  | 2 => .array .int
  | 3 => .array .long
  | _ => .int
abbrev wsX90 : List Cond := u_ws RX9 TX9 5
theorem nmX9 : ∀ a, a < 5 → ∀ b, b < 5 → a ≠ b → (TX9 a).2.1 ≠ (TX9 b).2.1 := by decide +kernel
theorem tyX9_ok : ∀ k, k < 5 → parseFieldDescriptor (TX9 k).2.2.1 = some (tyX9 k) := by decide +kernel
abbrev cX9_init : ByteArray := prog_11_method_1_code
def yX9_init : MethodName := ⟨RX9, "<init>", "()V"⟩
abbrev cX9_kindOf : ByteArray := prog_11_method_2_code
def yX9_kindOf : MethodName := ⟨RX9, "kindOf", "(I)I"⟩
abbrev cX9_startOf : ByteArray := prog_11_method_3_code
def yX9_startOf : MethodName := ⟨RX9, "startOf", "(I)I"⟩
abbrev cX9_valueOf : ByteArray := prog_11_method_4_code
def yX9_valueOf : MethodName := ⟨RX9, "valueOf", "(I)J"⟩
abbrev cX9_scan : ByteArray := prog_11_method_5_code
def yX9_scan : MethodName := ⟨RX9, "scan", "(LBucketBrigade$Tape;)V"⟩
abbrev cX9_behindBlanks : ByteArray := prog_11_method_6_code
def yX9_behindBlanks : MethodName := ⟨RX9, "behindBlanks", "(LBucketBrigade$Tape;I)I"⟩
abbrev cX9_scanToken : ByteArray := prog_11_method_7_code
def yX9_scanToken : MethodName := ⟨RX9, "scanToken", "(LBucketBrigade$Tape;I)I"⟩
abbrev cX9_scanWord : ByteArray := prog_11_method_8_code
def yX9_scanWord : MethodName := ⟨RX9, "scanWord", "(LBucketBrigade$Tape;I)I"⟩
abbrev cX9_scanNumber : ByteArray := prog_11_method_9_code
def yX9_scanNumber : MethodName := ⟨RX9, "scanNumber", "(LBucketBrigade$Tape;I)I"⟩
abbrev cX9_scanSymbol : ByteArray := prog_11_method_10_code
def yX9_scanSymbol : MethodName := ⟨RX9, "scanSymbol", "(LBucketBrigade$Tape;I)I"⟩
abbrev cX9_add : ByteArray := prog_11_method_11_code
def yX9_add : MethodName := ⟨RX9, "add", "(IIJ)V"⟩
abbrev cX9_kindOfWord : ByteArray := prog_11_method_12_code
def yX9_kindOfWord : MethodName := ⟨RX9, "kindOfWord", "(J)I"⟩
abbrev cX9_longer : ByteArray := prog_11_method_13_code
def yX9_longer : MethodName := ⟨RX9, "longer", "(JI)J"⟩
abbrev cX9_isLetter : ByteArray := prog_11_method_14_code
def yX9_isLetter : MethodName := ⟨RX9, "isLetter", "(I)Z"⟩
abbrev cX9_isDigit : ByteArray := prog_11_method_15_code
def yX9_isDigit : MethodName := ⟨RX9, "isDigit", "(I)Z"⟩
abbrev cX9_isSymbol : ByteArray := prog_11_method_16_code
def yX9_isSymbol : MethodName := ⟨RX9, "isSymbol", "(I)Z"⟩
def RX10 : String := "BucketBrigade"
def TX10 : u_T := fun k => match k with
  | 0 => ("BucketBrigade", "tape", "LBucketBrigade$Tape;", true)
  | 1 => ("BucketBrigade", "reader", "LBucketBrigade$Reader;", true)
  | 2 => ("BucketBrigade", "now", "LBucketBrigade$Site;", true)
  | 3 => ("BucketBrigade", "ahead", "LBucketBrigade$Site;", true)
  | _ => ("BucketBrigade", "errorPlace", "I", false)
def tyX10 : Nat → FieldType := fun k => match k with
  | 0 => .object "BucketBrigade$Tape"
  | 1 => .object "BucketBrigade$Reader"
  | 2 => .object "BucketBrigade$Site"
  | 3 => .object "BucketBrigade$Site"
  | _ => .int
abbrev wsX100 : List Cond := u_ws RX10 TX10 5
theorem nmX10 : ∀ a, a < 5 → ∀ b, b < 5 → a ≠ b → (TX10 a).2.1 ≠ (TX10 b).2.1 := by decide +kernel
theorem tyX10_ok : ∀ k, k < 5 → parseFieldDescriptor (TX10 k).2.2.1 = some (tyX10 k) := by decide +kernel
abbrev cX10_init : ByteArray := prog_1_method_1_code
def yX10_init : MethodName := ⟨RX10, "<init>", "()V"⟩
abbrev cX10_feed : ByteArray := prog_1_method_2_code
def yX10_feed : MethodName := ⟨RX10, "feed", "(IIIII)I"⟩
abbrev cX10_trim : ByteArray := prog_1_method_3_code
def yX10_trim : MethodName := ⟨RX10, "trim", "(I)I"⟩
abbrev cX10_teach : ByteArray := prog_1_method_4_code
def yX10_teach : MethodName := ⟨RX10, "teach", "()I"⟩
abbrev cX10_count : ByteArray := prog_1_method_6_code
def yX10_count : MethodName := ⟨RX10, "count", "(I)I"⟩
abbrev cX10_lane : ByteArray := prog_1_method_7_code
def yX10_lane : MethodName := ⟨RX10, "lane", "(II)I"⟩
abbrev cX10_pail : ByteArray := prog_1_method_8_code
def yX10_pail : MethodName := ⟨RX10, "pail", "(II)I"⟩
abbrev cX10_folk : ByteArray := prog_1_method_9_code
def yX10_folk : MethodName := ⟨RX10, "folk", "(II)I"⟩
abbrev cX10_lender : ByteArray := prog_1_method_10_code
def yX10_lender : MethodName := ⟨RX10, "lender", "(I)I"⟩
abbrev cX10_common : ByteArray := prog_1_method_11_code
def yX10_common : MethodName := ⟨RX10, "common", "(II)I"⟩
abbrev cX10_eldest : ByteArray := prog_1_method_12_code
def yX10_eldest : MethodName := ⟨RX10, "eldest", "()I"⟩
abbrev cX10_bring : ByteArray := prog_1_method_13_code
def yX10_bring : MethodName := ⟨RX10, "bring", "(II)I"⟩
abbrev cX10_give : ByteArray := prog_1_method_14_code
def yX10_give : MethodName := ⟨RX10, "give", "(II)I"⟩
abbrev cX10_setRate : ByteArray := prog_1_method_15_code
def yX10_setRate : MethodName := ⟨RX10, "setRate", "(II)I"⟩
abbrev cX10_setMost : ByteArray := prog_1_method_16_code
def yX10_setMost : MethodName := ⟨RX10, "setMost", "(II)I"⟩
abbrev cX10_setWell : ByteArray := prog_1_method_17_code
def yX10_setWell : MethodName := ⟨RX10, "setWell", "(I)I"⟩
abbrev cX10_pass : ByteArray := prog_1_method_18_code
def yX10_pass : MethodName := ⟨RX10, "pass", "(I)I"⟩
abbrev cX10_foresee : ByteArray := prog_1_method_20_code
def yX10_foresee : MethodName := ⟨RX10, "foresee", "(II)I"⟩
abbrev cX10_mean : ByteArray := prog_1_method_22_code
def yX10_mean : MethodName := ⟨RX10, "mean", "()D"⟩
abbrev cX10_countNow : ByteArray := prog_1_method_25_code
def yX10_countNow : MethodName := ⟨RX10, "countNow", "(I)I"⟩
abbrev cX10_numberOf : ByteArray := prog_1_method_27_code
def yX10_numberOf : MethodName := ⟨RX10, "numberOf", "(LBucketBrigade$Lane;)I"⟩
def RX11 : String := "BucketBrigadeLaw$Lane"
def TX11 : u_T := fun k => match k with
  | 0 => ("BucketBrigadeLaw$Lane", "over", "LBucketBrigadeLaw$Lane;", false)
  | 1 => ("BucketBrigadeLaw$Lane", "number", "I", false)
  | 2 => ("BucketBrigadeLaw$Lane", "rate", "I", false)
  | 3 => ("BucketBrigadeLaw$Lane", "most", "I", false)
  | 4 => ("BucketBrigadeLaw$Lane", "burst", "I", false)
  | 5 => ("BucketBrigadeLaw$Lane", "rank", "I", false)
  | 6 => ("BucketBrigadeLaw$Lane", "tokens", "I", false)
  | 7 => ("BucketBrigadeLaw$Lane", "holds", "I", false)
  | 8 => ("BucketBrigadeLaw$Lane", "isOld", "Z", false)
  | 9 => ("BucketBrigadeLaw$Lane", "pails", "[I", true)
  | 10 => ("BucketBrigadeLaw$Lane", "waits", "I", false)
  | 11 => ("BucketBrigadeLaw$Lane", "sent", "I", false)
  | 12 => ("BucketBrigadeLaw$Lane", "lost", "I", false)
  | 13 => ("BucketBrigadeLaw$Lane", "lent", "I", false)
  | 14 => ("BucketBrigadeLaw$Lane", "borrowed", "I", false)
  | 15 => ("BucketBrigadeLaw$Lane", "waited", "I", false)
  | 16 => ("BucketBrigadeLaw$Lane", "isShut", "Z", false)
  | 17 => ("BucketBrigadeLaw$Lane", "own", "I", false)
  | _ => ("BucketBrigadeLaw$Lane", "all", "I", false)
def tyX11 : Nat → FieldType := fun k => match k with
  | 0 => .object "BucketBrigadeLaw$Lane"
  | 1 => .int
  | 2 => .int
  | 3 => .int
  | 4 => .int
  | 5 => .int
  | 6 => .int
  | 7 => .int
  | 8 => .boolean
  | 9 => .array .int
  | 10 => .int
  | 11 => .int
  | 12 => .int
  | 13 => .int
  | 14 => .int
  | 15 => .int
  | 16 => .boolean
  | 17 => .int
  | _ => .int
abbrev wsX110 : List Cond := u_ws RX11 TX11 19
theorem nmX11 : ∀ a, a < 19 → ∀ b, b < 19 → a ≠ b → (TX11 a).2.1 ≠ (TX11 b).2.1 := by decide +kernel
theorem tyX11_ok : ∀ k, k < 19 → parseFieldDescriptor (TX11 k).2.2.1 = some (tyX11 k) := by decide +kernel
abbrev cX11_init : ByteArray := prog_13_method_1_code
def yX11_init : MethodName := ⟨RX11, "<init>", "()V"⟩
abbrev cX11_can : ByteArray := prog_13_method_2_code
def yX11_can : MethodName := ⟨RX11, "can", "()Z"⟩
abbrev cX11_lender : ByteArray := prog_13_method_3_code
def yX11_lender : MethodName := ⟨RX11, "lender", "()LBucketBrigadeLaw$Lane;"⟩
abbrev cX11_order : ByteArray := prog_13_method_4_code
def yX11_order : MethodName := ⟨RX11, "order", "()I"⟩
abbrev cX11_pop : ByteArray := prog_13_method_5_code
def yX11_pop : MethodName := ⟨RX11, "pop", "()V"⟩
def RX12 : String := "BucketBrigadeLaw$Sim"
def TX12 : u_T := fun k => match k with
  | 0 => ("BucketBrigadeLaw$Sim", "minute", "I", false)
  | 1 => ("BucketBrigadeLaw$Sim", "well", "I", false)
  | 2 => ("BucketBrigadeLaw$Sim", "came", "I", false)
  | 3 => ("BucketBrigadeLaw$Sim", "done", "I", false)
  | 4 => ("BucketBrigadeLaw$Sim", "spare", "I", false)
  | 5 => ("BucketBrigadeLaw$Sim", "lanes", "[LBucketBrigadeLaw$Lane;", false)
  | 6 => ("BucketBrigadeLaw$Sim", "folk", "[[I", false)
  | _ => ("BucketBrigadeLaw$Sim", "orders", "[[I", false)
def tyX12 : Nat → FieldType := fun k => match k with
  | 0 => .int
  | 1 => .int
  | 2 => .int
  | 3 => .int
  | 4 => .int
  | 5 => .array (.object "BucketBrigadeLaw$Lane")
  | 6 => .array (.array .int)
  | _ => .array (.array .int)
abbrev wsX120 : List Cond := u_ws RX12 TX12 8
theorem nmX12 : ∀ a, a < 8 → ∀ b, b < 8 → a ≠ b → (TX12 a).2.1 ≠ (TX12 b).2.1 := by decide +kernel
theorem tyX12_ok : ∀ k, k < 8 → parseFieldDescriptor (TX12 k).2.2.1 = some (tyX12 k) := by decide +kernel
abbrev cX12_init : ByteArray := prog_14_method_1_code
def yX12_init : MethodName := ⟨RX12, "<init>", "()V"⟩
abbrev cX12_bring : ByteArray := prog_14_method_3_code
def yX12_bring : MethodName := ⟨RX12, "bring", "(LBucketBrigadeLaw$Lane;I)I"⟩
abbrev cX12_value : ByteArray := prog_14_method_4_code
def yX12_value : MethodName := ⟨RX12, "value", "(ILBucketBrigadeLaw$Lane;I)I"⟩
abbrev cX12_told : ByteArray := prog_14_method_5_code
def yX12_told : MethodName := ⟨RX12, "told", "(III)Ljava/lang/String;"⟩
abbrev cX12_holds : ByteArray := prog_14_method_6_code
def yX12_holds : MethodName := ⟨RX12, "holds", "(III)Z"⟩
abbrev cX12_test : ByteArray := prog_14_method_7_code
def yX12_test : MethodName := ⟨RX12, "test", "(III)Ljava/lang/String;"⟩
abbrev cX12_pass : ByteArray := prog_14_method_8_code
def yX12_pass : MethodName := ⟨RX12, "pass", "()V"⟩
abbrev cX12_behind : ByteArray := prog_14_method_9_code
def yX12_behind : MethodName := ⟨RX12, "behind", "(I)LBucketBrigadeLaw$Sim;"⟩
abbrev cX12_counted : ByteArray := prog_14_method_10_code
def yX12_counted : MethodName := ⟨RX12, "counted", "(I)I"⟩
abbrev cX12_isSame : ByteArray := prog_14_method_11_code
def yX12_isSame : MethodName := ⟨RX12, "isSame", "(LBucketBrigade;)Z"⟩
abbrev cX12_text : ByteArray := prog_14_method_12_code
def yX12_text : MethodName := ⟨RX12, "text", "()Ljava/lang/String;"⟩
def RX13 : String := "BucketBrigadeModel$Reader"
def TX13 : u_T := fun k => match k with
  | _ => ("", "", "", false)
def tyX13 : Nat → FieldType := fun k => match k with
  | _ => .int
abbrev wsX130 : List Cond := u_ws RX13 TX13 0
theorem nmX13 : ∀ a, a < 0 → ∀ b, b < 0 → a ≠ b → (TX13 a).2.1 ≠ (TX13 b).2.1 := by decide +kernel
theorem tyX13_ok : ∀ k, k < 0 → parseFieldDescriptor (TX13 k).2.2.1 = some (tyX13 k) := by decide +kernel
def RX14 : String := "BucketBrigadeModel$Told"
def TX14 : u_T := fun k => match k with
  | _ => ("", "", "", false)
def tyX14 : Nat → FieldType := fun k => match k with
  | _ => .int
abbrev wsX140 : List Cond := u_ws RX14 TX14 0
theorem nmX14 : ∀ a, a < 0 → ∀ b, b < 0 → a ≠ b → (TX14 a).2.1 ≠ (TX14 b).2.1 := by decide +kernel
theorem tyX14_ok : ∀ k, k < 0 → parseFieldDescriptor (TX14 k).2.2.1 = some (tyX14 k) := by decide +kernel
def RX15 : String := "BucketBrigadeModel"
def TX15 : u_T := fun k => match k with
  | _ => ("", "", "", false)
def tyX15 : Nat → FieldType := fun k => match k with
  | _ => .int
abbrev wsX150 : List Cond := u_ws RX15 TX15 0
theorem nmX15 : ∀ a, a < 0 → ∀ b, b < 0 → a ≠ b → (TX15 a).2.1 ≠ (TX15 b).2.1 := by decide +kernel
theorem tyX15_ok : ∀ k, k < 0 → parseFieldDescriptor (TX15 k).2.2.1 = some (tyX15 k) := by decide +kernel
def RJ5 : String := "java/lang/AbstractStringBuilder"
def TJ5 : u_T := fun k => match k with
  | _ => ("", "", "", false)
def tyJ5 : Nat → FieldType := fun k => match k with
  | _ => .int
abbrev wsJ50 : List Cond := u_ws RJ5 TJ5 0
theorem nmJ5 : ∀ a, a < 0 → ∀ b, b < 0 → a ≠ b → (TJ5 a).2.1 ≠ (TJ5 b).2.1 := by decide +kernel
theorem tyJ5_ok : ∀ k, k < 0 → parseFieldDescriptor (TJ5 k).2.2.1 = some (tyJ5 k) := by decide +kernel
abbrev cJ5_init_d00df : ByteArray := prog_18_method_2_code
def yJ5_init_d00df : MethodName := ⟨RJ5, "<init>", "(I)V"⟩
abbrev cJ5_length_8abf5 : ByteArray := prog_18_method_6_code
def yJ5_length_8abf5 : MethodName := ⟨RJ5, "length", "()I"⟩
abbrev cJ5_ensureCapacityInternal_d00df : ByteArray := prog_18_method_9_code
def yJ5_ensureCapacityInternal_d00df : MethodName := ⟨RJ5, "ensureCapacityInternal", "(I)V"⟩
abbrev cJ5_newCapacity_0f7a4 : ByteArray := prog_18_method_10_code
def yJ5_newCapacity_0f7a4 : MethodName := ⟨RJ5, "newCapacity", "(I)I"⟩
abbrev cJ5_inflate_da8c8 : ByteArray := prog_18_method_11_code
def yJ5_inflate_da8c8 : MethodName := ⟨RJ5, "inflate", "()V"⟩
abbrev cJ5_append_cf1ce : ByteArray := prog_18_method_22_code
def yJ5_append_cf1ce : MethodName := ⟨RJ5, "append", "(Ljava/lang/String;)Ljava/lang/AbstractStringBuilder;"⟩
abbrev cJ5_appendNull_278bc : ByteArray := prog_18_method_26_code
def yJ5_appendNull_278bc : MethodName := ⟨RJ5, "appendNull", "()Ljava/lang/AbstractStringBuilder;"⟩
abbrev cJ5_append_c97b9 : ByteArray := prog_18_method_32_code
def yJ5_append_c97b9 : MethodName := ⟨RJ5, "append", "(I)Ljava/lang/AbstractStringBuilder;"⟩
abbrev cJ5_getValue_6d5f1 : ByteArray := prog_18_method_64_code
def yJ5_getValue_6d5f1 : MethodName := ⟨RJ5, "getValue", "()[B"⟩
abbrev cJ5_isLatin1_aae02 : ByteArray := prog_18_method_68_code
def yJ5_isLatin1_aae02 : MethodName := ⟨RJ5, "isLatin1", "()Z"⟩
abbrev cJ5_inflateIfNeededFor_a7421 : ByteArray := prog_18_method_71_code
def yJ5_inflateIfNeededFor_a7421 : MethodName := ⟨RJ5, "inflateIfNeededFor", "(Ljava/lang/String;)V"⟩
abbrev cJ5_putStringAt_47b60 : ByteArray := prog_18_method_73_code
def yJ5_putStringAt_47b60 : MethodName := ⟨RJ5, "putStringAt", "(ILjava/lang/String;)V"⟩
def RJ6 : String := "java/lang/Integer"
def TJ6 : u_T := fun k => match k with
  | _ => ("", "", "", false)
def tyJ6 : Nat → FieldType := fun k => match k with
  | _ => .int
abbrev wsJ60 : List Cond := u_ws RJ6 TJ6 0
theorem nmJ6 : ∀ a, a < 0 → ∀ b, b < 0 → a ≠ b → (TJ6 a).2.1 ≠ (TJ6 b).2.1 := by decide +kernel
theorem tyJ6_ok : ∀ k, k < 0 → parseFieldDescriptor (TJ6 k).2.2.1 = some (tyJ6 k) := by decide +kernel
abbrev cJ6_getChars_ba4f3 : ByteArray := prog_24_method_12_code
def yJ6_getChars_ba4f3 : MethodName := ⟨RJ6, "getChars", "(II[B)I"⟩
abbrev cJ6_stringSize_0f7a4 : ByteArray := prog_24_method_13_code
def yJ6_stringSize_0f7a4 : MethodName := ⟨RJ6, "stringSize", "(I)I"⟩
def RJ9 : String := "java/lang/Math"
def TJ9 : u_T := fun k => match k with
  | _ => ("", "", "", false)
def tyJ9 : Nat → FieldType := fun k => match k with
  | _ => .int
abbrev wsJ90 : List Cond := u_ws RJ9 TJ9 0
theorem nmJ9 : ∀ a, a < 0 → ∀ b, b < 0 → a ≠ b → (TJ9 a).2.1 ≠ (TJ9 b).2.1 := by decide +kernel
theorem tyJ9_ok : ∀ k, k < 0 → parseFieldDescriptor (TJ9 k).2.2.1 = some (tyJ9 k) := by decide +kernel
abbrev cJ9_max_7cf53 : ByteArray := prog_25_method_65_code
def yJ9_max_7cf53 : MethodName := ⟨RJ9, "max", "(II)I"⟩
abbrev cJ9_min_7cf53 : ByteArray := prog_25_method_69_code
def yJ9_min_7cf53 : MethodName := ⟨RJ9, "min", "(II)I"⟩
def RJ0 : String := "java/lang/String"
def TJ0 : u_T := fun k => match k with
  | 0 => ("java/lang/String", "value", "[B", true)
  | 1 => ("java/lang/String", "coder", "B", true)
  | 2 => ("java/lang/String", "hash", "I", false)
  | _ => ("java/lang/String", "hashIsZero", "Z", false)
def tyJ0 : Nat → FieldType := fun k => match k with
  | 0 => .array .byte
  | 1 => .byte
  | 2 => .int
  | _ => .boolean
abbrev wsJ00 : List Cond := u_ws RJ0 TJ0 4
theorem nmJ0 : ∀ a, a < 4 → ∀ b, b < 4 → a ≠ b → (TJ0 a).2.1 ≠ (TJ0 b).2.1 := by decide +kernel
theorem tyJ0_ok : ∀ k, k < 4 → parseFieldDescriptor (TJ0 k).2.2.1 = some (tyJ0 k) := by decide +kernel
abbrev cJ0_init_81219 : ByteArray := prog_27_method_53_code
def yJ0_init_81219 : MethodName := ⟨RJ0, "<init>", "(Ljava/lang/StringBuilder;)V"⟩
abbrev cJ0_length_8abf5 : ByteArray := prog_27_method_54_code
def yJ0_length_8abf5 : MethodName := ⟨RJ0, "length", "()I"⟩
abbrev cJ0_charAt_5068e : ByteArray := prog_27_method_56_code
def yJ0_charAt_5068e : MethodName := ⟨RJ0, "charAt", "(I)C"⟩
abbrev cJ0_getBytes_840e7 : ByteArray := prog_27_method_147_code
def yJ0_getBytes_840e7 : MethodName := ⟨RJ0, "getBytes", "([BIB)V"⟩
abbrev cJ0_init_db425 : ByteArray := prog_27_method_150_code
def yJ0_init_db425 : MethodName := ⟨RJ0, "<init>", "(Ljava/lang/AbstractStringBuilder;Ljava/lang/Void;)V"⟩
abbrev cJ0_coder_7d493 : ByteArray := prog_27_method_152_code
def yJ0_coder_7d493 : MethodName := ⟨RJ0, "coder", "()B"⟩
abbrev cJ0_isLatin1_aae02 : ByteArray := prog_27_method_154_code
def yJ0_isLatin1_aae02 : MethodName := ⟨RJ0, "isLatin1", "()Z"⟩
abbrev cJ0_checkIndex_df160 : ByteArray := prog_27_method_155_code
def yJ0_checkIndex_df160 : MethodName := ⟨RJ0, "checkIndex", "(II)V"⟩
abbrev cJ0_checkBoundsOffCount_cabcc : ByteArray := prog_27_method_157_code
def yJ0_checkBoundsOffCount_cabcc : MethodName := ⟨RJ0, "checkBoundsOffCount", "(III)I"⟩
abbrev cJ0_checkBoundsBeginEnd_23922 : ByteArray := prog_27_method_158_code
def yJ0_checkBoundsBeginEnd_23922 : MethodName := ⟨RJ0, "checkBoundsBeginEnd", "(III)V"⟩
def RJ4 : String := "java/lang/StringBuilder"
def TJ4 : u_T := fun k => match k with
  | 0 => ("java/lang/AbstractStringBuilder", "value", "[B", false)
  | 1 => ("java/lang/AbstractStringBuilder", "coder", "B", false)
  | 2 => ("java/lang/AbstractStringBuilder", "maybeLatin1", "Z", false)
  | _ => ("java/lang/AbstractStringBuilder", "count", "I", false)
def tyJ4 : Nat → FieldType := fun k => match k with
  | 0 => .array .byte
  | 1 => .byte
  | 2 => .boolean
  | _ => .int
abbrev wsJ40 : List Cond := u_ws RJ4 TJ4 4
theorem nmJ4 : ∀ a, a < 4 → ∀ b, b < 4 → a ≠ b → (TJ4 a).2.1 ≠ (TJ4 b).2.1 := by decide +kernel
theorem tyJ4_ok : ∀ k, k < 4 → parseFieldDescriptor (TJ4 k).2.2.1 = some (tyJ4 k) := by decide +kernel
abbrev cJ4_init_da8c8 : ByteArray := prog_28_method_1_code
def yJ4_init_da8c8 : MethodName := ⟨RJ4, "<init>", "()V"⟩
abbrev cJ4_append_15ec4 : ByteArray := prog_28_method_7_code
def yJ4_append_15ec4 : MethodName := ⟨RJ4, "append", "(Ljava/lang/String;)Ljava/lang/StringBuilder;"⟩
abbrev cJ4_append_bf812 : ByteArray := prog_28_method_15_code
def yJ4_append_bf812 : MethodName := ⟨RJ4, "append", "(I)Ljava/lang/StringBuilder;"⟩
abbrev cJ4_toString_0e30d : ByteArray := prog_28_method_42_code
def yJ4_toString_0e30d : MethodName := ⟨RJ4, "toString", "()Ljava/lang/String;"⟩
abbrev cJ4_length_8abf5 : ByteArray := prog_28_method_93_code
def yJ4_length_8abf5 : MethodName := ⟨RJ4, "length", "()I"⟩
def RJ1 : String := "java/lang/StringLatin1"
def TJ1 : u_T := fun k => match k with
  | _ => ("", "", "", false)
def tyJ1 : Nat → FieldType := fun k => match k with
  | _ => .int
abbrev wsJ10 : List Cond := u_ws RJ1 TJ1 0
theorem nmJ1 : ∀ a, a < 0 → ∀ b, b < 0 → a ≠ b → (TJ1 a).2.1 ≠ (TJ1 b).2.1 := by decide +kernel
theorem tyJ1_ok : ∀ k, k < 0 → parseFieldDescriptor (TJ1 k).2.2.1 = some (tyJ1 k) := by decide +kernel
abbrev cJ1_charAt_3b067 : ByteArray := prog_29_method_2_code
def yJ1_charAt_3b067 : MethodName := ⟨RJ1, "charAt", "([BI)C"⟩
abbrev cJ1_inflate_0e8fd : ByteArray := prog_29_method_50_code
def yJ1_inflate_0e8fd : MethodName := ⟨RJ1, "inflate", "([BI[BII)V"⟩
def RJ2 : String := "java/lang/StringUTF16"
def TJ2 : u_T := fun k => match k with
  | _ => ("", "", "", false)
def tyJ2 : Nat → FieldType := fun k => match k with
  | _ => .int
abbrev wsJ20 : List Cond := u_ws RJ2 TJ2 0
theorem nmJ2 : ∀ a, a < 0 → ∀ b, b < 0 → a ≠ b → (TJ2 a).2.1 ≠ (TJ2 b).2.1 := by decide +kernel
theorem tyJ2_ok : ∀ k, k < 0 → parseFieldDescriptor (TJ2 k).2.2.1 = some (tyJ2 k) := by decide +kernel
abbrev cJ2_newBytesFor_77867 : ByteArray := prog_30_method_2_code
def yJ2_newBytesFor_77867 : MethodName := ⟨RJ2, "newBytesFor", "(I)[B"⟩
abbrev cJ2_newBytesLength_0f7a4 : ByteArray := prog_30_method_3_code
def yJ2_newBytesLength_0f7a4 : MethodName := ⟨RJ2, "newBytesLength", "(I)I"⟩
abbrev cJ2_putChar_b72d1 : ByteArray := prog_30_method_4_code
def yJ2_putChar_b72d1 : MethodName := ⟨RJ2, "putChar", "([BII)V"⟩
abbrev cJ2_getChar_3b067 : ByteArray := prog_30_method_5_code
def yJ2_getChar_3b067 : MethodName := ⟨RJ2, "getChar", "([BI)C"⟩
abbrev cJ2_length_9d52b : ByteArray := prog_30_method_6_code
def yJ2_length_9d52b : MethodName := ⟨RJ2, "length", "([B)I"⟩
abbrev cJ2_coderFromArrayLen_85cad : ByteArray := prog_30_method_15_code
def yJ2_coderFromArrayLen_85cad : MethodName := ⟨RJ2, "coderFromArrayLen", "([BI)B"⟩
abbrev cJ2_compress_39247 : ByteArray := prog_30_method_17_code
def yJ2_compress_39247 : MethodName := ⟨RJ2, "compress", "([BII)[B"⟩
abbrev cJ2_compress_5af95 : ByteArray := prog_30_method_22_code
def yJ2_compress_5af95 : MethodName := ⟨RJ2, "compress", "([BI[BII)I"⟩
abbrev cJ2_getChars_46870 : ByteArray := prog_30_method_77_code
def yJ2_getChars_46870 : MethodName := ⟨RJ2, "getChars", "(III[B)I"⟩
abbrev cJ2_putCharsAt_cd4e5 : ByteArray := prog_30_method_81_code
def yJ2_putCharsAt_cd4e5 : MethodName := ⟨RJ2, "putCharsAt", "([BICCCC)I"⟩
abbrev cJ2_charAt_3b067 : ByteArray := prog_30_method_83_code
def yJ2_charAt_3b067 : MethodName := ⟨RJ2, "charAt", "([BI)C"⟩
abbrev cJ2_inflate_0e8fd : ByteArray := prog_30_method_86_code
def yJ2_inflate_0e8fd : MethodName := ⟨RJ2, "inflate", "([BI[BII)V"⟩
abbrev cJ2_getChars_ba4f3 : ByteArray := prog_30_method_89_code
def yJ2_getChars_ba4f3 : MethodName := ⟨RJ2, "getChars", "(II[B)I"⟩
abbrev cJ2_checkIndex_2214a : ByteArray := prog_30_method_91_code
def yJ2_checkIndex_2214a : MethodName := ⟨RJ2, "checkIndex", "(I[B)V"⟩
abbrev cJ2_checkBoundsBeginEnd_d044e : ByteArray := prog_30_method_93_code
def yJ2_checkBoundsBeginEnd_d044e : MethodName := ⟨RJ2, "checkBoundsBeginEnd", "(II[B)V"⟩
abbrev cJ2_checkBoundsOffCount_d044e : ByteArray := prog_30_method_94_code
def yJ2_checkBoundsOffCount_d044e : MethodName := ⟨RJ2, "checkBoundsOffCount", "(II[B)V"⟩
def RJ10 : String := "java/lang/System"
def TJ10 : u_T := fun k => match k with
  | _ => ("", "", "", false)
def tyJ10 : Nat → FieldType := fun k => match k with
  | _ => .int
abbrev wsJ100 : List Cond := u_ws RJ10 TJ10 0
theorem nmJ10 : ∀ a, a < 0 → ∀ b, b < 0 → a ≠ b → (TJ10 a).2.1 ≠ (TJ10 b).2.1 := by decide +kernel
theorem tyJ10_ok : ∀ k, k < 0 → parseFieldDescriptor (TJ10 k).2.2.1 = some (tyJ10 k) := by decide +kernel
def RJ7 : String := "java/util/Arrays"
def TJ7 : u_T := fun k => match k with
  | _ => ("", "", "", false)
def tyJ7 : Nat → FieldType := fun k => match k with
  | _ => .int
abbrev wsJ70 : List Cond := u_ws RJ7 TJ7 0
theorem nmJ7 : ∀ a, a < 0 → ∀ b, b < 0 → a ≠ b → (TJ7 a).2.1 ≠ (TJ7 b).2.1 := by decide +kernel
theorem tyJ7_ok : ∀ k, k < 0 → parseFieldDescriptor (TJ7 k).2.2.1 = some (tyJ7 k) := by decide +kernel
abbrev cJ7_copyOf_9075b : ByteArray := prog_33_method_121_code
def yJ7_copyOf_9075b : MethodName := ⟨RJ7, "copyOf", "([BI)[B"⟩
abbrev cJ7_checkLength_df160 : ByteArray := prog_33_method_131_code
def yJ7_checkLength_df160 : MethodName := ⟨RJ7, "checkLength", "(II)V"⟩
abbrev cJ7_copyOfRange_39247 : ByteArray := prog_33_method_132_code
def yJ7_copyOfRange_39247 : MethodName := ⟨RJ7, "copyOfRange", "([BII)[B"⟩
abbrev cJ7_copyOfRangeByte_39247 : ByteArray := prog_33_method_133_code
def yJ7_copyOfRangeByte_39247 : MethodName := ⟨RJ7, "copyOfRangeByte", "([BII)[B"⟩
def RJ8 : String := "jdk/internal/util/ArraysSupport"
def TJ8 : u_T := fun k => match k with
  | _ => ("", "", "", false)
def tyJ8 : Nat → FieldType := fun k => match k with
  | _ => .int
abbrev wsJ80 : List Cond := u_ws RJ8 TJ8 0
theorem nmJ8 : ∀ a, a < 0 → ∀ b, b < 0 → a ≠ b → (TJ8 a).2.1 ≠ (TJ8 b).2.1 := by decide +kernel
theorem tyJ8_ok : ∀ k, k < 0 → parseFieldDescriptor (TJ8 k).2.2.1 = some (tyJ8 k) := by decide +kernel
abbrev cJ8_newLength_cabcc : ByteArray := prog_34_method_27_code
def yJ8_newLength_cabcc : MethodName := ⟨RJ8, "newLength", "(III)I"⟩
abbrev cJ8_hugeLength_7cf53 : ByteArray := prog_34_method_28_code
def yJ8_hugeLength_7cf53 : MethodName := ⟨RJ8, "hugeLength", "(II)I"⟩
def RJ3 : String := "jdk/internal/util/Preconditions"
def TJ3 : u_T := fun k => match k with
  | _ => ("", "", "", false)
def tyJ3 : Nat → FieldType := fun k => match k with
  | _ => .int
abbrev wsJ30 : List Cond := u_ws RJ3 TJ3 0
theorem nmJ3 : ∀ a, a < 0 → ∀ b, b < 0 → a ≠ b → (TJ3 a).2.1 ≠ (TJ3 b).2.1 := by decide +kernel
theorem tyJ3_ok : ∀ k, k < 0 → parseFieldDescriptor (TJ3 k).2.2.1 = some (tyJ3 k) := by decide +kernel
abbrev cJ3_checkIndex_8e157 : ByteArray := prog_35_method_11_code
def yJ3_checkIndex_8e157 : MethodName := ⟨RJ3, "checkIndex", "(IILjava/util/function/BiFunction;)I"⟩
abbrev cJ3_checkFromToIndex_8c36e : ByteArray := prog_35_method_12_code
def yJ3_checkFromToIndex_8c36e : MethodName := ⟨RJ3, "checkFromToIndex", "(IIILjava/util/function/BiFunction;)I"⟩
abbrev cJ3_checkFromIndexSize_8c36e : ByteArray := prog_35_method_13_code
def yJ3_checkFromIndexSize_8c36e : MethodName := ⟨RJ3, "checkFromIndexSize", "(IIILjava/util/function/BiFunction;)I"⟩
def RL : String := "BucketBrigadeLaw"
abbrev cL_below : ByteArray := method_2_code
def yL_below : MethodName := ⟨RL, "below", "(II)I"⟩
abbrev cL_cell : ByteArray := method_3_code
def yL_cell : MethodName := ⟨RL, "cell", "([II)I"⟩
abbrev cL_say : ByteArray := method_4_code
def yL_say : MethodName := ⟨RL, "say", "(LBucketBrigade;Ljava/lang/String;)I"⟩
abbrev cL_chosen : ByteArray := method_5_code
def yL_chosen : MethodName := ⟨RL, "chosen", "([I)LBucketBrigadeLaw$Sim;"⟩
abbrev cL_act : ByteArray := method_6_code
def yL_act : MethodName := ⟨RL, "act", "(LBucketBrigade;LBucketBrigadeLaw$Sim;I)Z"⟩
abbrev cL_law : ByteArray := code
def yL_law : MethodName := ⟨RL, "law", "([I)Z"⟩
abbrev cL_hasShut : ByteArray := method_8_code
def yL_hasShut : MethodName := ⟨RL, "hasShut", "(LBucketBrigadeLaw$Sim;I)Z"⟩
abbrev vwCl : List vw_C := [(RJ0, TJ0, 4), (RJ4, TJ4, 4), (RX0, TX0, 5), (RX1, TX1, 5), (RX2, TX2, 18), (RX3, TX3, 5), (RX4, TX4, 3), (RX5, TX5, 7), (RX6, TX6, 11), (RX7, TX7, 2), (RX8, TX8, 2), (RX9, TX9, 5), (RX10, TX10, 5), (RX11, TX11, 19), (RX12, TX12, 8)]
end
section
/-! ===== THE HEAP AS MAPS: kinds, lengths, fields by number, arrays, size, slots ===== -/
/-- the tables' words that a callee may be handed -/
def gT : List Cond := lw_tbl.filter goodWord
theorem gT_in (i : Nat) {w : Cond} (h : lw_tbl[i]? = some w) (hg : goodWord w = true) : w ∈ gT := List.mem_filter.mpr ⟨List.mem_of_getElem? h, hg⟩
theorem gT_good : ∀ w ∈ gT, (w.onTables && w.keeps) = true ∨ ∃ ty, w = .arrayClass ty := fun _ h => good_of_word (List.mem_filter.mp h).2
theorem gT_goodIn (ws : List Cond) (h : ∀ w ∈ ws, w ∈ gT) : GoodIn gT ws := fun w hw => ⟨h w hw, gT_good w (h w hw)⟩
abbrev Hp : Type := (Nat → Nat) × (Nat → Nat) × (Nat → Nat → Int32) × (Nat → Nat → Option Nat) × (Nat → Nat → Int32) × (Nat → Nat → Int64) × (Nat → Nat → Option Nat) × Nat × Nat
def h_k (x : Hp) : Nat → Nat := x.1
def h_n (x : Hp) : Nat → Nat := x.2.1
def h_i (x : Hp) : Nat → Nat → Int32 := x.2.2.1
def h_r (x : Hp) : Nat → Nat → Option Nat := x.2.2.2.1
def h_ai (x : Hp) : Nat → Nat → Int32 := x.2.2.2.2.1
def h_al (x : Hp) : Nat → Nat → Int64 := x.2.2.2.2.2.1
def h_ar (x : Hp) : Nat → Nat → Option Nat := x.2.2.2.2.2.2.1
def h_sz (x : Hp) : Nat := x.2.2.2.2.2.2.2.1
def h_sl (x : Hp) : Nat := x.2.2.2.2.2.2.2.2
def u2 {α : Type} (f : Nat → Nat → α) (a b : Nat) (v : α) : Nat → Nat → α := fun a' b' => if a' = a ∧ b' = b then v else f a' b'
/-- writes: a field (its number, the address), a place of an array -/
def p_i (x : Hp) (f a : Nat) (v : Int32) : Hp := (x.1, x.2.1, u2 x.2.2.1 f a v, x.2.2.2)
def p_r (x : Hp) (f a : Nat) (v : Option Nat) : Hp := (x.1, x.2.1, x.2.2.1, u2 x.2.2.2.1 f a v, x.2.2.2.2)
def p_ai (x : Hp) (a j : Nat) (v : Int32) : Hp := (x.1, x.2.1, x.2.2.1, x.2.2.2.1, u2 x.2.2.2.2.1 a j v, x.2.2.2.2.2)
def p_al (x : Hp) (a j : Nat) (v : Int64) : Hp := (x.1, x.2.1, x.2.2.1, x.2.2.2.1, x.2.2.2.2.1, u2 x.2.2.2.2.2.1 a j v, x.2.2.2.2.2.2)
def p_ar (x : Hp) (a j : Nat) (v : Option Nat) : Hp := (x.1, x.2.1, x.2.2.1, x.2.2.2.1, x.2.2.2.2.1, x.2.2.2.2.2.1, u2 x.2.2.2.2.2.2.1 a j v, x.2.2.2.2.2.2.2)
/-- the bytes (or ints) of a whole array at once -/
def p_aw (x : Hp) (a : Nat) (g : Nat → Int32) : Hp := (x.1, x.2.1, x.2.2.1, x.2.2.2.1, fun a' => if a' = a then g else x.2.2.2.2.1 a', x.2.2.2.2.2)
/-- a new cell: its kind, its length, its slots -/
def p_n (x : Hp) (k n w : Nat) : Hp := (fun a => if a = h_sz x then k else x.1 a, fun a => if a = h_sz x then n else x.2.1 a, fun f a => if a = h_sz x then 0 else x.2.2.1 f a, fun f a => if a = h_sz x then none else x.2.2.2.1 f a, fun a j => if a = h_sz x then 0 else x.2.2.2.2.1 a j, fun a j => if a = h_sz x then 0 else x.2.2.2.2.2.1 a j, fun a j => if a = h_sz x then none else x.2.2.2.2.2.2.1 a j, h_sz x + 1, h_sl x + w)
/-- which fields of a class are references, in the order of the slots -/
def gR : Nat → List Bool := fun c => match c with
  | 0 => [true, false, false, false]
  | 1 => [true, false, false, false]
  | 2 => [true, true, false, false, true]
  | 3 => [false, false, false, false, false]
  | 4 => [false, true, true, false, false, false, false, false, false, false, false, false, false, false, false, false, false, false]
  | 5 => [false, false, false, false, false]
  | 6 => [false, true, false]
  | 7 => [true, false, true, true, true, false, false]
  | 8 => [true, false, false, false, false, true, true, true, false, false, false]
  | 9 => [true, false]
  | 10 => [true, false]
  | 11 => [true, true, true, true, false]
  | 12 => [true, true, true, true, false]
  | 13 => [true, false, false, false, false, false, false, false, false, true, false, false, false, false, false, false, false, false, false]
  | 14 => [false, false, false, false, false, true, true, true]
  | _ => []
def fsv (x : Hp) (ci a : Nat) : Nat → List Bool → List Value
  | _, [] => []
  | k, b :: l => (if b = true then va_rf (h_r x (20 * ci + k) a) else .int (h_i x (20 * ci + k) a)) :: fsv x ci a (k + 1) l
def dfl (l : List Bool) : List Value := l.map (fun b => if b = true then .null else .int 0)
/-- arrays: 0 bytes, 1 ints, 2 longs, 3 .. references -/
def apay (x : Hp) (t a : Nat) : (Nat → Int32) ⊕ (Nat → Int64) ⊕ (Nat → UInt32) ⊕ (Nat → UInt64) ⊕ (Nat → Option Nat) := if t = 2 then .inr (.inl (h_al x a)) else if t < 2 then .inl (h_ai x a) else .inr (.inr (.inr (.inr (h_ar x a))))
/-- the kind of a cell: 0 is any; class c is c + 1, an array of sort t is 100 + t; 200 more: a cell from before, that nobody writes -/
def ent (cA : Nat → ClassId) (x : Hp) (a : Nat) : va_E :=
  if h_k x a < 100 then .inr (h_k x a - 1, fsv x (h_k x a - 1) a 0 (gR (h_k x a - 1))) else .inl (cA (h_k x a - 100), h_n x a, apay x (h_k x a - 100) a)
/-- cells from before: Strings, their bytes, the script -/
def oldAt (b0 : Nat) (U : State) (x : Hp) (a : Nat) (H : Heap) : Prop :=
  (h_k x a = 201 → va_O "java/lang/String" a (fun q => b0 ≤ q) U H ∧ va_OF "java/lang/String" "coder" "B" (.int (h_i x 1 a)) a (fun q => b0 ≤ q) U H ∧ va_OF "java/lang/String" "value" "[B" (va_rf (h_r x 0 a)) a (fun q => b0 ≤ q) U H) ∧
  (h_k x a = 300 → va_T .byte a (h_n x a) (fun j => .int (h_ai x a j)) (fun q => b0 ≤ q) U H) ∧
  (h_k x a = 301 → va_T .int a (h_n x a) (fun j => .int (h_ai x a j)) (fun q => b0 ≤ q) U H)
def cellAt (D : va_G) (cA : Nat → ClassId) (b0 : Nat) (U : State) (x : Hp) (a : Nat) (H : Heap) : Prop :=
  (h_k x a ≠ 0 → h_k x a < 200 → va_at D vwCl (a, ent cA x a) H ∧ b0 ≤ a) ∧ (200 ≤ h_k x a → a < b0 ∧ oldAt b0 U x a H)
def Rep (D : va_G) (cA : Nat → ClassId) (b0 : Nat) (U : State) (x : Hp) (H : Heap) : Prop :=
  H.size = h_sz x ∧ b0 ≤ h_sz x ∧ ∀ a, cellAt D cA b0 U x a H
/-- two heaps of maps that agree at an address -/
def Sm (x y : Hp) (a : Nat) : Prop := h_k x a = h_k y a ∧ h_n x a = h_n y a ∧ (∀ f, h_i x f a = h_i y f a) ∧ (∀ f, h_r x f a = h_r y f a) ∧ h_ai x a = h_ai y a ∧ h_al x a = h_al y a ∧ h_ar x a = h_ar y a
/-- the array classes -/
def gTy (cA : Nat → ClassId) : List (ClassId × FieldType) := [(cA 0, .byte), (cA 1, .int), (cA 2, .long), (cA 3, .object "BucketBrigade$Folk"), (cA 4, .object "BucketBrigade$Lane"), (cA 5, .object "BucketBrigade$Order"), (cA 6, .object "BucketBrigadeLaw$Lane"), (cA 7, .array .int)]
theorem oldAt.moved {b0 a : Nat} {u U : State} {x : Hp} {H : Heap} (hvm : u.vm.Alike U.vm) (h : oldAt b0 u x a H) : oldAt b0 U x a H :=
  ⟨fun e => ⟨(h.1 e).1.moved hvm, (h.1 e).2.1.moved hvm, (h.1 e).2.2.moved hvm⟩, fun e => (h.2.1 e).moved hvm, fun e => (h.2.2 e).moved hvm⟩
theorem oldAt.kept {b0 a : Nat} {U : State} {x : Hp} {H H1 : Heap} (h : oldAt b0 U x a H) (hq : ∀ q : Nat, q < H.size → ¬ b0 ≤ q → H1[q]? = H[q]?) : oldAt b0 U x a H1 :=
  ⟨fun e => ⟨(h.1 e).1.kept hq, (h.1 e).2.1.kept hq, (h.1 e).2.2.kept hq⟩, fun e => (h.2.1 e).kept hq, fun e => (h.2.2 e).kept hq⟩
theorem oldAt.same {b0 a : Nat} {U : State} {x y : Hp} {H : Heap} (hs : Sm y x a) (h : oldAt b0 U x a H) : oldAt b0 U y a H := by
  obtain ⟨e1, e2, e3, e4, e5, -, -⟩ := hs
  unfold oldAt at h ⊢
  rw [e1, e2, e3, e4, e5]
  exact h
theorem Rep.moved {D : va_G} {cA : Nat → ClassId} {b0 : Nat} {u U : State} {x : Hp} {H : Heap} (hvm : u.vm.Alike U.vm) (h : Rep D cA b0 u x H) : Rep D cA b0 U x H :=
  ⟨h.1, h.2.1, fun a => ⟨(h.2.2 a).1, fun e => ⟨((h.2.2 a).2 e).1, ((h.2.2 a).2 e).2.moved hvm⟩⟩⟩
theorem Rep.lt {D : va_G} {cA : Nat → ClassId} {b0 a : Nat} {U : State} {x : Hp} {H : Heap} (h : Rep D cA b0 U x H) (ha : h_k x a ≠ 0) : a < h_sz x := by
  by_cases h2 : h_k x a < 200
  · rw [← h.1]
    exact ((h.2.2 a).1 ha h2).1.lt
  · have := ((h.2.2 a).2 (by omega)).1
    have := h.2.1
    omega
theorem fsv_get {x : Hp} {ci a : Nat} : ∀ (l : List Bool) (j k : Nat) (b : Bool), l[k]? = some b → (fsv x ci a j l)[k]? = some (if b = true then va_rf (h_r x (20 * ci + (j + k)) a) else .int (h_i x (20 * ci + (j + k)) a))
  | [], _, _, _, h => by simp at h
  | c :: l, j, 0, b, h => by
    simp at h
    subst h
    simp [fsv]
  | c :: l, j, k + 1, b, h => by
    simp at h
    have := fsv_get (x := x) (ci := ci) (a := a) l (j + 1) k b h
    simp only [fsv, List.getElem?_cons_succ]
    rw [this]
    have e : j + 1 + k = j + (k + 1) := by omega
    rw [e]
theorem fsv_len {x : Hp} {ci a : Nat} : ∀ (l : List Bool) (j : Nat), (fsv x ci a j l).length = l.length
  | [], _ => rfl
  | _ :: l, j => by simp [fsv, fsv_len l (j + 1)]
/-- what a list of fields depends on -/
theorem fsv_congr {x y : Hp} {ci cj a b : Nat} : ∀ (l : List Bool) (j : Nat), (∀ k, j ≤ k → h_i x (20 * ci + k) a = h_i y (20 * cj + k) b) → (∀ k, j ≤ k → h_r x (20 * ci + k) a = h_r y (20 * cj + k) b) → fsv x ci a j l = fsv y cj b j l
  | [], _, _, _ => rfl
  | c :: l, j, h1, h2 => by
    simp only [fsv]
    rw [h1 j (Nat.le_refl _), h2 j (Nat.le_refl _), fsv_congr l (j + 1) (fun k hk => h1 k (by omega)) (fun k hk => h2 k (by omega))]
theorem fsv_pi {x : Hp} {ci a k : Nat} {v : Int32} : ∀ (l : List Bool) (j i : Nat), j + i = k → l[i]? = some false → fsv (p_i x (20 * ci + k) a v) ci a j l = (fsv x ci a j l).set i (.int v)
  | [], _, _, _, h => by simp at h
  | c :: l, j, 0, e, h => by
    simp at h
    subst h
    simp at e
    subst e
    simp only [fsv, List.set_cons_zero]
    congr 1
    · simp [h_i, p_i, u2]
    · refine fsv_congr l (j + 1) (fun k hk => ?_) (fun k hk => rfl)
      have : ¬ k = j := by omega
      simp [h_i, p_i, u2, this]
  | c :: l, j, i + 1, e, h => by
    simp at h
    simp only [fsv, List.set_cons_succ]
    rw [fsv_pi l (j + 1) i (by omega) h]
    congr 1
    have : ¬ j = k := by omega
    simp [h_i, p_i, u2, this, h_r]
theorem fsv_pr {x : Hp} {ci a k : Nat} {v : Option Nat} : ∀ (l : List Bool) (j i : Nat), j + i = k → l[i]? = some true → fsv (p_r x (20 * ci + k) a v) ci a j l = (fsv x ci a j l).set i (va_rf v)
  | [], _, _, _, h => by simp at h
  | c :: l, j, 0, e, h => by
    simp at h
    subst h
    simp at e
    subst e
    simp only [fsv, List.set_cons_zero]
    congr 1
    · simp [h_r, p_r, u2]
    · refine fsv_congr l (j + 1) (fun k hk => rfl) (fun k hk => ?_)
      have : ¬ k = j := by omega
      simp [h_r, p_r, u2, this]
  | c :: l, j, i + 1, e, h => by
    simp at h
    simp only [fsv, List.set_cons_succ]
    rw [fsv_pr l (j + 1) i (by omega) h]
    congr 1
    have : ¬ j = k := by omega
    simp [h_r, p_r, u2, this, h_i]
theorem fsv_new {x : Hp} {ci k n w : Nat} : ∀ (l : List Bool) (j : Nat), fsv (p_n x k n w) ci (h_sz x) j l = dfl l
  | [], _ => rfl
  | c :: l, j => by
    simp only [fsv, dfl, List.map_cons]
    rw [fsv_new l (j + 1)]
    congr 1
    cases c <;> simp [h_i, h_r, p_n, va_rf]
/-- a class's facts: its number, name, fields, how many -/
def Cl (ci : Nat) (C : String) (T : u_T) (N : Nat) (ty : Nat → FieldType) : Prop :=
  vwCl[ci]? = some (C, T, N) ∧ ci < 99 ∧ (∀ w ∈ u_ws C T N, w ∈ gT) ∧ (∀ k, k < N → parseFieldDescriptor (T k).2.2.1 = some (ty k)) ∧ (∀ a, a < N → ∀ b, b < N → a ≠ b → (T a).2.1 ≠ (T b).2.1) ∧ (gR ci).length = N ∧ (∀ j, j < N → defaultValue (ty j) = vp_V (dfl (gR ci)) j)
theorem ent_obj {cA : Nat → ClassId} {x : Hp} {a ci : Nat} (h : h_k x a = ci + 1) (hc : ci < 99) : ent cA x a = .inr (ci, fsv x ci a 0 (gR ci)) := by
  unfold ent
  rw [h, if_pos (by omega)]
  rfl
theorem ent_arr {cA : Nat → ClassId} {x : Hp} {a t : Nat} (h : h_k x a = 100 + t) : ent cA x a = .inl (cA t, h_n x a, apay x t a) := by
  unfold ent
  rw [h, if_neg (by omega)]
  have : 100 + t - 100 = t := by omega
  rw [this]
theorem ent_congr {cA : Nat → ClassId} {x y : Hp} {a : Nat} (hs : Sm x y a) : ent cA x a = ent cA y a := by
  obtain ⟨h1, h2, h3, h4, h5, h6, h7⟩ := hs
  unfold ent apay
  rw [h1, h2, h5, h6, h7, fsv_congr (x := x) (y := y) (cj := h_k y a - 1) (b := a) _ 0 (fun k _ => h3 _) (fun k _ => h4 _)]
/-- a write at one address -/
theorem Rep.put {D : va_G} {cA : Nat → ClassId} {b0 a : Nat} {U : State} {x y : Hp} {H H1 : Heap} (h : Rep D cA b0 U x H) (z : H1.size = H.size) (o : ∀ q : Nat, q ≠ a → H1[q]? = H[q]?) (hk0 : h_k x a ≠ 0) (hk2 : h_k x a < 200) (e1 : h_sz y = h_sz x) (e2 : h_k y a = h_k x a) (e3 : ∀ q, q ≠ a → Sm y x q) (e4 : va_at D vwCl (a, ent cA y a) H1) : Rep D cA b0 U y H1 := by
  have hb : b0 ≤ a := ((h.2.2 a).1 hk0 hk2).2
  refine ⟨by rw [z, e1]; exact h.1, by rw [e1]; exact h.2.1, fun q => ?_⟩
  by_cases hqa : q = a
  · subst hqa
    refine ⟨fun _ _ => ⟨e4, hb⟩, fun h2 => ?_⟩
    rw [e2] at h2
    omega
  · have hs := e3 q hqa
    refine ⟨fun h1 h2 => ?_, fun h2 => ?_⟩
    · rw [hs.1] at h1 h2
      have h3 := (h.2.2 q).1 h1 h2
      rw [ent_congr hs]
      exact ⟨h3.1.kept (o q hqa), h3.2⟩
    · rw [hs.1] at h2
      have h3 := (h.2.2 q).2 h2
      exact ⟨h3.1, (h3.2.kept (fun q' _ hq' => o q' (fun e => hq' (by rw [e]; exact hb)))).same hs⟩
theorem Sm_pn {x : Hp} {k n w q : Nat} (h : q ≠ h_sz x) : Sm (p_n x k n w) x q :=
  ⟨by simp [h_k, p_n, h], by simp [h_n, p_n, h], fun f => by simp [h_i, p_n, h], fun f => by simp [h_r, p_n, h], by funext j; simp [h_ai, p_n, h], by funext j; simp [h_al, p_n, h], by funext j; simp [h_ar, p_n, h]⟩
theorem Rep.push {D : va_G} {cA : Nat → ClassId} {b0 k n w : Nat} {U : State} {x : Hp} {H H1 : Heap} (h : Rep D cA b0 U x H) (z : H1.size = H.size + 1) (o : ∀ q : Nat, q < H.size → H1[q]? = H[q]?) (hk : k < 200) (e4 : va_at D vwCl (h_sz x, ent cA (p_n x k n w) (h_sz x)) H1) : Rep D cA b0 U (p_n x k n w) H1 := by
  have hz := h.1
  have hb := h.2.1
  refine ⟨?_, ?_, fun q => ?_⟩
  · show H1.size = h_sz x + 1
    omega
  · show b0 ≤ h_sz x + 1
    omega
  · by_cases hqa : q = h_sz x
    · subst hqa
      refine ⟨fun _ _ => ⟨e4, hb⟩, fun h2 => ?_⟩
      have : h_k (p_n x k n w) (h_sz x) = k := by simp [h_k, p_n]
      omega
    · have hs : Sm (p_n x k n w) x q := Sm_pn hqa
      refine ⟨fun h1 h2 => ?_, fun h2 => ?_⟩
      · rw [hs.1] at h1 h2
        have h3 := (h.2.2 q).1 h1 h2
        rw [ent_congr hs]
        exact ⟨h3.1.kept (o q (by rw [hz]; exact h.lt h1)), h3.2⟩
      · rw [hs.1] at h2
        have h3 := (h.2.2 q).2 h2
        exact ⟨h3.1, (h3.2.kept (fun q' hq _ => o q' hq)).same hs⟩
theorem Rep.at_obj {D : va_G} {cA : Nat → ClassId} {b0 a ci : Nat} {U : State} {x : Hp} {H : Heap} (h : Rep D cA b0 U x H) (hk : h_k x a = ci + 1) (hc : ci < 99) : va_P D vwCl [(a, .inr (ci, fsv x ci a 0 (gR ci)))] H := by
  have h1 := ((h.2.2 a).1 (by omega) (by omega)).1
  rw [ent_obj hk hc] at h1
  intro k q hq
  have hz : k < 1 := (List.getElem?_eq_some_iff.mp hq).1
  rw [show k = 0 by omega] at hq
  cases hq
  exact h1
theorem Rep.at_arr {D : va_G} {cA : Nat → ClassId} {b0 a t : Nat} {U : State} {x : Hp} {H : Heap} (h : Rep D cA b0 U x H) (hk : h_k x a = 100 + t) (ht : t < 99) : H[a]? = some (vp_cell (cA t) (h_n x a, apay x t a)) := by
  have h1 := ((h.2.2 a).1 (by omega) (by omega)).1
  rw [ent_arr hk] at h1
  exact h1
/-! ===== END the heap as maps ===== -/
end
section
/-! ===== A METHOD AS A FUNCTION ON MAPS; G: the machine, from here, does what the function says ===== -/
/-- the String constants that the run reads: class, entry, text, number -/
def gStr : List (String × Nat × String × Nat) := [("BucketBrigade$Tokens", 25, "well lane under rate most burst rank holds drops old new folk to brings every from raise cap shut when minute spare tokens waits sent lost lent full dry not and or min max ", 0), ("BucketBrigadeLaw$Sim", 226, "well 3;well ", 1), ("BucketBrigadeLaw$Sim", 228, ";", 2), ("BucketBrigadeLaw$Sim", 230, "lane l", 3), ("BucketBrigadeLaw$Sim", 232, " under l", 4), ("BucketBrigadeLaw$Sim", 234, " rate ", 5), ("BucketBrigadeLaw$Sim", 236, " most ", 6), ("BucketBrigadeLaw$Sim", 238, " burst ", 7), ("BucketBrigadeLaw$Sim", 240, " rank ", 8), ("BucketBrigadeLaw$Sim", 242, " holds ", 9), ("BucketBrigadeLaw$Sim", 244, " drops ", 10), ("BucketBrigadeLaw$Sim", 246, "old", 11), ("BucketBrigadeLaw$Sim", 248, "new", 12), ("BucketBrigadeLaw$Sim", 250, ";\n", 13), ("BucketBrigadeLaw$Sim", 252, "folk f", 14), ("BucketBrigadeLaw$Sim", 254, " to l", 15), ("BucketBrigadeLaw$Sim", 256, " brings ", 16), ("BucketBrigadeLaw$Sim", 258, " every ", 17), ("BucketBrigadeLaw$Sim", 260, " from ", 18), ("BucketBrigadeLaw$Sim", 262, "raise l", 19), ("BucketBrigadeLaw$Sim", 264, "cap l", 20), ("BucketBrigadeLaw$Sim", 266, "shut l", 21), ("BucketBrigadeLaw$Sim", 268, " to ", 22), ("BucketBrigadeLaw$Sim", 108, "", 23), ("BucketBrigadeLaw$Sim", 121, "minute - ", 24), ("BucketBrigadeLaw$Sim", 123, "spare+tokens l", 25), ("BucketBrigadeLaw$Sim", 125, "waits l", 26), ("BucketBrigadeLaw$Sim", 127, " * 2 - ", 27), ("BucketBrigadeLaw$Sim", 129, "sent l", 28), ("BucketBrigadeLaw$Sim", 131, "/2", 29), ("BucketBrigadeLaw$Sim", 133, "lost l", 30), ("BucketBrigadeLaw$Sim", 135, " - lent l", 31), ("BucketBrigadeLaw$Sim", 137, "min(", 32), ("BucketBrigadeLaw$Sim", 139, ",30 - tokens l", 33), ("BucketBrigadeLaw$Sim", 141, ")", 34), ("BucketBrigadeLaw$Sim", 270, " when ", 35), ("BucketBrigadeLaw$Sim", 147, "full l", 36), ("BucketBrigadeLaw$Sim", 149, "not dry l", 37), ("BucketBrigadeLaw$Sim", 151, "minute >= ", 38), ("BucketBrigadeLaw$Sim", 153, "dry l", 39), ("BucketBrigadeLaw$Sim", 155, " or spare < ", 40), ("BucketBrigadeLaw$Sim", 157, "[not full l", 41), ("BucketBrigadeLaw$Sim", 159, " and minute / 4 * 4 = minute]", 42), ("BucketBrigadeLaw$Sim", 165, " > ", 43), ("BucketBrigadeLaw$Sim", 167, "2 > 1", 44), ("BucketBrigadeLaw$Sim", 275, "; ", 45)]
/-- the private methods of the builder's superclass -/
def gPv : List MethodName := [yJ5_ensureCapacityInternal_d00df, yJ5_newCapacity_0f7a4, yJ5_putStringAt_47b60, yJ5_inflateIfNeededFor_a7421]
/-- a formatter, that is only handed on -/
def zfm (z : Nat → Nat) : Option Nat := if z 103 = 0 then none else some (z 102)
/-- the JDK's statics that it reads: class, name, type, value -/
def gZs (z : Nat → Nat) : List (String × String × String × Value) := [("java/lang/String", "COMPACT_STRINGS", "Z", .int 1), ("java/lang/Integer", "DigitTens", "[B", .ref (z 100)), ("java/lang/Integer", "DigitOnes", "[B", .ref (z 101)), ("jdk/internal/util/Preconditions", "SIOOBE_FORMATTER", "Ljava/util/function/BiFunction;", va_rf (zfm z))]
/-- methods of other classes of a nest -/
def gNw : List Cond := tables_1.filter (fun w => match w with | .methodLinkNest _ _ _ _ => true | _ => false)
/-- arrays of references of which the tables tell -/
def gAO : List String := ["BucketBrigade$Order", "BucketBrigade$Lane", "BucketBrigade$Folk", "BucketBrigadeLaw$Lane"]
def va_AI (U : State) : Prop := (Cond.arrayOver (.array .int)).before #[] U = true
theorem va_AI.moved {u U : State} (hvm : u.vm.Alike U.vm) (h : va_AI u) : va_AI U := over_moved hvm h
/-- what a walk may lean on: the classes, the nest, the strings, the statics, the arrays -/
def Ev (z : Nat → Nat) (D : va_G) (cA : Nat → ClassId) (b0 : Nat) (U : State) : Prop :=
  va_K D vwCl (gTy cA) U ∧ (∀ w ∈ gNw, va_Nw w U) ∧ (∀ q ∈ gStr, vk_R q.1 q.2.1 q.2.2.1 (z q.2.2.2) U) ∧ (∀ q ∈ gZs z, va_Z q.1 q.2.1 q.2.2.1 q.2.2.2 (fun a => b0 ≤ a) U U.heap) ∧ (∀ C ∈ gAO, va_AO C U) ∧ va_AI U ∧ va_Nw (.castable "[B" "java/lang/Cloneable") U ∧ (∀ y ∈ gPv, va_Nw (.privateMethod y) U)
/-- code, class, name, locals, how it returns, frames -/
abbrev Mt : Type := ByteArray × String × String × Nat × Instr × Nat
def Cx (z : Nat → Nat) (M : Mt) (D : va_G) (cA : Nat → ClassId) (b0 : Nat) (p : Program) (R : Room) (s : State) (m : MethodId) (args : Array Value) (meth : Method) (c : Code) : Prop :=
  p.tables.exec = Jvm.exec ∧ c.code = M.1 ∧ c.maxLocals = M.2.2.2.1 ∧ s.vm.findClass M.2.1 = some m.cls ∧ (∀ w ∈ gT, w.before args s = true) ∧ meth.name = M.2.2.1 ∧ Ev z D cA b0 s ∧ M.2.2.2.2.2 ≤ R.frames ∧ 64 * M.2.2.2.2.2 ≤ R.locals
/-- the end of a method: its return instruction, over the heap that the function says -/
def Fi (l : Launch) (M : Mt) (okv : Prop) (rv : Option Value) (D : va_G) (cA : Nat → ClassId) (b0 : Nat) (p : Program) (e : Env) (R : Room) (s : State) (m : MethodId) (args : Array Value) (below : List Frame) (meth : Method) (c : Code) (z0 s0 : Nat) (Q : State → Prop) (xe : Hp) : Prop :=
  ∀ (pc : Nat) (H : Heap) (locs : List Loc) (ls : Array Slot), okv → decode M.1 pc = .ok (M.2.2.2.2.1, 1) → Rep D cA b0 s xe H → va_S (fun q => b0 ≤ q) s.heap H locs → W p l e R s m args below meth c H locs (h_sz xe - z0) (h_sl xe - s0) Q (F0 m pc ls rv.toList)
def G {α : Type} (l : Launch) (z : Nat → Nat) (M : Mt) (okv : α → Prop) (en : α → Option Value) (pc : Nat) (lv : List (Nat × Value)) (st : List Value) (x : Hp) (E : Option (α × Hp)) : Prop :=
  ∀ (v : α) (xe : Hp), E = some (v, xe) → (h_sz x ≤ h_sz xe ∧ h_sl x ≤ h_sl xe) ∧
    ∀ (D : va_G) (cA : Nat → ClassId) (b0 : Nat) (p : Program) (e : Env) (R : Room) (s : State) (m : MethodId) (args : Array Value) (below : List Frame) (meth : Method) (c : Code) (z0 s0 : Nat) (Q : State → Prop),
      Cx z M D cA b0 p R s m args meth c → h_sz xe - z0 ≤ R.cells → h_sl xe - s0 ≤ R.slots → Fi l M (okv v) (en v) D cA b0 p e R s m args below meth c z0 s0 Q xe →
      ∀ (H : Heap) (locs : List Loc) (ls : Array Slot), z0 ≤ h_sz x → s0 ≤ h_sl x → Rep D cA b0 s x H → va_S (fun q => b0 ≤ q) s.heap H locs → lv_has ls M.2.2.2.1 lv →
      W p l e R s m args below meth c H locs (h_sz x - z0) (h_sl x - s0) Q (F0 m pc ls st)
/-! the combinators -/
section COMB
variable {α β : Type}
def bnd (y : Option (α × Hp)) (k : α → Hp → Option (β × Hp)) : Option (β × Hp) := match y with
  | none => none
  | some (a, x) => k a x
/-- a field of an object of class number c (its kind c + 1) -/
def obj (r : Option Nat) (x : Hp) (kd : Nat) (k : Nat → Option β) : Option β := match r with
  | none => none
  | some b => if h_k x b = kd then k b else none
def geti (r : Option Nat) (x : Hp) (kd f : Nat) (k : Int32 → Option β) : Option β := obj r x kd fun b => k (h_i x f b)
def getr (r : Option Nat) (x : Hp) (kd f : Nat) (k : Option Nat → Option β) : Option β := obj r x kd fun b => k (h_r x f b)
def puti (r : Option Nat) (x : Hp) (kd f : Nat) (v : Int32) (k : Hp → Option β) : Option β := obj r x kd fun b => k (p_i x f b v)
def putr (r : Option Nat) (x : Hp) (kd f : Nat) (v : Option Nat) (k : Hp → Option β) : Option β := obj r x kd fun b => k (p_r x f b v)
/-- a truth value, or nothing -/
def bool (v : Int32) (k : Option β) : Option β := if v = 0 ∨ v = 1 then k else none
def idx (r : Option Nat) (x : Hp) (kd : Nat) (i : Int32) (k : Nat → Nat → Option β) : Option β := obj r x kd fun b => if 0 ≤ i.toInt ∧ i.toInt < h_n x b then k b i.toNatClampNeg else none
def aldi (r : Option Nat) (x : Hp) (kd : Nat) (i : Int32) (k : Int32 → Option β) : Option β := idx r x kd i fun b j => k (h_ai x b j)
def aldl (r : Option Nat) (x : Hp) (kd : Nat) (i : Int32) (k : Int64 → Option β) : Option β := idx r x kd i fun b j => k (h_al x b j)
def aldr (r : Option Nat) (x : Hp) (kd : Nat) (i : Int32) (k : Option Nat → Option β) : Option β := idx r x kd i fun b j => k (h_ar x b j)
def asti (r : Option Nat) (x : Hp) (kd : Nat) (i : Int32) (v : Int32) (k : Hp → Option β) : Option β := idx r x kd i fun b j => k (p_ai x b j v)
def astl (r : Option Nat) (x : Hp) (kd : Nat) (i : Int32) (v : Int64) (k : Hp → Option β) : Option β := idx r x kd i fun b j => k (p_al x b j v)
/-- a reference into an array: null, or an object of the kind kv -/
def astr (r : Option Nat) (x : Hp) (kd kv : Nat) (i : Int32) (v : Option Nat) (k : Hp → Option β) : Option β := idx r x kd i fun b j => match v with
  | none => k (p_ar x b j none)
  | some q => if h_k x q = kv then k (p_ar x b j (some q)) else none
def alen (r : Option Nat) (x : Hp) (kd : Nat) (k : Int32 → Option β) : Option β := obj r x kd fun b => k (Int32.ofNat (h_n x b))
def newo (x : Hp) (kd w : Nat) (k : Option Nat → Hp → Option β) : Option β := k (some (h_sz x)) (p_n x kd 0 w)
def newa (x : Hp) (kd : Nat) (n : Int32) (k : Option Nat → Hp → Option β) : Option β := if 0 ≤ n.toInt ∧ n.toInt ≤ 60000000 then k (some (h_sz x)) (p_n x kd n.toNatClampNeg n.toNatClampNeg) else none
/-- division by what is not 0 -/
def nz (y : Int32) (k : Option β) : Option β := if y = 0 then none else k
def nn (r : Option Nat) (k : Nat → Option β) : Option β := match r with
  | none => none
  | some b => k b
end COMB
section ROWS
variable {α : Type} {l : Launch} {z : Nat → Nat} {M : Mt} {okv : α → Prop} {en : α → Option Value} {pc : Nat} {lv : List (Nat × Value)} {st : List Value} {x : Hp} {E E1 E2 : Option (α × Hp)}
theorem G_none : G l z M okv en pc lv st x (none : Option (α × Hp)) := fun v xe h => by cases h
theorem G_ret {v : α} (hok : okv v) (hdg : decode M.1 pc = .ok (M.2.2.2.2.1, 1)) (hst : st = (en v).toList) : G l z M okv en pc lv st x (some (v, x)) := by
  intro v' xe h
  cases h
  subst hst
  exact ⟨⟨Nat.le_refl _, Nat.le_refl _⟩, fun D cA b0 p e R s m args below meth c z0 s0 Q C h1 h2 hF H locs ls h3 h4 hR hS hl => hF pc H locs ls hok hdg hR hS⟩
/-- one row that leaves heap and locals -/
theorem G_st {pc' : Nat} {st' : List Value} (h : ∀ {D : va_G} {cA : Nat → ClassId} {b0 : Nat} {p : Program} {e : Env} {R : Room} {s : State} {m : MethodId} {args : Array Value} {below : List Frame} {meth : Method} {c : Code} {H : Heap} {locs : List Loc} {cells slots : Nat} {Q : State → Prop} {ls : Array Slot},
      Cx z M D cA b0 p R s m args meth c → lv_has ls M.2.2.2.1 lv → W p l e R s m args below meth c H locs cells slots Q (F0 m pc' ls st') → W p l e R s m args below meth c H locs cells slots Q (F0 m pc ls st))
    (k : G l z M okv en pc' lv st' x E) : G l z M okv en pc lv st x E := by
  intro v xe hE
  obtain ⟨h0, k⟩ := k v xe hE
  exact ⟨h0, fun D cA b0 p e R s m args below meth c z0 s0 Q C h1 h2 hF H locs ls h3 h4 hR hS hl => h C hl (k D cA b0 p e R s m args below meth c z0 s0 Q C h1 h2 hF H locs ls h3 h4 hR hS hl)⟩
/-- one row that leaves the heap and names new locals -/
theorem G_sto {pc' : Nat} {st' : List Value} {lv' : List (Nat × Value)} (h : ∀ {D : va_G} {cA : Nat → ClassId} {b0 : Nat} {p : Program} {e : Env} {R : Room} {s : State} {m : MethodId} {args : Array Value} {below : List Frame} {meth : Method} {c : Code} {H : Heap} {locs : List Loc} {cells slots : Nat} {Q : State → Prop} {ls : Array Slot},
      Cx z M D cA b0 p R s m args meth c → lv_has ls M.2.2.2.1 lv → (∀ ls' : Array Slot, lv_has ls' M.2.2.2.1 lv' → W p l e R s m args below meth c H locs cells slots Q (F0 m pc' ls' st')) → W p l e R s m args below meth c H locs cells slots Q (F0 m pc ls st))
    (k : G l z M okv en pc' lv' st' x E) : G l z M okv en pc lv st x E := by
  intro v xe hE
  obtain ⟨h0, k⟩ := k v xe hE
  exact ⟨h0, fun D cA b0 p e R s m args below meth c z0 s0 Q C h1 h2 hF H locs ls h3 h4 hR hS hl => h C hl (fun ls' hl' => k D cA b0 p e R s m args below meth c z0 s0 Q C h1 h2 hF H locs ls' h3 h4 hR hS hl')⟩
/-- a branch -/
theorem G_br {pa pb : Nat} {st' : List Value} {cond : Prop} [Decidable cond] (h : ∀ {D : va_G} {cA : Nat → ClassId} {b0 : Nat} {p : Program} {e : Env} {R : Room} {s : State} {m : MethodId} {args : Array Value} {below : List Frame} {meth : Method} {c : Code} {H : Heap} {locs : List Loc} {cells slots : Nat} {Q : State → Prop} {ls : Array Slot},
      Cx z M D cA b0 p R s m args meth c → (cond → W p l e R s m args below meth c H locs cells slots Q (F0 m pa ls st')) → (¬ cond → W p l e R s m args below meth c H locs cells slots Q (F0 m pb ls st')) → W p l e R s m args below meth c H locs cells slots Q (F0 m pc ls st))
    (k1 : cond → G l z M okv en pa lv st' x E1) (k2 : ¬ cond → G l z M okv en pb lv st' x E2) : G l z M okv en pc lv st x (if cond then E1 else E2) := by
  intro v xe hE
  by_cases hc : cond
  · rw [if_pos hc] at hE
    obtain ⟨h0, k⟩ := k1 hc v xe hE
    exact ⟨h0, fun D cA b0 p e R s m args below meth c z0 s0 Q C h1 h2 hF H locs ls h3 h4 hR hS hl => h C (fun _ => k D cA b0 p e R s m args below meth c z0 s0 Q C h1 h2 hF H locs ls h3 h4 hR hS hl) (fun q => absurd hc q)⟩
  · rw [if_neg hc] at hE
    obtain ⟨h0, k⟩ := k2 hc v xe hE
    exact ⟨h0, fun D cA b0 p e R s m args below meth c z0 s0 Q C h1 h2 hF H locs ls h3 h4 hR hS hl => h C (fun q => absurd q hc) (fun _ => k D cA b0 p e R s m args below meth c z0 s0 Q C h1 h2 hF H locs ls h3 h4 hR hS hl)⟩
/-- a split that no instruction makes (of a switch) -/
theorem G_if {cond : Prop} [Decidable cond] (k1 : cond → G l z M okv en pc lv st x E1) (k2 : ¬ cond → G l z M okv en pc lv st x E2) : G l z M okv en pc lv st x (if cond then E1 else E2) := by
  intro v xe hE
  by_cases hc : cond
  · rw [if_pos hc] at hE
    exact k1 hc v xe hE
  · rw [if_neg hc] at hE
    exact k2 hc v xe hE
theorem G_lv (ks : List Nat) {lv' : List (Nat × Value)} (h : lv_pick lv ks = lv') (k : G l z M okv en pc lv' st x E) : G l z M okv en pc lv st x E := by
  intro v xe hE
  obtain ⟨h0, k⟩ := k v xe hE
  exact ⟨h0, fun D cA b0 p e R s m args below meth c z0 s0 Q C h1 h2 hF H locs ls h3 h4 hR hS hl => k D cA b0 p e R s m args below meth c z0 s0 Q C h1 h2 hF H locs ls h3 h4 hR hS (lv_sub hl ks h)⟩
theorem rf_cat (r : Option Nat) : (va_rf r).category = 1 := by cases r <;> rfl
/-- which locals a store at i leaves -/
def sok (i : Nat) : List (Nat × Value) → Prop
  | [] => True
  | q :: l => (q.1 ≠ i ∧ (q.1 + 1 = i → q.2.category = 1)) ∧ sok i l
theorem sok_of {i : Nat} : ∀ (l : List (Nat × Value)), sok i l → ∀ q ∈ l, q.1 ≠ i ∧ (q.1 + 1 = i → q.2.category = 1)
  | [], _, _, h => by cases h
  | _ :: l, h, q, hq => by
    rcases List.mem_cons.mp hq with rfl | hq
    · exact h.1
    · exact sok_of l h.2 q hq
def sok2 (i : Nat) : List (Nat × Value) → Prop
  | [] => True
  | q :: l => q.1 ≠ i + 1 ∧ sok2 i l
theorem sok2_of {i : Nat} : ∀ (l : List (Nat × Value)), sok2 i l → ∀ q ∈ l, q.1 ≠ i + 1
  | [], _, _, h => by cases h
  | _ :: l, h, q, hq => by
    rcases List.mem_cons.mp hq with rfl | hq
    · exact h.1
    · exact sok2_of l h.2 q hq
theorem sok_a {i a : Nat} {v : Value} {l : List (Nat × Value)} (h1 : a ≠ i) (h2 : a + 1 ≠ i) (h : sok i l) : sok i ((a, v) :: l) := ⟨⟨h1, fun q => absurd q h2⟩, h⟩
theorem sok_b {i a : Nat} {v : Value} {l : List (Nat × Value)} (h1 : a ≠ i) (h2 : v.category = 1) (h : sok i l) : sok i ((a, v) :: l) := ⟨⟨h1, fun _ => h2⟩, h⟩
theorem sok2_a {i a : Nat} {v : Value} {l : List (Nat × Value)} (h1 : a ≠ i + 1) (h : sok2 i l) : sok2 i ((a, v) :: l) := ⟨h1, h⟩
/-! stack and locals -/
theorem G_iconst {n : Int} {v : Int32} (hdg : decode M.1 pc = .ok (.iconst n, 1)) (hv : Int32.ofInt n = v) (k : G l z M okv en (pc + 1) lv (.int v :: st) x E) : G l z M okv en pc lv st x E := G_st (fun C _ k => lv_iconst C.1 C.2.1 hdg hv k) k
theorem G_bipush {n : Int} {v : Int32} (hdg : decode M.1 pc = .ok (.bipush n, 2)) (hv : (Int8.ofInt n).toInt32 = v) (k : G l z M okv en (pc + 2) lv (.int v :: st) x E) : G l z M okv en pc lv st x E := G_st (fun C _ k => lv_bipush C.1 C.2.1 hdg hv k) k
theorem G_sipush {n : Int} {v : Int32} (hdg : decode M.1 pc = .ok (.sipush n, 3)) (hv : (Int16.ofInt n).toInt32 = v) (k : G l z M okv en (pc + 3) lv (.int v :: st) x E) : G l z M okv en pc lv st x E := G_st (fun C _ k => lv_sipush C.1 C.2.1 hdg hv k) k
theorem G_lconst {n : Fin 2} {v : Int64} (hdg : decode M.1 pc = .ok (.lconst n, 1)) (hv : Int64.ofNat (n : Nat) = v) (k : G l z M okv en (pc + 1) lv (.long v :: st) x E) : G l z M okv en pc lv st x E := G_st (fun C _ k => lv_lconst C.1 C.2.1 hdg hv k) k
theorem G_ldc {i : Nat} {v : Int32} (hw : Cond.constant M.2.1 i v ∈ gT) (hdg : decode M.1 pc = .ok (.ldc i, 2)) (k : G l z M okv en (pc + 2) lv (.int v :: st) x E) : G l z M okv en pc lv st x E := G_st (fun C _ k => lv_ldc C.1 C.2.1 C.2.2.2.1 (C.2.2.2.2.1 _ hw) hdg k) k
theorem G_ldc2 {i : Nat} {v : Int64} (hw : Cond.constantLong M.2.1 i v ∈ gT) (hdg : decode M.1 pc = .ok (.ldc2_w i, 3)) (k : G l z M okv en (pc + 3) lv (.long v :: st) x E) : G l z M okv en pc lv st x E := G_st (fun C _ k => lv_ldc2 C.1 C.2.1 C.2.2.2.1 (C.2.2.2.2.1 _ hw) hdg k) k
theorem G_null (hdg : decode M.1 pc = .ok (.aconst_null, 1)) (k : G l z M okv en (pc + 1) lv (va_rf none :: st) x E) : G l z M okv en pc lv st x E := G_st (fun C _ k => lv_null C.1 C.2.1 hdg k) k
theorem G_iload_n {k0 : Fin 4} {i : Nat} {v : Int32} (j : Nat) (hdg : decode M.1 pc = .ok (.iload_n k0, 1)) (hi : (k0 : Nat) = i) (hj : lv[j]? = some (i, .int v)) (k : G l z M okv en (pc + 1) lv (.int v :: st) x E) : G l z M okv en pc lv st x E := G_st (fun C hl k => lv_iload_n C.1 C.2.1 hdg hi (lv_at hl j hj) k) k
theorem G_iload {i : Nat} {v : Int32} (j : Nat) (hdg : decode M.1 pc = .ok (.iload i, 2)) (hj : lv[j]? = some (i, .int v)) (k : G l z M okv en (pc + 2) lv (.int v :: st) x E) : G l z M okv en pc lv st x E := G_st (fun C hl k => lv_iload C.1 C.2.1 hdg (lv_at hl j hj) k) k
theorem G_lload_n {k0 : Fin 4} {i : Nat} {v : Int64} (j : Nat) (hdg : decode M.1 pc = .ok (.lload_n k0, 1)) (hi : (k0 : Nat) = i) (hj : lv[j]? = some (i, .long v)) (k : G l z M okv en (pc + 1) lv (.long v :: st) x E) : G l z M okv en pc lv st x E := G_st (fun C hl k => lv_lload_n C.1 C.2.1 hdg hi (lv_at hl j hj) k) k
theorem G_lload {i : Nat} {v : Int64} (j : Nat) (hdg : decode M.1 pc = .ok (.lload i, 2)) (hj : lv[j]? = some (i, .long v)) (k : G l z M okv en (pc + 2) lv (.long v :: st) x E) : G l z M okv en pc lv st x E := G_st (fun C hl k => lv_lload C.1 C.2.1 hdg (lv_at hl j hj) k) k
theorem G_aload_n {k0 : Fin 4} {i : Nat} {v : Option Nat} (j : Nat) (hdg : decode M.1 pc = .ok (.aload_n k0, 1)) (hi : (k0 : Nat) = i) (hj : lv[j]? = some (i, va_rf v)) (k : G l z M okv en (pc + 1) lv (va_rf v :: st) x E) : G l z M okv en pc lv st x E := G_st (fun C hl k => by
  cases v with
  | none => exact lv_aload_nN C.1 C.2.1 hdg hi (lv_at hl j hj) k
  | some a => exact lv_aload_n C.1 C.2.1 hdg hi (lv_at hl j hj) k) k
theorem G_aload {i : Nat} {v : Option Nat} (j : Nat) (hdg : decode M.1 pc = .ok (.aload i, 2)) (hj : lv[j]? = some (i, va_rf v)) (k : G l z M okv en (pc + 2) lv (va_rf v :: st) x E) : G l z M okv en pc lv st x E := G_st (fun C hl k => by
  cases v with
  | none => exact lv_aloadN C.1 C.2.1 hdg (lv_at hl j hj) k
  | some a => exact lv_aload C.1 C.2.1 hdg (lv_at hl j hj) k) k
theorem lvst {ls' : Array Slot} {nL i : Nat} {v : Value} {lv l2 : List (Nat × Value)} (ks : List Nat) (hk : lv_pick lv ks = l2) (hs : sok i l2) (h : lv_has ls' nL ((i, v) :: lv.filter (fun q => !(q.1 == i) && !(q.1 + 1 == i && q.2.category == 2)))) : lv_has ls' nL ((i, v) :: l2) := by
  refine ⟨h.1, h.2.1, fun q hq => ?_⟩
  rcases List.mem_cons.mp hq with rfl | hq
  · exact h.2.2 _ List.mem_cons_self
  · refine h.2.2 q (List.mem_cons_of_mem _ (List.mem_filter.mpr ⟨?_, ?_⟩))
    · rw [← hk] at hq
      obtain ⟨k, -, hk⟩ := List.mem_filterMap.mp hq
      exact List.mem_of_getElem? hk
    · obtain ⟨h1, h2⟩ := sok_of l2 hs q hq
      by_cases h3 : q.1 + 1 = i
      · simp [h1, h2 h3]
      · simp [h1, h3]
theorem lvst2 {ls' : Array Slot} {nL i : Nat} {v : Value} {lv l2 : List (Nat × Value)} (ks : List Nat) (hk : lv_pick lv ks = l2) (hs : sok i l2) (hs2 : sok2 i l2) (h : lv_has ls' nL ((i, v) :: lv.filter (fun q => !(q.1 == i) && (!(q.1 == i + 1) && !(q.1 + 1 == i && q.2.category == 2))))) : lv_has ls' nL ((i, v) :: l2) := by
  refine ⟨h.1, h.2.1, fun q hq => ?_⟩
  rcases List.mem_cons.mp hq with rfl | hq
  · exact h.2.2 _ List.mem_cons_self
  · refine h.2.2 q (List.mem_cons_of_mem _ (List.mem_filter.mpr ⟨?_, ?_⟩))
    · rw [← hk] at hq
      obtain ⟨k, -, hk⟩ := List.mem_filterMap.mp hq
      exact List.mem_of_getElem? hk
    · obtain ⟨h1, h2⟩ := sok_of l2 hs q hq
      have h4 := sok2_of l2 hs2 q hq
      by_cases h3 : q.1 + 1 = i
      · simp [h1, h2 h3, h4]
      · simp [h1, h3, h4]
theorem G_istore_n {k0 : Fin 4} {i : Nat} {v : Int32} {l2 : List (Nat × Value)} (ks : List Nat) (hdg : decode M.1 pc = .ok (.istore_n k0, 1)) (hi : (k0 : Nat) = i) (hn : i < M.2.2.2.1) (hk : lv_pick lv ks = l2) (hs : sok i l2) (k : G l z M okv en (pc + 1) ((i, .int v) :: l2) st x E) : G l z M okv en pc lv (.int v :: st) x E := G_sto (fun C hl k => lv_istore_n C.1 C.2.1 hdg hi hl hn rfl (fun ls' h => k ls' (lvst ks hk hs h))) k
theorem G_istore {i : Nat} {v : Int32} {l2 : List (Nat × Value)} (ks : List Nat) (hdg : decode M.1 pc = .ok (.istore i, 2)) (hn : i < M.2.2.2.1) (hk : lv_pick lv ks = l2) (hs : sok i l2) (k : G l z M okv en (pc + 2) ((i, .int v) :: l2) st x E) : G l z M okv en pc lv (.int v :: st) x E := G_sto (fun C hl k => lv_istore C.1 C.2.1 hdg hl hn rfl (fun ls' h => k ls' (lvst ks hk hs h))) k
theorem G_lstore_n {k0 : Fin 4} {i : Nat} {v : Int64} {l2 : List (Nat × Value)} (ks : List Nat) (hdg : decode M.1 pc = .ok (.lstore_n k0, 1)) (hi : (k0 : Nat) = i) (hn : i + 1 < M.2.2.2.1) (hk : lv_pick lv ks = l2) (hs : sok i l2) (hs2 : sok2 i l2) (k : G l z M okv en (pc + 1) ((i, .long v) :: l2) st x E) : G l z M okv en pc lv (.long v :: st) x E := G_sto (fun C hl k => lv_lstore_n C.1 C.2.1 hdg hi hl hn rfl (fun ls' h => k ls' (lvst2 ks hk hs hs2 h))) k
theorem G_lstore {i : Nat} {v : Int64} {l2 : List (Nat × Value)} (ks : List Nat) (hdg : decode M.1 pc = .ok (.lstore i, 2)) (hn : i + 1 < M.2.2.2.1) (hk : lv_pick lv ks = l2) (hs : sok i l2) (hs2 : sok2 i l2) (k : G l z M okv en (pc + 2) ((i, .long v) :: l2) st x E) : G l z M okv en pc lv (.long v :: st) x E := G_sto (fun C hl k => lv_lstore C.1 C.2.1 hdg hl hn rfl (fun ls' h => k ls' (lvst2 ks hk hs hs2 h))) k
theorem G_astore_n {k0 : Fin 4} {i : Nat} {v : Option Nat} {l2 : List (Nat × Value)} (ks : List Nat) (hdg : decode M.1 pc = .ok (.astore_n k0, 1)) (hi : (k0 : Nat) = i) (hn : i < M.2.2.2.1) (hk : lv_pick lv ks = l2) (hs : sok i l2) (k : G l z M okv en (pc + 1) ((i, va_rf v) :: l2) st x E) : G l z M okv en pc lv (va_rf v :: st) x E := G_sto (fun C hl k => by
  cases v with
  | none => exact lv_astore_nN C.1 C.2.1 hdg hi hl hn rfl (fun ls' h => k ls' (lvst ks hk hs h))
  | some a => exact lv_astore_n C.1 C.2.1 hdg hi hl hn rfl (fun ls' h => k ls' (lvst ks hk hs h))) k
theorem G_astore {i : Nat} {v : Option Nat} {l2 : List (Nat × Value)} (ks : List Nat) (hdg : decode M.1 pc = .ok (.astore i, 2)) (hn : i < M.2.2.2.1) (hk : lv_pick lv ks = l2) (hs : sok i l2) (k : G l z M okv en (pc + 2) ((i, va_rf v) :: l2) st x E) : G l z M okv en pc lv (va_rf v :: st) x E := G_sto (fun C hl k => by
  cases v with
  | none => exact lv_astoreN C.1 C.2.1 hdg hl hn rfl (fun ls' h => k ls' (lvst ks hk hs h))
  | some a => exact lv_astore C.1 C.2.1 hdg hl hn rfl (fun ls' h => k ls' (lvst ks hk hs h))) k
theorem G_iinc {i : Nat} {n : Int} {v w : Int32} {l2 : List (Nat × Value)} (j : Nat) (ks : List Nat) (hdg : decode M.1 pc = .ok (.iinc i n, 3)) (hj : lv[j]? = some (i, .int v)) (hv : v + Int32.ofInt n = w) (hn : i < M.2.2.2.1) (hk : lv_pick lv ks = l2) (hs : sok i l2) (k : G l z M okv en (pc + 3) ((i, .int w) :: l2) st x E) : G l z M okv en pc lv st x E := G_sto (fun C hl k => lv_iinc C.1 C.2.1 hdg hl hj hv hn rfl (fun ls' h => k ls' (lvst ks hk hs h))) k
theorem G_iadd {a b : Int32} (hdg : decode M.1 pc = .ok (.iadd, 1)) (k : G l z M okv en (pc + 1) lv (.int (a + b) :: st) x E) : G l z M okv en pc lv (.int b :: .int a :: st) x E := G_st (fun C _ k => lv_iadd C.1 C.2.1 hdg k) k
theorem G_isub {a b : Int32} (hdg : decode M.1 pc = .ok (.isub, 1)) (k : G l z M okv en (pc + 1) lv (.int (a - b) :: st) x E) : G l z M okv en pc lv (.int b :: .int a :: st) x E := G_st (fun C _ k => lv_isub C.1 C.2.1 hdg k) k
theorem G_imul {a b : Int32} (hdg : decode M.1 pc = .ok (.imul, 1)) (k : G l z M okv en (pc + 1) lv (.int (a * b) :: st) x E) : G l z M okv en pc lv (.int b :: .int a :: st) x E := G_st (fun C _ k => lv_imul C.1 C.2.1 hdg k) k
theorem G_iand {a b : Int32} (hdg : decode M.1 pc = .ok (.iand, 1)) (k : G l z M okv en (pc + 1) lv (.int (a &&& b) :: st) x E) : G l z M okv en pc lv (.int b :: .int a :: st) x E := G_st (fun C _ k => lv_iand C.1 C.2.1 hdg k) k
theorem G_ior {a b : Int32} (hdg : decode M.1 pc = .ok (.ior, 1)) (k : G l z M okv en (pc + 1) lv (.int (a ||| b) :: st) x E) : G l z M okv en pc lv (.int b :: .int a :: st) x E := G_st (fun C _ k => lv_ior C.1 C.2.1 hdg k) k
theorem G_ishl {a b : Int32} (hdg : decode M.1 pc = .ok (.ishl, 1)) (k : G l z M okv en (pc + 1) lv (.int (a <<< (b &&& 31)) :: st) x E) : G l z M okv en pc lv (.int b :: .int a :: st) x E := G_st (fun C _ k => lv_ishl C.1 C.2.1 hdg k) k
theorem G_ishr {a b : Int32} (hdg : decode M.1 pc = .ok (.ishr, 1)) (k : G l z M okv en (pc + 1) lv (.int (a >>> (b &&& 31)) :: st) x E) : G l z M okv en pc lv (.int b :: .int a :: st) x E := G_st (fun C _ k => lv_ishr C.1 C.2.1 hdg k) k
theorem G_ineg {a : Int32} (hdg : decode M.1 pc = .ok (.ineg, 1)) (k : G l z M okv en (pc + 1) lv (.int (-a) :: st) x E) : G l z M okv en pc lv (.int a :: st) x E := G_st (fun C _ k => lv_ineg C.1 C.2.1 hdg k) k
theorem G_idiv {a b : Int32} (hdg : decode M.1 pc = .ok (.idiv, 1)) (k : G l z M okv en (pc + 1) lv (.int (a / b) :: st) x E) : G l z M okv en pc lv (.int b :: .int a :: st) x (nz b E) := by
  unfold nz
  exact G_if (fun _ => G_none) (fun hne => G_st (fun C _ k => lv_idiv C.1 C.2.1 hdg hne k) k)
theorem G_irem {a b : Int32} (hdg : decode M.1 pc = .ok (.irem, 1)) (k : G l z M okv en (pc + 1) lv (.int (a - a / b * b) :: st) x E) : G l z M okv en pc lv (.int b :: .int a :: st) x (nz b E) := by
  unfold nz
  exact G_if (fun _ => G_none) (fun hne => G_st (fun C _ k => lv_irem C.1 C.2.1 hdg hne k) k)
theorem G_ladd {a b : Int64} (hdg : decode M.1 pc = .ok (.ladd, 1)) (k : G l z M okv en (pc + 1) lv (.long (a + b) :: st) x E) : G l z M okv en pc lv (.long b :: .long a :: st) x E := G_st (fun C _ k => lv_ladd C.1 C.2.1 hdg k) k
theorem G_lmul {a b : Int64} (hdg : decode M.1 pc = .ok (.lmul, 1)) (k : G l z M okv en (pc + 1) lv (.long (a * b) :: st) x E) : G l z M okv en pc lv (.long b :: .long a :: st) x E := G_st (fun C _ k => lv_lmul C.1 C.2.1 hdg k) k
theorem G_lcmp {a b : Int64} (hdg : decode M.1 pc = .ok (.lcmp, 1)) (k : G l z M okv en (pc + 1) lv (.int (lg_cmp a b) :: st) x E) : G l z M okv en pc lv (.long b :: .long a :: st) x E := G_st (fun C _ k => W.lcmp C.1 C.2.1 hdg k) k
theorem G_i2l {a : Int32} (hdg : decode M.1 pc = .ok (.i2l, 1)) (k : G l z M okv en (pc + 1) lv (.long a.toInt64 :: st) x E) : G l z M okv en pc lv (.int a :: st) x E := G_st (fun C _ k => lv_i2l C.1 C.2.1 hdg rfl k) k
theorem G_l2i {a : Int64} (hdg : decode M.1 pc = .ok (.l2i, 1)) (k : G l z M okv en (pc + 1) lv (.int a.toInt32 :: st) x E) : G l z M okv en pc lv (.long a :: st) x E := G_st (fun C _ k => lv_l2i C.1 C.2.1 hdg rfl k) k
theorem G_i2b {a : Int32} (hdg : decode M.1 pc = .ok (.i2b, 1)) (k : G l z M okv en (pc + 1) lv (.int a.toInt8.toInt32 :: st) x E) : G l z M okv en pc lv (.int a :: st) x E := G_st (fun C _ k => lv_i2b C.1 C.2.1 hdg rfl k) k
theorem G_i2c {a : Int32} (hdg : decode M.1 pc = .ok (.i2c, 1)) (k : G l z M okv en (pc + 1) lv (.int (a.toUInt32 % 65536).toInt32 :: st) x E) : G l z M okv en pc lv (.int a :: st) x E := G_st (fun C _ k => lv_i2c C.1 C.2.1 hdg rfl k) k
theorem G_i2d {a : Int32} (hdg : decode M.1 pc = .ok (.i2d, 1)) (k : G l z M okv en (pc + 1) lv (.double (FP.i2d a) :: st) x E) : G l z M okv en pc lv (.int a :: st) x E := G_st (fun C _ k => lv_i2d C.1 C.2.1 hdg k) k
theorem G_dconst0 (hdg : decode M.1 pc = .ok (.dconst 0, 1)) (k : G l z M okv en (pc + 1) lv (.double FP.dconst0 :: st) x E) : G l z M okv en pc lv st x E := G_st (fun C _ k => lv_dconst0 C.1 C.2.1 hdg k) k
theorem G_dcmp {a b : UInt64} {op : CmpOp} (hdg : decode M.1 pc = .ok (.dcmp op, 1)) (k : G l z M okv en (pc + 1) lv (.int (Op.cmpValue (FP.dcmp a b) op) :: st) x E) : G l z M okv en pc lv (.double b :: .double a :: st) x E := G_st (fun C _ k => lv_dcmp C.1 C.2.1 hdg k) k
theorem G_dup {va : Value} (hdg : decode M.1 pc = .ok (.dup, 1)) (hva : va.category = 1) (k : G l z M okv en (pc + 1) lv (va :: va :: st) x E) : G l z M okv en pc lv (va :: st) x E := G_st (fun C _ k => lv_dup C.1 C.2.1 hdg hva k) k
theorem G_dup2 {va vb : Value} (hdg : decode M.1 pc = .ok (.dup2, 1)) (hva : va.category = 1) (hvb : vb.category = 1) (k : G l z M okv en (pc + 1) lv (va :: vb :: va :: vb :: st) x E) : G l z M okv en pc lv (va :: vb :: st) x E := G_st (fun C _ k => lv_dup2_11 C.1 C.2.1 hdg hva hvb k) k
theorem G_dup_x1 {va vb : Value} (hdg : decode M.1 pc = .ok (.dup_x1, 1)) (hva : va.category = 1) (hvb : vb.category = 1) (k : G l z M okv en (pc + 1) lv (va :: vb :: va :: st) x E) : G l z M okv en pc lv (va :: vb :: st) x E := G_st (fun C _ k => lv_dup_x1 C.1 C.2.1 hdg hva hvb k) k
theorem G_pop {va : Value} (hdg : decode M.1 pc = .ok (.pop, 1)) (hva : va.category = 1) (k : G l z M okv en (pc + 1) lv st x E) : G l z M okv en pc lv (va :: st) x E := G_st (fun C _ k => lv_pop C.1 C.2.1 hdg hva k) k
theorem G_goto {off : Int} {tgt : Nat} (hdg : decode M.1 pc = .ok (.goto off, 3)) (ht : (pc : Int) + off = (tgt : Int)) (k : G l z M okv en tgt lv st x E) : G l z M okv en pc lv st x E := G_st (fun C _ k => lv_goto C.1 C.2.1 hdg ht k) k
/-! branches -/
theorem G_if_eq {a : Int32} {off : Int} {tgt : Nat} (hdg : decode M.1 pc = .ok (.ifCond .eq off, 3)) (ht : (pc : Int) + off = (tgt : Int)) (k1 : a = 0 → G l z M okv en tgt lv st x E1) (k2 : ¬ a = 0 → G l z M okv en (pc + 3) lv st x E2) : G l z M okv en pc lv (.int a :: st) x (if a = 0 then E1 else E2) := G_br (fun C k1 k2 => lv_if_eq C.1 C.2.1 hdg ht k1 k2) k1 k2
theorem G_if_ne {a : Int32} {off : Int} {tgt : Nat} (hdg : decode M.1 pc = .ok (.ifCond .ne off, 3)) (ht : (pc : Int) + off = (tgt : Int)) (k1 : a = 0 → G l z M okv en (pc + 3) lv st x E1) (k2 : ¬ a = 0 → G l z M okv en tgt lv st x E2) : G l z M okv en pc lv (.int a :: st) x (if a = 0 then E1 else E2) := G_br (fun C k1 k2 => lv_if_ne C.1 C.2.1 hdg ht k2 k1) k1 k2
theorem G_if_lt {a : Int32} {off : Int} {tgt : Nat} (hdg : decode M.1 pc = .ok (.ifCond .lt off, 3)) (ht : (pc : Int) + off = (tgt : Int)) (k1 : a < 0 → G l z M okv en tgt lv st x E1) (k2 : ¬ a < 0 → G l z M okv en (pc + 3) lv st x E2) : G l z M okv en pc lv (.int a :: st) x (if a < 0 then E1 else E2) := G_br (fun C k1 k2 => lv_if_lt C.1 C.2.1 hdg ht k1 k2) k1 k2
theorem G_if_ge {a : Int32} {off : Int} {tgt : Nat} (hdg : decode M.1 pc = .ok (.ifCond .ge off, 3)) (ht : (pc : Int) + off = (tgt : Int)) (k1 : 0 ≤ a → G l z M okv en tgt lv st x E1) (k2 : ¬ 0 ≤ a → G l z M okv en (pc + 3) lv st x E2) : G l z M okv en pc lv (.int a :: st) x (if 0 ≤ a then E1 else E2) := G_br (fun C k1 k2 => lv_if_ge C.1 C.2.1 hdg ht k1 k2) k1 k2
theorem G_if_gt {a : Int32} {off : Int} {tgt : Nat} (hdg : decode M.1 pc = .ok (.ifCond .gt off, 3)) (ht : (pc : Int) + off = (tgt : Int)) (k1 : 0 < a → G l z M okv en tgt lv st x E1) (k2 : ¬ 0 < a → G l z M okv en (pc + 3) lv st x E2) : G l z M okv en pc lv (.int a :: st) x (if 0 < a then E1 else E2) := G_br (fun C k1 k2 => lv_if_gt C.1 C.2.1 hdg ht k1 k2) k1 k2
theorem G_if_le {a : Int32} {off : Int} {tgt : Nat} (hdg : decode M.1 pc = .ok (.ifCond .le off, 3)) (ht : (pc : Int) + off = (tgt : Int)) (k1 : a ≤ 0 → G l z M okv en tgt lv st x E1) (k2 : ¬ a ≤ 0 → G l z M okv en (pc + 3) lv st x E2) : G l z M okv en pc lv (.int a :: st) x (if a ≤ 0 then E1 else E2) := G_br (fun C k1 k2 => lv_if_le C.1 C.2.1 hdg ht k1 k2) k1 k2
theorem G_icmp_eq {a b : Int32} {off : Int} {tgt : Nat} (hdg : decode M.1 pc = .ok (.if_icmp .eq off, 3)) (ht : (pc : Int) + off = (tgt : Int)) (k1 : a = b → G l z M okv en tgt lv st x E1) (k2 : ¬ a = b → G l z M okv en (pc + 3) lv st x E2) : G l z M okv en pc lv (.int b :: .int a :: st) x (if a = b then E1 else E2) := G_br (fun C k1 k2 => lv_icmp_eq C.1 C.2.1 hdg ht k1 k2) k1 k2
theorem G_icmp_ne {a b : Int32} {off : Int} {tgt : Nat} (hdg : decode M.1 pc = .ok (.if_icmp .ne off, 3)) (ht : (pc : Int) + off = (tgt : Int)) (k1 : a = b → G l z M okv en (pc + 3) lv st x E1) (k2 : ¬ a = b → G l z M okv en tgt lv st x E2) : G l z M okv en pc lv (.int b :: .int a :: st) x (if a = b then E1 else E2) := G_br (fun C k1 k2 => lv_icmp_ne C.1 C.2.1 hdg ht k2 k1) k1 k2
theorem G_icmp_lt {a b : Int32} {off : Int} {tgt : Nat} (hdg : decode M.1 pc = .ok (.if_icmp .lt off, 3)) (ht : (pc : Int) + off = (tgt : Int)) (k1 : a < b → G l z M okv en tgt lv st x E1) (k2 : ¬ a < b → G l z M okv en (pc + 3) lv st x E2) : G l z M okv en pc lv (.int b :: .int a :: st) x (if a < b then E1 else E2) := G_br (fun C k1 k2 => lv_icmp_lt C.1 C.2.1 hdg ht k1 k2) k1 k2
theorem G_icmp_ge {a b : Int32} {off : Int} {tgt : Nat} (hdg : decode M.1 pc = .ok (.if_icmp .ge off, 3)) (ht : (pc : Int) + off = (tgt : Int)) (k1 : b ≤ a → G l z M okv en tgt lv st x E1) (k2 : ¬ b ≤ a → G l z M okv en (pc + 3) lv st x E2) : G l z M okv en pc lv (.int b :: .int a :: st) x (if b ≤ a then E1 else E2) := G_br (fun C k1 k2 => lv_icmp_ge C.1 C.2.1 hdg ht k1 k2) k1 k2
theorem G_icmp_gt {a b : Int32} {off : Int} {tgt : Nat} (hdg : decode M.1 pc = .ok (.if_icmp .gt off, 3)) (ht : (pc : Int) + off = (tgt : Int)) (k1 : b < a → G l z M okv en tgt lv st x E1) (k2 : ¬ b < a → G l z M okv en (pc + 3) lv st x E2) : G l z M okv en pc lv (.int b :: .int a :: st) x (if b < a then E1 else E2) := G_br (fun C k1 k2 => lv_icmp_gt C.1 C.2.1 hdg ht k1 k2) k1 k2
theorem G_icmp_le {a b : Int32} {off : Int} {tgt : Nat} (hdg : decode M.1 pc = .ok (.if_icmp .le off, 3)) (ht : (pc : Int) + off = (tgt : Int)) (k1 : a ≤ b → G l z M okv en tgt lv st x E1) (k2 : ¬ a ≤ b → G l z M okv en (pc + 3) lv st x E2) : G l z M okv en pc lv (.int b :: .int a :: st) x (if a ≤ b then E1 else E2) := G_br (fun C k1 k2 => lv_icmp_le C.1 C.2.1 hdg ht k1 k2) k1 k2
theorem G_acmp_eq {a b : Option Nat} {off : Int} {tgt : Nat} (hdg : decode M.1 pc = .ok (.if_acmp .eq off, 3)) (ht : (pc : Int) + off = (tgt : Int)) (k1 : a = b → G l z M okv en tgt lv st x E1) (k2 : ¬ a = b → G l z M okv en (pc + 3) lv st x E2) : G l z M okv en pc lv (va_rf b :: va_rf a :: st) x (if a = b then E1 else E2) := G_br (fun C k1 k2 => lv_acmp_eq C.1 C.2.1 hdg ht k1 k2) k1 k2
theorem G_acmp_ne {a b : Option Nat} {off : Int} {tgt : Nat} (hdg : decode M.1 pc = .ok (.if_acmp .ne off, 3)) (ht : (pc : Int) + off = (tgt : Int)) (k1 : a = b → G l z M okv en (pc + 3) lv st x E1) (k2 : ¬ a = b → G l z M okv en tgt lv st x E2) : G l z M okv en pc lv (va_rf b :: va_rf a :: st) x (if a = b then E1 else E2) := G_br (fun C k1 k2 => lv_acmp_ne C.1 C.2.1 hdg ht k2 k1) k1 k2
theorem G_ifnull {a : Option Nat} {off : Int} {tgt : Nat} (hdg : decode M.1 pc = .ok (.ifnull off, 3)) (ht : (pc : Int) + off = (tgt : Int)) (k1 : a = none → G l z M okv en tgt lv st x E1) (k2 : ¬ a = none → G l z M okv en (pc + 3) lv st x E2) : G l z M okv en pc lv (va_rf a :: st) x (if a = none then E1 else E2) := G_br (fun C k1 k2 => by
  cases a with
  | none => exact lv_ifnullN C.1 C.2.1 hdg ht (k1 rfl)
  | some b => exact lv_ifnull C.1 C.2.1 hdg (k2 (by simp))) k1 k2
theorem G_ifnonnull {a : Option Nat} {off : Int} {tgt : Nat} (hdg : decode M.1 pc = .ok (.ifnonnull off, 3)) (ht : (pc : Int) + off = (tgt : Int)) (k1 : a = none → G l z M okv en (pc + 3) lv st x E1) (k2 : ¬ a = none → G l z M okv en tgt lv st x E2) : G l z M okv en pc lv (va_rf a :: st) x (if a = none then E1 else E2) := G_br (fun C k1 k2 => by
  cases a with
  | none => exact lv_ifnonnullN C.1 C.2.1 hdg (k1 rfl)
  | some b => exact lv_ifnonnull C.1 C.2.1 hdg ht (k2 (by simp))) k1 k2
/-! switches: where the value is known -/
theorem G_lookup {dflt : Int} {ps : Array (Int × Int)} {len : Nat} {a : Int32} {off : Int} {tgt : Nat} (hdg : decode M.1 pc = .ok (.lookupswitch dflt ps, len)) (hp : (ps.toList.zip (ps.toList.drop 1)).all (fun (a, next) => a.1 < next.1) = true) (ho : Op.lookupswitch.offset ps.toList dflt a.toInt = off) (ht : (pc : Int) + off = (tgt : Int)) (k : G l z M okv en tgt lv st x E) : G l z M okv en pc lv (.int a :: st) x E := G_st (fun C _ k => lv_lookup C.1 C.2.1 hdg hp ho ht k) k
theorem G_tableOut {dflt lo hi : Int} {offs : Array Int} {len : Nat} {a : Int32} {tgt : Nat} (hdg : decode M.1 pc = .ok (.tableswitch dflt lo hi offs, len)) (h : a.toInt < lo ∨ hi < a.toInt) (ht : (pc : Int) + dflt = (tgt : Int)) (k : G l z M okv en tgt lv st x E) : G l z M okv en pc lv (.int a :: st) x E := G_st (fun C _ k => lv_tableOut C.1 C.2.1 hdg h ht k) k
theorem G_tableIn {dflt lo hi : Int} {offs : Array Int} {len : Nat} {a : Int32} {off : Int} {tgt : Nat} (hdg : decode M.1 pc = .ok (.tableswitch dflt lo hi offs, len)) (h1 : ¬ a.toInt < lo) (h2 : ¬ hi < a.toInt) (ho : offs[(a.toInt - lo).toNat]? = some off) (ht : (pc : Int) + off = (tgt : Int)) (k : G l z M okv en tgt lv st x E) : G l z M okv en pc lv (.int a :: st) x E := G_st (fun C _ k => lv_tableIn C.1 C.2.1 hdg h1 h2 ho ht k) k
end ROWS
end
section
/-! ===== ROWS THAT READ AND WRITE THE HEAP ===== -/
theorem Sm_pi {x : Hp} {f a q : Nat} {v : Int32} (h : q ≠ a) : Sm (p_i x f a v) x q := ⟨rfl, rfl, fun f' => by simp [h_i, p_i, u2, h], fun _ => rfl, rfl, rfl, rfl⟩
theorem Sm_pr {x : Hp} {f a q : Nat} {v : Option Nat} (h : q ≠ a) : Sm (p_r x f a v) x q := ⟨rfl, rfl, fun _ => rfl, fun f' => by simp [h_r, p_r, u2, h], rfl, rfl, rfl⟩
theorem Sm_pai {x : Hp} {a j q : Nat} {v : Int32} (h : q ≠ a) : Sm (p_ai x a j v) x q := ⟨rfl, rfl, fun _ => rfl, fun _ => rfl, by funext i; simp [h_ai, p_ai, u2, h], rfl, rfl⟩
theorem Sm_pal {x : Hp} {a j q : Nat} {v : Int64} (h : q ≠ a) : Sm (p_al x a j v) x q := ⟨rfl, rfl, fun _ => rfl, fun _ => rfl, rfl, by funext i; simp [h_al, p_al, u2, h], rfl⟩
theorem Sm_par {x : Hp} {a j q : Nat} {v : Option Nat} (h : q ≠ a) : Sm (p_ar x a j v) x q := ⟨rfl, rfl, fun _ => rfl, fun _ => rfl, rfl, rfl, by funext i; simp [h_ar, p_ar, u2, h]⟩
section WH
variable {p : Program} {l : Launch} {e : Env} {R : Room} {s : State} {m : MethodId} {args : Array Value} {below : List Frame} {meth : Method} {c : Code} {H : Heap} {locs : List Loc} {cells slots : Nat} {Q : State → Prop}
variable {cc : ByteArray} {own : String} {pc : Nat} {ls : Array Slot} {rest : List Value} {D : va_G} {cA : Nat → ClassId} {b0 a : Nat} {x y : Hp}
theorem w_put {tys : List (ClassId × FieldType)} (hexec : p.tables.exec = Jvm.exec) (hb : c.code = cc) (hts : ∀ w ∈ gT, w.before args s = true) (hown : s.vm.findClass own = some m.cls) (hK : va_K D vwCl tys s) {ci k i N : Nat} {C ref : String} {T : u_T} {ty : Nat → FieldType} (hc : Cl ci C T N ty) (hk : k < N) (hR : Rep D cA b0 s x H) (hka : h_k x a = ci + 1) (hS : va_S (fun q => b0 ≤ q) s.heap H locs)
    (hw : Cond.fieldLink own i ref (T k).2.1 (T k).2.2.1 ∈ gT) (href : ref = (T k).1) (hfin : (T k).2.2.2 = false ∨ ((T k).2.2.2 = true ∧ meth.name = "<init>" ∧ (T k).1 = own)) {v : Value} (hn : narrow (ty k) v = v) (hfit : fits (ty k) v = true)
    (hy1 : h_sz y = h_sz x) (hy2 : h_k y a = h_k x a) (hy3 : ∀ q, q ≠ a → Sm y x q) (hy4 : fsv y ci a 0 (gR ci) = (fsv x ci a 0 (gR ci)).set k v) (hdg : decode cc pc = .ok (.putfield i, 3))
    (kk : ∀ (H' : Heap) (locs' : List Loc), Rep D cA b0 s y H' → va_S (fun q => b0 ≤ q) s.heap H' locs' → W p l e R s m args below meth c H' locs' cells slots Q (F0 m (pc + 3) ls rest)) : W p l e R s m args below meth c H locs cells slots Q (F0 m pc ls (v :: .ref a :: rest)) := by
  obtain ⟨hcl, hci, hin, hty, hnm, hgl, -⟩ := hc
  have hlen : k < (fsv x ci a 0 (gR ci)).length := by rw [fsv_len, hgl]; exact hk
  have hap := va_apart (own := own) hts hin ty hty hnm hK hcl
  obtain ⟨r, h1, cell, q1, q2, q3, q4⟩ := hR.at_obj hka hci 0 _ rfl
  have hr : r = (C, T, N) := Option.some.inj (h1.symm.trans hcl)
  subst hr
  obtain ⟨hSl, hfc, kC, hkC, hkind⟩ := hK.1 ci _ hcl
  obtain ⟨cf, kf, fi, f, hi, hsl⟩ := hSl k hk
  have hlink := hts _ hw
  have hba : b0 ≤ a := ((hR.2.2 a).1 (by omega) (by omega)).2
  have hst := (u_facts hfc hkC (u_lays hts hin hk) hi).1
  have done : ∀ (H' : Heap), H'[a]? = some (cell.setSlot f.slot v) → H'.size = H.size → (∀ q, q ≠ a → H'[q]? = H[q]?) → W p l e R s m args below meth c H' (locs ++ [⟨a, f.slot⟩]) cells slots Q (F0 m (pc + 3) ls rest) := by
    intro H' e1 e2 e3
    rw [hsl] at e1
    refine kk H' _ (hR.put e2 e3 (by omega) (by omega) hy1 hy2 hy3 ?_) (hS.put e2 e3 hba)
    rw [ent_obj (hy2.trans hka) hci, hy4]
    exact ⟨_, hcl, t_OB.to (V := updV (vp_V (fsv x ci a 0 (gR ci))) k v) ⟨_, e1, q2, q3, t_set q4 hap hk v⟩ (fun j _ => vp_updV_set hlen v j)⟩
  subst href
  rcases hfin with hfin | ⟨hfin, hin2, hdecl⟩
  · have hlay := hts _ (hin _ (u_in_lay hk))
    unfold u_lay at hlay
    rw [if_neg (by rw [hfin]; decide)] at hlay
    have h6 := u_store hfc hkC hkind hlay hi (hty k hk) hn hfit
    exact W.putK hexec hb (f := f) ⟨hown, hlink, ⟨_, _, _, hi⟩, hst⟩ (by rw [q2]; exact h6) q1 q3 (by rw [hsl]; exact k2_hasslot (q4 k hk)) rfl rfl hdg done
  · have hlay := hts _ (hin _ (u_in_lay hk))
    unfold u_lay at hlay
    rw [if_pos hfin] at hlay
    have hcf : m.cls = cf := by
      obtain ⟨_, _, c', _, _, _, -, -, hf', -, -, -, hown2, -⟩ := Cond.laysFinal_spec hlay
      have e1 : c' = cf := by have := hi.symm.trans hf'; simp at this; exact this.1.symm
      rw [hdecl] at hown2
      rw [← e1]; exact Option.some.inj (hown.symm.trans hown2)
    have h6 := u_fits hfc hkC hkind (Or.inr hlay) hi (hty k hk) hn hfit
    exact W.putFinK hexec hb hown hlink hi hst hcf hin2 (by rw [q2]; exact h6) q1 q3 (by rw [hsl]; exact k2_hasslot (q4 k hk)) rfl rfl hdg done
theorem h_in {i : Int32} {n : Nat} (h : 0 ≤ i.toInt ∧ i.toInt < n) : ¬ (i < 0 ∨ n ≤ i.toNatClampNeg) := vp_in_iff.mpr h
/-- what stands behind a store into an array -/
theorem w_arr {t n : Nat} (ht : t < 99) (hR : Rep D cA b0 s x H) (hka : h_k x a = 100 + t) (hS : va_S (fun q => b0 ≤ q) s.heap H locs) {H' : Heap} {j : Nat} (e2 : H'.size = H.size) (e3 : ∀ q, q ≠ a → H'[q]? = H[q]?) (hy1 : h_sz y = h_sz x) (hy2 : h_k y a = h_k x a) (hy3 : ∀ q, q ≠ a → Sm y x q) (e1 : H'[a]? = some (vp_cell (cA t) (h_n y a, apay y t a))) : Rep D cA b0 s y H' ∧ va_S (fun q => b0 ≤ q) s.heap H' (locs ++ [⟨a, j⟩]) := by
  have hba : b0 ≤ a := ((hR.2.2 a).1 (by omega) (by omega)).2
  refine ⟨hR.put e2 e3 (by omega) (by omega) hy1 hy2 hy3 ?_, hS.put e2 e3 hba⟩
  rw [ent_arr (hy2.trans hka)]
  exact e1
end WH
section ROWSH
variable {α : Type} {l : Launch} {z : Nat → Nat} {M : Mt} {okv : α → Prop} {en : α → Option Value} {pc : Nat} {lv : List (Nat × Value)} {st : List Value} {x : Hp}
/-- a row with a guard that names the object: G of obj -/
theorem G_obj {r : Option Nat} {kd : Nat} {k : Nat → Option (α × Hp)} (h : ∀ b, r = some b → h_k x b = kd → G l z M okv en pc lv st x (k b)) : G l z M okv en pc lv st x (obj r x kd k) := by
  cases r with
  | none => exact G_none
  | some b =>
    show G l z M okv en pc lv st x (if h_k x b = kd then k b else none)
    exact G_if (fun hk => h b rfl hk) (fun _ => G_none)
/-- a row that reads the heap -/
theorem G_rd {E : Option (α × Hp)} {pc' : Nat} {st' : List Value} (h : ∀ {D : va_G} {cA : Nat → ClassId} {b0 : Nat} {p : Program} {e : Env} {R : Room} {s : State} {m : MethodId} {args : Array Value} {below : List Frame} {meth : Method} {c : Code} {H : Heap} {locs : List Loc} {cells slots : Nat} {Q : State → Prop} {ls : Array Slot},
      Cx z M D cA b0 p R s m args meth c → Rep D cA b0 s x H → va_S (fun q => b0 ≤ q) s.heap H locs → W p l e R s m args below meth c H locs cells slots Q (F0 m pc' ls st') → W p l e R s m args below meth c H locs cells slots Q (F0 m pc ls st))
    (k : G l z M okv en pc' lv st' x E) : G l z M okv en pc lv st x E := by
  intro v xe hE
  obtain ⟨h0, k⟩ := k v xe hE
  exact ⟨h0, fun D cA b0 p e R s m args below meth c z0 s0 Q C h1 h2 hF H locs ls h3 h4 hR hS hl => h C hR hS (k D cA b0 p e R s m args below meth c z0 s0 Q C h1 h2 hF H locs ls h3 h4 hR hS hl)⟩
/-- a row that writes -/
theorem G_wr {E : Option (α × Hp)} {y : Hp} {pc' : Nat} {st' : List Value} (e1 : h_sz y = h_sz x) (e2 : h_sl y = h_sl x) (h : ∀ {D : va_G} {cA : Nat → ClassId} {b0 : Nat} {p : Program} {e : Env} {R : Room} {s : State} {m : MethodId} {args : Array Value} {below : List Frame} {meth : Method} {c : Code} {H : Heap} {locs : List Loc} {cells slots : Nat} {Q : State → Prop} {ls : Array Slot},
      Cx z M D cA b0 p R s m args meth c → Rep D cA b0 s x H → va_S (fun q => b0 ≤ q) s.heap H locs → (∀ (H' : Heap) (locs' : List Loc), Rep D cA b0 s y H' → va_S (fun q => b0 ≤ q) s.heap H' locs' → W p l e R s m args below meth c H' locs' cells slots Q (F0 m pc' ls st')) → W p l e R s m args below meth c H locs cells slots Q (F0 m pc ls st))
    (k : G l z M okv en pc' lv st' y E) : G l z M okv en pc lv st x E := by
  intro v xe hE
  obtain ⟨h0, k⟩ := k v xe hE
  rw [e1, e2] at h0
  refine ⟨h0, fun D cA b0 p e R s m args below meth c z0 s0 Q C h1 h2 hF H locs ls h3 h4 hR hS hl => h C hR hS fun H' locs' hR' hS' => ?_⟩
  have := k D cA b0 p e R s m args below meth c z0 s0 Q C h1 h2 hF H' locs' ls (by rw [e1]; exact h3) (by rw [e2]; exact h4) hR' hS' hl
  rw [e1, e2] at this
  exact this
/-- a row that makes a cell -/
theorem G_mk {E : Option (α × Hp)} {k0 n w : Nat} {pc' : Nat} {st' : List Value} (h : ∀ {D : va_G} {cA : Nat → ClassId} {b0 : Nat} {p : Program} {e : Env} {R : Room} {s : State} {m : MethodId} {args : Array Value} {below : List Frame} {meth : Method} {c : Code} {H : Heap} {locs : List Loc} {cells slots : Nat} {Q : State → Prop} {ls : Array Slot},
      Cx z M D cA b0 p R s m args meth c → Rep D cA b0 s x H → va_S (fun q => b0 ≤ q) s.heap H locs → cells + 1 ≤ R.cells → slots + w ≤ R.slots → (∀ (H' : Heap), Rep D cA b0 s (p_n x k0 n w) H' → va_S (fun q => b0 ≤ q) s.heap H' locs → W p l e R s m args below meth c H' locs (cells + 1) (slots + w) Q (F0 m pc' ls st')) → W p l e R s m args below meth c H locs cells slots Q (F0 m pc ls st))
    (k : G l z M okv en pc' lv st' (p_n x k0 n w) E) : G l z M okv en pc lv st x E := by
  intro v xe hE
  obtain ⟨h0, k⟩ := k v xe hE
  have e1 : h_sz (p_n x k0 n w) = h_sz x + 1 := rfl
  have e2 : h_sl (p_n x k0 n w) = h_sl x + w := rfl
  rw [e1, e2] at h0
  refine ⟨⟨by omega, by omega⟩, fun D cA b0 p e R s m args below meth c z0 s0 Q C h1 h2 hF H locs ls h3 h4 hR hS hl => h C hR hS (by omega) (by omega) fun H' hR' hS' => ?_⟩
  have := k D cA b0 p e R s m args below meth c z0 s0 Q C h1 h2 hF H' locs ls (by rw [e1]; omega) (by rw [e2]; omega) hR' hS' hl
  rw [e1, e2, show h_sz x + 1 - z0 = h_sz x - z0 + 1 by omega, show h_sl x + w - s0 = h_sl x - s0 + w by omega] at this
  exact this
theorem G_geti {r : Option Nat} {kd f ci k i N : Nat} {C ref : String} {T : u_T} {ty : Nat → FieldType} {kk : Int32 → Option (α × Hp)} (hc : Cl ci C T N ty) (hk : k < N) (hg : (gR ci)[k]? = some false) (hkd : kd = ci + 1) (hf : f = 20 * ci + k) (hw : Cond.fieldLink M.2.1 i ref (T k).2.1 (T k).2.2.1 ∈ gT) (href : ref = (T k).1) (hdg : decode M.1 pc = .ok (.getfield i, 3))
    (k0 : ∀ v, G l z M okv en (pc + 3) lv (.int v :: st) x (kk v)) : G l z M okv en pc lv (va_rf r :: st) x (geti r x kd f kk) := by
  refine G_obj fun b hr hkb => ?_
  subst hr; subst hkd; subst hf; subst href
  refine G_rd (fun C hR hS k2 => ?_) (k0 (h_i x (20 * ci + k) b))
  obtain ⟨hx, hb, -, hown, hts, -, ⟨hK, -⟩, -⟩ := C
  obtain ⟨hcl, hci, hin, -⟩ := hc
  have hv := fsv_get (x := x) (ci := ci) (a := b) (gR ci) 0 k false hg
  rw [Nat.zero_add] at hv
  exact va_get hx hb hts hin hown hK (hR.at_obj hkb hci) 0 rfl hcl k hk (hts _ hw) (fun _ h => h) hv hdg k2
theorem G_getr {r : Option Nat} {kd f ci k i N : Nat} {C ref : String} {T : u_T} {ty : Nat → FieldType} {kk : Option Nat → Option (α × Hp)} (hc : Cl ci C T N ty) (hk : k < N) (hg : (gR ci)[k]? = some true) (hkd : kd = ci + 1) (hf : f = 20 * ci + k) (hw : Cond.fieldLink M.2.1 i ref (T k).2.1 (T k).2.2.1 ∈ gT) (href : ref = (T k).1) (hdg : decode M.1 pc = .ok (.getfield i, 3))
    (k0 : ∀ v, G l z M okv en (pc + 3) lv (va_rf v :: st) x (kk v)) : G l z M okv en pc lv (va_rf r :: st) x (getr r x kd f kk) := by
  refine G_obj fun b hr hkb => ?_
  subst hr; subst hkd; subst hf; subst href
  refine G_rd (fun C hR hS k2 => ?_) (k0 (h_r x (20 * ci + k) b))
  obtain ⟨hx, hb, -, hown, hts, -, ⟨hK, -⟩, -⟩ := C
  obtain ⟨hcl, hci, hin, -⟩ := hc
  have hv := fsv_get (x := x) (ci := ci) (a := b) (gR ci) 0 k true hg
  rw [Nat.zero_add] at hv
  exact va_get hx hb hts hin hown hK (hR.at_obj hkb hci) 0 rfl hcl k hk (hts _ hw) (fun _ h => h) hv hdg k2
/-- a field may be written here: it isn't final, or this is its class's constructor -/
def Wf (M : Mt) (T : u_T) (k : Nat) : Prop := (T k).2.2.2 = false ∨ ((T k).2.2.2 = true ∧ M.2.2.1 = "<init>" ∧ (T k).1 = M.2.1)
theorem G_puti {r : Option Nat} {kd f ci k i N : Nat} {C ref : String} {T : u_T} {ty : Nat → FieldType} {v : Int32} {kk : Hp → Option (α × Hp)} (hc : Cl ci C T N ty) (hk : k < N) (hg : (gR ci)[k]? = some false) (hkd : kd = ci + 1) (hf : f = 20 * ci + k) (hw : Cond.fieldLink M.2.1 i ref (T k).2.1 (T k).2.2.1 ∈ gT) (href : ref = (T k).1) (hfin : Wf M T k) (hn : narrow (ty k) (.int v) = .int v) (hfit : fits (ty k) (.int v) = true) (hdg : decode M.1 pc = .ok (.putfield i, 3))
    (k0 : ∀ y, G l z M okv en (pc + 3) lv st y (kk y)) : G l z M okv en pc lv (.int v :: va_rf r :: st) x (puti r x kd f v kk) := by
  refine G_obj fun b hr hkb => ?_
  subst hr; subst hkd; subst hf
  refine G_wr (y := p_i x (20 * ci + k) b v) rfl rfl (fun C hR hS k2 => ?_) (k0 _)
  obtain ⟨hx, hb, -, hown, hts, hnm, ⟨hK, -⟩, -⟩ := C
  exact w_put (y := p_i x (20 * ci + k) b v) hx hb hts hown hK hc hk hR hkb hS hw href (by rw [hnm]; exact hfin) hn hfit rfl rfl (fun q hq => Sm_pi hq) (fsv_pi (k := k) (gR ci) 0 k (Nat.zero_add k) hg) hdg k2
theorem G_putr {r : Option Nat} {kd f ci k i N : Nat} {C ref : String} {T : u_T} {ty : Nat → FieldType} {v : Option Nat} {kk : Hp → Option (α × Hp)} (hc : Cl ci C T N ty) (hk : k < N) (hg : (gR ci)[k]? = some true) (hkd : kd = ci + 1) (hf : f = 20 * ci + k) (hw : Cond.fieldLink M.2.1 i ref (T k).2.1 (T k).2.2.1 ∈ gT) (href : ref = (T k).1) (hfin : Wf M T k) (hn : narrow (ty k) (va_rf v) = va_rf v) (hfit : fits (ty k) (va_rf v) = true) (hdg : decode M.1 pc = .ok (.putfield i, 3))
    (k0 : ∀ y, G l z M okv en (pc + 3) lv st y (kk y)) : G l z M okv en pc lv (va_rf v :: va_rf r :: st) x (putr r x kd f v kk) := by
  refine G_obj fun b hr hkb => ?_
  subst hr; subst hkd; subst hf
  refine G_wr (y := p_r x (20 * ci + k) b v) rfl rfl (fun C hR hS k2 => ?_) (k0 _)
  obtain ⟨hx, hb, -, hown, hts, hnm, ⟨hK, -⟩, -⟩ := C
  exact w_put (y := p_r x (20 * ci + k) b v) hx hb hts hown hK hc hk hR hkb hS hw href (by rw [hnm]; exact hfin) hn hfit rfl rfl (fun q hq => Sm_pr hq) (fsv_pr (k := k) (gR ci) 0 k (Nat.zero_add k) hg) hdg k2
theorem nar_obj {C : String} {v : Option Nat} : narrow (.object C) (va_rf v) = va_rf v ∧ fits (.object C) (va_rf v) = true := by cases v <;> exact ⟨rfl, rfl⟩
theorem nar_arr {t : FieldType} {v : Option Nat} : narrow (.array t) (va_rf v) = va_rf v ∧ fits (.array t) (va_rf v) = true := by cases v <;> exact ⟨rfl, rfl⟩
theorem nar_int {v : Int32} : narrow .int (.int v) = .int v ∧ fits .int (.int v) = true := ⟨rfl, rfl⟩
theorem nar_bool {v : Int32} (h : v = 0 ∨ v = 1) : narrow .boolean (.int v) = .int v ∧ fits .boolean (.int v) = true := by rcases h with rfl | rfl <;> exact ⟨rfl, rfl⟩
theorem G_bool {v : Int32} {E : Option (α × Hp)} (h : v = 0 ∨ v = 1 → G l z M okv en pc lv st x E) : G l z M okv en pc lv st x (bool v E) := G_if h (fun _ => G_none)
theorem G_nn {r : Option Nat} {k : Nat → Option (α × Hp)} (h : ∀ b, r = some b → G l z M okv en pc lv st x (k b)) : G l z M okv en pc lv st x (nn r k) := by
  cases r with
  | none => exact G_none
  | some b => exact h b rfl
/-! arrays -/
theorem G_idx {r : Option Nat} {kd : Nat} {i : Int32} {k : Nat → Nat → Option (α × Hp)} (h : ∀ b, r = some b → h_k x b = kd → (0 ≤ i.toInt ∧ i.toInt < h_n x b) → G l z M okv en pc lv st x (k b i.toNatClampNeg)) : G l z M okv en pc lv st x (idx r x kd i k) :=
  G_obj fun b hr hk => G_if (fun hi => h b hr hk hi) (fun _ => G_none)
theorem G_iald {r : Option Nat} {i : Int32} {kk : Int32 → Option (α × Hp)} (hdg : decode M.1 pc = .ok (.iaload, 1)) (k0 : ∀ v, G l z M okv en (pc + 1) lv (.int v :: st) x (kk v)) : G l z M okv en pc lv (.int i :: va_rf r :: st) x (aldi r x 101 i kk) := by
  refine G_idx fun b hr hkb hi => ?_
  subst hr
  refine G_rd (fun C hR hS k2 => ?_) (k0 (h_ai x b i.toNatClampNeg))
  obtain ⟨hx, hb, -, hown, hts, hnm, ⟨hK, -⟩, -⟩ := C
  have h1 := hR.at_arr (t := 1) hkb (by omega)
  exact va_iald hx hb hK (ws := [(b, .inl (_, h_n x b, .inl (h_ai x b)))]) (fun k q hq => by
    have hz : k < 1 := (List.getElem?_eq_some_iff.mp hq).1
    rw [show k = 0 by omega] at hq
    cases hq
    exact h1) 0 1 rfl rfl (h_in hi) hdg k2
theorem G_bald {r : Option Nat} {i : Int32} {kk : Int32 → Option (α × Hp)} (hdg : decode M.1 pc = .ok (.baload, 1)) (k0 : ∀ v, G l z M okv en (pc + 1) lv (.int v :: st) x (kk v)) : G l z M okv en pc lv (.int i :: va_rf r :: st) x (aldi r x 100 i kk) := by
  refine G_idx fun b hr hkb hi => ?_
  subst hr
  refine G_rd (fun C hR hS k2 => ?_) (k0 (h_ai x b i.toNatClampNeg))
  obtain ⟨hx, hb, -, hown, hts, hnm, ⟨hK, -⟩, -⟩ := C
  have h1 := hR.at_arr (t := 0) hkb (by omega)
  exact va_bald hx hb hK (ws := [(b, .inl (_, h_n x b, .inl (h_ai x b)))]) (fun k q hq => by
    have hz : k < 1 := (List.getElem?_eq_some_iff.mp hq).1
    rw [show k = 0 by omega] at hq
    cases hq
    exact h1) 0 0 rfl rfl (h_in hi) hdg k2
theorem G_lald {r : Option Nat} {i : Int32} {kk : Int64 → Option (α × Hp)} (hdg : decode M.1 pc = .ok (.laload, 1)) (k0 : ∀ v, G l z M okv en (pc + 1) lv (.long v :: st) x (kk v)) : G l z M okv en pc lv (.int i :: va_rf r :: st) x (aldl r x 102 i kk) := by
  refine G_idx fun b hr hkb hi => ?_
  subst hr
  refine G_rd (fun C hR hS k2 => ?_) (k0 (h_al x b i.toNatClampNeg))
  obtain ⟨hx, hb, -, hown, hts, hnm, ⟨hK, -⟩, -⟩ := C
  have h1 := hR.at_arr (t := 2) hkb (by omega)
  exact va_lald hx hb hK (ws := [(b, .inl (_, h_n x b, .inr (.inl (h_al x b))))]) (fun k q hq => by
    have hz : k < 1 := (List.getElem?_eq_some_iff.mp hq).1
    rw [show k = 0 by omega] at hq
    cases hq
    exact h1) 0 2 rfl rfl (h_in hi) hdg k2
theorem apay_0 {x : Hp} {a : Nat} : apay x 0 a = .inl (h_ai x a) := rfl
theorem apay_1 {x : Hp} {a : Nat} : apay x 1 a = .inl (h_ai x a) := rfl
theorem apay_2 {x : Hp} {a : Nat} : apay x 2 a = .inr (.inl (h_al x a)) := rfl
theorem w_apay {x : Hp} {t a : Nat} (h : 2 < t) : apay x t a = .inr (.inr (.inr (.inr (h_ar x a)))) := by
  unfold apay
  rw [if_neg (by omega), if_neg (by omega)]
theorem G_aald {r : Option Nat} {i : Int32} {kd t : Nat} {kk : Option Nat → Option (α × Hp)} (hkd : kd = 100 + t) (ht : 2 < t) (ht2 : t < 8) (hdg : decode M.1 pc = .ok (.aaload, 1)) (k0 : ∀ v, G l z M okv en (pc + 1) lv (va_rf v :: st) x (kk v)) : G l z M okv en pc lv (.int i :: va_rf r :: st) x (aldr r x kd i kk) := by
  refine G_idx fun b hr hkb hi => ?_
  subst hr; subst hkd
  refine G_rd (fun {D cA b0 p e R s m args below meth c H locs cells slots Q ls} C hR hS k2 => ?_) (k0 (h_ar x b i.toNatClampNeg))
  obtain ⟨hx, hb, -, hown, hts, hnm, ⟨hK, -⟩, -⟩ := C
  have h1 := hR.at_arr hkb (by omega)
  rw [w_apay ht] at h1
  have hlt : i.toNatClampNeg < h_n x b := Nat.not_le.mp fun q => h_in hi (Or.inr q)
  have go : ∀ ty : FieldType, ty.isReference = true → ArrOfT s (cA t) ty → W p l e R s m args below meth c H locs cells slots Q (F0 m pc ls (.int i :: va_rf (some b) :: st)) := fun ty hty hA =>
    W.aald (v := va_rf (h_ar x b i.toNatClampNeg)) (ty := ty) hx hb h1 (hA _ (fun j => va_rf (h_ar x b j))) hty (fun q => by cases q) (by show ¬ (i < 0 ∨ (arrV _ _ _).slots.size ≤ _); rw [arrV_size]; exact h_in hi) (by show (arrV _ _ _).slots[_]? = _; rw [arrV_read _ _ hlt]) rfl rfl hdg k2
  have hT := hK.2
  rcases (show t = 3 ∨ t = 4 ∨ t = 5 ∨ t = 6 ∨ t = 7 by omega) with rfl | rfl | rfl | rfl | rfl
  · exact go _ rfl (hT 3 _ rfl).1
  · exact go _ rfl (hT 4 _ rfl).1
  · exact go _ rfl (hT 5 _ rfl).1
  · exact go _ rfl (hT 6 _ rfl).1
  · exact go _ rfl (hT 7 _ rfl).1
theorem G_iast {r : Option Nat} {i v : Int32} {kk : Hp → Option (α × Hp)} (hdg : decode M.1 pc = .ok (.iastore, 1)) (k0 : ∀ y, G l z M okv en (pc + 1) lv st y (kk y)) : G l z M okv en pc lv (.int v :: .int i :: va_rf r :: st) x (asti r x 101 i v kk) := by
  refine G_idx fun b hr hkb hi => ?_
  subst hr
  refine G_wr (y := p_ai x b i.toNatClampNeg v) rfl rfl (fun C hR hS k2 => ?_) (k0 _)
  obtain ⟨hx, hb, -, hown, hts, hnm, ⟨hK, -⟩, -⟩ := C
  have h1 := hR.at_arr (t := 1) hkb (by omega)
  refine W.iast hx hb h1 ((hK.2 1 _ rfl).1 (h_n x b) (fun j => .int (h_ai x b j))) (fun q => by cases q) (by show ¬ (i < 0 ∨ (arrV _ _ _).slots.size ≤ _); rw [arrV_size]; exact h_in hi) rfl rfl hdg fun H1 e zz oq => ?_
  refine (fun hh => k2 H1 _ hh.1 hh.2) (w_arr (t := 1) (y := p_ai x b i.toNatClampNeg v) (n := 0) (by omega) hR hkb hS zz oq rfl rfl (fun q hq => Sm_pai hq) ?_)
  rw [e, apay_1, apay_1, vp_cell_i, vp_cell_i, arrV_store]
  congr 2
  funext q
  by_cases hq : q = i.toNatClampNeg
  · subst hq
    simp [updV, h_ai, p_ai, u2]
  · simp [updV, h_ai, p_ai, u2, hq]
theorem G_bast {r : Option Nat} {i v : Int32} {kk : Hp → Option (α × Hp)} (hdg : decode M.1 pc = .ok (.bastore, 1)) (k0 : ∀ y, G l z M okv en (pc + 1) lv st y (kk y)) : G l z M okv en pc lv (.int v :: .int i :: va_rf r :: st) x (asti r x 100 i v.toInt8.toInt32 kk) := by
  refine G_idx fun b hr hkb hi => ?_
  subst hr
  refine G_wr (y := p_ai x b i.toNatClampNeg v.toInt8.toInt32) rfl rfl (fun C hR hS k2 => ?_) (k0 _)
  obtain ⟨hx, hb, -, hown, hts, hnm, ⟨hK, -⟩, -⟩ := C
  have h1 := hR.at_arr (t := 0) hkb (by omega)
  refine W.bast hx hb h1 ((hK.2 0 _ rfl).1 (h_n x b) (fun j => .int (h_ai x b j))) (fun q => by cases q) (by show ¬ (i < 0 ∨ (arrV _ _ _).slots.size ≤ _); rw [arrV_size]; exact h_in hi) rfl rfl hdg fun H1 e zz oq => ?_
  refine (fun hh => k2 H1 _ hh.1 hh.2) (w_arr (t := 0) (y := p_ai x b i.toNatClampNeg v.toInt8.toInt32) (n := 0) (by omega) hR hkb hS zz oq rfl rfl (fun q hq => Sm_pai hq) ?_)
  rw [e, apay_0, apay_0, vp_cell_i, vp_cell_i, arrV_store]
  congr 2
  funext q
  by_cases hq : q = i.toNatClampNeg
  · subst hq
    simp [updV, h_ai, p_ai, u2, narrow]
  · simp [updV, h_ai, p_ai, u2, hq]
theorem G_last {r : Option Nat} {i : Int32} {v : Int64} {kk : Hp → Option (α × Hp)} (hdg : decode M.1 pc = .ok (.lastore, 1)) (k0 : ∀ y, G l z M okv en (pc + 1) lv st y (kk y)) : G l z M okv en pc lv (.long v :: .int i :: va_rf r :: st) x (astl r x 102 i v kk) := by
  refine G_idx fun b hr hkb hi => ?_
  subst hr
  refine G_wr (y := p_al x b i.toNatClampNeg v) rfl rfl (fun C hR hS k2 => ?_) (k0 _)
  obtain ⟨hx, hb, -, hown, hts, hnm, ⟨hK, -⟩, -⟩ := C
  have h1 := hR.at_arr (t := 2) hkb (by omega)
  refine W.last hx hb h1 ((hK.2 2 _ rfl).1 (h_n x b) (fun j => .long (h_al x b j))) (fun q => by cases q) (by show ¬ (i < 0 ∨ (arrV _ _ _).slots.size ≤ _); rw [arrV_size]; exact h_in hi) rfl rfl hdg fun H1 e zz oq => ?_
  refine (fun hh => k2 H1 _ hh.1 hh.2) (w_arr (t := 2) (y := p_al x b i.toNatClampNeg v) (n := 0) (by omega) hR hkb hS zz oq rfl rfl (fun q hq => Sm_pal hq) ?_)
  rw [e, apay_2, apay_2, vp_cell_l, vp_cell_l, arrV_store]
  congr 2
  funext q
  by_cases hq : q = i.toNatClampNeg
  · subst hq
    simp [updV, h_al, p_al, u2]
  · simp [updV, h_al, p_al, u2, hq]
end ROWSH
end
section
/-! ===== NEW CELLS, CALLS, CONTRACTS ===== -/
theorem Ev.warm {z : Nat → Nat} {D : va_G} {cA : Nat → ClassId} {b0 : Nat} {s U : State} {locs : List Loc} (hW : s.WarmedH U.vm) (hS : va_S (fun q => b0 ≤ q) s.heap U.heap locs) (h : Ev z D cA b0 s) : Ev z D cA b0 U := by
  refine ⟨va_K.moved hW.alike h.1, fun w hw => ?_, fun q hq => (h.2.2.1 q hq).warm hW, fun q hq => ((h.2.2.2.1 q hq).moved hW.alike).kept hS.2.1, fun C hC => (h.2.2.2.2.1 C hC).moved hW.alike, h.2.2.2.2.2.1.moved hW.alike, va_Nw.warmC hW h.2.2.2.2.2.2.1, fun y hy => Cond.privateMethod_warm hW (h.2.2.2.2.2.2.2 y hy)⟩
  have h1 := h.2.1 w hw
  have h2 := (List.mem_filter.mp hw).2
  cases w <;> first | exact va_Nw.warmM hW h1 | exact absurd h2 Bool.false_ne_true
theorem Ev.same {z : Nat → Nat} {D : va_G} {cA : Nat → ClassId} {b0 : Nat} {s U : State} (hv : s.vm = U.vm) (hh : U.heap = s.heap) (h : Ev z D cA b0 s) : Ev z D cA b0 U := by
  refine ⟨va_K.moved (by rw [hv]; exact Vm.Alike.refl _) h.1, fun w hw => ?_, fun q hq => (h.2.2.1 q hq).same hv.symm, fun q hq => by rw [hh]; exact (h.2.2.2.1 q hq).moved (by rw [hv]; exact Vm.Alike.refl _), fun C hC => (h.2.2.2.2.1 C hC).moved (by rw [hv]; exact Vm.Alike.refl _), h.2.2.2.2.2.1.moved (by rw [hv]; exact Vm.Alike.refl _), va_Nw.same rfl hv h.2.2.2.2.2.2.1, fun y hy => va_Nw.same rfl hv (h.2.2.2.2.2.2.2 y hy)⟩
  have h1 := h.2.1 w hw
  have h2 := (List.mem_filter.mp hw).2
  cases w <;> first | exact va_Nw.same rfl hv h1 | exact absurd h2 Bool.false_ne_true
/-- what a method asks: its arguments, the heap -/
def gPc (z : Nat → Nat) (D : va_G) (cA : Nat → ClassId) (b0 : Nat) (av : List Value) (x : Hp) : Array Value → State → Prop := va_Pc av (fun U => Rep D cA b0 U x U.heap ∧ Ev z D cA b0 U)
def gQc (D : va_G) (cA : Nat → ClassId) (b0 : Nat) (rv : Option Value) (xe : Hp) : Array Value → State → Outcome → State → Prop := fun _ st oc t => (oc = .returned rv ∧ Rep D cA b0 t xe t.heap) ∧ va_F (fun q => b0 ≤ q) st t
/-- a method's contract, as a function on maps -/
def Ct {α : Type} (l : Launch) (z : Nat → Nat) (y : MethodName) (b : ByteArray) (n : Nat) (ret : Option FieldType) (d : Nat) (en : α → Option Value) (av : List Value) (f : Hp → Option (α × Hp)) : Prop :=
  ∀ (x : Hp) (v : α) (xe : Hp), f x = some (v, xe) → (h_sz x ≤ h_sz xe ∧ h_sl x ≤ h_sl xe) ∧ ∀ (D : va_G) (cA : Nat → ClassId) (b0 : Nat),
    Met l y (.code y b n ret :: gT) ({ frames := d, cells := h_sz xe - h_sz x, slots := h_sl xe - h_sl x, locals := 64 * d }) (gPc z D cA b0 av x) (gQc D cA b0 (en v) xe) (h_sz xe - h_sz x) (h_sl xe - h_sl x) (fun q => b0 ≤ q)
theorem gPc_blind {z : Nat → Nat} {D : va_G} {cA : Nat → ClassId} {b0 : Nat} {av : List Value} {x : Hp} : FrameBlind (gPc z D cA b0 av x) := fun a U g mk h => ⟨h.1, Rep.moved (u := U) (U := U.calling g mk a) (Vm.Alike.refl U.vm) h.2.1, Ev.same (s := U) (U := U.calling g mk a) rfl rfl h.2.2⟩
theorem gPc_pre {z : Nat → Nat} {D : va_G} {cA : Nat → ClassId} {b0 : Nat} {av : List Value} {x : Hp} {s : State} {H : Heap} {locs : List Loc} (hR : Rep D cA b0 s x H) (hS : va_S (fun q => b0 ≤ q) s.heap H locs) (hE : Ev z D cA b0 s) : ∀ U : State, U.heap = H → s.WarmedH U.vm → gPc z D cA b0 av x av.toArray U := fun U hU hW => ⟨rfl, by rw [hU]; exact hR.moved hW.alike, hE.warm hW (locs := locs) (by rw [hU]; exact hS)⟩
section WC
variable {p : Program} {l : Launch} {e : Env} {R : Room} {s : State} {m : MethodId} {args : Array Value} {below : List Frame} {meth : Method} {c : Code} {H : Heap} {locs : List Loc} {cells slots : Nat} {Q : State → Prop}
variable {pc : Nat} {ls : Array Slot} {rest st0 : List Value} {D : va_G} {cA : Nat → ClassId} {b0 : Nat} {xe : Hp}
theorem w_call {rv : Option Value} {mc ms : Nat} {a : Array Value} (hr : va_Run p l e R s m args below meth c H locs cells slots mc ms (F0 m pc ls st0) rest (gQc D cA b0 rv xe a) (fun q => b0 ≤ q)) (hS : va_S (fun q => b0 ≤ q) s.heap H locs)
    (kk : ∀ (H1 : Heap) (locs1 : List Loc), Rep D cA b0 s xe H1 → va_S (fun q => b0 ≤ q) s.heap H1 locs1 → W p l e R s m args below meth c H1 locs1 (cells + mc) (slots + ms) Q (F0 m (pc + 3) ls (rv.toList ++ rest))) : W p l e R s m args below meth c H locs cells slots Q (F0 m pc ls st0) := by
  intro T hT X
  obtain ⟨v, st₀, t, T', L, h0, X', hL, e1, e2, ⟨⟨hv, hR⟩, hz, hk⟩, st⟩ := hr T hT X
  cases hv
  rw [h0] at hz hk
  obtain ⟨t2, a1, b1⟩ := kk T'.heap (locs ++ L) (by rw [e1]; exact hR.moved (by rw [← e2]; exact X'.warmed.alike.symm))
    ⟨Nat.le_trans hS.1 (by rw [e1]; exact hz), fun q h1 h2 => by rw [e1, hk q (Nat.lt_of_lt_of_le h1 hS.1) h2]; exact hS.2.1 q h1 h2, fun q hq => by
      rcases List.mem_append.mp hq with h | h
      · exact hS.2.2 q h
      · exact hL q h⟩ T' rfl X'
  exact ⟨t2, st t2 a1, b1⟩
end WC
section ROWSC
variable {α γ : Type} {l : Launch} {z : Nat → Nat} {M : Mt} {okv : α → Prop} {en : α → Option Value} {pc : Nat} {lv : List (Nat × Value)} {st : List Value} {x : Hp}
/-- a call, by its run -/
theorem G_call {eg : γ → Option Value} {y : MethodName} {b : ByteArray} {n' d' : Nat} {ret : Option FieldType} {av : List Value} {f : Hp → Option (γ × Hp)} {kk : γ → Hp → Option (α × Hp)} {rest : List Value} (hC : Ct l z y b n' ret d' eg av f)
    (hrun : ∀ {D : va_G} {cA : Nat → ClassId} {b0 : Nat} {p : Program} {e : Env} {R : Room} {s : State} {m : MethodId} {args : Array Value} {below : List Frame} {meth : Method} {c : Code} {H : Heap} {locs : List Loc} {cells slots : Nat} {ls : Array Slot} {mc ms : Nat} {Qc : Array Value → State → Outcome → State → Prop},
      Cx z M D cA b0 p R s m args meth c → Rep D cA b0 s x H → va_S (fun q => b0 ≤ q) s.heap H locs → lv_has ls M.2.2.2.1 lv → cells + mc ≤ R.cells → slots + ms ≤ R.slots → Met l y (.code y b n' ret :: gT) ({ frames := d', cells := mc, slots := ms, locals := 64 * d' }) (gPc z D cA b0 av x) Qc mc ms (fun q => b0 ≤ q) →
      va_Run p l e R s m args below meth c H locs cells slots mc ms (F0 m pc ls st) rest (Qc av.toArray) (fun q => b0 ≤ q))
    (k0 : ∀ v y, G l z M okv en (pc + 3) lv ((eg v).toList ++ rest) y (kk v y)) : G l z M okv en pc lv st x (bnd (f x) kk) := by
  intro v xe hE
  cases hf : f x with
  | none => rw [hf] at hE; cases hE
  | some r =>
    obtain ⟨w, x1⟩ := r
    rw [hf] at hE
    obtain ⟨⟨g1, g2⟩, hM⟩ := hC x w x1 hf
    obtain ⟨⟨g3, g4⟩, k⟩ := k0 w x1 v xe hE
    refine ⟨⟨by omega, by omega⟩, fun D cA b0 p e R s m args below meth c z0 s0 Q C h1 h2 hF H locs ls h3 h4 hR hS hl => ?_⟩
    refine w_call (hrun C hR hS hl (by omega) (by omega) (hM D cA b0)) hS fun H1 locs1 hR1 hS1 => ?_
    have := k D cA b0 p e R s m args below meth c z0 s0 Q C h1 h2 hF H1 locs1 ls (by omega) (by omega) hR1 hS1 hl
    rw [show h_sz x1 - z0 = h_sz x - z0 + (h_sz x1 - h_sz x) by omega, show h_sl x1 - s0 = h_sl x - s0 + (h_sl x1 - h_sl x) by omega] at this
    exact this
/-- a callee's name: its class, its parameters -/
def Yn (y : MethodName) (n : Nat) : Prop := y.cls ≠ "java/lang/invoke/MethodHandle" ∧ y.cls ≠ "java/lang/invoke/VarHandle" ∧ (parseMethodDescriptor y.desc).map (fun d => d.parameters.length) = some n
theorem gT_ws {y : MethodName} {b : ByteArray} {n' : Nat} {ret : Option FieldType} (h : Cond.code y b n' ret ∈ gT) : GoodIn gT (.code y b n' ret :: gT) := gT_goodIn _ (fun w hw => by
  rcases List.mem_cons.mp hw with rfl | hw
  · exact h
  · exact hw)
theorem G_callS {eg : γ → Option Value} {y : MethodName} {b : ByteArray} {n' d' i : Nat} {ret : Option FieldType} {av : List Value} {f : Hp → Option (γ × Hp)} {kk : γ → Hp → Option (α × Hp)} (rest : List Value) (hC : Ct l z y b n' ret d' eg av f)
    (hy : Yn y av.length) (hd : d' + 1 ≤ M.2.2.2.2.2) (hn : n' ≤ 45) (w1 : Cond.methodLink M.2.1 i y ∈ gT) (w2 : Cond.static y ∈ gT) (w3 : Cond.initialized y.cls ∈ gT) (w4 : Cond.code y b n' ret ∈ gT) (hst : st = av.reverse ++ rest) (hW : (rest.map fun v => v.category).sum ≤ 8) (hdg : decode M.1 pc = .ok (.invokestatic i, 3))
    (k0 : ∀ v y, G l z M okv en (pc + 3) lv ((eg v).toList ++ rest) y (kk v y)) : G l z M okv en pc lv st x (bnd (f x) kk) := by
  refine G_call (rest := rest) hC (fun C hR hS hl hc hs hM => ?_) k0
  obtain ⟨hx, hb, hml, hown, hts, hnm, hE, hf1, hf2⟩ := C
  exact va_runS (own := M.2.1) (Ts := gT) ⟨hx, hb, hml, hown, hts⟩ hM ⟨callB_of av.length hts (gT_ws w4) rfl rfl rfl (hts _ w3) (hts _ w1) hy ⟨Nat.le_trans hd hf1, Nat.le_trans (show 8 + (n' + 11) + 64 * d' ≤ 64 * M.2.2.2.2.2 by omega) hf2⟩, hts _ w2⟩ ⟨gPc_blind, gPc_pre hR hS hE⟩ rfl rfl hl.1 hst (lv_room hW) hdg ⟨hc, hs⟩
theorem G_callV {eg : γ → Option Value} {y : MethodName} {b : ByteArray} {n' d' i : Nat} {ret : Option FieldType} {av : List Value} {r : Option Nat} {f : Nat → Hp → Option (γ × Hp)} {kk : γ → Hp → Option (α × Hp)} {kd ci N : Nat} {C : String} {T : u_T} {ty : Nat → FieldType} (rest : List Value) (hC : ∀ q, Ct l z y b n' ret d' eg (.ref q :: av) (f q)) (hcl : Cl ci C T N ty) (hkd : kd = ci + 1)
    (hy : Yn y av.length) (hd : d' + 1 ≤ M.2.2.2.2.2) (hn : n' ≤ 45) (w1 : Cond.methodLink M.2.1 i y ∈ gT) (w2 : Cond.instanceMethod y ∈ gT) (w5 : Cond.selects C y y ∈ gT) (w3 : Cond.initialized y.cls ∈ gT) (w4 : Cond.code y b n' ret ∈ gT) (hst : st = av.reverse ++ va_rf r :: rest) (hW : (rest.map fun v => v.category).sum ≤ 8) (hdg : decode M.1 pc = .ok (.invokevirtual i, 3))
    (k0 : ∀ v y, G l z M okv en (pc + 3) lv ((eg v).toList ++ rest) y (kk v y)) : G l z M okv en pc lv st x (obj r x kd fun q => bnd (f q x) kk) := by
  refine G_obj fun q hr hkb => ?_
  subst hr; subst hkd
  refine G_call (rest := rest) (hC q) (fun C hR hS hl hc hs hM => ?_) k0
  obtain ⟨hx, hb, hml, hown, hts, hnm, hE, hf1, hf2⟩ := C
  exact va_runV (own := M.2.1) (Ts := gT) (b := q) (As := av) ⟨hx, hb, hml, hown, hts⟩ hM ⟨callB_of av.length hts (gT_ws w4) rfl rfl rfl (hts _ w3) (hts _ w1) hy ⟨Nat.le_trans hd hf1, Nat.le_trans (show 8 + (n' + 11) + 64 * d' ≤ 64 * M.2.2.2.2.2 by omega) hf2⟩, hts _ w2, hts _ w5⟩ ⟨gPc_blind, va_recv (q0 := 0) hE.1 (hR.at_obj hkb hcl.2.1) hcl.1 rfl, gPc_pre hR hS hE⟩ rfl rfl hl.1 hst (lv_room hW) hdg ⟨hc, hs⟩
theorem G_callI {y : MethodName} {b : ByteArray} {n' d' i kd : Nat} {av : List Value} {r : Option Nat} {f : Nat → Hp → Option (Unit × Hp)} {kk : Unit → Hp → Option (α × Hp)} (rest : List Value) (hC : ∀ q, Ct l z y b n' none d' (fun _ => none) (.ref q :: av) (f q)) (hy1 : y.name = "<init>")
    (hy : Yn y av.length) (hd : d' + 1 ≤ M.2.2.2.2.2) (hn : n' ≤ 45) (w1 : Cond.methodLink M.2.1 i y ∈ gT) (w2 : Cond.instanceMethod y ∈ gT) (w3 : Cond.initialized y.cls ∈ gT) (w4 : Cond.code y b n' none ∈ gT) (hst : st = av.reverse ++ va_rf r :: rest) (hW : (rest.map fun v => v.category).sum ≤ 8) (hdg : decode M.1 pc = .ok (.invokespecial i, 3))
    (k0 : ∀ y, G l z M okv en (pc + 3) lv rest y (kk () y)) : G l z M okv en pc lv st x (obj r x kd fun q => bnd (f q x) kk) := by
  refine G_obj fun q hr hkb => ?_
  subst hr
  refine G_call (rest := rest) (hC q) (fun C hR hS hl hc hs hM => ?_) (fun _ => k0)
  obtain ⟨hx, hb, hml, hown, hts, hnm, hE, hf1, hf2⟩ := C
  exact va_runI (own := M.2.1) (Ts := gT) (b := q) (As := av) ⟨hx, hb, hml, hown, hts⟩ hM ⟨callB_of av.length hts (gT_ws w4) rfl rfl rfl (hts _ w3) (hts _ w1) hy ⟨Nat.le_trans hd hf1, Nat.le_trans (show 8 + (n' + 11) + 64 * d' ≤ 64 * M.2.2.2.2.2 by omega) hf2⟩, hy1, hts _ w2⟩ ⟨gPc_blind, gPc_pre hR hS hE⟩ rfl rfl hl.1 hst (lv_room hW) hdg ⟨hc, hs⟩
/-- a private constructor of a nest mate -/
theorem G_callN {y : MethodName} {b : ByteArray} {n' d' i kd : Nat} {host : String} {av : List Value} {r : Option Nat} {f : Nat → Hp → Option (Unit × Hp)} {kk : Unit → Hp → Option (α × Hp)} (rest : List Value) (hC : ∀ q, Ct l z y b n' none d' (fun _ => none) (.ref q :: av) (f q)) (hy1 : y.name = "<init>")
    (hy : Yn y av.length) (hd : d' + 1 ≤ M.2.2.2.2.2) (hn : n' ≤ 45) (w1 : Cond.methodLinkNest M.2.1 i y host ∈ gNw) (w2 : Cond.instanceMethod y ∈ gT) (w3 : Cond.initialized y.cls ∈ gT) (w4 : Cond.code y b n' none ∈ gT) (hst : st = av.reverse ++ va_rf r :: rest) (hW : (rest.map fun v => v.category).sum ≤ 8) (hdg : decode M.1 pc = .ok (.invokespecial i, 3))
    (k0 : ∀ y, G l z M okv en (pc + 3) lv rest y (kk () y)) : G l z M okv en pc lv st x (obj r x kd fun q => bnd (f q x) kk) := by
  refine G_obj fun q hr hkb => ?_
  subst hr
  refine G_call (rest := rest) (hC q) (fun C hR hS hl hc hs hM => ?_) (fun _ => k0)
  obtain ⟨hx, hb, hml, hown, hts, hnm, hE, hf1, hf2⟩ := C
  exact va_runIN (own := M.2.1) (Ts := gT) (b := q) (As := av) ⟨hx, hb, hml, hown, hts⟩ hM ⟨va_cnB av.length hts (gT_ws w4) rfl rfl rfl (hE.2.1 _ w1) (hts _ w3) hy ⟨Nat.le_trans hd hf1, Nat.le_trans (show 8 + (n' + 11) + 64 * d' ≤ 64 * M.2.2.2.2.2 by omega) hf2⟩, hy1, hts _ w2⟩ ⟨gPc_blind, gPc_pre hR hS hE⟩ rfl rfl hl.1 hst (lv_room hW) hdg ⟨hc, hs⟩
theorem G_objInit {r : Option Nat} {i : Nat} {E : Nat → Option (α × Hp)} (w1 : Cond.methodLink M.2.1 i Lib.objectInit ∈ gT) (w2 : Cond.instanceMethod Lib.objectInit ∈ gT) (w3 : Cond.code Lib.objectInit ⟨#[0xb1]⟩ 1 none ∈ gT) (hd : 1 ≤ M.2.2.2.2.2) (hW : (st.map fun v => v.category).sum ≤ 8) (hdg : decode M.1 pc = .ok (.invokespecial i, 3))
    (k0 : ∀ q, G l z M okv en (pc + 3) lv st x (E q)) : G l z M okv en pc lv (va_rf r :: st) x (nn r E) := by
  refine G_nn fun q hr => ?_
  subst hr
  refine G_st (fun C hl k => ?_) (k0 q)
  obtain ⟨hx, hb, hml, hown, hts, hnm, hE, hf1, hf2⟩ := C
  refine W.objInit hx hb hown (hts _ w1) (hts _ w2) (hts _ w3) rfl (hl.1.trans hml.symm) rfl hdg (Nat.le_trans hd hf1) ?_ k
  have := lv_room (pc := pc) (ls := #[]) (rest := []) (m := ‹_›) hW
  have h0 : 2 * (F0 ‹_› pc ‹_› (va_rf (some q) :: st)).monitorRoom + (st.map fun v => v.category).sum ≤ 8 := lv_room hW
  omega
/-! new objects, new arrays -/
theorem G_new {i ci kd N : Nat} {C : String} {T : u_T} {ty : Nat → FieldType} {kk : Option Nat → Hp → Option (α × Hp)} (hc : Cl ci C T N ty) (hkd : kd = ci + 1) (w1 : Cond.classLink M.2.1 i C ∈ gT) (w2 : Cond.instantiable C N ∈ gT) (w3 : Cond.initialized C ∈ gT) (hdg : decode M.1 pc = .ok (.new i, 3))
    (k0 : ∀ r y, G l z M okv en (pc + 3) lv (va_rf r :: st) y (kk r y)) : G l z M okv en pc lv st x (newo x kd N kk) := by
  subst hkd
  refine G_mk (fun C0 hR hS hcl hsl k => ?_) (k0 (some (h_sz x)) (p_n x (ci + 1) 0 N))
  obtain ⟨hx, hb, hml, hown, hts, hnm, hE, hf1, hf2⟩ := C0
  obtain ⟨hcl', hci, hin, hty, hnm', hgl, hdf⟩ := hc
  have hKn := hE.1.1 ci _ hcl'
  refine W.newcK hx hb hown (hts _ w1) (hts _ w2) (hts _ w3) rfl hdg hcl hsl hKn.2.1 hR.1 fun H1 kC hkC e1 z1 o1 => ?_
  have hz : H1.size = _ + 1 := z1.trans (by rw [← hR.1])
  refine k H1 (hR.push hz (fun q hq => o1 q (by rw [← hR.1]; exact hq)) (by omega) ?_) ⟨Nat.le_trans hS.1 (by omega), fun q h1 h2 => (o1 q (by rw [← hR.1]; exact Nat.lt_of_lt_of_le h1 hS.1)).trans (hS.2.1 q h1 h2), hS.2.2⟩
  have hk : h_k (p_n x (ci + 1) 0 N) (h_sz x) = ci + 1 := by simp [h_k, p_n]
  rw [ent_obj hk hci, fsv_new]
  exact ⟨_, hcl', (u_born ty hts hin hKn hkC e1 hty).to hdf⟩
theorem Int32_nneg {n : Int32} (h : 0 ≤ n.toInt) : ¬ n < 0 := by
  rw [Int32.lt_iff_toInt_lt, Int32.toInt_zero]
  omega
theorem Int32_clamp {n : Int32} : n.toNatClampNeg = n.toInt.toNat := rfl
theorem w_pn {D : va_G} {cA : Nat → ClassId} {x : Hp} {H1 : Heap} {t n w : Nat} {q : (Nat → Int32) ⊕ (Nat → Int64) ⊕ (Nat → UInt32) ⊕ (Nat → UInt64) ⊕ (Nat → Option Nat)} (hq : apay (p_n x (100 + t) n w) t (h_sz x) = q) (h : H1[h_sz x]? = some (vp_cell (cA t) (n, q))) : va_at D vwCl (h_sz x, ent cA (p_n x (100 + t) n w) (h_sz x)) H1 := by
  have hk : h_k (p_n x (100 + t) n w) (h_sz x) = 100 + t := by simp [h_k, p_n]
  have hn : h_n (p_n x (100 + t) n w) (h_sz x) = n := by simp [h_n, p_n]
  rw [ent_arr hk, hn, hq]
  exact h
theorem G_newa {at_ : ArrayType} {t kd : Nat} {n : Int32} {kk : Option Nat → Hp → Option (α × Hp)} (hkd : kd = 100 + t) (ht : (t = 0 ∧ at_ = .byte) ∨ (t = 1 ∧ at_ = .int) ∨ (t = 2 ∧ at_ = .long)) (w1 : Cond.arrayClass (newarray.typeOf at_) ∈ gT) (hdg : decode M.1 pc = .ok (.newarray at_, 2))
    (k0 : ∀ r y, G l z M okv en (pc + 2) lv (va_rf r :: st) y (kk r y)) : G l z M okv en pc lv (.int n :: st) x (newa x kd n kk) := by
  subst hkd
  refine G_if (fun hn => ?_) (fun _ => G_none)
  have hcl : n.toNatClampNeg ≤ 60000000 := by rw [Int32_clamp]; omega
  refine G_mk (fun C0 hR hS hcl' hsl k => ?_) (k0 (some (h_sz x)) (p_n x (100 + t) n.toNatClampNeg n.toNatClampNeg))
  obtain ⟨hx, hb, hml, hown, hts, hnm, hE, hf1, hf2⟩ := C0
  refine va_newaK hx hb (hts _ w1) rfl hdg rfl (Int32_nneg hn.1) rfl (by rcases ht with ⟨-, rfl⟩ | ⟨-, rfl⟩ | ⟨-, rfl⟩ <;> simp only [newarray.typeOf, componentBytes] <;> omega) hcl' hsl hR.1 fun H1 cB e1 z1 o1 hAr hNm => ?_
  have hz : H1.size = _ + 1 := z1.trans (by rw [← hR.1])
  refine k H1 (hR.push hz (fun q hq => o1 q (by rw [← hR.1]; exact hq)) (by omega) ?_) ⟨Nat.le_trans hS.1 (by omega), fun q h1 h2 => (o1 q (by rw [← hR.1]; exact Nat.lt_of_lt_of_le h1 hS.1)).trans (hS.2.1 q h1 h2), hS.2.2⟩
  rcases ht with ⟨rfl, rfl⟩ | ⟨rfl, rfl⟩ | ⟨rfl, rfl⟩
  · have h2 : _ = some _ := (hE.1.2 0 _ rfl).2
    have h3 := Option.some.inj (hNm.symm.trans h2)
    subst h3
    exact w_pn (q := .inl (fun _ => 0)) (by rw [apay_0]; congr 1; funext j; simp [h_ai, p_n]) e1
  · have h2 : _ = some _ := (hE.1.2 1 _ rfl).2
    have h3 := Option.some.inj (hNm.symm.trans h2)
    subst h3
    exact w_pn (q := .inl (fun _ => 0)) (by rw [apay_1]; congr 1; funext j; simp [h_ai, p_n]) e1
  · have h2 : _ = some _ := (hE.1.2 2 _ rfl).2
    have h3 := Option.some.inj (hNm.symm.trans h2)
    subst h3
    exact w_pn (q := .inr (.inl (fun _ => 0))) (by rw [apay_2]; congr 2; funext j; simp [h_al, p_n]) e1
end ROWSC
end
section
/-! ===== ARRAYS OF REFERENCES, LENGTHS, AND THE CONTRACT OF A WALK ===== -/
section ROWSD
variable {α : Type} {l : Launch} {z : Nat → Nat} {M : Mt} {okv : α → Prop} {en : α → Option Value} {pc : Nat} {lv : List (Nat × Value)} {st : List Value} {x : Hp}
theorem w_len {a : Nat} {f : Nat → Value} {n : Nat} : (arrV a n f).slots.size.toInt32 = Int32.ofNat n := by rw [arrV_size] <;> rfl
theorem G_alen {r : Option Nat} {kd t : Nat} {kk : Int32 → Option (α × Hp)} (hkd : kd = 100 + t) (ht2 : t < 8) (hdg : decode M.1 pc = .ok (.arraylength, 1)) (k0 : ∀ v, G l z M okv en (pc + 1) lv (.int v :: st) x (kk v)) : G l z M okv en pc lv (va_rf r :: st) x (alen r x kd kk) := by
  refine G_obj fun b hr hkb => ?_
  subst hr; subst hkd
  refine G_rd (fun {D cA b0 p e R s m args below meth c H locs cells slots Q ls} C hR hS k2 => ?_) (k0 (Int32.ofNat (h_n x b)))
  obtain ⟨hx, hb, -, hown, hts, hnm, ⟨hK, -⟩, -⟩ := C
  have h1 := hR.at_arr hkb (by omega)
  have hP : va_P D vwCl [(b, .inl (cA t, (h_n x b, apay x t b)))] H := fun k q hq => by
    have hz : k < 1 := (List.getElem?_eq_some_iff.mp hq).1
    rw [show k = 0 by omega] at hq
    cases hq
    exact h1
  have go : ∀ ty : FieldType, (gTy cA)[t]? = some (cA t, ty) → W p l e R s m args below meth c H locs cells slots Q (F0 m pc ls (.ref b :: st)) := fun ty h => va_alen (ty := ty) hx hb hK hP 0 t rfl h rfl hdg k2
  rcases (show t = 0 ∨ t = 1 ∨ t = 2 ∨ t = 3 ∨ t = 4 ∨ t = 5 ∨ t = 6 ∨ t = 7 by omega) with rfl | rfl | rfl | rfl | rfl | rfl | rfl | rfl
  · exact go _ rfl
  · exact go _ rfl
  · exact go _ rfl
  · exact go _ rfl
  · exact go _ rfl
  · exact go _ rfl
  · exact go _ rfl
  · exact go _ rfl
/-- an object of class number ci into a row of such -/
theorem G_aast {r v : Option Nat} {i : Int32} {kd kv t ci N : Nat} {C : String} {T : u_T} {ty : Nat → FieldType} {kk : Hp → Option (α × Hp)} (hcl : Cl ci C T N ty) (hkd : kd = 100 + t) (hkv : kv = ci + 1) (ht : 2 < t) (ht2 : t < 7) (hty : ∀ cA, (gTy cA)[t]? = some (cA t, .object C)) (hdg : decode M.1 pc = .ok (.aastore, 1)) (k0 : ∀ y, G l z M okv en (pc + 1) lv st y (kk y)) : G l z M okv en pc lv (va_rf v :: .int i :: va_rf r :: st) x (astr r x kd kv i v kk) := by
  refine G_idx fun b hr hkb hi => ?_
  subst hr; subst hkd; subst hkv
  have fin : ∀ {w : Option Nat} {D : va_G} {cA : Nat → ClassId} {b0 : Nat} {s : State} {H H1 : Heap} {locs : List Loc}, Rep D cA b0 s x H → va_S (fun q => b0 ≤ q) s.heap H locs → H1[b]? = some ((vp_cell (cA t) (h_n x b, .inr (.inr (.inr (.inr (h_ar x b)))))).setSlot i.toNatClampNeg (va_rf w)) → H1.size = H.size → (∀ q, q ≠ b → H1[q]? = H[q]?) → Rep D cA b0 s (p_ar x b i.toNatClampNeg w) H1 ∧ va_S (fun q => b0 ≤ q) s.heap H1 (locs ++ [⟨b, i.toNatClampNeg⟩]) := by
    intro w D cA b0 s H H1 locs hR hS e zz oq
    refine w_arr (t := t) (y := p_ar x b i.toNatClampNeg w) (n := 0) (by omega) hR hkb hS zz oq rfl rfl (fun q hq => Sm_par hq) ?_
    rw [e, w_apay ht, vp_cell_q, vp_cell_q, arrV_store]
    congr 2
    funext q
    by_cases hq : q = i.toNatClampNeg
    · subst hq
      simp [updV, h_ar, p_ar, u2]
    · simp [updV, h_ar, p_ar, u2, hq]
  have hsz : ∀ (cB : ClassId), ¬ (i < 0 ∨ (arrV cB (h_n x b) (fun j => va_rf (h_ar x b j))).slots.size ≤ i.toNatClampNeg) := fun cB => by rw [arrV_size]; exact h_in hi
  cases v with
  | none =>
    refine G_wr (y := p_ar x b i.toNatClampNeg none) rfl rfl (fun {D cA b0 p e R s m args below meth c H locs cells slots Q ls} C0 hR hS k2 => ?_) (k0 _)
    obtain ⟨hx, hb, -, hown, hts, hnm, ⟨hK, -⟩, -⟩ := C0
    have h1 := hR.at_arr hkb (by omega)
    rw [w_apay ht] at h1
    exact va_WaastN (C := C) hx hb h1 ((hK.2 t _ (hty cA)).1 _ (fun j => va_rf (h_ar x b j))) (fun h => by cases h) (hsz _) rfl rfl hdg fun H1 e zz oq => (fun hh => k2 H1 _ hh.1 hh.2) (fin (w := none) hR hS e zz oq)
  | some v =>
    refine G_if (fun hkv => ?_) (fun _ => G_none)
    refine G_wr (y := p_ar x b i.toNatClampNeg (some v)) rfl rfl (fun {D cA b0 p e R s m args below meth c H locs cells slots Q ls} C0 hR hS k2 => ?_) (k0 _)
    obtain ⟨hx, hb, -, hown, hts, hnm, ⟨hK, -⟩, -⟩ := C0
    have h1 := hR.at_arr hkb (by omega)
    rw [w_apay ht] at h1
    obtain ⟨r', hr', cellV, g1, g2, g3, -⟩ := hR.at_obj hkv hcl.2.1 0 _ rfl
    have hcls := (hK.1 ci _ hcl.1).2
    obtain ⟨kA, comp, c1, c2, c3, -⟩ := (hK.2 t _ (hty cA)).2
    have hcomp : comp = D.1 ci := Option.some.inj (c3.symm.trans hcls.1)
    subst hcomp
    obtain ⟨kC, hkC, -⟩ := hcls.2
    exact W.aast hx hb h1 (fun q h => by cases h) (fun h => by cases h) c1 c2 rfl hkC ⟨fun q => h_in hi (Or.inl q), Nat.not_le.mp fun q => hsz (cA t) (Or.inr q)⟩ g1 (fun q h => by rw [g3] at h; cases h) (by rw [g2]; exact hkC) (by rw [g2]; exact va_assign hcls) rfl rfl hdg fun H1 e zz oq => (fun hh => k2 H1 _ hh.1 hh.2) (fin (w := some v) hR hS e zz oq)
theorem G_anew {C : String} {i t kd : Nat} {n : Int32} {kk : Option Nat → Hp → Option (α × Hp)} (hkd : kd = 100 + t) (ht : 2 < t) (ht2 : t < 7) (hty : ∀ cA, (gTy cA)[t]? = some (cA t, .object C)) (w1 : Cond.classLink M.2.1 i C ∈ gT) (w2 : C ∈ gAO) (hdg : decode M.1 pc = .ok (.anewarray i, 3))
    (k0 : ∀ r y, G l z M okv en (pc + 3) lv (va_rf r :: st) y (kk r y)) : G l z M okv en pc lv (.int n :: st) x (newa x kd n kk) := by
  subst hkd
  refine G_if (fun hn => ?_) (fun _ => G_none)
  have hcl : n.toNatClampNeg ≤ 60000000 := by rw [Int32_clamp]; omega
  refine G_mk (fun {D cA b0 p e R s m args below meth c H locs cells slots Q ls} C0 hR hS hcl' hsl k => ?_) (k0 (some (h_sz x)) (p_n x (100 + t) n.toNatClampNeg n.toNatClampNeg))
  obtain ⟨hx, hb, hml, hown, hts, hnm, hE, hf1, hf2⟩ := C0
  refine W.anew hx hb hown (hts _ w1) (va_AO.use (hE.2.2.2.2.1 C w2)) rfl hdg rfl (Int32_nneg hn.1) (by omega) hcl' hsl fun cB kA comp f1 f2 f3 f4 => ?_
  generalize hH1 : H.push ({ cls := cB, slots := Array.replicate n.toNatClampNeg .null, vm := .none } : Cell) = H1
  have z1 : H1.size = H.size + 1 := by rw [← hH1, Array.size_push]
  have e1 : H1[h_sz x]? = some (arrV cB n.toNatClampNeg (fun _ => .null)) := by rw [← hH1, ← hR.1, Array.getElem?_push_size, ← arrV_new]
  have o1 : ∀ q : Nat, q < H.size → H1[q]? = H[q]? := fun q hq => by rw [← hH1, Array.getElem?_push, if_neg (Nat.ne_of_lt hq)]
  obtain ⟨kA', comp', -, -, -, h2⟩ := (hE.1.2 t _ (hty cA)).2
  have h3 := Option.some.inj (f1.symm.trans h2)
  dsimp only at h3
  subst h3
  rw [hR.1]
  refine k H1 (hR.push z1 o1 (by omega) ?_) ⟨Nat.le_trans hS.1 (by omega), fun q h1 h2 => (o1 q (Nat.lt_of_lt_of_le h1 hS.1)).trans (hS.2.1 q h1 h2), hS.2.2⟩
  exact w_pn (q := .inr (.inr (.inr (.inr (fun _ => none))))) (by rw [w_apay ht]; congr 4; funext j; simp [h_ar, p_n]) e1
end ROWSD
/-! the contract out of the walk, by the kind of what is returned -/
section CTOF
variable {l : Launch} {z : Nat → Nat} {y : MethodName} {b : ByteArray} {n d : Nat} {av : List Value}
theorem ct_of {α : Type} {okv : α → Prop} {en : α → Option Value} {ri : Instr} {ret : Option FieldType} {f : Hp → Option (α × Hp)} (hG : ∀ x, G l z (b, y.cls, y.name, n, ri, d) okv en 0 (lv_args 0 av) [] x (f x)) (hy : plainName y.cls = true) (hs : (lg_sl av).length ≤ n)
    (hret : ∀ {p : Program} {e : Env} {R : Room} {s : State} {m : MethodId} {args : Array Value} {below : List Frame} {meth : Method} {c : Code} {H : Heap} {locs : List Loc} {cells slots : Nat} {Qc : Array Value → State → Outcome → State → Prop} {free : Addr → Prop} {v : α} {pc : Nat} {ls : Array Slot}, okv v → p.tables.exec = Jvm.exec → c.code = b → meth.sig.returnType = ret → meth.locks = false → (∀ t : State, t.heap = H → s.WarmedH t.vm → Qc args s (.returned (en v)) t) → (∀ q ∈ locs, free q.base) → decode b pc = .ok (ri, 1) → W p l e R s m args below meth c H locs cells slots (MQ below Qc args s cells slots free) (F0 m pc ls (en v).toList)) : Ct l z y b n ret d en av f := by
  intro x v xe hE
  obtain ⟨h0, k⟩ := hG x v xe hE
  refine ⟨h0, fun D cA b0 => Met.ofW (cc := b) (maxL := n) (ret := ret) hy rfl ?_⟩
  intro p e s m args below meth c s₁ B hml hv
  obtain ⟨rfl, hR, hEv⟩ := hv
  have hts := atoms_spec (ws := .code y b n ret :: gT) B.pre
  have hl := lv_entry av (n := n) hs
  rw [lg_entry_eq]
  generalize (lg_sl av ++ List.replicate (n - (lg_sl av).length) Slot.unset).toArray = ls at hl ⊢
  have h1 := k D cA b0 p e (headSpec (.code y b n ret :: gT) ({ frames := d, cells := h_sz xe - h_sz x, slots := h_sl xe - h_sl x, locals := 64 * d })).room s m av.toArray below meth c (h_sz x) (h_sl x) (MQ below (gQc D cA b0 (en v) xe) av.toArray s (h_sz xe - h_sz x) (h_sl xe - h_sl x) (fun q => b0 ≤ q))
    ⟨B.exec, B.bytes, hml, findClass_of_methodNamed B.named, fun w hw => hts w (List.mem_cons_of_mem _ hw), (name_of_methodNamed B.named B.method).1, hEv, Nat.le_refl _, Nat.le_refl _⟩ (Nat.le_refl _) (Nat.le_refl _)
    (fun pc H locs ls ok hdg hR' hS' => hret ok B.exec B.bytes B.returns B.notSynchronized (fun t ht hW => ⟨⟨rfl, by rw [ht]; exact hR'.moved hW.alike⟩, hS'.F ht⟩) hS'.2.2 hdg) s.heap [] ls (Nat.le_refl _) (Nat.le_refl _) hR va_S.rf hl
  rw [Nat.sub_self, Nat.sub_self] at h1
  exact h1
theorem Ct_i {f : Hp → Option (Int32 × Hp)} (hG : ∀ x, G l z (b, y.cls, y.name, n, .ireturn, d) (fun _ => True) (fun v => some (.int v)) 0 (lv_args 0 av) [] x (f x)) (hy : plainName y.cls = true) (hs : (lg_sl av).length ≤ n) : Ct l z y b n (some .int) d (fun v : Int32 => some (.int v)) av f :=
  ct_of hG hy hs (fun _ hx hb hr hlk hq hf hdg => W.iret hx hb hr hq hf hdg hlk)
theorem Ct_z {f : Hp → Option (Int32 × Hp)} (hG : ∀ x, G l z (b, y.cls, y.name, n, .ireturn, d) (fun v => v = 0 ∨ v = 1) (fun v => some (.int v)) 0 (lv_args 0 av) [] x (f x)) (hy : plainName y.cls = true) (hs : (lg_sl av).length ≤ n) : Ct l z y b n (some .boolean) d (fun v : Int32 => some (.int v)) av f :=
  ct_of hG hy hs (fun ok hx hb hr hlk hq hf hdg => W.zret hx hb hr (nar_bool ok).1 hq hf hdg hlk)
theorem Ct_v {f : Hp → Option (Unit × Hp)} (hG : ∀ x, G l z (b, y.cls, y.name, n, .return_, d) (fun _ => True) (fun _ => none) 0 (lv_args 0 av) [] x (f x)) (hy : plainName y.cls = true) (hs : (lg_sl av).length ≤ n) : Ct l z y b n none d (fun _ : Unit => none) av f :=
  ct_of hG hy hs (fun _ hx hb hr hlk hq hf hdg => W.vret hx hb hr hq hf hdg hlk)
theorem Ct_r {C : String} {f : Hp → Option (Option Nat × Hp)} (hG : ∀ x, G l z (b, y.cls, y.name, n, .areturn, d) (fun _ => True) (fun v => some (va_rf v)) 0 (lv_args 0 av) [] x (f x)) (hy : plainName y.cls = true) (hs : (lg_sl av).length ≤ n) : Ct l z y b n (some (.object C)) d (fun v : Option Nat => some (va_rf v)) av f :=
  ct_of hG hy hs (fun {p e R s m args below meth c H locs cells slots Qc free v pc ls} _ hx hb hr hlk hq hf hdg => W.aret hx hb hr (Or.inl ⟨_, rfl⟩) (by cases v with | none => exact Or.inl rfl | some a => exact Or.inr ⟨a, rfl⟩) hq hf hdg hlk)
theorem Ct_ra {T : FieldType} {f : Hp → Option (Option Nat × Hp)} (hG : ∀ x, G l z (b, y.cls, y.name, n, .areturn, d) (fun _ => True) (fun v => some (va_rf v)) 0 (lv_args 0 av) [] x (f x)) (hy : plainName y.cls = true) (hs : (lg_sl av).length ≤ n) : Ct l z y b n (some (.array T)) d (fun v : Option Nat => some (va_rf v)) av f :=
  ct_of hG hy hs (fun {p e R s m args below meth c H locs cells slots Qc free v pc ls} _ hx hb hr hlk hq hf hdg => W.aret hx hb hr (Or.inr ⟨_, rfl⟩) (by cases v with | none => exact Or.inl rfl | some a => exact Or.inr ⟨a, rfl⟩) hq hf hdg hlk)
theorem Ct_l {f : Hp → Option (Int64 × Hp)} (hG : ∀ x, G l z (b, y.cls, y.name, n, .lreturn, d) (fun _ => True) (fun v => some (.long v)) 0 (lv_args 0 av) [] x (f x)) (hy : plainName y.cls = true) (hs : (lg_sl av).length ≤ n) : Ct l z y b n (some .long) d (fun v : Int64 => some (.long v)) av f :=
  ct_of hG hy hs (fun _ hx hb hr hlk hq hf hdg => W.lret hx hb hr hq hf hdg hlk)
theorem Ct_d {f : Hp → Option (UInt64 × Hp)} (hG : ∀ x, G l z (b, y.cls, y.name, n, .dreturn, d) (fun _ => True) (fun v => some (.double v)) 0 (lv_args 0 av) [] x (f x)) (hy : plainName y.cls = true) (hs : (lg_sl av).length ≤ n) : Ct l z y b n (some .double) d (fun v : UInt64 => some (.double v)) av f :=
  ct_of hG hy hs (fun _ hx hb hr hlk hq hf hdg => W.dret hx hb hr hq hf hdg hlk)
end CTOF
theorem lgl_n : (lg_sl []).length = 0 := rfl
theorem lgl_i {v : Int32} {l : List Value} : (lg_sl (.int v :: l)).length = (lg_sl l).length + 1 := by simp [lg_sl, Value.category]
theorem lgl_o {v : Nat} {l : List Value} : (lg_sl (.ref v :: l)).length = (lg_sl l).length + 1 := by simp [lg_sl, Value.category]
theorem lgl_r {v : Option Nat} {l : List Value} : (lg_sl (va_rf v :: l)).length = (lg_sl l).length + 1 := by cases v <;> simp [lg_sl, va_rf, Value.category]
theorem lgl_j {v : Int64} {l : List Value} : (lg_sl (.long v :: l)).length = (lg_sl l).length + 2 := by simp [lg_sl, Value.category]
theorem lva_n {i : Nat} : lv_args i [] = [] := rfl
theorem lva_i {i : Nat} {v : Int32} {l : List Value} : lv_args i (.int v :: l) = (i, .int v) :: lv_args (i + 1) l := by simp [lv_args, Value.category]
theorem lva_o {i : Nat} {v : Nat} {l : List Value} : lv_args i (.ref v :: l) = (i, va_rf (some v)) :: lv_args (i + 1) l := by simp [lv_args, Value.category, va_rf]
theorem lva_r {i : Nat} {v : Option Nat} {l : List Value} : lv_args i (va_rf v :: l) = (i, va_rf v) :: lv_args (i + 1) l := by cases v <;> simp [lv_args, va_rf, Value.category]
theorem lva_j {i : Nat} {v : Int64} {l : List Value} : lv_args i (.long v :: l) = (i, .long v) :: lv_args (i + 2) l := by simp [lv_args, Value.category]
theorem hw_n : (([] : List Value).map fun v => v.category).sum = 0 := rfl
theorem hw_i {v : Int32} {l : List Value} : ((Value.int v :: l).map fun v => v.category).sum = 1 + (l.map fun v => v.category).sum := by simp [Value.category]
theorem hw_r {v : Option Nat} {l : List Value} : ((va_rf v :: l).map fun v => v.category).sum = 1 + (l.map fun v => v.category).sum := by cases v <;> simp [va_rf, Value.category]
theorem hw_j {v : Int64} {l : List Value} : ((Value.long v :: l).map fun v => v.category).sum = 2 + (l.map fun v => v.category).sum := by simp [Value.category]
theorem hw_d {v : UInt64} {l : List Value} : ((Value.double v :: l).map fun v => v.category).sum = 2 + (l.map fun v => v.category).sum := by simp [Value.category]
/-! rows of rows of ints; cells from before -/
section ROWSE
variable {α : Type} {l : Launch} {z : Nat → Nat} {M : Mt} {okv : α → Prop} {en : α → Option Value} {pc : Nat} {lv : List (Nat × Value)} {st : List Value} {x : Hp}
theorem G_anewA {i : Nat} {n : Int32} {kk : Option Nat → Hp → Option (α × Hp)} (w1 : Cond.classLink M.2.1 i "[I" ∈ gT) (hdg : decode M.1 pc = .ok (.anewarray i, 3))
    (k0 : ∀ r y, G l z M okv en (pc + 3) lv (va_rf r :: st) y (kk r y)) : G l z M okv en pc lv (.int n :: st) x (newa x 107 n kk) := by
  refine G_if (fun hn => ?_) (fun _ => G_none)
  have hcl : n.toNatClampNeg ≤ 60000000 := by rw [Int32_clamp]; omega
  refine G_mk (fun {D cA b0 p e R s m args below meth c H locs cells slots Q ls} C0 hR hS hcl' hsl k => ?_) (k0 (some (h_sz x)) (p_n x (100 + 7) n.toNatClampNeg n.toNatClampNeg))
  obtain ⟨hx, hb, hml, hown, hts, hnm, hE, hf1, hf2⟩ := C0
  refine W.anewA (t := .int) hx hb hown (hts _ w1) (over_moved (Vm.Alike.refl _) hE.2.2.2.2.2.1) rfl hdg rfl (Int32_nneg hn.1) (by omega) hcl' hsl fun cB kA comp f1 f2 f3 f4 => ?_
  generalize hH1 : H.push ({ cls := cB, slots := Array.replicate n.toNatClampNeg .null, vm := .none } : Cell) = H1
  have z1 : H1.size = H.size + 1 := by rw [← hH1, Array.size_push]
  have e1 : H1[h_sz x]? = some (arrV cB n.toNatClampNeg (fun _ => .null)) := by rw [← hH1, ← hR.1, Array.getElem?_push_size, ← arrV_new]
  have o1 : ∀ q : Nat, q < H.size → H1[q]? = H[q]? := fun q hq => by rw [← hH1, Array.getElem?_push, if_neg (Nat.ne_of_lt hq)]
  have h2 : s.vm.findClass ("[" ++ (FieldType.array .int).toString) = some (cA 7) := (hE.1.2 7 _ rfl).2
  have h3 := Option.some.inj (f1.symm.trans h2)
  subst h3
  rw [hR.1]
  refine k H1 (hR.push z1 o1 (by omega) ?_) ⟨Nat.le_trans hS.1 (by omega), fun q h1 h2 => (o1 q (Nat.lt_of_lt_of_le h1 hS.1)).trans (hS.2.1 q h1 h2), hS.2.2⟩
  exact w_pn (q := .inr (.inr (.inr (.inr (fun _ => none))))) (by rw [w_apay (by omega)]; congr 4; funext j; simp [h_ar, p_n]) e1
theorem G_aastA {r v : Option Nat} {i : Int32} {kk : Hp → Option (α × Hp)} (hdg : decode M.1 pc = .ok (.aastore, 1)) (k0 : ∀ y, G l z M okv en (pc + 1) lv st y (kk y)) : G l z M okv en pc lv (va_rf v :: .int i :: va_rf r :: st) x (nn v fun _ => astr r x 107 101 i v kk) := by
  refine G_nn fun w hw => ?_
  subst hw
  refine G_idx fun b hr hkb hi => ?_
  subst hr
  have hsz : ∀ (cB : ClassId), ¬ (i < 0 ∨ (arrV cB (h_n x b) (fun j => va_rf (h_ar x b j))).slots.size ≤ i.toNatClampNeg) := fun cB => by rw [arrV_size]; exact h_in hi
  refine G_if (fun hkv => ?_) (fun _ => G_none)
  refine G_wr (y := p_ar x b i.toNatClampNeg (some w)) rfl rfl (fun {D cA b0 p e R s m args below meth c H locs cells slots Q ls} C0 hR hS k2 => ?_) (k0 _)
  obtain ⟨hx, hb, -, hown, hts, hnm, hE, -⟩ := C0
  have hK := hE.1
  have h1 := hR.at_arr (t := 7) hkb (by omega)
  rw [w_apay (by omega)] at h1
  have h2 := hR.at_arr (t := 1) hkv (by omega)
  obtain ⟨comp, c7, k7, g1, -, g3, g4, g5⟩ := arrayOverA_spec hE.2.2.2.2.2.1
  have h7 : s.vm.findClass ("[" ++ (FieldType.array .int).toString) = some (cA 7) := (hK.2 7 _ rfl).2
  have h1' : s.vm.findClass ("[" ++ FieldType.int.toString) = some (cA 1) := (hK.2 1 _ rfl).2
  have e7 := Option.some.inj (g5.symm.trans h7)
  have e1 : comp = cA 1 := Option.some.inj (g1.symm.trans h1')
  subst e7; subst e1
  obtain ⟨kC, hkC, -⟩ := Vm.findClass_spec g1
  refine W.aast hx hb h1 (fun q h => by cases h) (fun h => by cases h) g3 g4 rfl hkC ⟨fun q => h_in hi (Or.inl q), Nat.not_le.mp fun q => hsz (cA 7) (Or.inr q)⟩ h2 (fun q h => by cases h) hkC (va_asg _ _) rfl rfl hdg fun H1 e zz oq => ?_
  refine (fun hh => k2 H1 _ hh.1 hh.2) (w_arr (t := 7) (y := p_ar x b i.toNatClampNeg (some w)) (n := 0) (by omega) hR hkb hS zz oq rfl rfl (fun q hq => Sm_par hq) ?_)
  rw [e, w_apay (by omega), vp_cell_q, vp_cell_q, arrV_store]
  congr 2
  funext q
  by_cases hq : q = i.toNatClampNeg
  · subst hq
    simp [updV, h_ar, p_ar, u2, va_rf]
  · simp [updV, h_ar, p_ar, u2, hq]
theorem G_ialdO {r : Option Nat} {i : Int32} {kk : Int32 → Option (α × Hp)} (hdg : decode M.1 pc = .ok (.iaload, 1)) (k0 : ∀ v, G l z M okv en (pc + 1) lv (.int v :: st) x (kk v)) : G l z M okv en pc lv (.int i :: va_rf r :: st) x (aldi r x 301 i kk) := by
  refine G_idx fun b hr hkb hi => ?_
  subst hr
  refine G_rd (fun C hR hS k2 => ?_) (k0 (h_ai x b i.toNatClampNeg))
  obtain ⟨cell, h1, h2, h3, h4, h5, h6, -⟩ := ((hR.2.2 b).2 (by omega)).2.2.2 hkb
  have hlt : i.toNatClampNeg < h_n x b := Nat.not_le.mp fun q => h_in hi (Or.inr q)
  exact W.iald (v := .int (h_ai x b i.toNatClampNeg)) C.1 C.2.1 h1 h2 h3 (fun q => q.elim (fun q => h_in hi (Or.inl q)) (fun q => by omega)) (h6 _ hlt) rfl rfl hdg k2
theorem G_baldO {r : Option Nat} {i : Int32} {kk : Int32 → Option (α × Hp)} (hdg : decode M.1 pc = .ok (.baload, 1)) (k0 : ∀ v, G l z M okv en (pc + 1) lv (.int v :: st) x (kk v)) : G l z M okv en pc lv (.int i :: va_rf r :: st) x (aldi r x 300 i kk) := by
  refine G_idx fun b hr hkb hi => ?_
  subst hr
  refine G_rd (fun C hR hS k2 => ?_) (k0 (h_ai x b i.toNatClampNeg))
  obtain ⟨cell, h1, h2, h3, h4, h5, h6, -⟩ := ((hR.2.2 b).2 (by omega)).2.2.1 hkb
  have hlt : i.toNatClampNeg < h_n x b := Nat.not_le.mp fun q => h_in hi (Or.inr q)
  exact W.bald (v := .int (h_ai x b i.toNatClampNeg)) C.1 C.2.1 h1 h2 h3 (fun q => q.elim (fun q => h_in hi (Or.inl q)) (fun q => by omega)) (h6 _ hlt) rfl rfl hdg k2
theorem G_alenO {r : Option Nat} {kk : Int32 → Option (α × Hp)} (hdg : decode M.1 pc = .ok (.arraylength, 1)) (k0 : ∀ v, G l z M okv en (pc + 1) lv (.int v :: st) x (kk v)) : G l z M okv en pc lv (va_rf r :: st) x (alen r x 301 kk) := by
  refine G_obj fun b hr hkb => ?_
  subst hr
  refine G_rd (fun C hR hS k2 => ?_) (k0 (Int32.ofNat (h_n x b)))
  obtain ⟨cell, h1, h2, h3, h4, h5, h6, -⟩ := ((hR.2.2 b).2 (by omega)).2.2.2 hkb
  exact W.alen C.1 C.2.1 h1 h2 h5 rfl rfl hdg k2
/-- a division of doubles that isn't NaN -/
def nnan {β : Type} (v : UInt64) (k : Option β) : Option β := if v &&& 0x7fffffffffffffff ≤ 0x7ff0000000000000 then k else none
theorem G_ddiv {a b : UInt64} {E : Option (α × Hp)} (hdg : decode M.1 pc = .ok (.ddiv, 1)) (k : G l z M okv en (pc + 1) lv (.double (FP.ddiv a b) :: st) x E) : G l z M okv en pc lv (.double b :: .double a :: st) x (nnan (FP.ddiv a b) E) :=
  G_if (fun hne => G_st (fun C _ k => lv_ddiv C.1 C.2.1 hdg hne k) k) (fun _ => G_none)
theorem G_mmin {i : Nat} {a b : Int32} {E : Option (α × Hp)} (w1 : Cond.methodLink M.2.1 i Lib.Math.min.name ∈ gT) (w2 : Cond.static Lib.Math.min.name ∈ gT) (w3 : Cond.initialized "java/lang/Math" ∈ gT) (w4 : Cond.code Lib.Math.min.name Lib.Math.min.code 2 (some .int) ∈ gT) (hd : 1 ≤ M.2.2.2.2.2) (hW : (st.map fun v => v.category).sum ≤ 8) (hdg : decode M.1 pc = .ok (.invokestatic i, 3)) (k : G l z M okv en (pc + 3) lv (.int (if b < a then b else a) :: st) x E) : G l z M okv en pc lv (.int b :: .int a :: st) x E := by
  intro v xe hE
  obtain ⟨h0, k⟩ := k v xe hE
  refine ⟨h0, fun D cA b0 p e R s m args below meth c z0 s0 Q C h1 h2 hF H locs ls h3 h4 hR hS hl => ?_⟩
  have k1 := k D cA b0 p e R s m args below meth c z0 s0 Q C h1 h2 hF H locs ls h3 h4 hR hS hl
  obtain ⟨hx, hb, hml, hown, hts, hnm, hE, hf1, hf2⟩ := C
  exact va_mmin hx hb (hml.trans hl.1.symm) hown (hts _ w1) (hts _ w2) (hts _ w3) (hts _ w4) (Nat.le_trans hd hf1) (by omega) (by omega) (by omega) hdg k1
theorem G_mmax {i : Nat} {a b : Int32} {E : Option (α × Hp)} (w1 : Cond.methodLink M.2.1 i Lib.Math.max.name ∈ gT) (w2 : Cond.static Lib.Math.max.name ∈ gT) (w3 : Cond.initialized "java/lang/Math" ∈ gT) (w4 : Cond.code Lib.Math.max.name Lib.Math.max.code 2 (some .int) ∈ gT) (hd : 1 ≤ M.2.2.2.2.2) (hW : (st.map fun v => v.category).sum ≤ 8) (hdg : decode M.1 pc = .ok (.invokestatic i, 3)) (k : G l z M okv en (pc + 3) lv (.int (if a < b then b else a) :: st) x E) : G l z M okv en pc lv (.int b :: .int a :: st) x E := by
  intro v xe hE
  obtain ⟨h0, k⟩ := k v xe hE
  refine ⟨h0, fun D cA b0 p e R s m args below meth c z0 s0 Q C h1 h2 hF H locs ls h3 h4 hR hS hl => ?_⟩
  have k1 := k D cA b0 p e R s m args below meth c z0 s0 Q C h1 h2 hF H locs ls h3 h4 hR hS hl
  obtain ⟨hx, hb, hml, hown, hts, hnm, hE, hf1, hf2⟩ := C
  exact va_mmax hx hb (hml.trans hl.1.symm) hown (hts _ w1) (hts _ w2) (hts _ w3) (hts _ w4) (Nat.le_trans hd hf1) (by omega) (by omega) (by omega) hdg k1
end ROWSE
end
section
abbrev okT {α : Type} : α → Prop := fun _ => True
abbrev okZ : Int32 → Prop := fun v => v = 0 ∨ v = 1
abbrev enI : Int32 → Option Value := fun v => some (.int v)
abbrev enL : Int64 → Option Value := fun v => some (.long v)
abbrev enD : UInt64 → Option Value := fun v => some (.double v)
abbrev enR : Option Nat → Option Value := fun v => some (va_rf v)
abbrev enV : Unit → Option Value := fun _ => none
theorem i32_ne {a b : Int32} (h : ¬ a = b) : a.toInt ≠ b.toInt := fun e => h (Int32.toInt_inj.mp e)
theorem G_lv0 {α : Type} {l : Launch} {z : Nat → Nat} {M : Mt} {okv : α → Prop} {en : α → Option Value} {pc : Nat} {lv lv' : List (Nat × Value)} {st : List Value} {x : Hp} {E : Option (α × Hp)} (h : lv = lv') (k : G l z M okv en pc lv' st x E) : G l z M okv en pc lv st x E := h ▸ k
theorem gw_s1 : Cond.selects RX10 yX10_countNow yX10_countNow ∈ gT := gT_in 1 (by decide +kernel) (by decide +kernel)
theorem gw_s2 : Cond.selects RX6 yX6_sumOverLanes yX6_sumOverLanes ∈ gT := gT_in 2 (by decide +kernel) (by decide +kernel)
theorem gw_s3 : Cond.selects RX4 yX4_slotOf yX4_slotOf ∈ gT := gT_in 3 (by decide +kernel) (by decide +kernel)
theorem gw_s4 : Cond.selects RX6 yX6_obey yX6_obey ∈ gT := gT_in 4 (by decide +kernel) (by decide +kernel)
theorem gw_s5 : Cond.selects RX6 yX6_reckon yX6_reckon ∈ gT := gT_in 5 (by decide +kernel) (by decide +kernel)
theorem gw_s6 : Cond.selects RX6 yX6_step yX6_step ∈ gT := gT_in 6 (by decide +kernel) (by decide +kernel)
theorem gw_s7 : Cond.selects RX6 yX6_letFolkCome yX6_letFolkCome ∈ gT := gT_in 7 (by decide +kernel) (by decide +kernel)
theorem gw_s8 : Cond.selects RX6 yX6_sendPails yX6_sendPails ∈ gT := gT_in 8 (by decide +kernel) (by decide +kernel)
theorem gw_s9 : Cond.selects RX6 yX6_whoSends yX6_whoSends ∈ gT := gT_in 9 (by decide +kernel) (by decide +kernel)
theorem gw_s10 : Cond.selects RX2 yX2_isLetSend yX2_isLetSend ∈ gT := gT_in 10 (by decide +kernel) (by decide +kernel)
theorem gw_s11 : Cond.selects RX12 yX12_holds yX12_holds ∈ gT := gT_in 11 (by decide +kernel) (by decide +kernel)
theorem gw_s12 : Cond.selects RX12 yX12_value yX12_value ∈ gT := gT_in 12 (by decide +kernel) (by decide +kernel)
theorem gw_s13 : Cond.selects RX9 yX9_scanToken yX9_scanToken ∈ gT := gT_in 13 (by decide +kernel) (by decide +kernel)
theorem gw_s14 : Cond.selects RX9 yX9_add yX9_add ∈ gT := gT_in 14 (by decide +kernel) (by decide +kernel)
theorem gw_s15 : Cond.selects RX9 yX9_scanWord yX9_scanWord ∈ gT := gT_in 15 (by decide +kernel) (by decide +kernel)
theorem gw_s16 : Cond.selects RX9 yX9_kindOfWord yX9_kindOfWord ∈ gT := gT_in 16 (by decide +kernel) (by decide +kernel)
theorem gw_s17 : Cond.selects RX9 yX9_scanNumber yX9_scanNumber ∈ gT := gT_in 17 (by decide +kernel) (by decide +kernel)
theorem gw_s18 : Cond.selects RX9 yX9_scanSymbol yX9_scanSymbol ∈ gT := gT_in 18 (by decide +kernel) (by decide +kernel)
theorem gw_s19 : Cond.selects RX5 yX5_kind yX5_kind ∈ gT := gT_in 19 (by decide +kernel) (by decide +kernel)
theorem gw_s20 : Cond.selects RX5 yX5_number yX5_number ∈ gT := gT_in 20 (by decide +kernel) (by decide +kernel)
theorem gw_s21 : Cond.selects RX5 yX5_fail yX5_fail ∈ gT := gT_in 21 (by decide +kernel) (by decide +kernel)
theorem gw_s22 : Cond.selects RX5 yX5_blame yX5_blame ∈ gT := gT_in 22 (by decide +kernel) (by decide +kernel)
theorem gw_s23 : Cond.selects RX5 yX5_readLane yX5_readLane ∈ gT := gT_in 23 (by decide +kernel) (by decide +kernel)
theorem gw_s24 : Cond.selects RX5 yX5_newName yX5_newName ∈ gT := gT_in 24 (by decide +kernel) (by decide +kernel)
theorem gw_s25 : Cond.selects RX5 yX5_takes yX5_takes ∈ gT := gT_in 25 (by decide +kernel) (by decide +kernel)
theorem gw_s26 : Cond.selects RX5 yX5_toldLane yX5_toldLane ∈ gT := gT_in 26 (by decide +kernel) (by decide +kernel)
theorem gw_s27 : Cond.selects RX5 yX5_need yX5_need ∈ gT := gT_in 27 (by decide +kernel) (by decide +kernel)
theorem gw_s28 : Cond.selects RX5 yX5_readFolk yX5_readFolk ∈ gT := gT_in 28 (by decide +kernel) (by decide +kernel)
theorem gw_s29 : Cond.selects RX5 yX5_readOrder yX5_readOrder ∈ gT := gT_in 29 (by decide +kernel) (by decide +kernel)
theorem gw_s30 : Cond.selects RX5 yX5_sum yX5_sum ∈ gT := gT_in 30 (by decide +kernel) (by decide +kernel)
theorem gw_s31 : Cond.selects RX5 yX5_product yX5_product ∈ gT := gT_in 31 (by decide +kernel) (by decide +kernel)
theorem gw_s32 : Cond.selects RX5 yX5_value yX5_value ∈ gT := gT_in 32 (by decide +kernel) (by decide +kernel)
theorem gw_s33 : Cond.selects RX5 yX5_enters yX5_enters ∈ gT := gT_in 33 (by decide +kernel) (by decide +kernel)
theorem gw_s34 : Cond.selects RX5 yX5_pair yX5_pair ∈ gT := gT_in 34 (by decide +kernel) (by decide +kernel)
theorem gw_s35 : Cond.selects RX5 yX5_test yX5_test ∈ gT := gT_in 35 (by decide +kernel) (by decide +kernel)
theorem gw_s36 : Cond.selects RX5 yX5_both yX5_both ∈ gT := gT_in 36 (by decide +kernel) (by decide +kernel)
theorem gw_s37 : Cond.selects RX5 yX5_single yX5_single ∈ gT := gT_in 37 (by decide +kernel) (by decide +kernel)
theorem gw_38 : Cond.initialized RL ∈ gT := gT_in 38 (by decide +kernel) (by decide +kernel)
theorem gw_39 : Cond.initialized RX10 ∈ gT := gT_in 39 (by decide +kernel) (by decide +kernel)
theorem gw_40 : Cond.initialized RX8 ∈ gT := gT_in 40 (by decide +kernel) (by decide +kernel)
theorem gw_41 : Cond.initialized RX5 ∈ gT := gT_in 41 (by decide +kernel) (by decide +kernel)
theorem gw_42 : Cond.initialized RX6 ∈ gT := gT_in 42 (by decide +kernel) (by decide +kernel)
theorem gw_43 : Cond.initialized RX0 ∈ gT := gT_in 43 (by decide +kernel) (by decide +kernel)
theorem gw_44 : Cond.initialized RX3 ∈ gT := gT_in 44 (by decide +kernel) (by decide +kernel)
theorem gw_45 : Cond.initialized RX7 ∈ gT := gT_in 45 (by decide +kernel) (by decide +kernel)
theorem gw_46 : Cond.initialized RX2 ∈ gT := gT_in 46 (by decide +kernel) (by decide +kernel)
theorem gw_47 : Cond.initialized RX4 ∈ gT := gT_in 47 (by decide +kernel) (by decide +kernel)
theorem gw_48 : Cond.initialized RX1 ∈ gT := gT_in 48 (by decide +kernel) (by decide +kernel)
theorem gw_49 : Cond.initialized RX9 ∈ gT := gT_in 49 (by decide +kernel) (by decide +kernel)
theorem gw_50 : Cond.initialized RJ0 ∈ gT := gT_in 50 (by decide +kernel) (by decide +kernel)
theorem gw_51 : Cond.initialized RJ1 ∈ gT := gT_in 51 (by decide +kernel) (by decide +kernel)
theorem gw_52 : Cond.initialized RJ3 ∈ gT := gT_in 52 (by decide +kernel) (by decide +kernel)
theorem gw_54 : Cond.initialized RX12 ∈ gT := gT_in 54 (by decide +kernel) (by decide +kernel)
theorem gw_55 : Cond.initialized RX11 ∈ gT := gT_in 55 (by decide +kernel) (by decide +kernel)
theorem gw_56 : Cond.initialized RJ5 ∈ gT := gT_in 56 (by decide +kernel) (by decide +kernel)
theorem gw_57 : Cond.initialized RJ4 ∈ gT := gT_in 57 (by decide +kernel) (by decide +kernel)
theorem gw_58 : Cond.initialized RJ8 ∈ gT := gT_in 58 (by decide +kernel) (by decide +kernel)
theorem gw_59 : Cond.initialized RJ9 ∈ gT := gT_in 59 (by decide +kernel) (by decide +kernel)
theorem gw_60 : Cond.initialized RJ7 ∈ gT := gT_in 60 (by decide +kernel) (by decide +kernel)
theorem gw_61 : Cond.initialized RJ10 ∈ gT := gT_in 61 (by decide +kernel) (by decide +kernel)
theorem gw_62 : Cond.initialized RJ6 ∈ gT := gT_in 62 (by decide +kernel) (by decide +kernel)
theorem gw_69 : Cond.classLink RL 20 RX10 ∈ gT := gT_in 69 (by decide +kernel) (by decide +kernel)
theorem gw_70 : Cond.instantiable RX10 5 ∈ gT := gT_in 70 (by decide +kernel) (by decide +kernel)
theorem gw_71 : Cond.methodLink RL 127 yX10_init ∈ gT := gT_in 71 (by decide +kernel) (by decide +kernel)
theorem gw_72 : Cond.instanceMethod yX10_init ∈ gT := gT_in 72 (by decide +kernel) (by decide +kernel)
set_option maxRecDepth 100000 in
theorem gw_73 : Cond.code yX10_init cX10_init 2 none ∈ gT := gT_in 73 rfl rfl
theorem gw_74 : Cond.methodLink RX10 1 Lib.objectInit ∈ gT := gT_in 74 (by decide +kernel) (by decide +kernel)
theorem gw_75 : Cond.instanceMethod Lib.objectInit ∈ gT := gT_in 75 (by decide +kernel) (by decide +kernel)
set_option maxRecDepth 100000 in
theorem gw_76 : Cond.code Lib.objectInit ⟨#[0xb1]⟩ 1 none ∈ gT := gT_in 76 rfl rfl
theorem gw_77 : Cond.classLink RX10 7 RX8 ∈ gT := gT_in 77 (by decide +kernel) (by decide +kernel)
theorem gw_78 : Cond.instantiable RX8 2 ∈ gT := gT_in 78 (by decide +kernel) (by decide +kernel)
theorem gn_79 : Cond.methodLinkNest RX10 9 yX8_init RX10 ∈ gNw := List.mem_filter.mpr ⟨List.mem_of_getElem? (i := 41) (by decide +kernel), rfl⟩
theorem gw_80 : Cond.instanceMethod yX8_init ∈ gT := gT_in 80 (by decide +kernel) (by decide +kernel)
set_option maxRecDepth 100000 in
theorem gw_81 : Cond.code yX8_init cX8_init 1 none ∈ gT := gT_in 81 rfl rfl
theorem gw_82 : Cond.methodLink RX8 3 Lib.objectInit ∈ gT := gT_in 82 (by decide +kernel) (by decide +kernel)
theorem gw_83 : Cond.fieldLink RX8 9 RX8 "bytes" "[B" ∈ gT := gT_in 83 (by decide +kernel) (by decide +kernel)
theorem gw_84 : Cond.fieldLink RX10 42 RX8 "length" "I" ∈ gT := gT_in 84 (by decide +kernel) (by decide +kernel)
theorem gw_85 : Cond.fieldLink RX8 15 RX8 "length" "I" ∈ gT := gT_in 85 (by decide +kernel) (by decide +kernel)
theorem gw_86 : Cond.fieldLink RX9 56 RX8 "length" "I" ∈ gT := gT_in 86 (by decide +kernel) (by decide +kernel)
theorem gw_92 : Cond.arrayClass .byte ∈ gT := gT_in 92 (by decide +kernel) (by decide +kernel)
theorem gw_93 : Cond.classLink RX10 16 RX5 ∈ gT := gT_in 93 (by decide +kernel) (by decide +kernel)
theorem gw_94 : Cond.instantiable RX5 7 ∈ gT := gT_in 94 (by decide +kernel) (by decide +kernel)
theorem gn_95 : Cond.methodLinkNest RX10 18 yX5_init RX10 ∈ gNw := List.mem_filter.mpr ⟨List.mem_of_getElem? (i := 57) (by decide +kernel), rfl⟩
theorem gw_96 : Cond.instanceMethod yX5_init ∈ gT := gT_in 96 (by decide +kernel) (by decide +kernel)
set_option maxRecDepth 100000 in
theorem gw_97 : Cond.code yX5_init cX5_init 1 none ∈ gT := gT_in 97 rfl rfl
theorem gw_98 : Cond.methodLink RX5 3 Lib.objectInit ∈ gT := gT_in 98 (by decide +kernel) (by decide +kernel)
theorem gw_99 : Cond.classLink RX5 9 RX6 ∈ gT := gT_in 99 (by decide +kernel) (by decide +kernel)
theorem gw_100 : Cond.instantiable RX6 11 ∈ gT := gT_in 100 (by decide +kernel) (by decide +kernel)
theorem gw_101 : Cond.classLink RX5 11 RX0 ∈ gT := gT_in 101 (by decide +kernel) (by decide +kernel)
theorem gw_102 : Cond.instantiable RX0 5 ∈ gT := gT_in 102 (by decide +kernel) (by decide +kernel)
theorem gw_103 : Cond.methodLink RX5 13 yX0_init ∈ gT := gT_in 103 (by decide +kernel) (by decide +kernel)
theorem gw_104 : Cond.instanceMethod yX0_init ∈ gT := gT_in 104 (by decide +kernel) (by decide +kernel)
set_option maxRecDepth 100000 in
theorem gw_105 : Cond.code yX0_init cX0_init 2 none ∈ gT := gT_in 105 rfl rfl
theorem gw_106 : Cond.methodLink RX0 3 Lib.objectInit ∈ gT := gT_in 106 (by decide +kernel) (by decide +kernel)
theorem gw_107 : Cond.classLink RX0 18 RX3 ∈ gT := gT_in 107 (by decide +kernel) (by decide +kernel)
theorem gw_109 : Cond.instantiable RX3 5 ∈ gT := gT_in 109 (by decide +kernel) (by decide +kernel)
theorem gn_110 : Cond.methodLinkNest RX0 24 yX3_init RX10 ∈ gNw := List.mem_filter.mpr ⟨List.mem_of_getElem? (i := 72) (by decide +kernel), rfl⟩
theorem gw_111 : Cond.instanceMethod yX3_init ∈ gT := gT_in 111 (by decide +kernel) (by decide +kernel)
set_option maxRecDepth 100000 in
theorem gw_112 : Cond.code yX3_init cX3_init 1 none ∈ gT := gT_in 112 rfl rfl
theorem gw_113 : Cond.methodLink RX3 1 Lib.objectInit ∈ gT := gT_in 113 (by decide +kernel) (by decide +kernel)
theorem gw_114 : Cond.fieldLink RX3 7 RX3 "kind" "I" ∈ gT := gT_in 114 (by decide +kernel) (by decide +kernel)
theorem gw_115 : Cond.fieldLink RX0 47 RX3 "kind" "I" ∈ gT := gT_in 115 (by decide +kernel) (by decide +kernel)
theorem gw_116 : Cond.fieldLink RX6 140 RX3 "kind" "I" ∈ gT := gT_in 116 (by decide +kernel) (by decide +kernel)
theorem gw_117 : Cond.fieldLink RX3 13 RX3 "lane" "I" ∈ gT := gT_in 117 (by decide +kernel) (by decide +kernel)
theorem gw_118 : Cond.fieldLink RX0 50 RX3 "lane" "I" ∈ gT := gT_in 118 (by decide +kernel) (by decide +kernel)
theorem gw_119 : Cond.fieldLink RX6 125 RX3 "lane" "I" ∈ gT := gT_in 119 (by decide +kernel) (by decide +kernel)
theorem gw_120 : Cond.fieldLink RX3 16 RX3 "sumFrom" "I" ∈ gT := gT_in 120 (by decide +kernel) (by decide +kernel)
theorem gw_121 : Cond.fieldLink RX0 53 RX3 "sumFrom" "I" ∈ gT := gT_in 121 (by decide +kernel) (by decide +kernel)
theorem gw_122 : Cond.fieldLink RX6 147 RX3 "sumFrom" "I" ∈ gT := gT_in 122 (by decide +kernel) (by decide +kernel)
theorem gw_123 : Cond.fieldLink RX3 19 RX3 "testFrom" "I" ∈ gT := gT_in 123 (by decide +kernel) (by decide +kernel)
theorem gw_124 : Cond.fieldLink RX0 56 RX3 "testFrom" "I" ∈ gT := gT_in 124 (by decide +kernel) (by decide +kernel)
theorem gw_125 : Cond.fieldLink RX6 130 RX3 "testFrom" "I" ∈ gT := gT_in 125 (by decide +kernel) (by decide +kernel)
theorem gw_126 : Cond.fieldLink RX3 22 RX3 "end" "I" ∈ gT := gT_in 126 (by decide +kernel) (by decide +kernel)
theorem gw_127 : Cond.fieldLink RX0 59 RX3 "end" "I" ∈ gT := gT_in 127 (by decide +kernel) (by decide +kernel)
theorem gw_128 : Cond.fieldLink RX6 133 RX3 "end" "I" ∈ gT := gT_in 128 (by decide +kernel) (by decide +kernel)
theorem gw_140 : Cond.arrayClass .int ∈ gT := gT_in 140 (by decide +kernel) (by decide +kernel)
theorem gw_141 : Cond.fieldLink RX0 9 RX0 "signs" "[I" ∈ gT := gT_in 141 (by decide +kernel) (by decide +kernel)
theorem gw_142 : Cond.fieldLink RX6 164 RX0 "signs" "[I" ∈ gT := gT_in 142 (by decide +kernel) (by decide +kernel)
theorem gw_143 : Cond.fieldLink RX0 15 RX0 "details" "[I" ∈ gT := gT_in 143 (by decide +kernel) (by decide +kernel)
theorem gw_144 : Cond.fieldLink RX6 168 RX0 "details" "[I" ∈ gT := gT_in 144 (by decide +kernel) (by decide +kernel)
theorem gw_145 : Cond.fieldLink RX0 25 RX0 "length" "I" ∈ gT := gT_in 145 (by decide +kernel) (by decide +kernel)
theorem gw_146 : Cond.fieldLink RX5 140 RX0 "length" "I" ∈ gT := gT_in 146 (by decide +kernel) (by decide +kernel)
theorem gw_147 : Cond.fieldLink RX0 29 RX0 "orderCount" "I" ∈ gT := gT_in 147 (by decide +kernel) (by decide +kernel)
theorem gw_148 : Cond.fieldLink RX5 134 RX0 "orderCount" "I" ∈ gT := gT_in 148 (by decide +kernel) (by decide +kernel)
theorem gw_149 : Cond.fieldLink RX6 96 RX0 "orderCount" "I" ∈ gT := gT_in 149 (by decide +kernel) (by decide +kernel)
theorem gw_150 : Cond.fieldLink RX0 20 RX0 "orders" "[LBucketBrigade$Order;" ∈ gT := gT_in 150 (by decide +kernel) (by decide +kernel)
theorem gw_162 : Cond.methodLink RX5 14 yX6_init ∈ gT := gT_in 162 (by decide +kernel) (by decide +kernel)
theorem gw_163 : Cond.instanceMethod yX6_init ∈ gT := gT_in 163 (by decide +kernel) (by decide +kernel)
set_option maxRecDepth 100000 in
theorem gw_164 : Cond.code yX6_init cX6_init 3 none ∈ gT := gT_in 164 rfl rfl
theorem gw_165 : Cond.methodLink RX6 3 Lib.objectInit ∈ gT := gT_in 165 (by decide +kernel) (by decide +kernel)
theorem gw_166 : Cond.classLink RX6 9 RX2 ∈ gT := gT_in 166 (by decide +kernel) (by decide +kernel)
theorem gw_168 : Cond.classLink RX6 17 RX1 ∈ gT := gT_in 168 (by decide +kernel) (by decide +kernel)
theorem gw_170 : Cond.classLink RX6 23 RX7 ∈ gT := gT_in 170 (by decide +kernel) (by decide +kernel)
theorem gw_171 : Cond.instantiable RX7 2 ∈ gT := gT_in 171 (by decide +kernel) (by decide +kernel)
theorem gn_172 : Cond.methodLinkNest RX6 25 yX7_init RX10 ∈ gNw := List.mem_filter.mpr ⟨List.mem_of_getElem? (i := 134) (by decide +kernel), rfl⟩
theorem gw_173 : Cond.instanceMethod yX7_init ∈ gT := gT_in 173 (by decide +kernel) (by decide +kernel)
set_option maxRecDepth 100000 in
theorem gw_174 : Cond.code yX7_init cX7_init 1 none ∈ gT := gT_in 174 rfl rfl
theorem gw_175 : Cond.methodLink RX7 3 Lib.objectInit ∈ gT := gT_in 175 (by decide +kernel) (by decide +kernel)
theorem gw_176 : Cond.fieldLink RX7 9 RX7 "numbers" "[I" ∈ gT := gT_in 176 (by decide +kernel) (by decide +kernel)
theorem gw_177 : Cond.fieldLink RX7 15 RX7 "height" "I" ∈ gT := gT_in 177 (by decide +kernel) (by decide +kernel)
theorem gw_183 : Cond.instantiable RX2 18 ∈ gT := gT_in 183 (by decide +kernel) (by decide +kernel)
theorem gw_184 : Cond.methodLink RX6 38 yX2_init ∈ gT := gT_in 184 (by decide +kernel) (by decide +kernel)
theorem gw_185 : Cond.instanceMethod yX2_init ∈ gT := gT_in 185 (by decide +kernel) (by decide +kernel)
set_option maxRecDepth 100000 in
theorem gw_186 : Cond.code yX2_init cX2_init 2 none ∈ gT := gT_in 186 rfl rfl
theorem gw_187 : Cond.methodLink RX2 3 Lib.objectInit ∈ gT := gT_in 187 (by decide +kernel) (by decide +kernel)
theorem gw_188 : Cond.classLink RX2 9 RX4 ∈ gT := gT_in 188 (by decide +kernel) (by decide +kernel)
theorem gw_189 : Cond.instantiable RX4 3 ∈ gT := gT_in 189 (by decide +kernel) (by decide +kernel)
theorem gn_190 : Cond.methodLinkNest RX2 11 yX4_init RX10 ∈ gNw := List.mem_filter.mpr ⟨List.mem_of_getElem? (i := 152) (by decide +kernel), rfl⟩
theorem gw_191 : Cond.instanceMethod yX4_init ∈ gT := gT_in 191 (by decide +kernel) (by decide +kernel)
set_option maxRecDepth 100000 in
theorem gw_192 : Cond.code yX4_init cX4_init 1 none ∈ gT := gT_in 192 rfl rfl
theorem gw_193 : Cond.methodLink RX4 3 Lib.objectInit ∈ gT := gT_in 193 (by decide +kernel) (by decide +kernel)
theorem gw_194 : Cond.fieldLink RX4 15 RX4 "size" "I" ∈ gT := gT_in 194 (by decide +kernel) (by decide +kernel)
theorem gw_195 : Cond.fieldLink RX2 86 RX4 "size" "I" ∈ gT := gT_in 195 (by decide +kernel) (by decide +kernel)
theorem gw_196 : Cond.fieldLink RX10 106 RX4 "size" "I" ∈ gT := gT_in 196 (by decide +kernel) (by decide +kernel)
theorem gw_197 : Cond.fieldLink RX6 229 RX4 "size" "I" ∈ gT := gT_in 197 (by decide +kernel) (by decide +kernel)
theorem gw_198 : Cond.fieldLink RX4 9 RX4 "minutes" "[I" ∈ gT := gT_in 198 (by decide +kernel) (by decide +kernel)
theorem gw_199 : Cond.fieldLink RX4 19 RX4 "front" "I" ∈ gT := gT_in 199 (by decide +kernel) (by decide +kernel)
theorem gw_207 : Cond.fieldLink RX2 18 RX2 "number" "I" ∈ gT := gT_in 207 (by decide +kernel) (by decide +kernel)
theorem gw_208 : Cond.fieldLink RX6 75 RX2 "number" "I" ∈ gT := gT_in 208 (by decide +kernel) (by decide +kernel)
theorem gw_209 : Cond.fieldLink RX5 106 RX2 "number" "I" ∈ gT := gT_in 209 (by decide +kernel) (by decide +kernel)
theorem gw_210 : Cond.fieldLink RX10 139 RX2 "number" "I" ∈ gT := gT_in 210 (by decide +kernel) (by decide +kernel)
theorem gw_211 : Cond.fieldLink RX2 12 RX2 "queue" "LBucketBrigade$Queue;" ∈ gT := gT_in 211 (by decide +kernel) (by decide +kernel)
theorem gw_212 : Cond.fieldLink RX10 102 RX2 "queue" "LBucketBrigade$Queue;" ∈ gT := gT_in 212 (by decide +kernel) (by decide +kernel)
theorem gw_213 : Cond.fieldLink RX6 225 RX2 "queue" "LBucketBrigade$Queue;" ∈ gT := gT_in 213 (by decide +kernel) (by decide +kernel)
theorem gw_214 : Cond.fieldLink RX2 22 RX2 "over" "LBucketBrigade$Lane;" ∈ gT := gT_in 214 (by decide +kernel) (by decide +kernel)
theorem gw_215 : Cond.fieldLink RX6 71 RX2 "over" "LBucketBrigade$Lane;" ∈ gT := gT_in 215 (by decide +kernel) (by decide +kernel)
theorem gw_216 : Cond.fieldLink RX10 142 RX2 "over" "LBucketBrigade$Lane;" ∈ gT := gT_in 216 (by decide +kernel) (by decide +kernel)
theorem gw_217 : Cond.fieldLink RX2 26 RX2 "rate" "I" ∈ gT := gT_in 217 (by decide +kernel) (by decide +kernel)
theorem gw_218 : Cond.fieldLink RX6 112 RX2 "rate" "I" ∈ gT := gT_in 218 (by decide +kernel) (by decide +kernel)
theorem gw_219 : Cond.fieldLink RX10 168 RX2 "rate" "I" ∈ gT := gT_in 219 (by decide +kernel) (by decide +kernel)
theorem gw_220 : Cond.fieldLink RX2 29 RX2 "most" "I" ∈ gT := gT_in 220 (by decide +kernel) (by decide +kernel)
theorem gw_221 : Cond.fieldLink RX6 158 RX2 "most" "I" ∈ gT := gT_in 221 (by decide +kernel) (by decide +kernel)
theorem gw_222 : Cond.fieldLink RX10 173 RX2 "most" "I" ∈ gT := gT_in 222 (by decide +kernel) (by decide +kernel)
theorem gw_223 : Cond.fieldLink RX2 45 RX2 "tokens" "I" ∈ gT := gT_in 223 (by decide +kernel) (by decide +kernel)
theorem gw_224 : Cond.fieldLink RX10 163 RX2 "tokens" "I" ∈ gT := gT_in 224 (by decide +kernel) (by decide +kernel)
theorem gw_225 : Cond.fieldLink RX2 48 RX2 "sent" "I" ∈ gT := gT_in 225 (by decide +kernel) (by decide +kernel)
theorem gw_226 : Cond.fieldLink RX6 234 RX2 "sent" "I" ∈ gT := gT_in 226 (by decide +kernel) (by decide +kernel)
theorem gw_227 : Cond.fieldLink RX10 200 RX2 "sent" "I" ∈ gT := gT_in 227 (by decide +kernel) (by decide +kernel)
theorem gw_228 : Cond.fieldLink RX2 51 RX2 "lost" "I" ∈ gT := gT_in 228 (by decide +kernel) (by decide +kernel)
theorem gw_229 : Cond.fieldLink RX10 151 RX2 "lost" "I" ∈ gT := gT_in 229 (by decide +kernel) (by decide +kernel)
theorem gw_230 : Cond.fieldLink RX6 237 RX2 "lost" "I" ∈ gT := gT_in 230 (by decide +kernel) (by decide +kernel)
theorem gw_231 : Cond.fieldLink RX2 57 RX2 "borrowed" "I" ∈ gT := gT_in 231 (by decide +kernel) (by decide +kernel)
theorem gw_232 : Cond.fieldLink RX6 240 RX2 "borrowed" "I" ∈ gT := gT_in 232 (by decide +kernel) (by decide +kernel)
theorem gw_233 : Cond.fieldLink RX2 60 RX2 "waited" "I" ∈ gT := gT_in 233 (by decide +kernel) (by decide +kernel)
theorem gw_234 : Cond.fieldLink RX10 203 RX2 "waited" "I" ∈ gT := gT_in 234 (by decide +kernel) (by decide +kernel)
theorem gw_235 : Cond.fieldLink RX2 77 RX2 "shut" "Z" ∈ gT := gT_in 235 (by decide +kernel) (by decide +kernel)
theorem gw_236 : Cond.fieldLink RX6 143 RX2 "shut" "Z" ∈ gT := gT_in 236 (by decide +kernel) (by decide +kernel)
theorem gw_237 : Cond.fieldLink RX2 32 RX2 "burst" "I" ∈ gT := gT_in 237 (by decide +kernel) (by decide +kernel)
theorem gw_238 : Cond.fieldLink RX2 35 RX2 "rank" "I" ∈ gT := gT_in 238 (by decide +kernel) (by decide +kernel)
theorem gw_239 : Cond.fieldLink RX2 38 RX2 "holds" "I" ∈ gT := gT_in 239 (by decide +kernel) (by decide +kernel)
theorem gw_240 : Cond.fieldLink RX2 41 RX2 "dropsOld" "Z" ∈ gT := gT_in 240 (by decide +kernel) (by decide +kernel)
theorem gw_241 : Cond.fieldLink RX2 54 RX2 "lent" "I" ∈ gT := gT_in 241 (by decide +kernel) (by decide +kernel)
theorem gw_242 : Cond.fieldLink RX2 80 RX2 "ownInMinute" "I" ∈ gT := gT_in 242 (by decide +kernel) (by decide +kernel)
theorem gw_243 : Cond.fieldLink RX2 83 RX2 "allInMinute" "I" ∈ gT := gT_in 243 (by decide +kernel) (by decide +kernel)
theorem gw_281 : Cond.instantiable RX1 5 ∈ gT := gT_in 281 (by decide +kernel) (by decide +kernel)
theorem gn_282 : Cond.methodLinkNest RX6 41 yX1_init RX10 ∈ gNw := List.mem_filter.mpr ⟨List.mem_of_getElem? (i := 244) (by decide +kernel), rfl⟩
theorem gw_283 : Cond.instanceMethod yX1_init ∈ gT := gT_in 283 (by decide +kernel) (by decide +kernel)
set_option maxRecDepth 100000 in
theorem gw_284 : Cond.code yX1_init cX1_init 1 none ∈ gT := gT_in 284 rfl rfl
theorem gw_285 : Cond.methodLink RX1 1 Lib.objectInit ∈ gT := gT_in 285 (by decide +kernel) (by decide +kernel)
theorem gw_286 : Cond.fieldLink RX1 7 RX1 "lane" "I" ∈ gT := gT_in 286 (by decide +kernel) (by decide +kernel)
theorem gw_287 : Cond.fieldLink RX6 193 RX1 "lane" "I" ∈ gT := gT_in 287 (by decide +kernel) (by decide +kernel)
theorem gw_288 : Cond.fieldLink RX1 13 RX1 "many" "I" ∈ gT := gT_in 288 (by decide +kernel) (by decide +kernel)
theorem gw_289 : Cond.fieldLink RX6 194 RX1 "many" "I" ∈ gT := gT_in 289 (by decide +kernel) (by decide +kernel)
theorem gw_290 : Cond.fieldLink RX1 22 RX1 "brought" "I" ∈ gT := gT_in 290 (by decide +kernel) (by decide +kernel)
theorem gw_291 : Cond.fieldLink RX6 201 RX1 "brought" "I" ∈ gT := gT_in 291 (by decide +kernel) (by decide +kernel)
theorem gw_292 : Cond.fieldLink RX1 16 RX1 "every" "I" ∈ gT := gT_in 292 (by decide +kernel) (by decide +kernel)
theorem gw_293 : Cond.fieldLink RX1 19 RX1 "from" "I" ∈ gT := gT_in 293 (by decide +kernel) (by decide +kernel)
theorem gw_305 : Cond.fieldLink RX6 30 RX6 "book" "LBucketBrigade$Book;" ∈ gT := gT_in 305 (by decide +kernel) (by decide +kernel)
theorem gw_306 : Cond.fieldLink RX5 45 RX6 "book" "LBucketBrigade$Book;" ∈ gT := gT_in 306 (by decide +kernel) (by decide +kernel)
theorem gw_307 : Cond.fieldLink RX10 76 RX6 "book" "LBucketBrigade$Book;" ∈ gT := gT_in 307 (by decide +kernel) (by decide +kernel)
theorem gw_308 : Cond.fieldLink RX6 42 RX6 "minute" "I" ∈ gT := gT_in 308 (by decide +kernel) (by decide +kernel)
theorem gw_309 : Cond.fieldLink RX10 61 RX6 "minute" "I" ∈ gT := gT_in 309 (by decide +kernel) (by decide +kernel)
theorem gw_310 : Cond.fieldLink RX6 34 RX6 "well" "I" ∈ gT := gT_in 310 (by decide +kernel) (by decide +kernel)
theorem gw_311 : Cond.fieldLink RX5 70 RX6 "well" "I" ∈ gT := gT_in 311 (by decide +kernel) (by decide +kernel)
theorem gw_312 : Cond.fieldLink RX10 178 RX6 "well" "I" ∈ gT := gT_in 312 (by decide +kernel) (by decide +kernel)
theorem gw_313 : Cond.fieldLink RX6 45 RX6 "laneCount" "I" ∈ gT := gT_in 313 (by decide +kernel) (by decide +kernel)
theorem gw_314 : Cond.fieldLink RX5 88 RX6 "laneCount" "I" ∈ gT := gT_in 314 (by decide +kernel) (by decide +kernel)
theorem gw_315 : Cond.fieldLink RX10 146 RX6 "laneCount" "I" ∈ gT := gT_in 315 (by decide +kernel) (by decide +kernel)
theorem gw_316 : Cond.fieldLink RX6 48 RX6 "folkCount" "I" ∈ gT := gT_in 316 (by decide +kernel) (by decide +kernel)
theorem gw_317 : Cond.fieldLink RX5 122 RX6 "folkCount" "I" ∈ gT := gT_in 317 (by decide +kernel) (by decide +kernel)
theorem gw_318 : Cond.fieldLink RX6 11 RX6 "lanes" "[LBucketBrigade$Lane;" ∈ gT := gT_in 318 (by decide +kernel) (by decide +kernel)
theorem gw_319 : Cond.fieldLink RX6 19 RX6 "folks" "[LBucketBrigade$Folk;" ∈ gT := gT_in 319 (by decide +kernel) (by decide +kernel)
theorem gw_320 : Cond.fieldLink RX6 26 RX6 "stack" "LBucketBrigade$Stack;" ∈ gT := gT_in 320 (by decide +kernel) (by decide +kernel)
theorem gw_321 : Cond.fieldLink RX6 51 RX6 "spare" "I" ∈ gT := gT_in 321 (by decide +kernel) (by decide +kernel)
theorem gw_322 : Cond.fieldLink RX6 54 RX6 "came" "I" ∈ gT := gT_in 322 (by decide +kernel) (by decide +kernel)
theorem gw_323 : Cond.fieldLink RX6 57 RX6 "carriedOut" "I" ∈ gT := gT_in 323 (by decide +kernel) (by decide +kernel)
theorem gw_347 : Cond.classLink RX5 23 RX9 ∈ gT := gT_in 347 (by decide +kernel) (by decide +kernel)
theorem gw_348 : Cond.instantiable RX9 5 ∈ gT := gT_in 348 (by decide +kernel) (by decide +kernel)
theorem gw_349 : Cond.methodLink RX5 25 yX9_init ∈ gT := gT_in 349 (by decide +kernel) (by decide +kernel)
theorem gw_350 : Cond.instanceMethod yX9_init ∈ gT := gT_in 350 (by decide +kernel) (by decide +kernel)
set_option maxRecDepth 100000 in
theorem gw_351 : Cond.code yX9_init cX9_init 6 none ∈ gT := gT_in 351 rfl rfl
theorem gw_352 : Cond.methodLink RX9 3 Lib.objectInit ∈ gT := gT_in 352 (by decide +kernel) (by decide +kernel)
theorem gw_354 : Cond.methodLink RX9 27 yJ0_length_8abf5 ∈ gT := gT_in 354 (by decide +kernel) (by decide +kernel)
theorem gw_355 : Cond.instanceMethod yJ0_length_8abf5 ∈ gT := gT_in 355 (by decide +kernel) (by decide +kernel)
theorem gw_356 : Cond.selects RJ0 yJ0_length_8abf5 yJ0_length_8abf5 ∈ gT := gT_in 356 (by decide +kernel) (by decide +kernel)
set_option maxRecDepth 100000 in
theorem gw_357 : Cond.code yJ0_length_8abf5 cJ0_length_8abf5 1 (some .int) ∈ gT := gT_in 357 rfl rfl
theorem gw_358 : Cond.methodLink RJ0 335 yJ0_coder_7d493 ∈ gT := gT_in 358 (by decide +kernel) (by decide +kernel)
theorem gw_359 : Cond.instanceMethod yJ0_coder_7d493 ∈ gT := gT_in 359 (by decide +kernel) (by decide +kernel)
theorem gw_360 : Cond.selects RJ0 yJ0_coder_7d493 yJ0_coder_7d493 ∈ gT := gT_in 360 (by decide +kernel) (by decide +kernel)
set_option maxRecDepth 100000 in
theorem gw_361 : Cond.code yJ0_coder_7d493 cJ0_coder_7d493 1 (some .byte) ∈ gT := gT_in 361 rfl rfl
theorem gw_362 : Cond.fieldLink RJ0 38 RJ0 "COMPACT_STRINGS" "Z" ∈ gT := gT_in 362 (by decide +kernel) (by decide +kernel)
theorem gw_364 : Cond.methodLink RX9 33 yJ0_charAt_5068e ∈ gT := gT_in 364 (by decide +kernel) (by decide +kernel)
theorem gw_365 : Cond.instanceMethod yJ0_charAt_5068e ∈ gT := gT_in 365 (by decide +kernel) (by decide +kernel)
theorem gw_366 : Cond.selects RJ0 yJ0_charAt_5068e yJ0_charAt_5068e ∈ gT := gT_in 366 (by decide +kernel) (by decide +kernel)
set_option maxRecDepth 100000 in
theorem gw_367 : Cond.code yJ0_charAt_5068e cJ0_charAt_5068e 2 (some .char) ∈ gT := gT_in 367 rfl rfl
theorem gw_368 : Cond.methodLink RJ0 492 yJ0_isLatin1_aae02 ∈ gT := gT_in 368 (by decide +kernel) (by decide +kernel)
theorem gw_369 : Cond.instanceMethod yJ0_isLatin1_aae02 ∈ gT := gT_in 369 (by decide +kernel) (by decide +kernel)
theorem gw_370 : Cond.selects RJ0 yJ0_isLatin1_aae02 yJ0_isLatin1_aae02 ∈ gT := gT_in 370 (by decide +kernel) (by decide +kernel)
set_option maxRecDepth 100000 in
theorem gw_371 : Cond.code yJ0_isLatin1_aae02 cJ0_isLatin1_aae02 1 (some .boolean) ∈ gT := gT_in 371 rfl rfl
theorem gw_372 : Cond.methodLink RJ0 495 yJ1_charAt_3b067 ∈ gT := gT_in 372 (by decide +kernel) (by decide +kernel)
theorem gw_373 : Cond.static yJ1_charAt_3b067 ∈ gT := gT_in 373 (by decide +kernel) (by decide +kernel)
set_option maxRecDepth 100000 in
theorem gw_374 : Cond.code yJ1_charAt_3b067 cJ1_charAt_3b067 2 (some .char) ∈ gT := gT_in 374 rfl rfl
theorem gw_375 : Cond.methodLink RJ1 9 yJ0_checkIndex_df160 ∈ gT := gT_in 375 (by decide +kernel) (by decide +kernel)
theorem gw_376 : Cond.static yJ0_checkIndex_df160 ∈ gT := gT_in 376 (by decide +kernel) (by decide +kernel)
set_option maxRecDepth 100000 in
theorem gw_377 : Cond.code yJ0_checkIndex_df160 cJ0_checkIndex_df160 2 none ∈ gT := gT_in 377 rfl rfl
theorem gw_378 : Cond.fieldLink RJ0 1053 RJ3 "SIOOBE_FORMATTER" "Ljava/util/function/BiFunction;" ∈ gT := gT_in 378 (by decide +kernel) (by decide +kernel)
theorem gw_380 : Cond.methodLink RJ0 1059 yJ3_checkIndex_8e157 ∈ gT := gT_in 380 (by decide +kernel) (by decide +kernel)
theorem gw_381 : Cond.static yJ3_checkIndex_8e157 ∈ gT := gT_in 381 (by decide +kernel) (by decide +kernel)
set_option maxRecDepth 100000 in
theorem gw_382 : Cond.code yJ3_checkIndex_8e157 cJ3_checkIndex_8e157 3 (some .int) ∈ gT := gT_in 382 rfl rfl
theorem gw_402 : Cond.methodLink RX9 37 yX9_longer ∈ gT := gT_in 402 (by decide +kernel) (by decide +kernel)
theorem gw_403 : Cond.static yX9_longer ∈ gT := gT_in 403 (by decide +kernel) (by decide +kernel)
set_option maxRecDepth 100000 in
theorem gw_404 : Cond.code yX9_longer cX9_longer 3 (some .long) ∈ gT := gT_in 404 rfl rfl
theorem gw_405 : Cond.constantLong RX9 92 64 ∈ gT := gT_in 405 (by decide +kernel) (by decide +kernel)
theorem gw_406 : Cond.methodLink RX9 74 yX9_isDigit ∈ gT := gT_in 406 (by decide +kernel) (by decide +kernel)
theorem gw_407 : Cond.static yX9_isDigit ∈ gT := gT_in 407 (by decide +kernel) (by decide +kernel)
set_option maxRecDepth 100000 in
theorem gw_408 : Cond.code yX9_isDigit cX9_isDigit 1 (some .boolean) ∈ gT := gT_in 408 rfl rfl
theorem gw_409 : Cond.fieldLink RX9 9 RX9 "keywords" "[J" ∈ gT := gT_in 409 (by decide +kernel) (by decide +kernel)
theorem gw_410 : Cond.fieldLink RX9 15 RX9 "kinds" "[I" ∈ gT := gT_in 410 (by decide +kernel) (by decide +kernel)
theorem gw_411 : Cond.fieldLink RX9 19 RX9 "starts" "[I" ∈ gT := gT_in 411 (by decide +kernel) (by decide +kernel)
theorem gw_412 : Cond.fieldLink RX9 22 RX9 "values" "[J" ∈ gT := gT_in 412 (by decide +kernel) (by decide +kernel)
theorem gw_413 : Cond.fieldLink RX9 41 RX9 "size" "I" ∈ gT := gT_in 413 (by decide +kernel) (by decide +kernel)
theorem gw_425 : Cond.arrayClass .long ∈ gT := gT_in 425 (by decide +kernel) (by decide +kernel)
theorem gw_426 : Cond.fieldLink RX5 17 RX5 "draft" "LBucketBrigade$Site;" ∈ gT := gT_in 426 (by decide +kernel) (by decide +kernel)
theorem gw_427 : Cond.fieldLink RX10 69 RX5 "draft" "LBucketBrigade$Site;" ∈ gT := gT_in 427 (by decide +kernel) (by decide +kernel)
theorem gw_428 : Cond.fieldLink RX5 59 RX5 "errorPlace" "I" ∈ gT := gT_in 428 (by decide +kernel) (by decide +kernel)
theorem gw_429 : Cond.fieldLink RX10 68 RX5 "errorPlace" "I" ∈ gT := gT_in 429 (by decide +kernel) (by decide +kernel)
theorem gw_430 : Cond.fieldLink RX5 26 RX5 "tokens" "LBucketBrigade$Tokens;" ∈ gT := gT_in 430 (by decide +kernel) (by decide +kernel)
theorem gw_431 : Cond.fieldLink RX5 30 RX5 "laneNames" "[J" ∈ gT := gT_in 431 (by decide +kernel) (by decide +kernel)
theorem gw_432 : Cond.fieldLink RX5 34 RX5 "folkNames" "[J" ∈ gT := gT_in 432 (by decide +kernel) (by decide +kernel)
theorem gw_433 : Cond.fieldLink RX5 52 RX5 "next" "I" ∈ gT := gT_in 433 (by decide +kernel) (by decide +kernel)
theorem gw_434 : Cond.fieldLink RX5 56 RX5 "error" "I" ∈ gT := gT_in 434 (by decide +kernel) (by decide +kernel)
theorem gw_450 : Cond.classLink RX10 23 RX0 ∈ gT := gT_in 450 (by decide +kernel) (by decide +kernel)
theorem gw_451 : Cond.methodLink RX10 25 yX0_init ∈ gT := gT_in 451 (by decide +kernel) (by decide +kernel)
theorem gw_452 : Cond.classLink RX10 26 RX6 ∈ gT := gT_in 452 (by decide +kernel) (by decide +kernel)
theorem gw_453 : Cond.methodLink RX10 28 yX6_init ∈ gT := gT_in 453 (by decide +kernel) (by decide +kernel)
theorem gw_454 : Cond.fieldLink RX10 10 RX10 "tape" "LBucketBrigade$Tape;" ∈ gT := gT_in 454 (by decide +kernel) (by decide +kernel)
theorem gw_455 : Cond.fieldLink RX10 19 RX10 "reader" "LBucketBrigade$Reader;" ∈ gT := gT_in 455 (by decide +kernel) (by decide +kernel)
theorem gw_456 : Cond.fieldLink RX10 31 RX10 "now" "LBucketBrigade$Site;" ∈ gT := gT_in 456 (by decide +kernel) (by decide +kernel)
theorem gw_457 : Cond.fieldLink RX10 35 RX10 "ahead" "LBucketBrigade$Site;" ∈ gT := gT_in 457 (by decide +kernel) (by decide +kernel)
theorem gw_458 : Cond.fieldLink RX10 38 RX10 "errorPlace" "I" ∈ gT := gT_in 458 (by decide +kernel) (by decide +kernel)
theorem gw_470 : Cond.methodLink RL 144 yX10_count ∈ gT := gT_in 470 (by decide +kernel) (by decide +kernel)
theorem gw_471 : Cond.instanceMethod yX10_count ∈ gT := gT_in 471 (by decide +kernel) (by decide +kernel)
theorem gw_472 : Cond.selects RX10 yX10_count yX10_count ∈ gT := gT_in 472 (by decide +kernel) (by decide +kernel)
set_option maxRecDepth 100000 in
theorem gw_473 : Cond.code yX10_count cX10_count 2 (some .int) ∈ gT := gT_in 473 rfl rfl
theorem gw_541 : Cond.methodLink RX10 87 yX10_countNow ∈ gT := gT_in 541 (by decide +kernel) (by decide +kernel)
theorem gw_543 : Cond.instanceMethod yX10_countNow ∈ gT := gT_in 543 (by decide +kernel) (by decide +kernel)
set_option maxRecDepth 100000 in
theorem gw_544 : Cond.code yX10_countNow cX10_countNow 2 (some .int) ∈ gT := gT_in 544 rfl rfl
theorem gw_545 : Cond.methodLink RX10 191 yX6_tally ∈ gT := gT_in 545 (by decide +kernel) (by decide +kernel)
theorem gw_546 : Cond.instanceMethod yX6_tally ∈ gT := gT_in 546 (by decide +kernel) (by decide +kernel)
theorem gw_547 : Cond.selects RX6 yX6_tally yX6_tally ∈ gT := gT_in 547 (by decide +kernel) (by decide +kernel)
set_option maxRecDepth 100000 in
theorem gw_548 : Cond.code yX6_tally cX6_tally 2 (some .int) ∈ gT := gT_in 548 rfl rfl
theorem gw_549 : Cond.methodLink RX6 218 yX6_sumOverLanes ∈ gT := gT_in 549 (by decide +kernel) (by decide +kernel)
theorem gw_551 : Cond.instanceMethod yX6_sumOverLanes ∈ gT := gT_in 551 (by decide +kernel) (by decide +kernel)
set_option maxRecDepth 100000 in
theorem gw_552 : Cond.code yX6_sumOverLanes cX6_sumOverLanes 5 (some .int) ∈ gT := gT_in 552 rfl rfl
theorem gw_553 : Cond.methodLink RX6 63 yX6_laneAt ∈ gT := gT_in 553 (by decide +kernel) (by decide +kernel)
theorem gw_554 : Cond.instanceMethod yX6_laneAt ∈ gT := gT_in 554 (by decide +kernel) (by decide +kernel)
theorem gw_555 : Cond.selects RX6 yX6_laneAt yX6_laneAt ∈ gT := gT_in 555 (by decide +kernel) (by decide +kernel)
set_option maxRecDepth 100000 in
theorem gw_556 : Cond.code yX6_laneAt cX6_laneAt 2 (some (.object "BucketBrigade$Lane")) ∈ gT := gT_in 556 rfl rfl
theorem gw_557 : Cond.methodLink RX6 221 yX6_shareOf ∈ gT := gT_in 557 (by decide +kernel) (by decide +kernel)
theorem gw_558 : Cond.static yX6_shareOf ∈ gT := gT_in 558 (by decide +kernel) (by decide +kernel)
set_option maxRecDepth 100000 in
theorem gw_559 : Cond.code yX6_shareOf cX6_shareOf 2 (some .int) ∈ gT := gT_in 559 rfl rfl
theorem gw_560 : Cond.methodLink RL 147 yX10_lane ∈ gT := gT_in 560 (by decide +kernel) (by decide +kernel)
theorem gw_561 : Cond.instanceMethod yX10_lane ∈ gT := gT_in 561 (by decide +kernel) (by decide +kernel)
theorem gw_562 : Cond.selects RX10 yX10_lane yX10_lane ∈ gT := gT_in 562 (by decide +kernel) (by decide +kernel)
set_option maxRecDepth 100000 in
theorem gw_563 : Cond.code yX10_lane cX10_lane 4 (some .int) ∈ gT := gT_in 563 rfl rfl
theorem gw_564 : Cond.methodLink RX10 91 yX6_laneAt ∈ gT := gT_in 564 (by decide +kernel) (by decide +kernel)
theorem gw_566 : Cond.methodLink RX10 97 yX2_fact ∈ gT := gT_in 566 (by decide +kernel) (by decide +kernel)
theorem gw_567 : Cond.instanceMethod yX2_fact ∈ gT := gT_in 567 (by decide +kernel) (by decide +kernel)
theorem gw_568 : Cond.selects RX2 yX2_fact yX2_fact ∈ gT := gT_in 568 (by decide +kernel) (by decide +kernel)
set_option maxRecDepth 100000 in
theorem gw_569 : Cond.code yX2_fact cX2_fact 2 (some .int) ∈ gT := gT_in 569 rfl rfl
theorem gw_570 : Cond.methodLink RL 155 yX10_pail ∈ gT := gT_in 570 (by decide +kernel) (by decide +kernel)
theorem gw_571 : Cond.instanceMethod yX10_pail ∈ gT := gT_in 571 (by decide +kernel) (by decide +kernel)
theorem gw_572 : Cond.selects RX10 yX10_pail yX10_pail ∈ gT := gT_in 572 (by decide +kernel) (by decide +kernel)
set_option maxRecDepth 100000 in
theorem gw_573 : Cond.code yX10_pail cX10_pail 4 (some .int) ∈ gT := gT_in 573 rfl rfl
theorem gw_575 : Cond.methodLink RX10 113 yX4_at ∈ gT := gT_in 575 (by decide +kernel) (by decide +kernel)
theorem gw_576 : Cond.instanceMethod yX4_at ∈ gT := gT_in 576 (by decide +kernel) (by decide +kernel)
theorem gw_577 : Cond.selects RX4 yX4_at yX4_at ∈ gT := gT_in 577 (by decide +kernel) (by decide +kernel)
set_option maxRecDepth 100000 in
theorem gw_578 : Cond.code yX4_at cX4_at 3 (some .int) ∈ gT := gT_in 578 rfl rfl
theorem gw_579 : Cond.methodLink RX4 22 yX4_slotOf ∈ gT := gT_in 579 (by decide +kernel) (by decide +kernel)
theorem gw_581 : Cond.instanceMethod yX4_slotOf ∈ gT := gT_in 581 (by decide +kernel) (by decide +kernel)
set_option maxRecDepth 100000 in
theorem gw_582 : Cond.code yX4_slotOf cX4_slotOf 3 (some .int) ∈ gT := gT_in 582 rfl rfl
theorem gw_583 : Cond.methodLink RL 161 yX10_lender ∈ gT := gT_in 583 (by decide +kernel) (by decide +kernel)
theorem gw_584 : Cond.instanceMethod yX10_lender ∈ gT := gT_in 584 (by decide +kernel) (by decide +kernel)
theorem gw_585 : Cond.selects RX10 yX10_lender yX10_lender ∈ gT := gT_in 585 (by decide +kernel) (by decide +kernel)
set_option maxRecDepth 100000 in
theorem gw_586 : Cond.code yX10_lender cX10_lender 3 (some .int) ∈ gT := gT_in 586 rfl rfl
theorem gw_588 : Cond.methodLink RX10 127 yX2_whoLends ∈ gT := gT_in 588 (by decide +kernel) (by decide +kernel)
theorem gw_589 : Cond.instanceMethod yX2_whoLends ∈ gT := gT_in 589 (by decide +kernel) (by decide +kernel)
theorem gw_590 : Cond.selects RX2 yX2_whoLends yX2_whoLends ∈ gT := gT_in 590 (by decide +kernel) (by decide +kernel)
set_option maxRecDepth 100000 in
theorem gw_591 : Cond.code yX2_whoLends cX2_whoLends 2 (some (.object "BucketBrigade$Lane")) ∈ gT := gT_in 591 rfl rfl
theorem gw_592 : Cond.methodLink RX10 131 yX10_numberOf ∈ gT := gT_in 592 (by decide +kernel) (by decide +kernel)
theorem gw_593 : Cond.static yX10_numberOf ∈ gT := gT_in 593 (by decide +kernel) (by decide +kernel)
set_option maxRecDepth 100000 in
theorem gw_594 : Cond.code yX10_numberOf cX10_numberOf 1 (some .int) ∈ gT := gT_in 594 rfl rfl
theorem gw_595 : Cond.methodLink RL 158 yX10_common ∈ gT := gT_in 595 (by decide +kernel) (by decide +kernel)
theorem gw_596 : Cond.instanceMethod yX10_common ∈ gT := gT_in 596 (by decide +kernel) (by decide +kernel)
theorem gw_597 : Cond.selects RX10 yX10_common yX10_common ∈ gT := gT_in 597 (by decide +kernel) (by decide +kernel)
set_option maxRecDepth 100000 in
theorem gw_598 : Cond.code yX10_common cX10_common 6 (some .int) ∈ gT := gT_in 598 rfl rfl
theorem gw_599 : Cond.methodLink RX10 135 yX2_isOrIsUnder ∈ gT := gT_in 599 (by decide +kernel) (by decide +kernel)
theorem gw_600 : Cond.instanceMethod yX2_isOrIsUnder ∈ gT := gT_in 600 (by decide +kernel) (by decide +kernel)
theorem gw_601 : Cond.selects RX2 yX2_isOrIsUnder yX2_isOrIsUnder ∈ gT := gT_in 601 (by decide +kernel) (by decide +kernel)
set_option maxRecDepth 100000 in
theorem gw_602 : Cond.code yX2_isOrIsUnder cX2_isOrIsUnder 3 (some .boolean) ∈ gT := gT_in 602 rfl rfl
theorem gw_603 : Cond.methodLink RL 124 yX10_pass ∈ gT := gT_in 603 (by decide +kernel) (by decide +kernel)
theorem gw_604 : Cond.instanceMethod yX10_pass ∈ gT := gT_in 604 (by decide +kernel) (by decide +kernel)
theorem gw_605 : Cond.selects RX10 yX10_pass yX10_pass ∈ gT := gT_in 605 (by decide +kernel) (by decide +kernel)
set_option maxRecDepth 100000 in
theorem gw_606 : Cond.code yX10_pass cX10_pass 4 (some .int) ∈ gT := gT_in 606 rfl rfl
theorem gw_623 : Cond.methodLink RX10 183 yX6_goOneMinute ∈ gT := gT_in 623 (by decide +kernel) (by decide +kernel)
theorem gw_624 : Cond.instanceMethod yX6_goOneMinute ∈ gT := gT_in 624 (by decide +kernel) (by decide +kernel)
theorem gw_625 : Cond.selects RX6 yX6_goOneMinute yX6_goOneMinute ∈ gT := gT_in 625 (by decide +kernel) (by decide +kernel)
set_option maxRecDepth 100000 in
theorem gw_626 : Cond.code yX6_goOneMinute cX6_goOneMinute 4 (some .int) ∈ gT := gT_in 626 rfl rfl
theorem gw_627 : Cond.methodLink RX6 101 yX0_orderAt ∈ gT := gT_in 627 (by decide +kernel) (by decide +kernel)
theorem gw_628 : Cond.instanceMethod yX0_orderAt ∈ gT := gT_in 628 (by decide +kernel) (by decide +kernel)
theorem gw_629 : Cond.selects RX0 yX0_orderAt yX0_orderAt ∈ gT := gT_in 629 (by decide +kernel) (by decide +kernel)
set_option maxRecDepth 100000 in
theorem gw_630 : Cond.code yX0_orderAt cX0_orderAt 2 (some (.object "BucketBrigade$Order")) ∈ gT := gT_in 630 rfl rfl
theorem gw_631 : Cond.methodLink RX6 105 yX6_obey ∈ gT := gT_in 631 (by decide +kernel) (by decide +kernel)
theorem gw_633 : Cond.instanceMethod yX6_obey ∈ gT := gT_in 633 (by decide +kernel) (by decide +kernel)
set_option maxRecDepth 100000 in
theorem gw_634 : Cond.code yX6_obey cX6_obey 6 none ∈ gT := gT_in 634 rfl rfl
theorem gw_635 : Cond.methodLink RX6 136 yX6_reckon ∈ gT := gT_in 635 (by decide +kernel) (by decide +kernel)
theorem gw_637 : Cond.instanceMethod yX6_reckon ∈ gT := gT_in 637 (by decide +kernel) (by decide +kernel)
set_option maxRecDepth 100000 in
theorem gw_638 : Cond.code yX6_reckon cX6_reckon 4 (some .int) ∈ gT := gT_in 638 rfl rfl
theorem gw_639 : Cond.methodLink RX6 161 yX7_clear ∈ gT := gT_in 639 (by decide +kernel) (by decide +kernel)
theorem gw_640 : Cond.instanceMethod yX7_clear ∈ gT := gT_in 640 (by decide +kernel) (by decide +kernel)
theorem gw_641 : Cond.selects RX7 yX7_clear yX7_clear ∈ gT := gT_in 641 (by decide +kernel) (by decide +kernel)
set_option maxRecDepth 100000 in
theorem gw_642 : Cond.code yX7_clear cX7_clear 1 none ∈ gT := gT_in 642 rfl rfl
theorem gw_643 : Cond.methodLink RX6 155 yJ9_max_7cf53 ∈ gT := gT_in 643 (by decide +kernel) (by decide +kernel)
theorem gw_644 : Cond.static yJ9_max_7cf53 ∈ gT := gT_in 644 (by decide +kernel) (by decide +kernel)
set_option maxRecDepth 100000 in
theorem gw_645 : Cond.code yJ9_max_7cf53 cJ9_max_7cf53 2 (some .int) ∈ gT := gT_in 645 rfl rfl
theorem gw_646 : Cond.methodLink RX6 171 yX6_step ∈ gT := gT_in 646 (by decide +kernel) (by decide +kernel)
theorem gw_648 : Cond.instanceMethod yX6_step ∈ gT := gT_in 648 (by decide +kernel) (by decide +kernel)
set_option maxRecDepth 100000 in
theorem gw_649 : Cond.code yX6_step cX6_step 6 none ∈ gT := gT_in 649 rfl rfl
theorem gw_650 : Cond.methodLink RX6 178 yX7_push ∈ gT := gT_in 650 (by decide +kernel) (by decide +kernel)
theorem gw_651 : Cond.instanceMethod yX7_push ∈ gT := gT_in 651 (by decide +kernel) (by decide +kernel)
theorem gw_652 : Cond.selects RX7 yX7_push yX7_push ∈ gT := gT_in 652 (by decide +kernel) (by decide +kernel)
set_option maxRecDepth 100000 in
theorem gw_653 : Cond.code yX7_push cX7_push 2 none ∈ gT := gT_in 653 rfl rfl
theorem gw_654 : Cond.methodLink RX6 175 yX7_pop ∈ gT := gT_in 654 (by decide +kernel) (by decide +kernel)
theorem gw_655 : Cond.instanceMethod yX7_pop ∈ gT := gT_in 655 (by decide +kernel) (by decide +kernel)
theorem gw_656 : Cond.selects RX7 yX7_pop yX7_pop ∈ gT := gT_in 656 (by decide +kernel) (by decide +kernel)
set_option maxRecDepth 100000 in
theorem gw_657 : Cond.code yX7_pop cX7_pop 1 (some .int) ∈ gT := gT_in 657 rfl rfl
theorem gw_658 : Cond.methodLink RX6 181 yX2_known ∈ gT := gT_in 658 (by decide +kernel) (by decide +kernel)
theorem gw_659 : Cond.instanceMethod yX2_known ∈ gT := gT_in 659 (by decide +kernel) (by decide +kernel)
theorem gw_660 : Cond.selects RX2 yX2_known yX2_known ∈ gT := gT_in 660 (by decide +kernel) (by decide +kernel)
set_option maxRecDepth 100000 in
theorem gw_661 : Cond.code yX2_known cX2_known 2 (some .int) ∈ gT := gT_in 661 rfl rfl
theorem gw_662 : Cond.methodLink RX2 89 yX2_isFull ∈ gT := gT_in 662 (by decide +kernel) (by decide +kernel)
theorem gw_663 : Cond.instanceMethod yX2_isFull ∈ gT := gT_in 663 (by decide +kernel) (by decide +kernel)
theorem gw_664 : Cond.selects RX2 yX2_isFull yX2_isFull ∈ gT := gT_in 664 (by decide +kernel) (by decide +kernel)
set_option maxRecDepth 100000 in
theorem gw_665 : Cond.code yX2_isFull cX2_isFull 1 (some .boolean) ∈ gT := gT_in 665 rfl rfl
theorem gw_666 : Cond.methodLink RX6 185 yX6_combined ∈ gT := gT_in 666 (by decide +kernel) (by decide +kernel)
theorem gw_667 : Cond.static yX6_combined ∈ gT := gT_in 667 (by decide +kernel) (by decide +kernel)
set_option maxRecDepth 100000 in
theorem gw_668 : Cond.code yX6_combined cX6_combined 3 (some .int) ∈ gT := gT_in 668 rfl rfl
theorem gw_669 : Cond.methodLink RX6 150 yJ9_min_7cf53 ∈ gT := gT_in 669 (by decide +kernel) (by decide +kernel)
theorem gw_670 : Cond.static yJ9_min_7cf53 ∈ gT := gT_in 670 (by decide +kernel) (by decide +kernel)
set_option maxRecDepth 100000 in
theorem gw_671 : Cond.code yJ9_min_7cf53 cJ9_min_7cf53 2 (some .int) ∈ gT := gT_in 671 rfl rfl
theorem gw_672 : Cond.methodLink RX6 109 yX6_letFolkCome ∈ gT := gT_in 672 (by decide +kernel) (by decide +kernel)
theorem gw_674 : Cond.instanceMethod yX6_letFolkCome ∈ gT := gT_in 674 (by decide +kernel) (by decide +kernel)
set_option maxRecDepth 100000 in
theorem gw_675 : Cond.code yX6_letFolkCome cX6_letFolkCome 4 none ∈ gT := gT_in 675 rfl rfl
theorem gw_676 : Cond.methodLink RX6 82 yX6_folkAt ∈ gT := gT_in 676 (by decide +kernel) (by decide +kernel)
theorem gw_677 : Cond.instanceMethod yX6_folkAt ∈ gT := gT_in 677 (by decide +kernel) (by decide +kernel)
theorem gw_678 : Cond.selects RX6 yX6_folkAt yX6_folkAt ∈ gT := gT_in 678 (by decide +kernel) (by decide +kernel)
set_option maxRecDepth 100000 in
theorem gw_679 : Cond.code yX6_folkAt cX6_folkAt 2 (some (.object "BucketBrigade$Folk")) ∈ gT := gT_in 679 rfl rfl
theorem gw_680 : Cond.methodLink RX6 189 yX1_comeIn ∈ gT := gT_in 680 (by decide +kernel) (by decide +kernel)
theorem gw_681 : Cond.instanceMethod yX1_comeIn ∈ gT := gT_in 681 (by decide +kernel) (by decide +kernel)
theorem gw_682 : Cond.selects RX1 yX1_comeIn yX1_comeIn ∈ gT := gT_in 682 (by decide +kernel) (by decide +kernel)
set_option maxRecDepth 100000 in
theorem gw_683 : Cond.code yX1_comeIn cX1_comeIn 2 (some .boolean) ∈ gT := gT_in 683 rfl rfl
theorem gw_684 : Cond.methodLink RX6 197 yX6_takeIn ∈ gT := gT_in 684 (by decide +kernel) (by decide +kernel)
theorem gw_685 : Cond.instanceMethod yX6_takeIn ∈ gT := gT_in 685 (by decide +kernel) (by decide +kernel)
theorem gw_686 : Cond.selects RX6 yX6_takeIn yX6_takeIn ∈ gT := gT_in 686 (by decide +kernel) (by decide +kernel)
set_option maxRecDepth 100000 in
theorem gw_687 : Cond.code yX6_takeIn cX6_takeIn 4 none ∈ gT := gT_in 687 rfl rfl
theorem gw_688 : Cond.methodLink RX6 93 yX2_takePail ∈ gT := gT_in 688 (by decide +kernel) (by decide +kernel)
theorem gw_689 : Cond.instanceMethod yX2_takePail ∈ gT := gT_in 689 (by decide +kernel) (by decide +kernel)
theorem gw_690 : Cond.selects RX2 yX2_takePail yX2_takePail ∈ gT := gT_in 690 (by decide +kernel) (by decide +kernel)
set_option maxRecDepth 100000 in
theorem gw_691 : Cond.code yX2_takePail cX2_takePail 2 none ∈ gT := gT_in 691 rfl rfl
theorem gw_692 : Cond.methodLink RX2 93 yX4_dropFront ∈ gT := gT_in 692 (by decide +kernel) (by decide +kernel)
theorem gw_693 : Cond.instanceMethod yX4_dropFront ∈ gT := gT_in 693 (by decide +kernel) (by decide +kernel)
theorem gw_694 : Cond.selects RX4 yX4_dropFront yX4_dropFront ∈ gT := gT_in 694 (by decide +kernel) (by decide +kernel)
set_option maxRecDepth 100000 in
theorem gw_695 : Cond.code yX4_dropFront cX4_dropFront 1 none ∈ gT := gT_in 695 rfl rfl
theorem gw_696 : Cond.methodLink RX2 96 yX4_add ∈ gT := gT_in 696 (by decide +kernel) (by decide +kernel)
theorem gw_697 : Cond.instanceMethod yX4_add ∈ gT := gT_in 697 (by decide +kernel) (by decide +kernel)
theorem gw_698 : Cond.selects RX4 yX4_add yX4_add ∈ gT := gT_in 698 (by decide +kernel) (by decide +kernel)
set_option maxRecDepth 100000 in
theorem gw_699 : Cond.code yX4_add cX4_add 3 none ∈ gT := gT_in 699 rfl rfl
theorem gw_700 : Cond.methodLink RX6 115 yX2_getTokens ∈ gT := gT_in 700 (by decide +kernel) (by decide +kernel)
theorem gw_701 : Cond.instanceMethod yX2_getTokens ∈ gT := gT_in 701 (by decide +kernel) (by decide +kernel)
theorem gw_702 : Cond.selects RX2 yX2_getTokens yX2_getTokens ∈ gT := gT_in 702 (by decide +kernel) (by decide +kernel)
set_option maxRecDepth 100000 in
theorem gw_703 : Cond.code yX2_getTokens cX2_getTokens 2 none ∈ gT := gT_in 703 rfl rfl
theorem gw_704 : Cond.methodLink RX2 100 yJ9_min_7cf53 ∈ gT := gT_in 704 (by decide +kernel) (by decide +kernel)
theorem gw_705 : Cond.methodLink RX6 118 yX6_sendPails ∈ gT := gT_in 705 (by decide +kernel) (by decide +kernel)
theorem gw_707 : Cond.instanceMethod yX6_sendPails ∈ gT := gT_in 707 (by decide +kernel) (by decide +kernel)
set_option maxRecDepth 100000 in
theorem gw_708 : Cond.code yX6_sendPails cX6_sendPails 3 (some .int) ∈ gT := gT_in 708 rfl rfl
theorem gw_709 : Cond.methodLink RX6 204 yX6_whoSends ∈ gT := gT_in 709 (by decide +kernel) (by decide +kernel)
theorem gw_711 : Cond.instanceMethod yX6_whoSends ∈ gT := gT_in 711 (by decide +kernel) (by decide +kernel)
set_option maxRecDepth 100000 in
theorem gw_712 : Cond.code yX6_whoSends cX6_whoSends 4 (some (.object "BucketBrigade$Lane")) ∈ gT := gT_in 712 rfl rfl
theorem gw_713 : Cond.methodLink RX6 210 yX2_canSend ∈ gT := gT_in 713 (by decide +kernel) (by decide +kernel)
theorem gw_714 : Cond.instanceMethod yX2_canSend ∈ gT := gT_in 714 (by decide +kernel) (by decide +kernel)
theorem gw_715 : Cond.selects RX2 yX2_canSend yX2_canSend ∈ gT := gT_in 715 (by decide +kernel) (by decide +kernel)
set_option maxRecDepth 100000 in
theorem gw_716 : Cond.code yX2_canSend cX2_canSend 1 (some .boolean) ∈ gT := gT_in 716 rfl rfl
theorem gw_717 : Cond.methodLink RX2 106 yX2_isLetSend ∈ gT := gT_in 717 (by decide +kernel) (by decide +kernel)
theorem gw_719 : Cond.instanceMethod yX2_isLetSend ∈ gT := gT_in 719 (by decide +kernel) (by decide +kernel)
set_option maxRecDepth 100000 in
theorem gw_720 : Cond.code yX2_isLetSend cX2_isLetSend 2 (some .boolean) ∈ gT := gT_in 720 rfl rfl
theorem gw_721 : Cond.methodLink RX2 109 yX2_whoLends ∈ gT := gT_in 721 (by decide +kernel) (by decide +kernel)
theorem gw_722 : Cond.methodLink RX6 214 yX2_goesAheadOf ∈ gT := gT_in 722 (by decide +kernel) (by decide +kernel)
theorem gw_723 : Cond.instanceMethod yX2_goesAheadOf ∈ gT := gT_in 723 (by decide +kernel) (by decide +kernel)
theorem gw_724 : Cond.selects RX2 yX2_goesAheadOf yX2_goesAheadOf ∈ gT := gT_in 724 (by decide +kernel) (by decide +kernel)
set_option maxRecDepth 100000 in
theorem gw_725 : Cond.code yX2_goesAheadOf cX2_goesAheadOf 3 (some .boolean) ∈ gT := gT_in 725 rfl rfl
theorem gw_726 : Cond.methodLink RX6 207 yX2_sendPail ∈ gT := gT_in 726 (by decide +kernel) (by decide +kernel)
theorem gw_727 : Cond.instanceMethod yX2_sendPail ∈ gT := gT_in 727 (by decide +kernel) (by decide +kernel)
theorem gw_728 : Cond.selects RX2 yX2_sendPail yX2_sendPail ∈ gT := gT_in 728 (by decide +kernel) (by decide +kernel)
set_option maxRecDepth 100000 in
theorem gw_729 : Cond.code yX2_sendPail cX2_sendPail 4 none ∈ gT := gT_in 729 rfl rfl
theorem gw_730 : Cond.methodLink RX2 113 yX4_at ∈ gT := gT_in 730 (by decide +kernel) (by decide +kernel)
theorem gw_731 : Cond.methodLink RX6 122 yX2_beginMinute ∈ gT := gT_in 731 (by decide +kernel) (by decide +kernel)
theorem gw_732 : Cond.instanceMethod yX2_beginMinute ∈ gT := gT_in 732 (by decide +kernel) (by decide +kernel)
theorem gw_733 : Cond.selects RX2 yX2_beginMinute yX2_beginMinute ∈ gT := gT_in 733 (by decide +kernel) (by decide +kernel)
set_option maxRecDepth 100000 in
theorem gw_734 : Cond.code yX2_beginMinute cX2_beginMinute 1 none ∈ gT := gT_in 734 rfl rfl
theorem gw_735 : Cond.methodLink RL 150 yX10_foresee ∈ gT := gT_in 735 (by decide +kernel) (by decide +kernel)
theorem gw_736 : Cond.instanceMethod yX10_foresee ∈ gT := gT_in 736 (by decide +kernel) (by decide +kernel)
theorem gw_737 : Cond.selects RX10 yX10_foresee yX10_foresee ∈ gT := gT_in 737 (by decide +kernel) (by decide +kernel)
set_option maxRecDepth 100000 in
theorem gw_738 : Cond.code yX10_foresee cX10_foresee 4 (some .int) ∈ gT := gT_in 738 rfl rfl
theorem gw_741 : Cond.methodLink RX10 72 yX6_copyFrom ∈ gT := gT_in 741 (by decide +kernel) (by decide +kernel)
theorem gw_742 : Cond.instanceMethod yX6_copyFrom ∈ gT := gT_in 742 (by decide +kernel) (by decide +kernel)
theorem gw_743 : Cond.selects RX6 yX6_copyFrom yX6_copyFrom ∈ gT := gT_in 743 (by decide +kernel) (by decide +kernel)
set_option maxRecDepth 100000 in
theorem gw_744 : Cond.code yX6_copyFrom cX6_copyFrom 5 none ∈ gT := gT_in 744 rfl rfl
theorem gw_745 : Cond.methodLink RX6 60 yX6_begin ∈ gT := gT_in 745 (by decide +kernel) (by decide +kernel)
theorem gw_746 : Cond.instanceMethod yX6_begin ∈ gT := gT_in 746 (by decide +kernel) (by decide +kernel)
theorem gw_747 : Cond.selects RX6 yX6_begin yX6_begin ∈ gT := gT_in 747 (by decide +kernel) (by decide +kernel)
set_option maxRecDepth 100000 in
theorem gw_748 : Cond.code yX6_begin cX6_begin 2 none ∈ gT := gT_in 748 rfl rfl
theorem gw_749 : Cond.methodLink RX6 67 yX6_addLane ∈ gT := gT_in 749 (by decide +kernel) (by decide +kernel)
theorem gw_750 : Cond.instanceMethod yX6_addLane ∈ gT := gT_in 750 (by decide +kernel) (by decide +kernel)
theorem gw_751 : Cond.selects RX6 yX6_addLane yX6_addLane ∈ gT := gT_in 751 (by decide +kernel) (by decide +kernel)
set_option maxRecDepth 100000 in
theorem gw_752 : Cond.code yX6_addLane cX6_addLane 1 (some (.object "BucketBrigade$Lane")) ∈ gT := gT_in 752 rfl rfl
theorem gw_753 : Cond.methodLink RX6 78 yX2_copyFrom ∈ gT := gT_in 753 (by decide +kernel) (by decide +kernel)
theorem gw_754 : Cond.instanceMethod yX2_copyFrom ∈ gT := gT_in 754 (by decide +kernel) (by decide +kernel)
theorem gw_755 : Cond.selects RX2 yX2_copyFrom yX2_copyFrom ∈ gT := gT_in 755 (by decide +kernel) (by decide +kernel)
set_option maxRecDepth 100000 in
theorem gw_756 : Cond.code yX2_copyFrom cX2_copyFrom 3 none ∈ gT := gT_in 756 rfl rfl
theorem gw_757 : Cond.methodLink RX2 69 yX2_tell ∈ gT := gT_in 757 (by decide +kernel) (by decide +kernel)
theorem gw_758 : Cond.instanceMethod yX2_tell ∈ gT := gT_in 758 (by decide +kernel) (by decide +kernel)
theorem gw_759 : Cond.selects RX2 yX2_tell yX2_tell ∈ gT := gT_in 759 (by decide +kernel) (by decide +kernel)
set_option maxRecDepth 100000 in
theorem gw_760 : Cond.code yX2_tell cX2_tell 8 none ∈ gT := gT_in 760 rfl rfl
theorem gw_761 : Cond.methodLink RX2 63 yX2_beginMinute ∈ gT := gT_in 761 (by decide +kernel) (by decide +kernel)
theorem gw_762 : Cond.methodLink RX2 66 yX4_clear ∈ gT := gT_in 762 (by decide +kernel) (by decide +kernel)
theorem gw_763 : Cond.instanceMethod yX4_clear ∈ gT := gT_in 763 (by decide +kernel) (by decide +kernel)
theorem gw_764 : Cond.selects RX4 yX4_clear yX4_clear ∈ gT := gT_in 764 (by decide +kernel) (by decide +kernel)
set_option maxRecDepth 100000 in
theorem gw_765 : Cond.code yX4_clear cX4_clear 1 none ∈ gT := gT_in 765 rfl rfl
theorem gw_766 : Cond.methodLink RX2 73 yX4_copyFrom ∈ gT := gT_in 766 (by decide +kernel) (by decide +kernel)
theorem gw_767 : Cond.instanceMethod yX4_copyFrom ∈ gT := gT_in 767 (by decide +kernel) (by decide +kernel)
theorem gw_768 : Cond.selects RX4 yX4_copyFrom yX4_copyFrom ∈ gT := gT_in 768 (by decide +kernel) (by decide +kernel)
set_option maxRecDepth 100000 in
theorem gw_769 : Cond.code yX4_copyFrom cX4_copyFrom 3 none ∈ gT := gT_in 769 rfl rfl
theorem gw_770 : Cond.methodLink RX4 26 yX4_clear ∈ gT := gT_in 770 (by decide +kernel) (by decide +kernel)
theorem gw_771 : Cond.methodLink RX4 29 yX4_at ∈ gT := gT_in 771 (by decide +kernel) (by decide +kernel)
theorem gw_772 : Cond.methodLink RX4 32 yX4_add ∈ gT := gT_in 772 (by decide +kernel) (by decide +kernel)
theorem gw_773 : Cond.methodLink RX6 86 yX6_addFolk ∈ gT := gT_in 773 (by decide +kernel) (by decide +kernel)
theorem gw_774 : Cond.instanceMethod yX6_addFolk ∈ gT := gT_in 774 (by decide +kernel) (by decide +kernel)
theorem gw_775 : Cond.selects RX6 yX6_addFolk yX6_addFolk ∈ gT := gT_in 775 (by decide +kernel) (by decide +kernel)
set_option maxRecDepth 100000 in
theorem gw_776 : Cond.code yX6_addFolk cX6_addFolk 1 (some (.object "BucketBrigade$Folk")) ∈ gT := gT_in 776 rfl rfl
theorem gw_777 : Cond.methodLink RX6 90 yX1_copyFrom ∈ gT := gT_in 777 (by decide +kernel) (by decide +kernel)
theorem gw_778 : Cond.instanceMethod yX1_copyFrom ∈ gT := gT_in 778 (by decide +kernel) (by decide +kernel)
theorem gw_779 : Cond.selects RX1 yX1_copyFrom yX1_copyFrom ∈ gT := gT_in 779 (by decide +kernel) (by decide +kernel)
set_option maxRecDepth 100000 in
theorem gw_780 : Cond.code yX1_copyFrom cX1_copyFrom 2 none ∈ gT := gT_in 780 rfl rfl
theorem gw_781 : Cond.methodLink RX1 25 yX1_tell ∈ gT := gT_in 781 (by decide +kernel) (by decide +kernel)
theorem gw_782 : Cond.instanceMethod yX1_tell ∈ gT := gT_in 782 (by decide +kernel) (by decide +kernel)
theorem gw_783 : Cond.selects RX1 yX1_tell yX1_tell ∈ gT := gT_in 783 (by decide +kernel) (by decide +kernel)
set_option maxRecDepth 100000 in
theorem gw_784 : Cond.code yX1_tell cX1_tell 5 none ∈ gT := gT_in 784 rfl rfl
theorem gw_785 : Cond.methodLink RL 153 yX12_pass ∈ gT := gT_in 785 (by decide +kernel) (by decide +kernel)
theorem gw_786 : Cond.instanceMethod yX12_pass ∈ gT := gT_in 786 (by decide +kernel) (by decide +kernel)
theorem gw_787 : Cond.selects RX12 yX12_pass yX12_pass ∈ gT := gT_in 787 (by decide +kernel) (by decide +kernel)
set_option maxRecDepth 100000 in
theorem gw_788 : Cond.code yX12_pass cX12_pass 8 none ∈ gT := gT_in 788 rfl rfl
theorem gw_789 : Cond.methodLink RX12 172 yX12_holds ∈ gT := gT_in 789 (by decide +kernel) (by decide +kernel)
theorem gw_791 : Cond.instanceMethod yX12_holds ∈ gT := gT_in 791 (by decide +kernel) (by decide +kernel)
theorem gw_792 : Cond.instantiable RX12 8 ∈ gT := gT_in 792 (by decide +kernel) (by decide +kernel)
set_option maxRecDepth 100000 in
theorem gw_793 : Cond.code yX12_holds cX12_holds 5 (some .boolean) ∈ gT := gT_in 793 rfl rfl
theorem gw_794 : Cond.methodLink RX12 143 yX12_value ∈ gT := gT_in 794 (by decide +kernel) (by decide +kernel)
theorem gw_796 : Cond.instanceMethod yX12_value ∈ gT := gT_in 796 (by decide +kernel) (by decide +kernel)
set_option maxRecDepth 100000 in
theorem gw_797 : Cond.code yX12_value cX12_value 4 (some .int) ∈ gT := gT_in 797 rfl rfl
theorem gw_798 : Cond.methodLink RX12 99 yJ9_min_7cf53 ∈ gT := gT_in 798 (by decide +kernel) (by decide +kernel)
theorem gw_799 : Cond.methodLink RX12 175 yX12_bring ∈ gT := gT_in 799 (by decide +kernel) (by decide +kernel)
theorem gw_800 : Cond.instanceMethod yX12_bring ∈ gT := gT_in 800 (by decide +kernel) (by decide +kernel)
theorem gw_801 : Cond.selects RX12 yX12_bring yX12_bring ∈ gT := gT_in 801 (by decide +kernel) (by decide +kernel)
set_option maxRecDepth 100000 in
theorem gw_802 : Cond.code yX12_bring cX12_bring 5 (some .int) ∈ gT := gT_in 802 rfl rfl
theorem gw_803 : Cond.methodLink RX12 96 yX11_pop ∈ gT := gT_in 803 (by decide +kernel) (by decide +kernel)
theorem gw_804 : Cond.instanceMethod yX11_pop ∈ gT := gT_in 804 (by decide +kernel) (by decide +kernel)
theorem gw_805 : Cond.selects RX11 yX11_pop yX11_pop ∈ gT := gT_in 805 (by decide +kernel) (by decide +kernel)
set_option maxRecDepth 100000 in
theorem gw_806 : Cond.code yX11_pop cX11_pop 2 none ∈ gT := gT_in 806 rfl rfl
theorem gw_807 : Cond.methodLink RX12 185 yX11_can ∈ gT := gT_in 807 (by decide +kernel) (by decide +kernel)
theorem gw_808 : Cond.instanceMethod yX11_can ∈ gT := gT_in 808 (by decide +kernel) (by decide +kernel)
theorem gw_809 : Cond.selects RX11 yX11_can yX11_can ∈ gT := gT_in 809 (by decide +kernel) (by decide +kernel)
set_option maxRecDepth 100000 in
theorem gw_810 : Cond.code yX11_can cX11_can 2 (some .boolean) ∈ gT := gT_in 810 rfl rfl
theorem gw_811 : Cond.methodLink RX11 31 yX11_lender ∈ gT := gT_in 811 (by decide +kernel) (by decide +kernel)
theorem gw_812 : Cond.instanceMethod yX11_lender ∈ gT := gT_in 812 (by decide +kernel) (by decide +kernel)
theorem gw_813 : Cond.selects RX11 yX11_lender yX11_lender ∈ gT := gT_in 813 (by decide +kernel) (by decide +kernel)
set_option maxRecDepth 100000 in
theorem gw_814 : Cond.code yX11_lender cX11_lender 2 (some (.object "BucketBrigadeLaw$Lane")) ∈ gT := gT_in 814 rfl rfl
theorem gw_815 : Cond.methodLink RX12 189 yX11_order ∈ gT := gT_in 815 (by decide +kernel) (by decide +kernel)
theorem gw_816 : Cond.instanceMethod yX11_order ∈ gT := gT_in 816 (by decide +kernel) (by decide +kernel)
theorem gw_817 : Cond.selects RX11 yX11_order yX11_order ∈ gT := gT_in 817 (by decide +kernel) (by decide +kernel)
set_option maxRecDepth 100000 in
theorem gw_818 : Cond.code yX11_order cX11_order 1 (some .int) ∈ gT := gT_in 818 rfl rfl
theorem gw_819 : Cond.methodLink RX12 193 yX11_lender ∈ gT := gT_in 819 (by decide +kernel) (by decide +kernel)
theorem gw_820 : Cond.methodLink RL 168 yX12_isSame ∈ gT := gT_in 820 (by decide +kernel) (by decide +kernel)
theorem gw_821 : Cond.instanceMethod yX12_isSame ∈ gT := gT_in 821 (by decide +kernel) (by decide +kernel)
theorem gw_822 : Cond.selects RX12 yX12_isSame yX12_isSame ∈ gT := gT_in 822 (by decide +kernel) (by decide +kernel)
set_option maxRecDepth 100000 in
theorem gw_823 : Cond.code yX12_isSame cX12_isSame 8 (some .boolean) ∈ gT := gT_in 823 rfl rfl
theorem gw_824 : Cond.methodLink RX12 200 yX10_count ∈ gT := gT_in 824 (by decide +kernel) (by decide +kernel)
theorem gw_825 : Cond.methodLink RX12 206 yX12_counted ∈ gT := gT_in 825 (by decide +kernel) (by decide +kernel)
theorem gw_826 : Cond.instanceMethod yX12_counted ∈ gT := gT_in 826 (by decide +kernel) (by decide +kernel)
theorem gw_827 : Cond.selects RX12 yX12_counted yX12_counted ∈ gT := gT_in 827 (by decide +kernel) (by decide +kernel)
set_option maxRecDepth 100000 in
theorem gw_828 : Cond.code yX12_counted cX12_counted 10 (some .int) ∈ gT := gT_in 828 rfl rfl
theorem gw_829 : Cond.methodLink RX12 209 yX10_lane ∈ gT := gT_in 829 (by decide +kernel) (by decide +kernel)
theorem gw_830 : Cond.methodLink RX12 212 yX10_pail ∈ gT := gT_in 830 (by decide +kernel) (by decide +kernel)
theorem gw_831 : Cond.methodLink RX12 215 yX10_lender ∈ gT := gT_in 831 (by decide +kernel) (by decide +kernel)
theorem gw_832 : Cond.methodLink RX12 217 yX10_folk ∈ gT := gT_in 832 (by decide +kernel) (by decide +kernel)
theorem gw_833 : Cond.instanceMethod yX10_folk ∈ gT := gT_in 833 (by decide +kernel) (by decide +kernel)
theorem gw_834 : Cond.selects RX10 yX10_folk yX10_folk ∈ gT := gT_in 834 (by decide +kernel) (by decide +kernel)
set_option maxRecDepth 100000 in
theorem gw_835 : Cond.code yX10_folk cX10_folk 4 (some .int) ∈ gT := gT_in 835 rfl rfl
theorem gw_836 : Cond.methodLink RX10 116 yX6_folkAt ∈ gT := gT_in 836 (by decide +kernel) (by decide +kernel)
theorem gw_838 : Cond.methodLink RX10 122 yX1_fact ∈ gT := gT_in 838 (by decide +kernel) (by decide +kernel)
theorem gw_839 : Cond.instanceMethod yX1_fact ∈ gT := gT_in 839 (by decide +kernel) (by decide +kernel)
theorem gw_840 : Cond.selects RX1 yX1_fact yX1_fact ∈ gT := gT_in 840 (by decide +kernel) (by decide +kernel)
set_option maxRecDepth 100000 in
theorem gw_841 : Cond.code yX1_fact cX1_fact 2 (some .int) ∈ gT := gT_in 841 rfl rfl
theorem gw_842 : Cond.methodLink RX12 219 yX10_eldest ∈ gT := gT_in 842 (by decide +kernel) (by decide +kernel)
theorem gw_843 : Cond.instanceMethod yX10_eldest ∈ gT := gT_in 843 (by decide +kernel) (by decide +kernel)
theorem gw_844 : Cond.selects RX10 yX10_eldest yX10_eldest ∈ gT := gT_in 844 (by decide +kernel) (by decide +kernel)
set_option maxRecDepth 100000 in
theorem gw_845 : Cond.code yX10_eldest cX10_eldest 6 (some .int) ∈ gT := gT_in 845 rfl rfl
theorem gw_846 : Cond.methodLink RX12 222 yX10_mean ∈ gT := gT_in 846 (by decide +kernel) (by decide +kernel)
theorem gw_847 : Cond.instanceMethod yX10_mean ∈ gT := gT_in 847 (by decide +kernel) (by decide +kernel)
theorem gw_848 : Cond.selects RX10 yX10_mean yX10_mean ∈ gT := gT_in 848 (by decide +kernel) (by decide +kernel)
set_option maxRecDepth 100000 in
theorem gw_849 : Cond.code yX10_mean cX10_mean 5 (some .double) ∈ gT := gT_in 849 rfl rfl
theorem gw_850 : Cond.methodLink RL 132 yX12_text ∈ gT := gT_in 850 (by decide +kernel) (by decide +kernel)
theorem gw_851 : Cond.instanceMethod yX12_text ∈ gT := gT_in 851 (by decide +kernel) (by decide +kernel)
theorem gw_852 : Cond.selects RX12 yX12_text yX12_text ∈ gT := gT_in 852 (by decide +kernel) (by decide +kernel)
set_option maxRecDepth 100000 in
theorem gw_853 : Cond.code yX12_text cX12_text 6 (some (.object "java/lang/String")) ∈ gT := gT_in 853 rfl rfl
theorem gw_854 : Cond.classLink RX12 105 RJ4 ∈ gT := gT_in 854 (by decide +kernel) (by decide +kernel)
theorem gw_855 : Cond.instantiable RJ4 4 ∈ gT := gT_in 855 (by decide +kernel) (by decide +kernel)
theorem gw_856 : Cond.methodLink RX12 107 yJ4_init_da8c8 ∈ gT := gT_in 856 (by decide +kernel) (by decide +kernel)
theorem gw_857 : Cond.instanceMethod yJ4_init_da8c8 ∈ gT := gT_in 857 (by decide +kernel) (by decide +kernel)
set_option maxRecDepth 100000 in
theorem gw_858 : Cond.code yJ4_init_da8c8 cJ4_init_da8c8 1 none ∈ gT := gT_in 858 rfl rfl
theorem gw_859 : Cond.methodLink RJ4 1 yJ5_init_d00df ∈ gT := gT_in 859 (by decide +kernel) (by decide +kernel)
theorem gw_860 : Cond.instanceMethod yJ5_init_d00df ∈ gT := gT_in 860 (by decide +kernel) (by decide +kernel)
set_option maxRecDepth 100000 in
theorem gw_861 : Cond.code yJ5_init_d00df cJ5_init_d00df 2 none ∈ gT := gT_in 861 rfl rfl
theorem gw_862 : Cond.methodLink RJ5 3 Lib.objectInit ∈ gT := gT_in 862 (by decide +kernel) (by decide +kernel)
theorem gw_863 : Cond.fieldLink RJ5 18 RJ0 "COMPACT_STRINGS" "Z" ∈ gT := gT_in 863 (by decide +kernel) (by decide +kernel)
theorem gw_871 : Cond.fieldLink RJ5 15 RJ5 "value" "[B" ∈ gT := gT_in 871 (by decide +kernel) (by decide +kernel)
theorem gw_872 : Cond.fieldLink RJ5 22 RJ5 "coder" "B" ∈ gT := gT_in 872 (by decide +kernel) (by decide +kernel)
theorem gw_873 : Cond.fieldLink RJ0 1048 RJ5 "maybeLatin1" "Z" ∈ gT := gT_in 873 (by decide +kernel) (by decide +kernel)
theorem gw_874 : Cond.fieldLink RJ5 79 RJ5 "count" "I" ∈ gT := gT_in 874 (by decide +kernel) (by decide +kernel)
theorem gw_883 : Cond.superclass RJ4 RJ5 ∈ gT := gT_in 883 (by decide +kernel) (by decide +kernel)
theorem gw_885 : Cond.methodLink RX12 110 yJ4_append_15ec4 ∈ gT := gT_in 885 (by decide +kernel) (by decide +kernel)
theorem gw_886 : Cond.instanceMethod yJ4_append_15ec4 ∈ gT := gT_in 886 (by decide +kernel) (by decide +kernel)
theorem gw_887 : Cond.selects RJ4 yJ4_append_15ec4 yJ4_append_15ec4 ∈ gT := gT_in 887 (by decide +kernel) (by decide +kernel)
set_option maxRecDepth 100000 in
theorem gw_888 : Cond.code yJ4_append_15ec4 cJ4_append_15ec4 2 (some (.object "java/lang/StringBuilder")) ∈ gT := gT_in 888 rfl rfl
theorem gw_889 : Cond.methodLink RJ4 29 yJ5_append_cf1ce ∈ gT := gT_in 889 (by decide +kernel) (by decide +kernel)
theorem gw_890 : Cond.instanceMethod yJ5_append_cf1ce ∈ gT := gT_in 890 (by decide +kernel) (by decide +kernel)
set_option maxRecDepth 100000 in
theorem gw_891 : Cond.code yJ5_append_cf1ce cJ5_append_cf1ce 3 (some (.object "java/lang/AbstractStringBuilder")) ∈ gT := gT_in 891 rfl rfl
theorem gw_896 : Cond.methodLink RJ5 100 yJ5_ensureCapacityInternal_d00df ∈ gT := gT_in 896 (by decide +kernel) (by decide +kernel)
theorem gw_898 : Cond.instanceMethod yJ5_ensureCapacityInternal_d00df ∈ gT := gT_in 898 (by decide +kernel) (by decide +kernel)
set_option maxRecDepth 100000 in
theorem gw_899 : Cond.code yJ5_ensureCapacityInternal_d00df cJ5_ensureCapacityInternal_d00df 3 none ∈ gT := gT_in 899 rfl rfl
theorem gw_900 : Cond.methodLink RJ5 104 yJ5_newCapacity_0f7a4 ∈ gT := gT_in 900 (by decide +kernel) (by decide +kernel)
theorem gw_902 : Cond.instanceMethod yJ5_newCapacity_0f7a4 ∈ gT := gT_in 902 (by decide +kernel) (by decide +kernel)
set_option maxRecDepth 100000 in
theorem gw_903 : Cond.code yJ5_newCapacity_0f7a4 cJ5_newCapacity_0f7a4 6 (some .int) ∈ gT := gT_in 903 rfl rfl
theorem gw_904 : Cond.methodLink RJ5 114 yJ8_newLength_cabcc ∈ gT := gT_in 904 (by decide +kernel) (by decide +kernel)
theorem gw_905 : Cond.static yJ8_newLength_cabcc ∈ gT := gT_in 905 (by decide +kernel) (by decide +kernel)
set_option maxRecDepth 100000 in
theorem gw_906 : Cond.code yJ8_newLength_cabcc cJ8_newLength_cabcc 4 (some .int) ∈ gT := gT_in 906 rfl rfl
theorem gw_907 : Cond.methodLink RJ8 194 yJ9_max_7cf53 ∈ gT := gT_in 907 (by decide +kernel) (by decide +kernel)
theorem gw_908 : Cond.constant RJ8 200 2147483639 ∈ gT := gT_in 908 (by decide +kernel) (by decide +kernel)
theorem gw_912 : Cond.constant RJ5 39 2147483647 ∈ gT := gT_in 912 (by decide +kernel) (by decide +kernel)
theorem gw_913 : Cond.methodLink RJ5 108 yJ7_copyOf_9075b ∈ gT := gT_in 913 (by decide +kernel) (by decide +kernel)
theorem gw_914 : Cond.static yJ7_copyOf_9075b ∈ gT := gT_in 914 (by decide +kernel) (by decide +kernel)
set_option maxRecDepth 100000 in
theorem gw_915 : Cond.code yJ7_copyOf_9075b cJ7_copyOf_9075b 3 (some (.array .byte)) ∈ gT := gT_in 915 rfl rfl
theorem gw_916 : Cond.methodLink RJ7 310 ⟨"[B", "clone", "()Ljava/lang/Object;"⟩ ∈ gT := gT_in 916 (by decide +kernel) (by decide +kernel)
theorem gw_917 : Cond.sameMethod "[B" "java/lang/Object" "clone" "()Ljava/lang/Object;" ∈ gT := gT_in 917 (by decide +kernel) (by decide +kernel)
theorem gw_918 : Cond.native ⟨"java/lang/Object", "clone", "()Ljava/lang/Object;"⟩ ∈ gT := gT_in 918 (by decide +kernel) (by decide +kernel)
theorem gw_919 : Cond.instanceMethod ⟨"java/lang/Object", "clone", "()Ljava/lang/Object;"⟩ ∈ gT := gT_in 919 (by decide +kernel) (by decide +kernel)
theorem gw_920 : Cond.selects "[B" ⟨"[B", "clone", "()Ljava/lang/Object;"⟩ ⟨"java/lang/Object", "clone", "()Ljava/lang/Object;"⟩ ∈ gT := gT_in 920 (by decide +kernel) (by decide +kernel)
theorem gw_922 : Cond.classLink RJ7 311 "[B" ∈ gT := gT_in 922 (by decide +kernel) (by decide +kernel)
theorem gw_923 : Cond.methodLink RJ7 304 yJ9_min_7cf53 ∈ gT := gT_in 923 (by decide +kernel) (by decide +kernel)
theorem gw_924 : Cond.methodLink RJ7 150 ⟨"java/lang/System", "arraycopy", "(Ljava/lang/Object;ILjava/lang/Object;II)V"⟩ ∈ gT := gT_in 924 (by decide +kernel) (by decide +kernel)
theorem gw_925 : Cond.static ⟨"java/lang/System", "arraycopy", "(Ljava/lang/Object;ILjava/lang/Object;II)V"⟩ ∈ gT := gT_in 925 (by decide +kernel) (by decide +kernel)
theorem gw_926 : Cond.native ⟨"java/lang/System", "arraycopy", "(Ljava/lang/Object;ILjava/lang/Object;II)V"⟩ ∈ gT := gT_in 926 (by decide +kernel) (by decide +kernel)
theorem gw_927 : Cond.methodLink RJ5 83 yJ5_isLatin1_aae02 ∈ gT := gT_in 927 (by decide +kernel) (by decide +kernel)
theorem gw_928 : Cond.instanceMethod yJ5_isLatin1_aae02 ∈ gT := gT_in 928 (by decide +kernel) (by decide +kernel)
theorem gw_929 : Cond.sameMethod "java/lang/AbstractStringBuilder" "java/lang/AbstractStringBuilder" "isLatin1" "()Z" ∈ gT := gT_in 929 (by decide +kernel) (by decide +kernel)
theorem gw_930 : Cond.selects RJ4 yJ5_isLatin1_aae02 yJ5_isLatin1_aae02 ∈ gT := gT_in 930 (by decide +kernel) (by decide +kernel)
set_option maxRecDepth 100000 in
theorem gw_931 : Cond.code yJ5_isLatin1_aae02 cJ5_isLatin1_aae02 1 (some .boolean) ∈ gT := gT_in 931 rfl rfl
theorem gw_947 : Cond.methodLink RJ5 32 yJ0_length_8abf5 ∈ gT := gT_in 947 (by decide +kernel) (by decide +kernel)
theorem gw_948 : Cond.methodLink RJ5 208 yJ5_putStringAt_47b60 ∈ gT := gT_in 948 (by decide +kernel) (by decide +kernel)
theorem gw_950 : Cond.instanceMethod yJ5_putStringAt_47b60 ∈ gT := gT_in 950 (by decide +kernel) (by decide +kernel)
set_option maxRecDepth 100000 in
theorem gw_951 : Cond.code yJ5_putStringAt_47b60 cJ5_putStringAt_47b60 3 none ∈ gT := gT_in 951 rfl rfl
theorem gw_952 : Cond.methodLink RJ5 397 yJ5_inflateIfNeededFor_a7421 ∈ gT := gT_in 952 (by decide +kernel) (by decide +kernel)
theorem gw_954 : Cond.instanceMethod yJ5_inflateIfNeededFor_a7421 ∈ gT := gT_in 954 (by decide +kernel) (by decide +kernel)
set_option maxRecDepth 100000 in
theorem gw_955 : Cond.code yJ5_inflateIfNeededFor_a7421 cJ5_inflateIfNeededFor_a7421 2 none ∈ gT := gT_in 955 rfl rfl
theorem gw_956 : Cond.methodLink RJ5 40 yJ0_coder_7d493 ∈ gT := gT_in 956 (by decide +kernel) (by decide +kernel)
theorem gw_976 : Cond.methodLink RJ5 399 yJ0_getBytes_840e7 ∈ gT := gT_in 976 (by decide +kernel) (by decide +kernel)
theorem gw_977 : Cond.instanceMethod yJ0_getBytes_840e7 ∈ gT := gT_in 977 (by decide +kernel) (by decide +kernel)
theorem gw_978 : Cond.selects RJ0 yJ0_getBytes_840e7 yJ0_getBytes_840e7 ∈ gT := gT_in 978 (by decide +kernel) (by decide +kernel)
set_option maxRecDepth 100000 in
theorem gw_979 : Cond.code yJ0_getBytes_840e7 cJ0_getBytes_840e7 4 none ∈ gT := gT_in 979 rfl rfl
theorem gw_980 : Cond.methodLink RJ0 212 ⟨"java/lang/System", "arraycopy", "(Ljava/lang/Object;ILjava/lang/Object;II)V"⟩ ∈ gT := gT_in 980 (by decide +kernel) (by decide +kernel)
theorem gw_982 : Cond.methodLink RX12 114 yJ4_append_bf812 ∈ gT := gT_in 982 (by decide +kernel) (by decide +kernel)
theorem gw_983 : Cond.instanceMethod yJ4_append_bf812 ∈ gT := gT_in 983 (by decide +kernel) (by decide +kernel)
theorem gw_984 : Cond.selects RJ4 yJ4_append_bf812 yJ4_append_bf812 ∈ gT := gT_in 984 (by decide +kernel) (by decide +kernel)
set_option maxRecDepth 100000 in
theorem gw_985 : Cond.code yJ4_append_bf812 cJ4_append_bf812 2 (some (.object "java/lang/StringBuilder")) ∈ gT := gT_in 985 rfl rfl
theorem gw_986 : Cond.methodLink RJ4 53 yJ5_append_c97b9 ∈ gT := gT_in 986 (by decide +kernel) (by decide +kernel)
theorem gw_987 : Cond.instanceMethod yJ5_append_c97b9 ∈ gT := gT_in 987 (by decide +kernel) (by decide +kernel)
set_option maxRecDepth 100000 in
theorem gw_988 : Cond.code yJ5_append_c97b9 cJ5_append_c97b9 4 (some (.object "java/lang/AbstractStringBuilder")) ∈ gT := gT_in 988 rfl rfl
theorem gw_989 : Cond.methodLink RJ5 245 yJ6_stringSize_0f7a4 ∈ gT := gT_in 989 (by decide +kernel) (by decide +kernel)
theorem gw_990 : Cond.static yJ6_stringSize_0f7a4 ∈ gT := gT_in 990 (by decide +kernel) (by decide +kernel)
set_option maxRecDepth 100000 in
theorem gw_991 : Cond.code yJ6_stringSize_0f7a4 cJ6_stringSize_0f7a4 4 (some .int) ∈ gT := gT_in 991 rfl rfl
theorem gw_992 : Cond.methodLink RJ5 248 yJ6_getChars_ba4f3 ∈ gT := gT_in 992 (by decide +kernel) (by decide +kernel)
theorem gw_993 : Cond.static yJ6_getChars_ba4f3 ∈ gT := gT_in 993 (by decide +kernel) (by decide +kernel)
set_option maxRecDepth 100000 in
theorem gw_994 : Cond.code yJ6_getChars_ba4f3 cJ6_getChars_ba4f3 7 (some .int) ∈ gT := gT_in 994 rfl rfl
theorem gw_995 : Cond.fieldLink RJ6 83 RJ6 "DigitOnes" "[B" ∈ gT := gT_in 995 (by decide +kernel) (by decide +kernel)
theorem gw_997 : Cond.fieldLink RJ6 87 RJ6 "DigitTens" "[B" ∈ gT := gT_in 997 (by decide +kernel) (by decide +kernel)
theorem gw_1028 : Cond.methodLink RX12 161 yX12_told ∈ gT := gT_in 1028 (by decide +kernel) (by decide +kernel)
theorem gw_1029 : Cond.static yX12_told ∈ gT := gT_in 1029 (by decide +kernel) (by decide +kernel)
set_option maxRecDepth 100000 in
theorem gw_1030 : Cond.code yX12_told cX12_told 3 (some (.object "java/lang/String")) ∈ gT := gT_in 1030 rfl rfl
theorem gw_1032 : Cond.methodLink RX12 117 yJ4_toString_0e30d ∈ gT := gT_in 1032 (by decide +kernel) (by decide +kernel)
theorem gw_1033 : Cond.instanceMethod yJ4_toString_0e30d ∈ gT := gT_in 1033 (by decide +kernel) (by decide +kernel)
theorem gw_1034 : Cond.selects RJ4 yJ4_toString_0e30d yJ4_toString_0e30d ∈ gT := gT_in 1034 (by decide +kernel) (by decide +kernel)
set_option maxRecDepth 100000 in
theorem gw_1035 : Cond.code yJ4_toString_0e30d cJ4_toString_0e30d 1 (some (.object "java/lang/String")) ∈ gT := gT_in 1035 rfl rfl
theorem gw_1036 : Cond.classLink RJ4 18 RJ0 ∈ gT := gT_in 1036 (by decide +kernel) (by decide +kernel)
theorem gw_1037 : Cond.instantiable RJ0 4 ∈ gT := gT_in 1037 (by decide +kernel) (by decide +kernel)
theorem gw_1038 : Cond.methodLink RJ4 137 yJ0_init_81219 ∈ gT := gT_in 1038 (by decide +kernel) (by decide +kernel)
theorem gw_1039 : Cond.instanceMethod yJ0_init_81219 ∈ gT := gT_in 1039 (by decide +kernel) (by decide +kernel)
set_option maxRecDepth 100000 in
theorem gw_1040 : Cond.code yJ0_init_81219 cJ0_init_81219 2 none ∈ gT := gT_in 1040 rfl rfl
theorem gw_1041 : Cond.methodLink RJ0 489 yJ0_init_db425 ∈ gT := gT_in 1041 (by decide +kernel) (by decide +kernel)
theorem gw_1042 : Cond.instanceMethod yJ0_init_db425 ∈ gT := gT_in 1042 (by decide +kernel) (by decide +kernel)
set_option maxRecDepth 100000 in
theorem gw_1043 : Cond.code yJ0_init_db425 cJ0_init_db425 5 none ∈ gT := gT_in 1043 rfl rfl
theorem gw_1044 : Cond.methodLink RJ0 1 Lib.objectInit ∈ gT := gT_in 1044 (by decide +kernel) (by decide +kernel)
theorem gw_1045 : Cond.methodLink RJ0 552 yJ5_getValue_6d5f1 ∈ gT := gT_in 1045 (by decide +kernel) (by decide +kernel)
theorem gw_1046 : Cond.instanceMethod yJ5_getValue_6d5f1 ∈ gT := gT_in 1046 (by decide +kernel) (by decide +kernel)
theorem gw_1047 : Cond.sameMethod "java/lang/AbstractStringBuilder" "java/lang/AbstractStringBuilder" "getValue" "()[B" ∈ gT := gT_in 1047 (by decide +kernel) (by decide +kernel)
theorem gw_1048 : Cond.selects RJ4 yJ5_getValue_6d5f1 yJ5_getValue_6d5f1 ∈ gT := gT_in 1048 (by decide +kernel) (by decide +kernel)
set_option maxRecDepth 100000 in
theorem gw_1049 : Cond.code yJ5_getValue_6d5f1 cJ5_getValue_6d5f1 1 (some (.array .byte)) ∈ gT := gT_in 1049 rfl rfl
theorem gw_1050 : Cond.methodLink RJ0 549 yJ5_length_8abf5 ∈ gT := gT_in 1050 (by decide +kernel) (by decide +kernel)
theorem gw_1051 : Cond.instanceMethod yJ5_length_8abf5 ∈ gT := gT_in 1051 (by decide +kernel) (by decide +kernel)
theorem gw_1052 : Cond.sameMethod "java/lang/AbstractStringBuilder" "java/lang/AbstractStringBuilder" "length" "()I" ∈ gT := gT_in 1052 (by decide +kernel) (by decide +kernel)
theorem gw_1053 : Cond.selects RJ4 yJ5_length_8abf5 yJ4_length_8abf5 ∈ gT := gT_in 1053 (by decide +kernel) (by decide +kernel)
theorem gw_1054 : Cond.instanceMethod yJ4_length_8abf5 ∈ gT := gT_in 1054 (by decide +kernel) (by decide +kernel)
set_option maxRecDepth 100000 in
theorem gw_1055 : Cond.code yJ4_length_8abf5 cJ4_length_8abf5 1 (some .int) ∈ gT := gT_in 1055 rfl rfl
theorem gw_1056 : Cond.methodLink RJ4 343 yJ5_length_8abf5 ∈ gT := gT_in 1056 (by decide +kernel) (by decide +kernel)
set_option maxRecDepth 100000 in
theorem gw_1057 : Cond.code yJ5_length_8abf5 cJ5_length_8abf5 1 (some .int) ∈ gT := gT_in 1057 rfl rfl
theorem gw_1058 : Cond.methodLink RJ0 1047 yJ5_isLatin1_aae02 ∈ gT := gT_in 1058 (by decide +kernel) (by decide +kernel)
theorem gw_1059 : Cond.methodLink RJ0 54 yJ7_copyOfRange_39247 ∈ gT := gT_in 1059 (by decide +kernel) (by decide +kernel)
theorem gw_1060 : Cond.static yJ7_copyOfRange_39247 ∈ gT := gT_in 1060 (by decide +kernel) (by decide +kernel)
set_option maxRecDepth 100000 in
theorem gw_1061 : Cond.code yJ7_copyOfRange_39247 cJ7_copyOfRange_39247 3 (some (.array .byte)) ∈ gT := gT_in 1061 rfl rfl
theorem gw_1062 : Cond.methodLink RJ7 339 yJ7_copyOfRangeByte_39247 ∈ gT := gT_in 1062 (by decide +kernel) (by decide +kernel)
theorem gw_1063 : Cond.static yJ7_copyOfRangeByte_39247 ∈ gT := gT_in 1063 (by decide +kernel) (by decide +kernel)
set_option maxRecDepth 100000 in
theorem gw_1064 : Cond.code yJ7_copyOfRangeByte_39247 cJ7_copyOfRangeByte_39247 5 (some (.array .byte)) ∈ gT := gT_in 1064 rfl rfl
theorem gw_1065 : Cond.methodLink RJ7 343 yJ7_checkLength_df160 ∈ gT := gT_in 1065 (by decide +kernel) (by decide +kernel)
theorem gw_1066 : Cond.static yJ7_checkLength_df160 ∈ gT := gT_in 1066 (by decide +kernel) (by decide +kernel)
set_option maxRecDepth 100000 in
theorem gw_1067 : Cond.code yJ7_checkLength_df160 cJ7_checkLength_df160 2 none ∈ gT := gT_in 1067 rfl rfl
theorem gw_1078 : Cond.fieldLink RJ0 9 RJ0 "value" "[B" ∈ gT := gT_in 1078 (by decide +kernel) (by decide +kernel)
theorem gw_1079 : Cond.fieldLink RJ0 15 RJ0 "coder" "B" ∈ gT := gT_in 1079 (by decide +kernel) (by decide +kernel)
theorem gw_1101 : Cond.methodLink RX12 272 yX12_test ∈ gT := gT_in 1101 (by decide +kernel) (by decide +kernel)
theorem gw_1102 : Cond.static yX12_test ∈ gT := gT_in 1102 (by decide +kernel) (by decide +kernel)
set_option maxRecDepth 100000 in
theorem gw_1103 : Cond.code yX12_test cX12_test 3 (some (.object "java/lang/String")) ∈ gT := gT_in 1103 rfl rfl
theorem gw_1114 : Cond.methodLink RL 35 yL_cell ∈ gT := gT_in 1114 (by decide +kernel) (by decide +kernel)
theorem gw_1115 : Cond.static yL_cell ∈ gT := gT_in 1115 (by decide +kernel) (by decide +kernel)
set_option maxRecDepth 100000 in
theorem gw_1116 : Cond.code yL_cell cL_cell 2 (some .int) ∈ gT := gT_in 1116 rfl rfl
theorem gw_1117 : Cond.constant RL 8 790386105 ∈ gT := gT_in 1117 (by decide +kernel) (by decide +kernel)
theorem gw_1118 : Cond.methodLink RL 136 yL_say ∈ gT := gT_in 1118 (by decide +kernel) (by decide +kernel)
theorem gw_1119 : Cond.static yL_say ∈ gT := gT_in 1119 (by decide +kernel) (by decide +kernel)
set_option maxRecDepth 100000 in
theorem gw_1120 : Cond.code yL_say cL_say 6 (some .int) ∈ gT := gT_in 1120 rfl rfl
theorem gw_1121 : Cond.methodLink RL 9 yJ0_length_8abf5 ∈ gT := gT_in 1121 (by decide +kernel) (by decide +kernel)
theorem gw_1122 : Cond.methodLink RL 15 yJ0_charAt_5068e ∈ gT := gT_in 1122 (by decide +kernel) (by decide +kernel)
theorem gw_1123 : Cond.methodLink RL 19 yX10_feed ∈ gT := gT_in 1123 (by decide +kernel) (by decide +kernel)
theorem gw_1124 : Cond.instanceMethod yX10_feed ∈ gT := gT_in 1124 (by decide +kernel) (by decide +kernel)
theorem gw_1125 : Cond.selects RX10 yX10_feed yX10_feed ∈ gT := gT_in 1125 (by decide +kernel) (by decide +kernel)
set_option maxRecDepth 100000 in
theorem gw_1126 : Cond.code yX10_feed cX10_feed 6 (some .int) ∈ gT := gT_in 1126 rfl rfl
theorem gw_1143 : Cond.methodLink RX10 52 yX8_append ∈ gT := gT_in 1143 (by decide +kernel) (by decide +kernel)
theorem gw_1144 : Cond.instanceMethod yX8_append ∈ gT := gT_in 1144 (by decide +kernel) (by decide +kernel)
theorem gw_1145 : Cond.selects RX8 yX8_append yX8_append ∈ gT := gT_in 1145 (by decide +kernel) (by decide +kernel)
set_option maxRecDepth 100000 in
theorem gw_1146 : Cond.code yX8_append cX8_append 3 none ∈ gT := gT_in 1146 rfl rfl
theorem gw_1147 : Cond.methodLink RL 25 yX10_trim ∈ gT := gT_in 1147 (by decide +kernel) (by decide +kernel)
theorem gw_1148 : Cond.instanceMethod yX10_trim ∈ gT := gT_in 1148 (by decide +kernel) (by decide +kernel)
theorem gw_1149 : Cond.selects RX10 yX10_trim yX10_trim ∈ gT := gT_in 1149 (by decide +kernel) (by decide +kernel)
set_option maxRecDepth 100000 in
theorem gw_1150 : Cond.code yX10_trim cX10_trim 2 (some .int) ∈ gT := gT_in 1150 rfl rfl
theorem gw_1152 : Cond.methodLink RL 29 yX10_teach ∈ gT := gT_in 1152 (by decide +kernel) (by decide +kernel)
theorem gw_1153 : Cond.instanceMethod yX10_teach ∈ gT := gT_in 1153 (by decide +kernel) (by decide +kernel)
theorem gw_1154 : Cond.selects RX10 yX10_teach yX10_teach ∈ gT := gT_in 1154 (by decide +kernel) (by decide +kernel)
set_option maxRecDepth 100000 in
theorem gw_1155 : Cond.code yX10_teach cX10_teach 2 (some .int) ∈ gT := gT_in 1155 rfl rfl
theorem gw_1156 : Cond.methodLink RX10 64 yX5_read ∈ gT := gT_in 1156 (by decide +kernel) (by decide +kernel)
theorem gw_1157 : Cond.instanceMethod yX5_read ∈ gT := gT_in 1157 (by decide +kernel) (by decide +kernel)
theorem gw_1158 : Cond.selects RX5 yX5_read yX5_read ∈ gT := gT_in 1158 (by decide +kernel) (by decide +kernel)
set_option maxRecDepth 100000 in
theorem gw_1159 : Cond.code yX5_read cX5_read 5 (some .int) ∈ gT := gT_in 1159 rfl rfl
theorem gw_1160 : Cond.methodLink RX5 37 yX9_scan ∈ gT := gT_in 1160 (by decide +kernel) (by decide +kernel)
theorem gw_1161 : Cond.instanceMethod yX9_scan ∈ gT := gT_in 1161 (by decide +kernel) (by decide +kernel)
theorem gw_1162 : Cond.selects RX9 yX9_scan yX9_scan ∈ gT := gT_in 1162 (by decide +kernel) (by decide +kernel)
set_option maxRecDepth 100000 in
theorem gw_1163 : Cond.code yX9_scan cX9_scan 7 none ∈ gT := gT_in 1163 rfl rfl
theorem gw_1164 : Cond.methodLink RX9 45 yX9_behindBlanks ∈ gT := gT_in 1164 (by decide +kernel) (by decide +kernel)
theorem gw_1165 : Cond.static yX9_behindBlanks ∈ gT := gT_in 1165 (by decide +kernel) (by decide +kernel)
set_option maxRecDepth 100000 in
theorem gw_1166 : Cond.code yX9_behindBlanks cX9_behindBlanks 3 (some .int) ∈ gT := gT_in 1166 rfl rfl
theorem gw_1167 : Cond.methodLink RX9 60 yX8_at ∈ gT := gT_in 1167 (by decide +kernel) (by decide +kernel)
theorem gw_1168 : Cond.instanceMethod yX8_at ∈ gT := gT_in 1168 (by decide +kernel) (by decide +kernel)
theorem gw_1169 : Cond.selects RX8 yX8_at yX8_at ∈ gT := gT_in 1169 (by decide +kernel) (by decide +kernel)
set_option maxRecDepth 100000 in
theorem gw_1170 : Cond.code yX8_at cX8_at 3 (some .int) ∈ gT := gT_in 1170 rfl rfl
theorem gw_1171 : Cond.methodLink RX9 49 yX9_scanToken ∈ gT := gT_in 1171 (by decide +kernel) (by decide +kernel)
theorem gw_1173 : Cond.instanceMethod yX9_scanToken ∈ gT := gT_in 1173 (by decide +kernel) (by decide +kernel)
set_option maxRecDepth 100000 in
theorem gw_1174 : Cond.code yX9_scanToken cX9_scanToken 4 (some .int) ∈ gT := gT_in 1174 rfl rfl
theorem gw_1175 : Cond.methodLink RX9 63 yX9_add ∈ gT := gT_in 1175 (by decide +kernel) (by decide +kernel)
theorem gw_1177 : Cond.instanceMethod yX9_add ∈ gT := gT_in 1177 (by decide +kernel) (by decide +kernel)
set_option maxRecDepth 100000 in
theorem gw_1178 : Cond.code yX9_add cX9_add 5 none ∈ gT := gT_in 1178 rfl rfl
theorem gw_1179 : Cond.methodLink RX9 67 yX9_isLetter ∈ gT := gT_in 1179 (by decide +kernel) (by decide +kernel)
theorem gw_1180 : Cond.static yX9_isLetter ∈ gT := gT_in 1180 (by decide +kernel) (by decide +kernel)
set_option maxRecDepth 100000 in
theorem gw_1181 : Cond.code yX9_isLetter cX9_isLetter 1 (some .boolean) ∈ gT := gT_in 1181 rfl rfl
theorem gw_1182 : Cond.methodLink RX9 71 yX9_scanWord ∈ gT := gT_in 1182 (by decide +kernel) (by decide +kernel)
theorem gw_1184 : Cond.instanceMethod yX9_scanWord ∈ gT := gT_in 1184 (by decide +kernel) (by decide +kernel)
set_option maxRecDepth 100000 in
theorem gw_1185 : Cond.code yX9_scanWord cX9_scanWord 6 (some .int) ∈ gT := gT_in 1185 rfl rfl
theorem gw_1186 : Cond.methodLink RX9 83 yX9_kindOfWord ∈ gT := gT_in 1186 (by decide +kernel) (by decide +kernel)
theorem gw_1188 : Cond.instanceMethod yX9_kindOfWord ∈ gT := gT_in 1188 (by decide +kernel) (by decide +kernel)
set_option maxRecDepth 100000 in
theorem gw_1189 : Cond.code yX9_kindOfWord cX9_kindOfWord 4 (some .int) ∈ gT := gT_in 1189 rfl rfl
theorem gw_1190 : Cond.methodLink RX9 77 yX9_scanNumber ∈ gT := gT_in 1190 (by decide +kernel) (by decide +kernel)
theorem gw_1192 : Cond.instanceMethod yX9_scanNumber ∈ gT := gT_in 1192 (by decide +kernel) (by decide +kernel)
set_option maxRecDepth 100000 in
theorem gw_1193 : Cond.code yX9_scanNumber cX9_scanNumber 6 (some .int) ∈ gT := gT_in 1193 rfl rfl
theorem gw_1194 : Cond.constantLong RX9 87 10 ∈ gT := gT_in 1194 (by decide +kernel) (by decide +kernel)
theorem gw_1195 : Cond.methodLink RX9 80 yX9_scanSymbol ∈ gT := gT_in 1195 (by decide +kernel) (by decide +kernel)
theorem gw_1197 : Cond.instanceMethod yX9_scanSymbol ∈ gT := gT_in 1197 (by decide +kernel) (by decide +kernel)
set_option maxRecDepth 100000 in
theorem gw_1198 : Cond.code yX9_scanSymbol cX9_scanSymbol 4 (some .int) ∈ gT := gT_in 1198 rfl rfl
theorem gw_1199 : Cond.methodLink RX9 89 yX9_isSymbol ∈ gT := gT_in 1199 (by decide +kernel) (by decide +kernel)
theorem gw_1200 : Cond.static yX9_isSymbol ∈ gT := gT_in 1200 (by decide +kernel) (by decide +kernel)
set_option maxRecDepth 100000 in
theorem gw_1201 : Cond.code yX9_isSymbol cX9_isSymbol 1 (some .boolean) ∈ gT := gT_in 1201 rfl rfl
theorem gw_1202 : Cond.methodLink RX9 52 yX9_kindOf ∈ gT := gT_in 1202 (by decide +kernel) (by decide +kernel)
theorem gw_1203 : Cond.instanceMethod yX9_kindOf ∈ gT := gT_in 1203 (by decide +kernel) (by decide +kernel)
theorem gw_1204 : Cond.selects RX9 yX9_kindOf yX9_kindOf ∈ gT := gT_in 1204 (by decide +kernel) (by decide +kernel)
set_option maxRecDepth 100000 in
theorem gw_1205 : Cond.code yX9_kindOf cX9_kindOf 2 (some .int) ∈ gT := gT_in 1205 rfl rfl
theorem gw_1206 : Cond.methodLink RX5 41 yX6_begin ∈ gT := gT_in 1206 (by decide +kernel) (by decide +kernel)
theorem gw_1207 : Cond.methodLink RX5 49 yX0_clear ∈ gT := gT_in 1207 (by decide +kernel) (by decide +kernel)
theorem gw_1208 : Cond.instanceMethod yX0_clear ∈ gT := gT_in 1208 (by decide +kernel) (by decide +kernel)
theorem gw_1209 : Cond.selects RX0 yX0_clear yX0_clear ∈ gT := gT_in 1209 (by decide +kernel) (by decide +kernel)
set_option maxRecDepth 100000 in
theorem gw_1210 : Cond.code yX0_clear cX0_clear 1 none ∈ gT := gT_in 1210 rfl rfl
theorem gw_1211 : Cond.methodLink RX5 62 yX5_kind ∈ gT := gT_in 1211 (by decide +kernel) (by decide +kernel)
theorem gw_1213 : Cond.instanceMethod yX5_kind ∈ gT := gT_in 1213 (by decide +kernel) (by decide +kernel)
set_option maxRecDepth 100000 in
theorem gw_1214 : Cond.code yX5_kind cX5_kind 1 (some .int) ∈ gT := gT_in 1214 rfl rfl
theorem gw_1215 : Cond.methodLink RX5 187 yX9_kindOf ∈ gT := gT_in 1215 (by decide +kernel) (by decide +kernel)
theorem gw_1216 : Cond.methodLink RX5 66 yX5_number ∈ gT := gT_in 1216 (by decide +kernel) (by decide +kernel)
theorem gw_1218 : Cond.instanceMethod yX5_number ∈ gT := gT_in 1218 (by decide +kernel) (by decide +kernel)
set_option maxRecDepth 100000 in
theorem gw_1219 : Cond.code yX5_number cX5_number 4 (some .int) ∈ gT := gT_in 1219 rfl rfl
theorem gw_1220 : Cond.methodLink RX5 82 yX5_fail ∈ gT := gT_in 1220 (by decide +kernel) (by decide +kernel)
theorem gw_1222 : Cond.instanceMethod yX5_fail ∈ gT := gT_in 1222 (by decide +kernel) (by decide +kernel)
set_option maxRecDepth 100000 in
theorem gw_1223 : Cond.code yX5_fail cX5_fail 1 none ∈ gT := gT_in 1223 rfl rfl
theorem gw_1224 : Cond.methodLink RX5 195 yX9_startOf ∈ gT := gT_in 1224 (by decide +kernel) (by decide +kernel)
theorem gw_1225 : Cond.instanceMethod yX9_startOf ∈ gT := gT_in 1225 (by decide +kernel) (by decide +kernel)
theorem gw_1226 : Cond.selects RX9 yX9_startOf yX9_startOf ∈ gT := gT_in 1226 (by decide +kernel) (by decide +kernel)
set_option maxRecDepth 100000 in
theorem gw_1227 : Cond.code yX9_startOf cX9_startOf 2 (some .int) ∈ gT := gT_in 1227 rfl rfl
theorem gw_1228 : Cond.methodLink RX5 180 yX9_valueOf ∈ gT := gT_in 1228 (by decide +kernel) (by decide +kernel)
theorem gw_1229 : Cond.instanceMethod yX9_valueOf ∈ gT := gT_in 1229 (by decide +kernel) (by decide +kernel)
theorem gw_1230 : Cond.selects RX9 yX9_valueOf yX9_valueOf ∈ gT := gT_in 1230 (by decide +kernel) (by decide +kernel)
set_option maxRecDepth 100000 in
theorem gw_1231 : Cond.code yX9_valueOf cX9_valueOf 2 (some .long) ∈ gT := gT_in 1231 rfl rfl
theorem gw_1232 : Cond.methodLink RX5 137 yX5_blame ∈ gT := gT_in 1232 (by decide +kernel) (by decide +kernel)
theorem gw_1234 : Cond.instanceMethod yX5_blame ∈ gT := gT_in 1234 (by decide +kernel) (by decide +kernel)
set_option maxRecDepth 100000 in
theorem gw_1235 : Cond.code yX5_blame cX5_blame 2 none ∈ gT := gT_in 1235 rfl rfl
theorem gw_1236 : Cond.methodLink RX5 73 yX5_readLane ∈ gT := gT_in 1236 (by decide +kernel) (by decide +kernel)
theorem gw_1238 : Cond.instanceMethod yX5_readLane ∈ gT := gT_in 1238 (by decide +kernel) (by decide +kernel)
set_option maxRecDepth 100000 in
theorem gw_1239 : Cond.code yX5_readLane cX5_readLane 11 none ∈ gT := gT_in 1239 rfl rfl
theorem gw_1240 : Cond.methodLink RX5 91 yX5_newName ∈ gT := gT_in 1240 (by decide +kernel) (by decide +kernel)
theorem gw_1242 : Cond.instanceMethod yX5_newName ∈ gT := gT_in 1242 (by decide +kernel) (by decide +kernel)
set_option maxRecDepth 100000 in
theorem gw_1243 : Cond.code yX5_newName cX5_newName 5 (some .long) ∈ gT := gT_in 1243 rfl rfl
theorem gw_1244 : Cond.methodLink RX5 191 yX5_placeOf ∈ gT := gT_in 1244 (by decide +kernel) (by decide +kernel)
theorem gw_1245 : Cond.static yX5_placeOf ∈ gT := gT_in 1245 (by decide +kernel) (by decide +kernel)
set_option maxRecDepth 100000 in
theorem gw_1246 : Cond.code yX5_placeOf cX5_placeOf 5 (some .int) ∈ gT := gT_in 1246 rfl rfl
theorem gw_1247 : Cond.methodLink RX5 95 yX5_takes ∈ gT := gT_in 1247 (by decide +kernel) (by decide +kernel)
theorem gw_1249 : Cond.instanceMethod yX5_takes ∈ gT := gT_in 1249 (by decide +kernel) (by decide +kernel)
set_option maxRecDepth 100000 in
theorem gw_1250 : Cond.code yX5_takes cX5_takes 2 (some .boolean) ∈ gT := gT_in 1250 rfl rfl
theorem gw_1251 : Cond.methodLink RX5 99 yX5_toldLane ∈ gT := gT_in 1251 (by decide +kernel) (by decide +kernel)
theorem gw_1253 : Cond.instanceMethod yX5_toldLane ∈ gT := gT_in 1253 (by decide +kernel) (by decide +kernel)
set_option maxRecDepth 100000 in
theorem gw_1254 : Cond.code yX5_toldLane cX5_toldLane 2 (some .int) ∈ gT := gT_in 1254 rfl rfl
theorem gw_1255 : Cond.methodLink RX5 85 yX5_need ∈ gT := gT_in 1255 (by decide +kernel) (by decide +kernel)
theorem gw_1257 : Cond.instanceMethod yX5_need ∈ gT := gT_in 1257 (by decide +kernel) (by decide +kernel)
set_option maxRecDepth 100000 in
theorem gw_1258 : Cond.code yX5_need cX5_need 2 none ∈ gT := gT_in 1258 rfl rfl
theorem gw_1259 : Cond.methodLink RX5 102 yX6_addLane ∈ gT := gT_in 1259 (by decide +kernel) (by decide +kernel)
theorem gw_1260 : Cond.methodLink RX5 110 yX5_keepName ∈ gT := gT_in 1260 (by decide +kernel) (by decide +kernel)
theorem gw_1261 : Cond.static yX5_keepName ∈ gT := gT_in 1261 (by decide +kernel) (by decide +kernel)
set_option maxRecDepth 100000 in
theorem gw_1262 : Cond.code yX5_keepName cX5_keepName 4 none ∈ gT := gT_in 1262 rfl rfl
theorem gw_1263 : Cond.methodLink RX5 114 yX6_laneAt ∈ gT := gT_in 1263 (by decide +kernel) (by decide +kernel)
theorem gw_1264 : Cond.methodLink RX5 118 yX2_tell ∈ gT := gT_in 1264 (by decide +kernel) (by decide +kernel)
theorem gw_1265 : Cond.methodLink RX5 76 yX5_readFolk ∈ gT := gT_in 1265 (by decide +kernel) (by decide +kernel)
theorem gw_1267 : Cond.instanceMethod yX5_readFolk ∈ gT := gT_in 1267 (by decide +kernel) (by decide +kernel)
set_option maxRecDepth 100000 in
theorem gw_1268 : Cond.code yX5_readFolk cX5_readFolk 8 none ∈ gT := gT_in 1268 rfl rfl
theorem gw_1269 : Cond.methodLink RX5 125 yX6_addFolk ∈ gT := gT_in 1269 (by decide +kernel) (by decide +kernel)
theorem gw_1270 : Cond.methodLink RX5 129 yX1_tell ∈ gT := gT_in 1270 (by decide +kernel) (by decide +kernel)
theorem gw_1271 : Cond.methodLink RX5 79 yX5_readOrder ∈ gT := gT_in 1271 (by decide +kernel) (by decide +kernel)
theorem gw_1273 : Cond.instanceMethod yX5_readOrder ∈ gT := gT_in 1273 (by decide +kernel) (by decide +kernel)
set_option maxRecDepth 100000 in
theorem gw_1274 : Cond.code yX5_readOrder cX5_readOrder 7 none ∈ gT := gT_in 1274 rfl rfl
theorem gw_1275 : Cond.methodLink RX5 143 yX5_sum ∈ gT := gT_in 1275 (by decide +kernel) (by decide +kernel)
theorem gw_1277 : Cond.instanceMethod yX5_sum ∈ gT := gT_in 1277 (by decide +kernel) (by decide +kernel)
set_option maxRecDepth 100000 in
theorem gw_1278 : Cond.code yX5_sum cX5_sum 4 none ∈ gT := gT_in 1278 rfl rfl
theorem gw_1279 : Cond.methodLink RX5 174 yX5_product ∈ gT := gT_in 1279 (by decide +kernel) (by decide +kernel)
theorem gw_1281 : Cond.instanceMethod yX5_product ∈ gT := gT_in 1281 (by decide +kernel) (by decide +kernel)
set_option maxRecDepth 100000 in
theorem gw_1282 : Cond.code yX5_product cX5_product 4 none ∈ gT := gT_in 1282 rfl rfl
theorem gw_1283 : Cond.methodLink RX5 177 yX5_value ∈ gT := gT_in 1283 (by decide +kernel) (by decide +kernel)
theorem gw_1285 : Cond.instanceMethod yX5_value ∈ gT := gT_in 1285 (by decide +kernel) (by decide +kernel)
set_option maxRecDepth 100000 in
theorem gw_1286 : Cond.code yX5_value cX5_value 3 none ∈ gT := gT_in 1286 rfl rfl
theorem gw_1287 : Cond.methodLink RX5 161 yX0_add ∈ gT := gT_in 1287 (by decide +kernel) (by decide +kernel)
theorem gw_1288 : Cond.instanceMethod yX0_add ∈ gT := gT_in 1288 (by decide +kernel) (by decide +kernel)
theorem gw_1289 : Cond.selects RX0 yX0_add yX0_add ∈ gT := gT_in 1289 (by decide +kernel) (by decide +kernel)
set_option maxRecDepth 100000 in
theorem gw_1290 : Cond.code yX0_add cX0_add 3 none ∈ gT := gT_in 1290 rfl rfl
theorem gw_1291 : Cond.methodLink RX5 168 yX5_enters ∈ gT := gT_in 1291 (by decide +kernel) (by decide +kernel)
theorem gw_1293 : Cond.instanceMethod yX5_enters ∈ gT := gT_in 1293 (by decide +kernel) (by decide +kernel)
set_option maxRecDepth 100000 in
theorem gw_1294 : Cond.code yX5_enters cX5_enters 2 (some .boolean) ∈ gT := gT_in 1294 rfl rfl
theorem gw_1295 : Cond.methodLink RX5 184 yX5_pair ∈ gT := gT_in 1295 (by decide +kernel) (by decide +kernel)
theorem gw_1297 : Cond.instanceMethod yX5_pair ∈ gT := gT_in 1297 (by decide +kernel) (by decide +kernel)
set_option maxRecDepth 100000 in
theorem gw_1298 : Cond.code yX5_pair cX5_pair 3 none ∈ gT := gT_in 1298 rfl rfl
theorem gw_1299 : Cond.methodLink RX5 146 yX5_test ∈ gT := gT_in 1299 (by decide +kernel) (by decide +kernel)
theorem gw_1301 : Cond.instanceMethod yX5_test ∈ gT := gT_in 1301 (by decide +kernel) (by decide +kernel)
set_option maxRecDepth 100000 in
theorem gw_1302 : Cond.code yX5_test cX5_test 3 none ∈ gT := gT_in 1302 rfl rfl
theorem gw_1303 : Cond.methodLink RX5 158 yX5_both ∈ gT := gT_in 1303 (by decide +kernel) (by decide +kernel)
theorem gw_1305 : Cond.instanceMethod yX5_both ∈ gT := gT_in 1305 (by decide +kernel) (by decide +kernel)
set_option maxRecDepth 100000 in
theorem gw_1306 : Cond.code yX5_both cX5_both 3 none ∈ gT := gT_in 1306 rfl rfl
theorem gw_1307 : Cond.methodLink RX5 165 yX5_single ∈ gT := gT_in 1307 (by decide +kernel) (by decide +kernel)
theorem gw_1309 : Cond.instanceMethod yX5_single ∈ gT := gT_in 1309 (by decide +kernel) (by decide +kernel)
set_option maxRecDepth 100000 in
theorem gw_1310 : Cond.code yX5_single cX5_single 4 none ∈ gT := gT_in 1310 rfl rfl
theorem gw_1311 : Cond.methodLink RX5 171 yX5_compares ∈ gT := gT_in 1311 (by decide +kernel) (by decide +kernel)
theorem gw_1312 : Cond.static yX5_compares ∈ gT := gT_in 1312 (by decide +kernel) (by decide +kernel)
set_option maxRecDepth 100000 in
theorem gw_1313 : Cond.code yX5_compares cX5_compares 1 (some .boolean) ∈ gT := gT_in 1313 rfl rfl
theorem gw_1314 : Cond.methodLink RX5 149 yX0_addOrder ∈ gT := gT_in 1314 (by decide +kernel) (by decide +kernel)
theorem gw_1315 : Cond.instanceMethod yX0_addOrder ∈ gT := gT_in 1315 (by decide +kernel) (by decide +kernel)
theorem gw_1316 : Cond.selects RX0 yX0_addOrder yX0_addOrder ∈ gT := gT_in 1316 (by decide +kernel) (by decide +kernel)
set_option maxRecDepth 100000 in
theorem gw_1317 : Cond.code yX0_addOrder cX0_addOrder 1 (some (.object "BucketBrigade$Order")) ∈ gT := gT_in 1317 rfl rfl
theorem gw_1318 : Cond.methodLink RX0 32 yX0_orderAt ∈ gT := gT_in 1318 (by decide +kernel) (by decide +kernel)
theorem gw_1319 : Cond.methodLink RX5 153 yX3_tell ∈ gT := gT_in 1319 (by decide +kernel) (by decide +kernel)
theorem gw_1320 : Cond.instanceMethod yX3_tell ∈ gT := gT_in 1320 (by decide +kernel) (by decide +kernel)
theorem gw_1321 : Cond.selects RX3 yX3_tell yX3_tell ∈ gT := gT_in 1321 (by decide +kernel) (by decide +kernel)
set_option maxRecDepth 100000 in
theorem gw_1322 : Cond.code yX3_tell cX3_tell 6 none ∈ gT := gT_in 1322 rfl rfl
theorem gw_1323 : Cond.methodLink RX10 80 yX0_copyFrom ∈ gT := gT_in 1323 (by decide +kernel) (by decide +kernel)
theorem gw_1324 : Cond.instanceMethod yX0_copyFrom ∈ gT := gT_in 1324 (by decide +kernel) (by decide +kernel)
theorem gw_1325 : Cond.selects RX0 yX0_copyFrom yX0_copyFrom ∈ gT := gT_in 1325 (by decide +kernel) (by decide +kernel)
set_option maxRecDepth 100000 in
theorem gw_1326 : Cond.code yX0_copyFrom cX0_copyFrom 5 none ∈ gT := gT_in 1326 rfl rfl
theorem gw_1327 : Cond.methodLink RX0 36 yX0_clear ∈ gT := gT_in 1327 (by decide +kernel) (by decide +kernel)
theorem gw_1328 : Cond.methodLink RX0 39 yX0_add ∈ gT := gT_in 1328 (by decide +kernel) (by decide +kernel)
theorem gw_1329 : Cond.methodLink RX0 43 yX0_addOrder ∈ gT := gT_in 1329 (by decide +kernel) (by decide +kernel)
theorem gw_1330 : Cond.methodLink RX0 62 yX3_tell ∈ gT := gT_in 1330 (by decide +kernel) (by decide +kernel)
theorem gw_1331 : Cond.methodLink RL 128 yL_chosen ∈ gT := gT_in 1331 (by decide +kernel) (by decide +kernel)
theorem gw_1332 : Cond.static yL_chosen ∈ gT := gT_in 1332 (by decide +kernel) (by decide +kernel)
set_option maxRecDepth 100000 in
theorem gw_1333 : Cond.code yL_chosen cL_chosen 7 (some (.object "BucketBrigadeLaw$Sim")) ∈ gT := gT_in 1333 rfl rfl
theorem gw_1334 : Cond.classLink RL 32 RX12 ∈ gT := gT_in 1334 (by decide +kernel) (by decide +kernel)
theorem gn_1335 : Cond.methodLinkNest RL 34 yX12_init RL ∈ gNw := List.mem_filter.mpr ⟨List.mem_of_getElem? (i := 1297) (by decide +kernel), rfl⟩
theorem gw_1336 : Cond.instanceMethod yX12_init ∈ gT := gT_in 1336 (by decide +kernel) (by decide +kernel)
set_option maxRecDepth 100000 in
theorem gw_1337 : Cond.code yX12_init cX12_init 1 none ∈ gT := gT_in 1337 rfl rfl
theorem gw_1338 : Cond.methodLink RX12 1 Lib.objectInit ∈ gT := gT_in 1338 (by decide +kernel) (by decide +kernel)
theorem gw_1339 : Cond.classLink RX12 13 RX11 ∈ gT := gT_in 1339 (by decide +kernel) (by decide +kernel)
theorem gw_1341 : Cond.classLink RX12 19 "[I" ∈ gT := gT_in 1341 (by decide +kernel) (by decide +kernel)
theorem gw_1343 : Cond.fieldLink RX12 29 RX12 "minute" "I" ∈ gT := gT_in 1343 (by decide +kernel) (by decide +kernel)
theorem gw_1344 : Cond.fieldLink RX12 7 RX12 "well" "I" ∈ gT := gT_in 1344 (by decide +kernel) (by decide +kernel)
theorem gw_1345 : Cond.fieldLink RL 45 RX12 "well" "I" ∈ gT := gT_in 1345 (by decide +kernel) (by decide +kernel)
theorem gw_1346 : Cond.fieldLink RX12 32 RX12 "came" "I" ∈ gT := gT_in 1346 (by decide +kernel) (by decide +kernel)
theorem gw_1347 : Cond.fieldLink RX12 35 RX12 "done" "I" ∈ gT := gT_in 1347 (by decide +kernel) (by decide +kernel)
theorem gw_1348 : Cond.fieldLink RX12 38 RX12 "spare" "I" ∈ gT := gT_in 1348 (by decide +kernel) (by decide +kernel)
theorem gw_1349 : Cond.fieldLink RX12 15 RX12 "lanes" "[LBucketBrigadeLaw$Lane;" ∈ gT := gT_in 1349 (by decide +kernel) (by decide +kernel)
theorem gw_1350 : Cond.fieldLink RL 51 RX12 "lanes" "[LBucketBrigadeLaw$Lane;" ∈ gT := gT_in 1350 (by decide +kernel) (by decide +kernel)
theorem gw_1351 : Cond.fieldLink RX12 21 RX12 "folk" "[[I" ∈ gT := gT_in 1351 (by decide +kernel) (by decide +kernel)
theorem gw_1352 : Cond.fieldLink RL 87 RX12 "folk" "[[I" ∈ gT := gT_in 1352 (by decide +kernel) (by decide +kernel)
theorem gw_1353 : Cond.fieldLink RX12 25 RX12 "orders" "[[I" ∈ gT := gT_in 1353 (by decide +kernel) (by decide +kernel)
theorem gw_1354 : Cond.fieldLink RL 91 RX12 "orders" "[[I" ∈ gT := gT_in 1354 (by decide +kernel) (by decide +kernel)
theorem gw_1372 : Cond.methodLink RL 41 yL_below ∈ gT := gT_in 1372 (by decide +kernel) (by decide +kernel)
theorem gw_1373 : Cond.static yL_below ∈ gT := gT_in 1373 (by decide +kernel) (by decide +kernel)
set_option maxRecDepth 100000 in
theorem gw_1374 : Cond.code yL_below cL_below 2 (some .int) ∈ gT := gT_in 1374 rfl rfl
theorem gw_1375 : Cond.constant RL 7 2147483647 ∈ gT := gT_in 1375 (by decide +kernel) (by decide +kernel)
theorem gw_1376 : Cond.classLink RL 49 RX11 ∈ gT := gT_in 1376 (by decide +kernel) (by decide +kernel)
theorem gw_1377 : Cond.instantiable RX11 19 ∈ gT := gT_in 1377 (by decide +kernel) (by decide +kernel)
theorem gn_1378 : Cond.methodLinkNest RL 55 yX11_init RL ∈ gNw := List.mem_filter.mpr ⟨List.mem_of_getElem? (i := 1340) (by decide +kernel), rfl⟩
theorem gw_1379 : Cond.instanceMethod yX11_init ∈ gT := gT_in 1379 (by decide +kernel) (by decide +kernel)
set_option maxRecDepth 100000 in
theorem gw_1380 : Cond.code yX11_init cX11_init 1 none ∈ gT := gT_in 1380 rfl rfl
theorem gw_1381 : Cond.methodLink RX11 1 Lib.objectInit ∈ gT := gT_in 1381 (by decide +kernel) (by decide +kernel)
theorem gw_1382 : Cond.fieldLink RX11 20 RX11 "over" "LBucketBrigadeLaw$Lane;" ∈ gT := gT_in 1382 (by decide +kernel) (by decide +kernel)
theorem gw_1383 : Cond.fieldLink RL 59 RX11 "over" "LBucketBrigadeLaw$Lane;" ∈ gT := gT_in 1383 (by decide +kernel) (by decide +kernel)
theorem gw_1384 : Cond.fieldLink RX12 46 RX11 "over" "LBucketBrigadeLaw$Lane;" ∈ gT := gT_in 1384 (by decide +kernel) (by decide +kernel)
theorem gw_1385 : Cond.fieldLink RL 56 RX11 "number" "I" ∈ gT := gT_in 1385 (by decide +kernel) (by decide +kernel)
theorem gw_1386 : Cond.fieldLink RX12 50 RX11 "number" "I" ∈ gT := gT_in 1386 (by decide +kernel) (by decide +kernel)
theorem gw_1387 : Cond.fieldLink RL 63 RX11 "rate" "I" ∈ gT := gT_in 1387 (by decide +kernel) (by decide +kernel)
theorem gw_1388 : Cond.fieldLink RX12 53 RX11 "rate" "I" ∈ gT := gT_in 1388 (by decide +kernel) (by decide +kernel)
theorem gw_1389 : Cond.fieldLink RX11 17 RX11 "most" "I" ∈ gT := gT_in 1389 (by decide +kernel) (by decide +kernel)
theorem gw_1390 : Cond.fieldLink RL 66 RX11 "most" "I" ∈ gT := gT_in 1390 (by decide +kernel) (by decide +kernel)
theorem gw_1391 : Cond.fieldLink RX12 56 RX11 "most" "I" ∈ gT := gT_in 1391 (by decide +kernel) (by decide +kernel)
theorem gw_1392 : Cond.fieldLink RL 69 RX11 "burst" "I" ∈ gT := gT_in 1392 (by decide +kernel) (by decide +kernel)
theorem gw_1393 : Cond.fieldLink RX12 59 RX11 "burst" "I" ∈ gT := gT_in 1393 (by decide +kernel) (by decide +kernel)
theorem gw_1394 : Cond.fieldLink RX11 38 RX11 "rank" "I" ∈ gT := gT_in 1394 (by decide +kernel) (by decide +kernel)
theorem gw_1395 : Cond.fieldLink RL 72 RX11 "rank" "I" ∈ gT := gT_in 1395 (by decide +kernel) (by decide +kernel)
theorem gw_1396 : Cond.fieldLink RX12 62 RX11 "rank" "I" ∈ gT := gT_in 1396 (by decide +kernel) (by decide +kernel)
theorem gw_1397 : Cond.fieldLink RX11 35 RX11 "tokens" "I" ∈ gT := gT_in 1397 (by decide +kernel) (by decide +kernel)
theorem gw_1398 : Cond.fieldLink RX12 65 RX11 "tokens" "I" ∈ gT := gT_in 1398 (by decide +kernel) (by decide +kernel)
theorem gw_1399 : Cond.fieldLink RL 82 RX11 "tokens" "I" ∈ gT := gT_in 1399 (by decide +kernel) (by decide +kernel)
theorem gw_1400 : Cond.fieldLink RX12 68 RX11 "holds" "I" ∈ gT := gT_in 1400 (by decide +kernel) (by decide +kernel)
theorem gw_1401 : Cond.fieldLink RL 75 RX11 "holds" "I" ∈ gT := gT_in 1401 (by decide +kernel) (by decide +kernel)
theorem gw_1402 : Cond.fieldLink RX12 71 RX11 "isOld" "Z" ∈ gT := gT_in 1402 (by decide +kernel) (by decide +kernel)
theorem gw_1403 : Cond.fieldLink RL 78 RX11 "isOld" "Z" ∈ gT := gT_in 1403 (by decide +kernel) (by decide +kernel)
theorem gw_1404 : Cond.fieldLink RX11 7 RX11 "pails" "[I" ∈ gT := gT_in 1404 (by decide +kernel) (by decide +kernel)
theorem gw_1405 : Cond.fieldLink RX12 78 RX11 "pails" "[I" ∈ gT := gT_in 1405 (by decide +kernel) (by decide +kernel)
theorem gw_1406 : Cond.fieldLink RX11 24 RX11 "waits" "I" ∈ gT := gT_in 1406 (by decide +kernel) (by decide +kernel)
theorem gw_1407 : Cond.fieldLink RX12 75 RX11 "waits" "I" ∈ gT := gT_in 1407 (by decide +kernel) (by decide +kernel)
theorem gw_1408 : Cond.fieldLink RX12 81 RX11 "sent" "I" ∈ gT := gT_in 1408 (by decide +kernel) (by decide +kernel)
theorem gw_1409 : Cond.fieldLink RX12 84 RX11 "lost" "I" ∈ gT := gT_in 1409 (by decide +kernel) (by decide +kernel)
theorem gw_1410 : Cond.fieldLink RX12 87 RX11 "lent" "I" ∈ gT := gT_in 1410 (by decide +kernel) (by decide +kernel)
theorem gw_1411 : Cond.fieldLink RX12 90 RX11 "borrowed" "I" ∈ gT := gT_in 1411 (by decide +kernel) (by decide +kernel)
theorem gw_1412 : Cond.fieldLink RX12 93 RX11 "waited" "I" ∈ gT := gT_in 1412 (by decide +kernel) (by decide +kernel)
theorem gw_1413 : Cond.fieldLink RX11 27 RX11 "isShut" "Z" ∈ gT := gT_in 1413 (by decide +kernel) (by decide +kernel)
theorem gw_1414 : Cond.fieldLink RX12 169 RX11 "isShut" "Z" ∈ gT := gT_in 1414 (by decide +kernel) (by decide +kernel)
theorem gw_1415 : Cond.fieldLink RX11 41 RX11 "own" "I" ∈ gT := gT_in 1415 (by decide +kernel) (by decide +kernel)
theorem gw_1416 : Cond.fieldLink RX12 179 RX11 "own" "I" ∈ gT := gT_in 1416 (by decide +kernel) (by decide +kernel)
theorem gw_1417 : Cond.fieldLink RX11 13 RX11 "all" "I" ∈ gT := gT_in 1417 (by decide +kernel) (by decide +kernel)
theorem gw_1418 : Cond.fieldLink RX12 182 RX11 "all" "I" ∈ gT := gT_in 1418 (by decide +kernel) (by decide +kernel)
theorem gw_1458 : Cond.classLink RL 85 "[I" ∈ gT := gT_in 1458 (by decide +kernel) (by decide +kernel)
theorem gw_1459 : Cond.methodLink RL 140 yL_act ∈ gT := gT_in 1459 (by decide +kernel) (by decide +kernel)
theorem gw_1460 : Cond.static yL_act ∈ gT := gT_in 1460 (by decide +kernel) (by decide +kernel)
set_option maxRecDepth 100000 in
theorem gw_1461 : Cond.code yL_act cL_act 12 (some .boolean) ∈ gT := gT_in 1461 rfl rfl
theorem gw_1462 : Cond.methodLink RL 94 yX10_bring ∈ gT := gT_in 1462 (by decide +kernel) (by decide +kernel)
theorem gw_1463 : Cond.instanceMethod yX10_bring ∈ gT := gT_in 1463 (by decide +kernel) (by decide +kernel)
theorem gw_1464 : Cond.selects RX10 yX10_bring yX10_bring ∈ gT := gT_in 1464 (by decide +kernel) (by decide +kernel)
set_option maxRecDepth 100000 in
theorem gw_1465 : Cond.code yX10_bring cX10_bring 5 (some .int) ∈ gT := gT_in 1465 rfl rfl
theorem gw_1467 : Cond.methodLink RX10 154 yX6_takeIn ∈ gT := gT_in 1467 (by decide +kernel) (by decide +kernel)
theorem gw_1468 : Cond.methodLink RL 97 yX12_bring ∈ gT := gT_in 1468 (by decide +kernel) (by decide +kernel)
theorem gw_1469 : Cond.methodLink RL 100 yJ9_min_7cf53 ∈ gT := gT_in 1469 (by decide +kernel) (by decide +kernel)
theorem gw_1470 : Cond.methodLink RL 105 yX10_give ∈ gT := gT_in 1470 (by decide +kernel) (by decide +kernel)
theorem gw_1471 : Cond.instanceMethod yX10_give ∈ gT := gT_in 1471 (by decide +kernel) (by decide +kernel)
theorem gw_1472 : Cond.selects RX10 yX10_give yX10_give ∈ gT := gT_in 1472 (by decide +kernel) (by decide +kernel)
set_option maxRecDepth 100000 in
theorem gw_1473 : Cond.code yX10_give cX10_give 4 (some .int) ∈ gT := gT_in 1473 rfl rfl
theorem gw_1475 : Cond.methodLink RX10 160 yX2_getTokens ∈ gT := gT_in 1475 (by decide +kernel) (by decide +kernel)
theorem gw_1476 : Cond.methodLink RL 108 yX10_setRate ∈ gT := gT_in 1476 (by decide +kernel) (by decide +kernel)
theorem gw_1477 : Cond.instanceMethod yX10_setRate ∈ gT := gT_in 1477 (by decide +kernel) (by decide +kernel)
theorem gw_1478 : Cond.selects RX10 yX10_setRate yX10_setRate ∈ gT := gT_in 1478 (by decide +kernel) (by decide +kernel)
set_option maxRecDepth 100000 in
theorem gw_1479 : Cond.code yX10_setRate cX10_setRate 5 (some .int) ∈ gT := gT_in 1479 rfl rfl
theorem gw_1481 : Cond.methodLink RL 111 yX10_setMost ∈ gT := gT_in 1481 (by decide +kernel) (by decide +kernel)
theorem gw_1482 : Cond.instanceMethod yX10_setMost ∈ gT := gT_in 1482 (by decide +kernel) (by decide +kernel)
theorem gw_1483 : Cond.selects RX10 yX10_setMost yX10_setMost ∈ gT := gT_in 1483 (by decide +kernel) (by decide +kernel)
set_option maxRecDepth 100000 in
theorem gw_1484 : Cond.code yX10_setMost cX10_setMost 5 (some .int) ∈ gT := gT_in 1484 rfl rfl
theorem gw_1486 : Cond.methodLink RL 114 yX10_setWell ∈ gT := gT_in 1486 (by decide +kernel) (by decide +kernel)
theorem gw_1487 : Cond.instanceMethod yX10_setWell ∈ gT := gT_in 1487 (by decide +kernel) (by decide +kernel)
theorem gw_1488 : Cond.selects RX10 yX10_setWell yX10_setWell ∈ gT := gT_in 1488 (by decide +kernel) (by decide +kernel)
set_option maxRecDepth 100000 in
theorem gw_1489 : Cond.code yX10_setWell cX10_setWell 3 (some .int) ∈ gT := gT_in 1489 rfl rfl
theorem gw_1491 : Cond.methodLink RL 117 yX12_counted ∈ gT := gT_in 1491 (by decide +kernel) (by decide +kernel)
theorem gw_1492 : Cond.methodLink RL 120 yX12_behind ∈ gT := gT_in 1492 (by decide +kernel) (by decide +kernel)
theorem gw_1493 : Cond.instanceMethod yX12_behind ∈ gT := gT_in 1493 (by decide +kernel) (by decide +kernel)
theorem gw_1494 : Cond.selects RX12 yX12_behind yX12_behind ∈ gT := gT_in 1494 (by decide +kernel) (by decide +kernel)
set_option maxRecDepth 100000 in
theorem gw_1495 : Cond.code yX12_behind cX12_behind 3 (some (.object "BucketBrigadeLaw$Sim")) ∈ gT := gT_in 1495 rfl rfl
theorem gw_1496 : Cond.methodLink RX12 197 yX12_pass ∈ gT := gT_in 1496 (by decide +kernel) (by decide +kernel)
theorem gw_1497 : Cond.methodLink RL 164 yL_hasShut ∈ gT := gT_in 1497 (by decide +kernel) (by decide +kernel)
theorem gw_1498 : Cond.static yL_hasShut ∈ gT := gT_in 1498 (by decide +kernel) (by decide +kernel)
set_option maxRecDepth 100000 in
theorem gw_1499 : Cond.code yL_hasShut cL_hasShut 6 (some .boolean) ∈ gT := gT_in 1499 rfl rfl
theorem gw_1501 : Cond.sameMethod "java/lang/AbstractStringBuilder" "java/lang/AbstractStringBuilder" "append" "(Ljava/lang/String;)Ljava/lang/AbstractStringBuilder;" ∈ gT := gT_in 1501 (by decide +kernel) (by decide +kernel)
theorem gw_1508 : Cond.sameMethod "java/lang/AbstractStringBuilder" "java/lang/AbstractStringBuilder" "append" "(I)Ljava/lang/AbstractStringBuilder;" ∈ gT := gT_in 1508 (by decide +kernel) (by decide +kernel)
theorem kin_0 : ∀ w ∈ u_ws RJ0 TJ0 4, w ∈ gT := fun w hw => by
  obtain ⟨k, hk, rfl⟩ := List.mem_map.mp hw
  have hk := List.mem_range.mp hk
  rcases (show k = 0 ∨ k = 1 ∨ k = 2 ∨ k = 3 by omega) with rfl | rfl | rfl | rfl
  · exact gT_in 1080 (by decide +kernel) (by decide +kernel)
  · exact gT_in 1082 (by decide +kernel) (by decide +kernel)
  · exact gT_in 1084 (by decide +kernel) (by decide +kernel)
  · exact gT_in 1086 (by decide +kernel) (by decide +kernel)
theorem K_0 : Cl 0 RJ0 TJ0 4 tyJ0 := ⟨rfl, by decide, kin_0, tyJ0_ok, nmJ0, rfl, by decide +kernel⟩
theorem kin_1 : ∀ w ∈ u_ws RJ4 TJ4 4, w ∈ gT := fun w hw => by
  obtain ⟨k, hk, rfl⟩ := List.mem_map.mp hw
  have hk := List.mem_range.mp hk
  rcases (show k = 0 ∨ k = 1 ∨ k = 2 ∨ k = 3 by omega) with rfl | rfl | rfl | rfl
  · exact gT_in 875 (by decide +kernel) (by decide +kernel)
  · exact gT_in 877 (by decide +kernel) (by decide +kernel)
  · exact gT_in 879 (by decide +kernel) (by decide +kernel)
  · exact gT_in 881 (by decide +kernel) (by decide +kernel)
theorem K_1 : Cl 1 RJ4 TJ4 4 tyJ4 := ⟨rfl, by decide, kin_1, tyJ4_ok, nmJ4, rfl, by decide +kernel⟩
theorem kin_2 : ∀ w ∈ u_ws RX0 TX0 5, w ∈ gT := fun w hw => by
  obtain ⟨k, hk, rfl⟩ := List.mem_map.mp hw
  have hk := List.mem_range.mp hk
  rcases (show k = 0 ∨ k = 1 ∨ k = 2 ∨ k = 3 ∨ k = 4 by omega) with rfl | rfl | rfl | rfl | rfl
  · exact gT_in 151 (by decide +kernel) (by decide +kernel)
  · exact gT_in 153 (by decide +kernel) (by decide +kernel)
  · exact gT_in 155 (by decide +kernel) (by decide +kernel)
  · exact gT_in 157 (by decide +kernel) (by decide +kernel)
  · exact gT_in 159 (by decide +kernel) (by decide +kernel)
theorem K_2 : Cl 2 RX0 TX0 5 tyX0 := ⟨rfl, by decide, kin_2, tyX0_ok, nmX0, rfl, by decide +kernel⟩
theorem kin_3 : ∀ w ∈ u_ws RX1 TX1 5, w ∈ gT := fun w hw => by
  obtain ⟨k, hk, rfl⟩ := List.mem_map.mp hw
  have hk := List.mem_range.mp hk
  rcases (show k = 0 ∨ k = 1 ∨ k = 2 ∨ k = 3 ∨ k = 4 by omega) with rfl | rfl | rfl | rfl | rfl
  · exact gT_in 294 (by decide +kernel) (by decide +kernel)
  · exact gT_in 296 (by decide +kernel) (by decide +kernel)
  · exact gT_in 298 (by decide +kernel) (by decide +kernel)
  · exact gT_in 300 (by decide +kernel) (by decide +kernel)
  · exact gT_in 302 (by decide +kernel) (by decide +kernel)
theorem K_3 : Cl 3 RX1 TX1 5 tyX1 := ⟨rfl, by decide, kin_3, tyX1_ok, nmX1, rfl, by decide +kernel⟩
theorem kin_4 : ∀ w ∈ u_ws RX2 TX2 18, w ∈ gT := fun w hw => by
  obtain ⟨k, hk, rfl⟩ := List.mem_map.mp hw
  have hk := List.mem_range.mp hk
  rcases (show k = 0 ∨ k = 1 ∨ k = 2 ∨ k = 3 ∨ k = 4 ∨ k = 5 ∨ k = 6 ∨ k = 7 ∨ k = 8 ∨ k = 9 ∨ k = 10 ∨ k = 11 ∨ k = 12 ∨ k = 13 ∨ k = 14 ∨ k = 15 ∨ k = 16 ∨ k = 17 by omega) with rfl | rfl | rfl | rfl | rfl | rfl | rfl | rfl | rfl | rfl | rfl | rfl | rfl | rfl | rfl | rfl | rfl | rfl
  · exact gT_in 244 (by decide +kernel) (by decide +kernel)
  · exact gT_in 246 (by decide +kernel) (by decide +kernel)
  · exact gT_in 248 (by decide +kernel) (by decide +kernel)
  · exact gT_in 250 (by decide +kernel) (by decide +kernel)
  · exact gT_in 252 (by decide +kernel) (by decide +kernel)
  · exact gT_in 254 (by decide +kernel) (by decide +kernel)
  · exact gT_in 256 (by decide +kernel) (by decide +kernel)
  · exact gT_in 258 (by decide +kernel) (by decide +kernel)
  · exact gT_in 260 (by decide +kernel) (by decide +kernel)
  · exact gT_in 262 (by decide +kernel) (by decide +kernel)
  · exact gT_in 264 (by decide +kernel) (by decide +kernel)
  · exact gT_in 266 (by decide +kernel) (by decide +kernel)
  · exact gT_in 268 (by decide +kernel) (by decide +kernel)
  · exact gT_in 270 (by decide +kernel) (by decide +kernel)
  · exact gT_in 272 (by decide +kernel) (by decide +kernel)
  · exact gT_in 274 (by decide +kernel) (by decide +kernel)
  · exact gT_in 276 (by decide +kernel) (by decide +kernel)
  · exact gT_in 278 (by decide +kernel) (by decide +kernel)
theorem K_4 : Cl 4 RX2 TX2 18 tyX2 := ⟨rfl, by decide, kin_4, tyX2_ok, nmX2, rfl, by decide +kernel⟩
theorem kin_5 : ∀ w ∈ u_ws RX3 TX3 5, w ∈ gT := fun w hw => by
  obtain ⟨k, hk, rfl⟩ := List.mem_map.mp hw
  have hk := List.mem_range.mp hk
  rcases (show k = 0 ∨ k = 1 ∨ k = 2 ∨ k = 3 ∨ k = 4 by omega) with rfl | rfl | rfl | rfl | rfl
  · exact gT_in 129 (by decide +kernel) (by decide +kernel)
  · exact gT_in 131 (by decide +kernel) (by decide +kernel)
  · exact gT_in 133 (by decide +kernel) (by decide +kernel)
  · exact gT_in 135 (by decide +kernel) (by decide +kernel)
  · exact gT_in 137 (by decide +kernel) (by decide +kernel)
theorem K_5 : Cl 5 RX3 TX3 5 tyX3 := ⟨rfl, by decide, kin_5, tyX3_ok, nmX3, rfl, by decide +kernel⟩
theorem kin_6 : ∀ w ∈ u_ws RX4 TX4 3, w ∈ gT := fun w hw => by
  obtain ⟨k, hk, rfl⟩ := List.mem_map.mp hw
  have hk := List.mem_range.mp hk
  rcases (show k = 0 ∨ k = 1 ∨ k = 2 by omega) with rfl | rfl | rfl
  · exact gT_in 200 (by decide +kernel) (by decide +kernel)
  · exact gT_in 202 (by decide +kernel) (by decide +kernel)
  · exact gT_in 204 (by decide +kernel) (by decide +kernel)
theorem K_6 : Cl 6 RX4 TX4 3 tyX4 := ⟨rfl, by decide, kin_6, tyX4_ok, nmX4, rfl, by decide +kernel⟩
theorem kin_7 : ∀ w ∈ u_ws RX5 TX5 7, w ∈ gT := fun w hw => by
  obtain ⟨k, hk, rfl⟩ := List.mem_map.mp hw
  have hk := List.mem_range.mp hk
  rcases (show k = 0 ∨ k = 1 ∨ k = 2 ∨ k = 3 ∨ k = 4 ∨ k = 5 ∨ k = 6 by omega) with rfl | rfl | rfl | rfl | rfl | rfl | rfl
  · exact gT_in 435 (by decide +kernel) (by decide +kernel)
  · exact gT_in 437 (by decide +kernel) (by decide +kernel)
  · exact gT_in 439 (by decide +kernel) (by decide +kernel)
  · exact gT_in 441 (by decide +kernel) (by decide +kernel)
  · exact gT_in 443 (by decide +kernel) (by decide +kernel)
  · exact gT_in 445 (by decide +kernel) (by decide +kernel)
  · exact gT_in 447 (by decide +kernel) (by decide +kernel)
theorem K_7 : Cl 7 RX5 TX5 7 tyX5 := ⟨rfl, by decide, kin_7, tyX5_ok, nmX5, rfl, by decide +kernel⟩
theorem kin_8 : ∀ w ∈ u_ws RX6 TX6 11, w ∈ gT := fun w hw => by
  obtain ⟨k, hk, rfl⟩ := List.mem_map.mp hw
  have hk := List.mem_range.mp hk
  rcases (show k = 0 ∨ k = 1 ∨ k = 2 ∨ k = 3 ∨ k = 4 ∨ k = 5 ∨ k = 6 ∨ k = 7 ∨ k = 8 ∨ k = 9 ∨ k = 10 by omega) with rfl | rfl | rfl | rfl | rfl | rfl | rfl | rfl | rfl | rfl | rfl
  · exact gT_in 324 (by decide +kernel) (by decide +kernel)
  · exact gT_in 326 (by decide +kernel) (by decide +kernel)
  · exact gT_in 328 (by decide +kernel) (by decide +kernel)
  · exact gT_in 330 (by decide +kernel) (by decide +kernel)
  · exact gT_in 332 (by decide +kernel) (by decide +kernel)
  · exact gT_in 334 (by decide +kernel) (by decide +kernel)
  · exact gT_in 336 (by decide +kernel) (by decide +kernel)
  · exact gT_in 338 (by decide +kernel) (by decide +kernel)
  · exact gT_in 340 (by decide +kernel) (by decide +kernel)
  · exact gT_in 342 (by decide +kernel) (by decide +kernel)
  · exact gT_in 344 (by decide +kernel) (by decide +kernel)
theorem K_8 : Cl 8 RX6 TX6 11 tyX6 := ⟨rfl, by decide, kin_8, tyX6_ok, nmX6, rfl, by decide +kernel⟩
theorem kin_9 : ∀ w ∈ u_ws RX7 TX7 2, w ∈ gT := fun w hw => by
  obtain ⟨k, hk, rfl⟩ := List.mem_map.mp hw
  have hk := List.mem_range.mp hk
  rcases (show k = 0 ∨ k = 1 by omega) with rfl | rfl
  · exact gT_in 178 (by decide +kernel) (by decide +kernel)
  · exact gT_in 180 (by decide +kernel) (by decide +kernel)
theorem K_9 : Cl 9 RX7 TX7 2 tyX7 := ⟨rfl, by decide, kin_9, tyX7_ok, nmX7, rfl, by decide +kernel⟩
theorem kin_10 : ∀ w ∈ u_ws RX8 TX8 2, w ∈ gT := fun w hw => by
  obtain ⟨k, hk, rfl⟩ := List.mem_map.mp hw
  have hk := List.mem_range.mp hk
  rcases (show k = 0 ∨ k = 1 by omega) with rfl | rfl
  · exact gT_in 87 (by decide +kernel) (by decide +kernel)
  · exact gT_in 89 (by decide +kernel) (by decide +kernel)
theorem K_10 : Cl 10 RX8 TX8 2 tyX8 := ⟨rfl, by decide, kin_10, tyX8_ok, nmX8, rfl, by decide +kernel⟩
theorem kin_11 : ∀ w ∈ u_ws RX9 TX9 5, w ∈ gT := fun w hw => by
  obtain ⟨k, hk, rfl⟩ := List.mem_map.mp hw
  have hk := List.mem_range.mp hk
  rcases (show k = 0 ∨ k = 1 ∨ k = 2 ∨ k = 3 ∨ k = 4 by omega) with rfl | rfl | rfl | rfl | rfl
  · exact gT_in 414 (by decide +kernel) (by decide +kernel)
  · exact gT_in 416 (by decide +kernel) (by decide +kernel)
  · exact gT_in 418 (by decide +kernel) (by decide +kernel)
  · exact gT_in 420 (by decide +kernel) (by decide +kernel)
  · exact gT_in 422 (by decide +kernel) (by decide +kernel)
theorem K_11 : Cl 11 RX9 TX9 5 tyX9 := ⟨rfl, by decide, kin_11, tyX9_ok, nmX9, rfl, by decide +kernel⟩
theorem kin_12 : ∀ w ∈ u_ws RX10 TX10 5, w ∈ gT := fun w hw => by
  obtain ⟨k, hk, rfl⟩ := List.mem_map.mp hw
  have hk := List.mem_range.mp hk
  rcases (show k = 0 ∨ k = 1 ∨ k = 2 ∨ k = 3 ∨ k = 4 by omega) with rfl | rfl | rfl | rfl | rfl
  · exact gT_in 459 (by decide +kernel) (by decide +kernel)
  · exact gT_in 461 (by decide +kernel) (by decide +kernel)
  · exact gT_in 463 (by decide +kernel) (by decide +kernel)
  · exact gT_in 465 (by decide +kernel) (by decide +kernel)
  · exact gT_in 467 (by decide +kernel) (by decide +kernel)
theorem K_12 : Cl 12 RX10 TX10 5 tyX10 := ⟨rfl, by decide, kin_12, tyX10_ok, nmX10, rfl, by decide +kernel⟩
theorem kin_13 : ∀ w ∈ u_ws RX11 TX11 19, w ∈ gT := fun w hw => by
  obtain ⟨k, hk, rfl⟩ := List.mem_map.mp hw
  have hk := List.mem_range.mp hk
  rcases (show k = 0 ∨ k = 1 ∨ k = 2 ∨ k = 3 ∨ k = 4 ∨ k = 5 ∨ k = 6 ∨ k = 7 ∨ k = 8 ∨ k = 9 ∨ k = 10 ∨ k = 11 ∨ k = 12 ∨ k = 13 ∨ k = 14 ∨ k = 15 ∨ k = 16 ∨ k = 17 ∨ k = 18 by omega) with rfl | rfl | rfl | rfl | rfl | rfl | rfl | rfl | rfl | rfl | rfl | rfl | rfl | rfl | rfl | rfl | rfl | rfl | rfl
  · exact gT_in 1419 (by decide +kernel) (by decide +kernel)
  · exact gT_in 1421 (by decide +kernel) (by decide +kernel)
  · exact gT_in 1423 (by decide +kernel) (by decide +kernel)
  · exact gT_in 1425 (by decide +kernel) (by decide +kernel)
  · exact gT_in 1427 (by decide +kernel) (by decide +kernel)
  · exact gT_in 1429 (by decide +kernel) (by decide +kernel)
  · exact gT_in 1431 (by decide +kernel) (by decide +kernel)
  · exact gT_in 1433 (by decide +kernel) (by decide +kernel)
  · exact gT_in 1435 (by decide +kernel) (by decide +kernel)
  · exact gT_in 1437 (by decide +kernel) (by decide +kernel)
  · exact gT_in 1439 (by decide +kernel) (by decide +kernel)
  · exact gT_in 1441 (by decide +kernel) (by decide +kernel)
  · exact gT_in 1443 (by decide +kernel) (by decide +kernel)
  · exact gT_in 1445 (by decide +kernel) (by decide +kernel)
  · exact gT_in 1447 (by decide +kernel) (by decide +kernel)
  · exact gT_in 1449 (by decide +kernel) (by decide +kernel)
  · exact gT_in 1451 (by decide +kernel) (by decide +kernel)
  · exact gT_in 1453 (by decide +kernel) (by decide +kernel)
  · exact gT_in 1455 (by decide +kernel) (by decide +kernel)
theorem K_13 : Cl 13 RX11 TX11 19 tyX11 := ⟨rfl, by decide, kin_13, tyX11_ok, nmX11, rfl, by decide +kernel⟩
theorem kin_14 : ∀ w ∈ u_ws RX12 TX12 8, w ∈ gT := fun w hw => by
  obtain ⟨k, hk, rfl⟩ := List.mem_map.mp hw
  have hk := List.mem_range.mp hk
  rcases (show k = 0 ∨ k = 1 ∨ k = 2 ∨ k = 3 ∨ k = 4 ∨ k = 5 ∨ k = 6 ∨ k = 7 by omega) with rfl | rfl | rfl | rfl | rfl | rfl | rfl | rfl
  · exact gT_in 1355 (by decide +kernel) (by decide +kernel)
  · exact gT_in 1357 (by decide +kernel) (by decide +kernel)
  · exact gT_in 1359 (by decide +kernel) (by decide +kernel)
  · exact gT_in 1361 (by decide +kernel) (by decide +kernel)
  · exact gT_in 1363 (by decide +kernel) (by decide +kernel)
  · exact gT_in 1365 (by decide +kernel) (by decide +kernel)
  · exact gT_in 1367 (by decide +kernel) (by decide +kernel)
  · exact gT_in 1369 (by decide +kernel) (by decide +kernel)
theorem K_14 : Cl 14 RX12 TX12 8 tyX12 := ⟨rfl, by decide, kin_14, tyX12_ok, nmX12, rfl, by decide +kernel⟩
theorem gs_0 : (RX9, 25, "well lane under rate most burst rank holds drops old new folk to brings every from raise cap shut when minute spare tokens waits sent lost lent full dry not and or min max ", 0) ∈ gStr := List.mem_of_getElem? (i := 0) rfl
theorem gs_1 : (RX12, 226, "well 3;well ", 1) ∈ gStr := List.mem_of_getElem? (i := 1) rfl
theorem gs_2 : (RX12, 228, ";", 2) ∈ gStr := List.mem_of_getElem? (i := 2) rfl
theorem gs_3 : (RX12, 230, "lane l", 3) ∈ gStr := List.mem_of_getElem? (i := 3) rfl
theorem gs_4 : (RX12, 232, " under l", 4) ∈ gStr := List.mem_of_getElem? (i := 4) rfl
theorem gs_5 : (RX12, 234, " rate ", 5) ∈ gStr := List.mem_of_getElem? (i := 5) rfl
theorem gs_6 : (RX12, 236, " most ", 6) ∈ gStr := List.mem_of_getElem? (i := 6) rfl
theorem gs_7 : (RX12, 238, " burst ", 7) ∈ gStr := List.mem_of_getElem? (i := 7) rfl
theorem gs_8 : (RX12, 240, " rank ", 8) ∈ gStr := List.mem_of_getElem? (i := 8) rfl
theorem gs_9 : (RX12, 242, " holds ", 9) ∈ gStr := List.mem_of_getElem? (i := 9) rfl
theorem gs_10 : (RX12, 244, " drops ", 10) ∈ gStr := List.mem_of_getElem? (i := 10) rfl
theorem gs_11 : (RX12, 246, "old", 11) ∈ gStr := List.mem_of_getElem? (i := 11) rfl
theorem gs_12 : (RX12, 248, "new", 12) ∈ gStr := List.mem_of_getElem? (i := 12) rfl
theorem gs_13 : (RX12, 250, ";\n", 13) ∈ gStr := List.mem_of_getElem? (i := 13) rfl
theorem gs_14 : (RX12, 252, "folk f", 14) ∈ gStr := List.mem_of_getElem? (i := 14) rfl
theorem gs_15 : (RX12, 254, " to l", 15) ∈ gStr := List.mem_of_getElem? (i := 15) rfl
theorem gs_16 : (RX12, 256, " brings ", 16) ∈ gStr := List.mem_of_getElem? (i := 16) rfl
theorem gs_17 : (RX12, 258, " every ", 17) ∈ gStr := List.mem_of_getElem? (i := 17) rfl
theorem gs_18 : (RX12, 260, " from ", 18) ∈ gStr := List.mem_of_getElem? (i := 18) rfl
theorem gs_19 : (RX12, 262, "raise l", 19) ∈ gStr := List.mem_of_getElem? (i := 19) rfl
theorem gs_20 : (RX12, 264, "cap l", 20) ∈ gStr := List.mem_of_getElem? (i := 20) rfl
theorem gs_21 : (RX12, 266, "shut l", 21) ∈ gStr := List.mem_of_getElem? (i := 21) rfl
theorem gs_22 : (RX12, 268, " to ", 22) ∈ gStr := List.mem_of_getElem? (i := 22) rfl
theorem gs_23 : (RX12, 108, "", 23) ∈ gStr := List.mem_of_getElem? (i := 23) rfl
theorem gs_24 : (RX12, 121, "minute - ", 24) ∈ gStr := List.mem_of_getElem? (i := 24) rfl
theorem gs_25 : (RX12, 123, "spare+tokens l", 25) ∈ gStr := List.mem_of_getElem? (i := 25) rfl
theorem gs_26 : (RX12, 125, "waits l", 26) ∈ gStr := List.mem_of_getElem? (i := 26) rfl
theorem gs_27 : (RX12, 127, " * 2 - ", 27) ∈ gStr := List.mem_of_getElem? (i := 27) rfl
theorem gs_28 : (RX12, 129, "sent l", 28) ∈ gStr := List.mem_of_getElem? (i := 28) rfl
theorem gs_29 : (RX12, 131, "/2", 29) ∈ gStr := List.mem_of_getElem? (i := 29) rfl
theorem gs_30 : (RX12, 133, "lost l", 30) ∈ gStr := List.mem_of_getElem? (i := 30) rfl
theorem gs_31 : (RX12, 135, " - lent l", 31) ∈ gStr := List.mem_of_getElem? (i := 31) rfl
theorem gs_32 : (RX12, 137, "min(", 32) ∈ gStr := List.mem_of_getElem? (i := 32) rfl
theorem gs_33 : (RX12, 139, ",30 - tokens l", 33) ∈ gStr := List.mem_of_getElem? (i := 33) rfl
theorem gs_34 : (RX12, 141, ")", 34) ∈ gStr := List.mem_of_getElem? (i := 34) rfl
theorem gs_35 : (RX12, 270, " when ", 35) ∈ gStr := List.mem_of_getElem? (i := 35) rfl
theorem gs_36 : (RX12, 147, "full l", 36) ∈ gStr := List.mem_of_getElem? (i := 36) rfl
theorem gs_37 : (RX12, 149, "not dry l", 37) ∈ gStr := List.mem_of_getElem? (i := 37) rfl
theorem gs_38 : (RX12, 151, "minute >= ", 38) ∈ gStr := List.mem_of_getElem? (i := 38) rfl
theorem gs_39 : (RX12, 153, "dry l", 39) ∈ gStr := List.mem_of_getElem? (i := 39) rfl
theorem gs_40 : (RX12, 155, " or spare < ", 40) ∈ gStr := List.mem_of_getElem? (i := 40) rfl
theorem gs_41 : (RX12, 157, "[not full l", 41) ∈ gStr := List.mem_of_getElem? (i := 41) rfl
theorem gs_42 : (RX12, 159, " and minute / 4 * 4 = minute]", 42) ∈ gStr := List.mem_of_getElem? (i := 42) rfl
theorem gs_43 : (RX12, 165, " > ", 43) ∈ gStr := List.mem_of_getElem? (i := 43) rfl
theorem gs_44 : (RX12, 167, "2 > 1", 44) ∈ gStr := List.mem_of_getElem? (i := 44) rfl
theorem gs_45 : (RX12, 275, "; ", 45) ∈ gStr := List.mem_of_getElem? (i := 45) rfl
end
section
/-! ===== STRINGS AND THEIR BUILDERS: the rows that their code needs ===== -/
section JCOMB
variable {β : Type}
/-- a String, made or from before -/
def objS (r : Option Nat) (x : Hp) (k : Nat → Option β) : Option β := match r with
  | none => none
  | some b => if h_k x b = 1 ∨ h_k x b = 201 then k b else none
def gsr (r : Option Nat) (x : Hp) (k : Option Nat → Option β) : Option β := objS r x fun b => k (h_r x 0 b)
def gsi (r : Option Nat) (x : Hp) (k : Int32 → Option β) : Option β := objS r x fun b => k (h_i x 1 b)
/-- bytes, made or from before -/
def objB (r : Option Nat) (x : Hp) (k : Nat → Option β) : Option β := match r with
  | none => none
  | some b => if h_k x b = 100 ∨ h_k x b = 300 then k b else none
def alenB (r : Option Nat) (x : Hp) (k : Int32 → Option β) : Option β := objB r x fun b => k (Int32.ofNat (h_n x b))
def aldb (r : Option Nat) (x : Hp) (i : Int32) (k : Int32 → Option β) : Option β := objB r x fun b => if 0 ≤ i.toInt ∧ i.toInt < h_n x b then k (h_ai x b i.toNatClampNeg) else none
/-- System.arraycopy of bytes, of one row into another -/
def acpy (r : Option Nat) (x : Hp) (sp : Int32) (q : Option Nat) (dp n : Int32) (k : Hp → Option β) : Option β := objB r x fun a => obj q x 100 fun b =>
  if a ≠ b ∧ 0 ≤ sp.toInt ∧ 0 ≤ dp.toInt ∧ 0 ≤ n.toInt ∧ sp.toNatClampNeg + n.toNatClampNeg ≤ h_n x a ∧ dp.toNatClampNeg + n.toNatClampNeg ≤ h_n x b ∧ (∀ i, i < n.toNatClampNeg → fits .byte (.int (h_ai x a (sp.toNatClampNeg + i))) = true) then k (p_aw x b (va_cpy (h_ai x a) (h_ai x b) sp.toNatClampNeg dp.toNatClampNeg n.toNatClampNeg)) else none
/-- a copy of a row of bytes -/
def clonb (r : Option Nat) (x : Hp) (k : Option Nat → Hp → Option β) : Option β := obj r x 100 fun b => if (∀ i, i < h_n x b → fits .byte (.int (h_ai x b i)) = true) then k (some (h_sz x)) (p_aw (p_n x 100 (h_n x b) (h_n x b)) (h_sz x) (h_ai x b)) else none
def castb (r : Option Nat) (x : Hp) (k : Option β) : Option β := obj r x 100 fun _ => k
def byt (v : Int32) (k : Option β) : Option β := if v = 0 ∨ v = 1 then k else none
def chr (v : Int32) (k : Option β) : Option β := if 0 ≤ v.toInt ∧ v.toInt < 65536 then k else none
end JCOMB
abbrev okB : Int32 → Prop := fun v => v = 0 ∨ v = 1
abbrev okC : Int32 → Prop := fun v => 0 ≤ v.toInt ∧ v.toInt < 65536
theorem nar_byt {v : Int32} (h : v = 0 ∨ v = 1) : narrow .byte (.int v) = .int v ∧ fits .byte (.int v) = true := by rcases h with rfl | rfl <;> exact ⟨rfl, rfl⟩
theorem nar_chr {v : Int32} (h : 0 ≤ v.toInt ∧ v.toInt < 65536) : narrow .char (.int v) = .int v := by
  have h1 : v = nI v.toInt.toNat := Int32.toInt_inj.mp (by rw [nI_toInt (by omega)]; omega)
  rw [h1]
  exact (pk_charN (by omega)).1
theorem Ct_b {l : Launch} {z : Nat → Nat} {y : MethodName} {b : ByteArray} {n d : Nat} {av : List Value} {f : Hp → Option (Int32 × Hp)} (hG : ∀ x, G l z (b, y.cls, y.name, n, .ireturn, d) (fun v => v = 0 ∨ v = 1) (fun v => some (.int v)) 0 (lv_args 0 av) [] x (f x)) (hy : plainName y.cls = true) (hs : (lg_sl av).length ≤ n) : Ct l z y b n (some .byte) d (fun v : Int32 => some (.int v)) av f :=
  ct_of hG hy hs (fun ok hx hb hr hlk hq hf hdg => W.zret hx hb hr (nar_byt ok).1 hq hf hdg hlk)
theorem Ct_c {l : Launch} {z : Nat → Nat} {y : MethodName} {b : ByteArray} {n d : Nat} {av : List Value} {f : Hp → Option (Int32 × Hp)} (hG : ∀ x, G l z (b, y.cls, y.name, n, .ireturn, d) okC (fun v => some (.int v)) 0 (lv_args 0 av) [] x (f x)) (hy : plainName y.cls = true) (hs : (lg_sl av).length ≤ n) : Ct l z y b n (some .char) d (fun v : Int32 => some (.int v)) av f :=
  ct_of hG hy hs (fun ok hx hb hr hlk hq hf hdg => W.zret hx hb hr (nar_chr ok) hq hf hdg hlk)
section PRIV
variable {p : Program} {l : Launch} {e : Env} {R : Room} {s : State} {m : MethodId} {args : Array Value} {below : List Frame} {meth : Method} {c : Code} {T : State} {locs : List Loc} {cells slots : Nat} {H : Heap} {Q : State → Prop}
/-- a private method of a superclass, called on an object of a subclass -/
theorem w_callVP (X : Stand p l e R s m args below meth c T locs cells slots) (hexec : p.tables.exec = Jvm.exec) {own : String} {index : Nat} {y : MethodName} {bytes : ByteArray} {maxL : Nat} {ret : Option FieldType}
    (hown : s.vm.findClass own = some m.cls) (hlink : (Cond.methodLink own index y).before args s = true) (hinst : (Cond.instanceMethod y).before args s = true) (hpriv : (Cond.privateMethod y).before args s = true)
    (hni : ∀ mk, s.methodNamed? y = some mk → ∃ kP : Class, s.vm.classes[mk.cls]? = some kP ∧ kP.isInterface = false)
    (hcode : (Cond.code y bytes maxL ret).before args s = true) (hy : y.cls ≠ "java/lang/invoke/MethodHandle" ∧ y.cls ≠ "java/lang/invoke/VarHandle")
    {W : Nat} {Pre : Pt → Array Value → Prop} {Post : Pt → Array Value → Option Value → Pt → Prop} (hK : Back l R p e below s args y 3 W Pre Post)
    {b : Addr} {cellB : Cell} (hcell : T.heap[b]? = some cellB) (hobj : cellB.vm.isStatics = false)
    {g : JFrame} (hg : g.method = m) (hsize : g.locals.size = c.maxLocals) {argsL rest : List Value} (hlen : ∀ sig, parseMethodDescriptor y.desc = some sig → argsL.length = sig.parameters.length)
    (hstack : g.stack = argsL.reverse ++ .ref b :: rest) (hW : 2 * g.monitorRoom + (rest.map fun v => v.category).sum ≤ W) (hdg : decode c.code g.pc = .ok (.invokevirtual index, 3))
    (hpre : ∀ vm₁, s.WarmedH vm₁ → Pre ⟨T.setVm vm₁, locs, cells, slots⟩ (Value.ref b :: argsL).toArray) :
    ∃ (v : Option Value) (vm₁ : Vm) (B : Pt), s.WarmedH vm₁ ∧ Stand p l e R s m args below meth c B.U B.locs B.cells B.slots ∧ Post ⟨T.setVm vm₁, locs, cells, slots⟩ (Value.ref b :: argsL).toArray v B ∧
      ∀ target, Steps p.tables e below (B.U.setTop { g with pc := g.pc + 3, stack := v.toList ++ rest }) target → Steps p.tables e below (T.setTop g) target := by
  obtain ⟨mk, methM, hnamed, hmethM, hstM, habM⟩ := Cond.instanceMethod_spec hinst
  obtain ⟨methM', cM, hmethM', -, -, -, -, -, -, hsigM⟩ := Cond.code_spec hnamed hcode
  cases hmethM.symm.trans hmethM'
  obtain ⟨kP, hkP, hkPi⟩ := hni mk hnamed
  have hselP : selectMethod e.platform s.vm cellB.cls mk = .method mk := by rw [Launch.admits_selectMethod X.admits]; exact selectMethod_private hmethM (Cond.privateMethod_at hpriv mk methM hnamed hmethM)
  obtain ⟨vm₁, X₁, hstep₁⟩ := X.invokevirtual hexec hown hlink hnamed hmethM hstM hkP hkPi hy (a := b) (cell := cellB) hcell
    (fun z h => by rw [h] at hobj; cases hobj) hselP hmethM habM hkP hkPi (g := g) hg (argsL := argsL) (rest := rest) (hlen _ hsigM) hstack hdg
  obtain ⟨v, B, X', hpost, hsteps⟩ := hK m meth c ⟨T.setVm vm₁, locs, cells, slots⟩ { g with stack := rest } (.invokevirtual index) mk (Value.ref b :: argsL).toArray X₁ hg hsize hdg hW (X₁.named hnamed) (hpre vm₁ X₁.warmed)
  exact ⟨v, vm₁, B, X₁.warmed, X', hpost, fun target h => hstep₁ _ fun acts => by rw [doInvoke_state]; exact hsteps.trans h⟩
variable {y : MethodName} {bytes cc : ByteArray} {maxL nL mc ms n index : Nat} {ret : Option FieldType} {ws : List Cond} {rm : Room} {Pc : Array Value → State → Prop} {Qc : Array Value → State → Outcome → State → Prop} {free : Addr → Prop} {Ts : List Cond} {own C : String} {b : Addr} {As rest : List Value} {g : JFrame}
theorem w_runVP (S : CallFix p m c cc nL s args Ts own) (hM : Met l y ws rm Pc Qc mc ms free) (cw : CallB R s args own index y bytes maxL ret ws rm mc ms n ∧ (Cond.instanceMethod y).before args s = true ∧ (Cond.privateMethod y).before args s = true ∧ (∀ mk, s.methodNamed? y = some mk → ∃ kP : Class, s.vm.classes[mk.cls]? = some kP ∧ kP.isInterface = false)) (hp : PreV s H C b Pc As)
    (hg : g.method = m) (hn : As.length = n) (hsize : g.locals.size = nL) (hstack : g.stack = As.reverse ++ .ref b :: rest) (hW : 2 * g.monitorRoom + (rest.map fun v => v.category).sum ≤ 8) (hdg : decode cc g.pc = .ok (.invokevirtual index, 3)) (hf : cells + mc ≤ R.cells ∧ slots + ms ≤ R.slots) :
    va_Run p l e R s m args below meth c H locs cells slots mc ms g rest (Qc (Value.ref b :: As).toArray) (free) := by
  have hK : Back l R p e below s args y 3 8 (PreOf R mc ms Pc) (PostOf Qc mc ms free) := callBack cw.1 hM hp.1
  obtain ⟨⟨-, -, -, -, -, -, hcode, -, hy, hlen, hl⟩, hin, hpr, hni⟩ := cw
  obtain ⟨hx, hb, hml, ho, -⟩ := S
  obtain ⟨-, ⟨cellB, hcB, hoB, hclB⟩, hPc⟩ := hp
  intro T hT X
  obtain ⟨v, vm₁, ⟨U', l2, c2, s2⟩, hW₁, X', ⟨g', mk, t, L, e1, e2, hq, h1, hL, h2, h3⟩, st⟩ := w_callVP X hx (bytes := bytes) (maxL := maxL) (ret := ret) ho hl hin hpr hni hcode hy hK (by rw [hT]; exact hcB) hoB hg (hsize.trans hml.symm) (argsL := As) (rest := rest) (fun sig h => hn.trans (hlen sig h)) hstack hW (by rw [hb]; exact hdg)
    (fun vm₁ hW₁ => ⟨hf.1, hf.2, hPc (T.setVm vm₁) hT hW₁⟩)
  dsimp only [Pt.U, Pt.locs, Pt.cells, Pt.slots] at X' e1 e2 h1 h2 h3 st
  subst h1; subst h2; subst h3
  exact ⟨v, (T.setVm vm₁).calling g' mk (Value.ref b :: As).toArray, t, U', L, hT, X', hL, e1, e2, hq, st⟩
variable {pc : Nat} {ls : Array Slot} {a a0 : Nat}
theorem w_copy (hexec : p.tables.exec = Jvm.exec) (hb : c.code = cc) (hml : c.maxLocals = ls.size) (hown : s.vm.findClass own = some m.cls) (hlink : (Cond.methodLink own index arraycopyName).before args s = true) (hnat : (Cond.native arraycopyName).before args s = true) (hstat : (Cond.static arraycopyName).before args s = true) (hini : (Cond.initialized "java/lang/System").before args s = true)
    {scr : Cell} {n0 n1 : Nat} {f g : Nat → Int32} {c1 : ClassId} (hc0 : H[a0]? = some scr) (hs2 : s.isArrayOf scr .byte) (hs3 : scr.vm ≠ .unknown) (hs4 : n0 ≤ scr.slots.size) (hs5 : ∀ j : Nat, j < n0 → scr.slots[j]? = some (.int (f j))) (hc1 : H[a]? = some (vp_cell c1 (n1, .inl g))) (hA1 : ArrOfT s c1 .byte)
    {sp dp n : Int32} (h1 : 0 ≤ sp.toInt) (h2 : 0 ≤ dp.toInt) (h3 : 0 ≤ n.toInt) (h4 : sp.toNatClampNeg + n.toNatClampNeg ≤ n0) (h5 : dp.toNatClampNeg + n.toNatClampNeg ≤ n1) (hfit : ∀ i : Nat, i < n.toNatClampNeg → fits .byte (.int (f (sp.toNatClampNeg + i))) = true)
    (hframes : 1 ≤ R.frames) (hlocals : (rest.map fun v => v.category).sum + (nativeFrameWords "java/lang/System" "arraycopy" 5 + 11) ≤ R.locals) (hdg : decode cc pc = .ok (.invokestatic index, 3))
    (kk : ∀ (H1 : Heap) (L : List Loc), H1[a]? = some (vp_cell c1 (n1, .inl (va_cpy f g sp.toNatClampNeg dp.toNatClampNeg n.toNatClampNeg))) → H1.size = H.size → (∀ q : Nat, q ≠ a → H1[q]? = H[q]?) → (∀ z ∈ L, z.base = a) → W p l e R s m args below meth c H1 (locs ++ L) cells slots Q (F0 m (pc + 3) ls rest)) : W p l e R s m args below meth c H locs cells slots Q (F0 m pc ls (.int n :: .int dp :: .ref a :: .int sp :: .ref a0 :: rest)) := by
  have nn : ∀ z : Int32, 0 ≤ z.toInt → z.toInt = (z.toNatClampNeg : Int) := by
    intro z hz0
    show z.toInt = ((z.toInt.toNat : Nat) : Int)
    omega
  intro T hT X
  obtain ⟨hs6, k0, hk0, cm0, hkk0⟩ := hs2
  obtain ⟨-, k1, hk1, cm1, hkk1⟩ := hA1 n1 (fun j => .int (g j))
  obtain ⟨vm', X', step⟩ := X.arraycopy hexec hown hlink hnat hstat hini (src := a0) (dst := a) (cs := scr) (cd := vp_cell c1 (n1, .inl g)) (srcPos := sp) (destPos := dp) (n := n) (by rw [hT]; exact hc0) (by rw [hT]; exact hc1)
    hs6 (fun _ h => by cases h) hs3 (fun h => by cases h) hk0 hk1 hkk0 hkk1 (by simp [refKind]) (Int32_nneg h1) (Int32_nneg h2) (Int32_nneg h3)
    (by rw [nn sp h1, nn n h3]; omega)
    (by rw [nn dp h2, nn n h3]; show ¬ _ > ((arrV c1 n1 (fun j => .int (g j))).slots.size : Int); rw [arrV_size]; omega)
    (fun vm₁ _ i hi => by
      have e : scr.slots.getD (sp.toNatClampNeg + i) .null = .int (f (sp.toNatClampNeg + i)) := by
        rw [Array.getD_eq_getD_getElem?, hs5 _ (by omega)]
        rfl
      refine ⟨?_, ?_⟩
      · rw [e]
        exact hfit i hi
      · rw [e]
        exact trivial)
    (g := F0 m pc ls (.int n :: .int dp :: .ref a :: .int sp :: .ref a0 :: rest)) rfl (by rw [hml]) (rest := rest) rfl (by rw [hb]; exact hdg) hframes (by show 2 * 0 + _ + _ ≤ _; omega)
  have e1 : copied scr (vp_cell c1 (n1, .inl g)) sp dp n = vp_cell c1 (n1, .inl (va_cpy f g sp.toNatClampNeg dp.toNatClampNeg n.toNatClampNeg)) := va_copiedX (fun z => .int z) scr c1 f g hs5 h4
  rw [e1] at X' step
  have hl : a < H.size := (Array.getElem?_eq_some_iff.mp hc1).1
  have hheap : ((T.setVm vm').setCell a (vp_cell c1 (n1, .inl (va_cpy f g sp.toNatClampNeg dp.toNatClampNeg n.toNatClampNeg)))).heap = H.setIfInBounds a (vp_cell c1 (n1, .inl (va_cpy f g sp.toNatClampNeg dp.toNatClampNeg n.toNatClampNeg))) := by rw [← hT]; rfl
  obtain ⟨t, a1, b1⟩ := kk _ _ (show (H.setIfInBounds a _)[a]? = some _ by simp [Array.getElem?_setIfInBounds, hl]) (by simp) (fun q hq => by simp [Array.getElem?_setIfInBounds, Ne.symm hq]) (fun q hq => by
      obtain ⟨z, -, hz⟩ := List.mem_map.mp hq
      rw [← hz]) _ hheap X'
  exact ⟨t, step t a1, b1⟩
theorem w_clone (hexec : p.tables.exec = Jvm.exec) (hb : c.code = cc) (hml : c.maxLocals = ls.size) {ad : String} (hown : s.vm.findClass own = some m.cls)
    (hlink : (Cond.methodLink own index ⟨ad, "clone", "()Ljava/lang/Object;"⟩).before args s = true) (hsame : (Cond.sameMethod ad "java/lang/Object" "clone" "()Ljava/lang/Object;").before args s = true)
    (hnat : (Cond.native ⟨"java/lang/Object", "clone", "()Ljava/lang/Object;"⟩).before args s = true) (hinst : (Cond.instanceMethod ⟨"java/lang/Object", "clone", "()Ljava/lang/Object;"⟩).before args s = true)
    (hsel : (Cond.selects ad ⟨ad, "clone", "()Ljava/lang/Object;"⟩ ⟨"java/lang/Object", "clone", "()Ljava/lang/Object;"⟩).before args s = true) (hcl : va_Nw (.castable ad "java/lang/Cloneable") s)
    {cB : ClassId} {v : vp_A} {ty : FieldType} (hc1 : H[a]? = some (vp_cell cB v)) (hA : ArrOfT s cB ty)
    (hnm : s.vm.findClass ad = some cB) (hfit : ∀ (i : Nat) (w : Value), (vp_cell cB v).slots[i]? = some w → fits ty w = true)
    (hframes : 1 ≤ R.frames) (hlocals : (rest.map fun v => v.category).sum + 14 ≤ R.locals) (hcells : cells + 1 ≤ R.cells) (hslots : slots + v.1 ≤ R.slots) (hdg : decode cc pc = .ok (.invokevirtual index, 3))
    (kk : ∀ (H1 : Heap), H1[H.size]? = some (vp_cell cB v) → H1.size = H.size + 1 → (∀ q : Nat, q < H.size → H1[q]? = H[q]?) →
      W p l e R s m args below meth c H1 locs (cells + 1) (slots + v.1) Q (F0 m (pc + 3) ls (.ref H.size :: rest))) : W p l e R s m args below meth c H locs cells slots Q (F0 m pc ls (.ref a :: rest)) := by
  have hsz : (vp_cell cB v).slots.size = v.1 := by
    obtain ⟨n, f | f | f | f | f⟩ := v <;> exact arrV_size _ _ _
  have hvm0 : (vp_cell cB v).vm = .none := by
    obtain ⟨n, f | f | f | f | f⟩ := v <;> rfl
  have hcl0 : (vp_cell cB v).cls = cB := by
    obtain ⟨n, f | f | f | f | f⟩ := v <;> rfl
  have hcellE : ({ cls := (vp_cell cB v).cls, slots := (vp_cell cB v).slots } : Cell) = vp_cell cB v := by
    obtain ⟨n, f | f | f | f | f⟩ := v <;> rfl
  obtain ⟨c0, t0', f1, f2, f3⟩ := Cond.castable_spec (va_Nw.use (A := args) rfl hcl)
  cases hnm.symm.trans f1
  intro T hT X
  have hcellT : T.heap[a]? = some (vp_cell cB v) := by rw [hT]; exact hc1
  obtain ⟨-, kA, hkA, comp, hkind⟩ := State.isArrayOf_alike X.warmed.alike (hA 0 (fun _ => .null))
  obtain ⟨-, kS, hkS, compS, hkindS⟩ := hA 0 (fun _ => .null)
  obtain ⟨vm', X', st⟩ := X.cloneArray hexec hown hlink hsame hnat hinst hsel (a := a) (cell := vp_cell cB v) hcellT (fun k h => by rw [hvm0] at h; cases h) (by rw [hvm0]; exact fun h => by cases h) (by rw [hcl0]; exact hnm) f2 (by rw [hcl0]; exact f3)
    (fun i w hw => by
      rw [hcl0]
      have hk' : T.vm.classes[cB]? = some kA := hkA
      simpa [State.fitsSlot, State.slotType?, hk', hkind] using hfit i w hw)
    (g := F0 m pc ls (.ref a :: rest)) rfl (by rw [hml]) rfl (by rw [hb]; exact hdg) hframes (by show 2 * 0 + _ + 14 ≤ _; omega) hcells (by rw [hsz]; exact hslots) (hloader := by rw [hcl0]; exact Vm.clonesLoader_of_array hkS hkindS)
  rw [hcellE, hsz] at X'
  generalize hH1 : H.push (vp_cell cB v) = H1
  have z1 : H1.size = H.size + 1 := by rw [← hH1, Array.size_push]
  have e1 : H1[H.size]? = some (vp_cell cB v) := by rw [← hH1, Array.getElem?_push_size]
  have o1 : ∀ q : Nat, q < H.size → H1[q]? = H[q]? := fun q hq => by rw [← hH1, Array.getElem?_push, if_neg (Nat.ne_of_lt hq)]
  obtain ⟨t, b1, b2⟩ := kk H1 e1 z1 o1 ((T.setVm vm').pushCell (vp_cell cB v)) (by rw [← hH1, ← hT]; rfl) X'
  refine ⟨t, st t ?_, b2⟩
  rw [hcellE, hT]
  exact b1
end PRIV
section ROWSJ
variable {α γ : Type} {l : Launch} {z : Nat → Nat} {M : Mt} {okv : α → Prop} {en : α → Option Value} {pc : Nat} {lv : List (Nat × Value)} {st : List Value} {x : Hp}
theorem G_objS {r : Option Nat} {k : Nat → Option (α × Hp)} (h : ∀ b, r = some b → (h_k x b = 1 ∨ h_k x b = 201) → G l z M okv en pc lv st x (k b)) : G l z M okv en pc lv st x (objS r x k) := by
  cases r with
  | none => exact G_none
  | some b => exact G_if (fun hk => h b rfl hk) (fun _ => G_none)
theorem G_objB {r : Option Nat} {k : Nat → Option (α × Hp)} (h : ∀ b, r = some b → (h_k x b = 100 ∨ h_k x b = 300) → G l z M okv en pc lv st x (k b)) : G l z M okv en pc lv st x (objB r x k) := by
  cases r with
  | none => exact G_none
  | some b => exact G_if (fun hk => h b rfl hk) (fun _ => G_none)
theorem G_byt {v : Int32} {E : Option (α × Hp)} (h : v = 0 ∨ v = 1 → G l z M okv en pc lv st x E) : G l z M okv en pc lv st x (byt v E) := G_if h (fun _ => G_none)
theorem G_chr {v : Int32} {E : Option (α × Hp)} (h : 0 ≤ v.toInt ∧ v.toInt < 65536 → G l z M okv en pc lv st x E) : G l z M okv en pc lv st x (chr v E) := G_if h (fun _ => G_none)
theorem G_ldcS {i q : Nat} {own tx : String} {E : Option (α × Hp)} (hs : (own, i, tx, q) ∈ gStr) (hown : M.2.1 = own) (hdg : decode M.1 pc = .ok (.ldc i, 2)) (k : G l z M okv en (pc + 2) lv (va_rf (some (z q)) :: st) x E) : G l z M okv en pc lv st x E :=
  G_st (fun C _ k => va_ldcS C.1 C.2.1 (own := own) (tx := tx) (hown ▸ C.2.2.2.1) (C.2.2.2.2.2.2.1.2.2.1 _ hs) hdg k) k
theorem G_ldcwS {i q : Nat} {own tx : String} {E : Option (α × Hp)} (hs : (own, i, tx, q) ∈ gStr) (hown : M.2.1 = own) (hdg : decode M.1 pc = .ok (.ldc_w i, 3)) (k : G l z M okv en (pc + 3) lv (va_rf (some (z q)) :: st) x E) : G l z M okv en pc lv st x E :=
  G_st (fun {D cA b0 p e R s m args below meth c H locs cells slots Q ls} C _ k => by
    have hR := C.2.2.2.2.2.2.1.2.2.1 _ hs
    intro T hT X
    obtain ⟨t, a1, b1⟩ := k T hT X
    exact ⟨t, X.ldcStringW C.1 (own := own) (text := tx) (a := z q) (hown ▸ C.2.2.2.1) hR.1 hR.2 (g := F0 m pc ls st) rfl (by rw [C.2.1]; exact hdg) t a1, b1⟩) k
theorem G_gsr {r : Option Nat} {i : Nat} {kk : Option Nat → Option (α × Hp)} (hw : Cond.fieldLink M.2.1 i RJ0 "value" "[B" ∈ gT) (hc : Cl 0 RJ0 TJ0 4 tyJ0) (hdg : decode M.1 pc = .ok (.getfield i, 3)) (k0 : ∀ v, G l z M okv en (pc + 3) lv (va_rf v :: st) x (kk v)) : G l z M okv en pc lv (va_rf r :: st) x (gsr r x kk) := by
  refine G_objS fun b hr hkb => ?_
  subst hr
  refine G_rd (fun C hR hS k2 => ?_) (k0 (h_r x 0 b))
  obtain ⟨hx, hb, -, hown, hts, -, ⟨hK, -⟩, -⟩ := C
  rcases hkb with hkb | hkb
  · obtain ⟨hcl, hci, hin, -⟩ := hc
    exact va_get hx hb hts hin hown hK (hR.at_obj hkb hci) 0 rfl hcl 0 (by decide) (hts _ hw) (fun _ h => h) (fsv_get (x := x) (ci := 0) (a := b) (gR 0) 0 0 true rfl) hdg k2
  · obtain ⟨cf, k, fi, f, cell, h1, h2, h3, h4, h5, h6⟩ := (((hR.2.2 b).2 (by omega)).2.1 hkb).2.2
    exact W.getf hx hb hown (hts _ hw) h1 h2 h3 h4 (v := va_rf (h_r x 0 b)) h5 rfl rfl hdg k2
theorem G_gsi {r : Option Nat} {i : Nat} {kk : Int32 → Option (α × Hp)} (hw : Cond.fieldLink M.2.1 i RJ0 "coder" "B" ∈ gT) (hc : Cl 0 RJ0 TJ0 4 tyJ0) (hdg : decode M.1 pc = .ok (.getfield i, 3)) (k0 : ∀ v, G l z M okv en (pc + 3) lv (.int v :: st) x (kk v)) : G l z M okv en pc lv (va_rf r :: st) x (gsi r x kk) := by
  refine G_objS fun b hr hkb => ?_
  subst hr
  refine G_rd (fun C hR hS k2 => ?_) (k0 (h_i x 1 b))
  obtain ⟨hx, hb, -, hown, hts, -, ⟨hK, -⟩, -⟩ := C
  rcases hkb with hkb | hkb
  · obtain ⟨hcl, hci, hin, -⟩ := hc
    exact va_get hx hb hts hin hown hK (hR.at_obj hkb hci) 0 rfl hcl 1 (by decide) (hts _ hw) (fun _ h => h) (fsv_get (x := x) (ci := 0) (a := b) (gR 0) 0 1 false rfl) hdg k2
  · obtain ⟨cf, k, fi, f, cell, h1, h2, h3, h4, h5, h6⟩ := (((hR.2.2 b).2 (by omega)).2.1 hkb).2.1
    exact W.getf hx hb hown (hts _ hw) h1 h2 h3 h4 (v := .int (h_i x 1 b)) h5 rfl rfl hdg k2
theorem G_alenB {r : Option Nat} {kk : Int32 → Option (α × Hp)} (hdg : decode M.1 pc = .ok (.arraylength, 1)) (k0 : ∀ v, G l z M okv en (pc + 1) lv (.int v :: st) x (kk v)) : G l z M okv en pc lv (va_rf r :: st) x (alenB r x kk) := by
  refine G_objB fun b hr hkb => ?_
  subst hr
  refine G_rd (fun C hR hS k2 => ?_) (k0 (Int32.ofNat (h_n x b)))
  obtain ⟨hx, hb, -, hown, hts, -, ⟨hK, -⟩, -⟩ := C
  rcases hkb with hkb | hkb
  · have h1 := hR.at_arr (t := 0) hkb (by omega)
    exact va_alen (ty := .byte) (ws := [(b, .inl (_, (h_n x b, apay x 0 b)))]) hx hb hK (fun k q hq => by
      have hz : k < 1 := (List.getElem?_eq_some_iff.mp hq).1
      rw [show k = 0 by omega] at hq
      cases hq
      exact h1) 0 0 rfl rfl rfl hdg k2
  · obtain ⟨cell, h1, h2, h3, h4, h5, h6, -⟩ := ((hR.2.2 b).2 (by omega)).2.2.1 hkb
    exact W.alen hx hb h1 h2 h5 rfl rfl hdg k2
theorem G_aldb {r : Option Nat} {i : Int32} {kk : Int32 → Option (α × Hp)} (hdg : decode M.1 pc = .ok (.baload, 1)) (k0 : ∀ v, G l z M okv en (pc + 1) lv (.int v :: st) x (kk v)) : G l z M okv en pc lv (.int i :: va_rf r :: st) x (aldb r x i kk) := by
  refine G_objB fun b hr hkb => ?_
  rcases hkb with hkb | hkb
  · refine G_if (fun hi => ?_) (fun _ => G_none)
    have := G_bald (l := l) (z := z) (okv := okv) (en := en) (lv := lv) (st := st) (x := x) (r := r) (i := i) hdg k0
    rw [hr] at this ⊢
    simpa only [aldi, idx, obj, if_pos hkb, if_pos hi] using this
  · refine G_if (fun hi => ?_) (fun _ => G_none)
    have := G_baldO (l := l) (z := z) (okv := okv) (en := en) (lv := lv) (st := st) (x := x) (r := r) (i := i) hdg k0
    rw [hr] at this ⊢
    simpa only [aldi, idx, obj, if_pos hkb, if_pos hi] using this
/-- a static of the JDK's: an int, a reference -/
theorem G_getsi {i : Nat} {E : Option (α × Hp)} {C n d ref : String} {v : Int32} (k : Nat) (hz : ∀ z, (gZs z)[k]? = some (C, n, d, .int v)) (hw : Cond.fieldLink M.2.1 i ref n d ∈ gT) (href : ref = C) (hdg : decode M.1 pc = .ok (.getstatic i, 3)) (k0 : G l z M okv en (pc + 3) lv (.int v :: st) x E) : G l z M okv en pc lv st x E := by
  refine G_rd (fun C0 hR hS k2 => ?_) k0
  obtain ⟨hx, hb, -, hown, hts, -, hE, -⟩ := C0
  subst href
  exact va_gets hx hb (hE.2.2.2.1 _ (List.mem_of_getElem? (hz z))) hS hown (hts _ hw) (fun _ h => h) hdg k2
theorem G_getsr {i : Nat} {E : Option (α × Hp)} {C n d ref : String} {v : Option Nat} (k : Nat) (hz : (gZs z)[k]? = some (C, n, d, va_rf v)) (hw : Cond.fieldLink M.2.1 i ref n d ∈ gT) (href : ref = C) (hdg : decode M.1 pc = .ok (.getstatic i, 3)) (k0 : G l z M okv en (pc + 3) lv (va_rf v :: st) x E) : G l z M okv en pc lv st x E := by
  refine G_rd (fun C0 hR hS k2 => ?_) k0
  obtain ⟨hx, hb, -, hown, hts, -, hE, -⟩ := C0
  subst href
  exact va_gets hx hb (hE.2.2.2.1 _ (List.mem_of_getElem? hz)) hS hown (hts _ hw) (fun _ h => h) hdg k2
/-! calls on a String, made or from before -/
theorem G_callVS {eg : γ → Option Value} {y : MethodName} {b : ByteArray} {n' d' i : Nat} {ret : Option FieldType} {av : List Value} {r : Option Nat} {f : Nat → Hp → Option (γ × Hp)} {kk : γ → Hp → Option (α × Hp)} (rest : List Value) (hC : ∀ q, Ct l z y b n' ret d' eg (.ref q :: av) (f q)) (hcl : Cl 0 RJ0 TJ0 4 tyJ0)
    (hy : Yn y av.length) (hd : d' + 1 ≤ M.2.2.2.2.2) (hn : n' ≤ 45) (w1 : Cond.methodLink M.2.1 i y ∈ gT) (w2 : Cond.instanceMethod y ∈ gT) (w5 : Cond.selects RJ0 y y ∈ gT) (w3 : Cond.initialized y.cls ∈ gT) (w4 : Cond.code y b n' ret ∈ gT) (hst : st = av.reverse ++ va_rf r :: rest) (hW : (rest.map fun v => v.category).sum ≤ 8) (hdg : decode M.1 pc = .ok (.invokevirtual i, 3))
    (k0 : ∀ v y, G l z M okv en (pc + 3) lv ((eg v).toList ++ rest) y (kk v y)) : G l z M okv en pc lv st x (objS r x fun q => bnd (f q x) kk) := by
  refine G_objS fun q hr hkb => ?_
  subst hr
  refine G_call (rest := rest) (hC q) (fun C hR hS hl hc hs hM => ?_) k0
  obtain ⟨hx, hb, hml, hown, hts, hnm, hE, hf1, hf2⟩ := C
  exact va_runV (own := M.2.1) (Ts := gT) (b := q) (As := av) ⟨hx, hb, hml, hown, hts⟩ hM ⟨callB_of av.length hts (gT_ws w4) rfl rfl rfl (hts _ w3) (hts _ w1) hy ⟨Nat.le_trans hd hf1, Nat.le_trans (show 8 + (n' + 11) + 64 * d' ≤ 64 * M.2.2.2.2.2 by omega) hf2⟩, hts _ w2, hts _ w5⟩ ⟨gPc_blind, by
    rcases hkb with hkb | hkb
    · exact va_recv (q0 := 0) hE.1 (hR.at_obj hkb hcl.2.1) hcl.1 rfl
    · obtain ⟨cell, h1, h2, h3, -⟩ := (((hR.2.2 q).2 (by omega)).2.1 hkb).1
      exact ⟨cell, h1, h2, h3⟩, gPc_pre hR hS hE⟩ rfl rfl hl.1 hst (lv_room hW) hdg ⟨hc, hs⟩
/-- an inherited method, or one that overrides the one named -/
theorem G_callU {eg : γ → Option Value} {C owner : String} {w y : MethodName} {b : ByteArray} {n' d' i : Nat} {ret : Option FieldType} {av : List Value} {r : Option Nat} {f : Nat → Hp → Option (γ × Hp)} {kk : γ → Hp → Option (α × Hp)} {kd ci N : Nat} {T : u_T} {ty : Nat → FieldType} (rest : List Value) (hC : ∀ q, Ct l z y b n' ret d' eg (.ref q :: av) (f q)) (hcl : Cl ci C T N ty) (hkd : kd = ci + 1)
    (hy : owner ≠ "java/lang/invoke/MethodHandle" ∧ owner ≠ "java/lang/invoke/VarHandle" ∧ (parseMethodDescriptor w.desc).map (fun d => d.parameters.length) = some av.length) (hd : d' + 1 ≤ M.2.2.2.2.2) (hn : n' ≤ 45) (w1 : Cond.methodLink M.2.1 i w ∈ gT) (w6 : Cond.sameMethod w.cls owner w.name w.desc ∈ gT) (w7 : Cond.instanceMethod ⟨owner, w.name, w.desc⟩ ∈ gT) (w5 : Cond.selects C w y ∈ gT) (w2 : Cond.instanceMethod y ∈ gT) (w3 : Cond.initialized y.cls ∈ gT) (w4 : Cond.code y b n' ret ∈ gT) {bq : ByteArray} {m0 : Nat} {r0 : Option FieldType} (w8 : Cond.code ⟨owner, w.name, w.desc⟩ bq m0 r0 ∈ gT) (hst : st = av.reverse ++ va_rf r :: rest) (hW : (rest.map fun v => v.category).sum ≤ 8) (hdg : decode M.1 pc = .ok (.invokevirtual i, 3))
    (k0 : ∀ v y, G l z M okv en (pc + 3) lv ((eg v).toList ++ rest) y (kk v y)) : G l z M okv en pc lv st x (obj r x kd fun q => bnd (f q x) kk) := by
  refine G_obj fun q hr hkb => ?_
  subst hr; subst hkd
  refine G_call (rest := rest) (hC q) (fun C0 hR hS hl hc hs hM => ?_) k0
  obtain ⟨hx, hb, hml, hown, hts, hnm, hE, hf1, hf2⟩ := C0
  have hG : GoodIn gT (va_wsO M.2.1 i C owner w y (.code y b n' ret :: gT)) := gT_goodIn _ (fun v hv => by
    unfold va_wsO at hv
    rcases List.mem_append.mp hv with hv | hv
    · simp only [List.mem_cons, List.not_mem_nil, or_false] at hv
      rcases hv with rfl | rfl | rfl | rfl | rfl | rfl
      · exact w1
      · exact w6
      · exact w7
      · exact w5
      · exact w2
      · exact w3
    · exact (gT_ws w4 v hv).1)
  exact va_runU (own := M.2.1) (Ts := gT) (b := q) (As := av) ⟨hx, hb, hml, hown, hts⟩ hM (va_cwO av.length hts hG rfl rfl rfl w8 hy ⟨Nat.le_trans hd hf1, Nat.le_trans (show 8 + (n' + 11) + 64 * d' ≤ 64 * M.2.2.2.2.2 by omega) hf2⟩) ⟨gPc_blind, va_recv (q0 := 0) hE.1 (hR.at_obj hkb hcl.2.1) hcl.1 rfl, gPc_pre hR hS hE⟩ rfl rfl hl.1 hst (lv_room hW) hdg ⟨hc, hs⟩
/-- super.m(..) -/
theorem G_callSU {eg : γ → Option Value} {C : String} {y : MethodName} {b : ByteArray} {n' d' i : Nat} {ret : Option FieldType} {av : List Value} {r : Option Nat} {f : Nat → Hp → Option (γ × Hp)} {kk : γ → Hp → Option (α × Hp)} {kd ci N : Nat} {T : u_T} {ty : Nat → FieldType} (rest : List Value) (hC : ∀ q, Ct l z y b n' ret d' eg (.ref q :: av) (f q)) (hcl : Cl ci C T N ty) (hkd : kd = ci + 1)
    (hy : y.name ≠ "<init>" ∧ (parseMethodDescriptor y.desc).map (fun d => d.parameters.length) = some av.length) (hd : d' + 1 ≤ M.2.2.2.2.2) (hn : n' ≤ 45) (w1 : Cond.methodLink M.2.1 i y ∈ gT) (w6 : Cond.sameMethod y.cls y.cls y.name y.desc ∈ gT) (w7 : Cond.superclass M.2.1 y.cls ∈ gT) (w2 : Cond.instanceMethod y ∈ gT) (w3 : Cond.initialized y.cls ∈ gT) (w4 : Cond.code y b n' ret ∈ gT) (hst : st = av.reverse ++ va_rf r :: rest) (hW : (rest.map fun v => v.category).sum ≤ 8) (hdg : decode M.1 pc = .ok (.invokespecial i, 3))
    (k0 : ∀ v y, G l z M okv en (pc + 3) lv ((eg v).toList ++ rest) y (kk v y)) : G l z M okv en pc lv st x (obj r x kd fun q => bnd (f q x) kk) := by
  refine G_obj fun q hr hkb => ?_
  subst hr; subst hkd
  refine G_call (rest := rest) (hC q) (fun C0 hR hS hl hc hs hM => ?_) k0
  obtain ⟨hx, hb, hml, hown, hts, hnm, hE, hf1, hf2⟩ := C0
  have hG : GoodIn gT (va_wsSU M.2.1 i y (.code y b n' ret :: gT)) := gT_goodIn _ (fun v hv => by
    unfold va_wsSU at hv
    rcases List.mem_append.mp hv with hv | hv
    · simp only [List.mem_cons, List.not_mem_nil, or_false] at hv
      rcases hv with rfl | rfl | rfl | rfl | rfl
      · exact w1
      · exact w6
      · exact w7
      · exact w2
      · exact w3
    · exact (gT_ws w4 v hv).1)
  exact va_runSU (own := M.2.1) (Ts := gT) (C := C) (b := q) (As := av) (hE.1.1 ci _ hcl.1).2 ⟨hx, hb, hml, hown, hts⟩ hM (va_cwSU av.length hts hG rfl rfl rfl hy ⟨Nat.le_trans hd hf1, Nat.le_trans (show 8 + (n' + 11) + 64 * d' ≤ 64 * M.2.2.2.2.2 by omega) hf2⟩) ⟨gPc_blind, va_recv (q0 := 0) hE.1 (hR.at_obj hkb hcl.2.1) hcl.1 rfl, gPc_pre hR hS hE⟩ rfl rfl hl.1 hst (lv_room hW) hdg ⟨hc, hs⟩
/-- a private method of the superclass -/
theorem G_callP {eg : γ → Option Value} {C : String} {y w : MethodName} {b : ByteArray} {n' d' i : Nat} {ret : Option FieldType} {av : List Value} {r : Option Nat} {f : Nat → Hp → Option (γ × Hp)} {kk : γ → Hp → Option (α × Hp)} {kd ci N : Nat} {T : u_T} {ty : Nat → FieldType} (rest : List Value) (hC : ∀ q, Ct l z y b n' ret d' eg (.ref q :: av) (f q)) (hcl : Cl ci C T N ty) (hkd : kd = ci + 1)
    (hy : Yn y av.length) (hd : d' + 1 ≤ M.2.2.2.2.2) (hn : n' ≤ 45) (w1 : Cond.methodLink M.2.1 i y ∈ gT) (w2 : Cond.instanceMethod y ∈ gT) (w5 : y ∈ gPv) (w3 : Cond.initialized y.cls ∈ gT) (w4 : Cond.code y b n' ret ∈ gT) (w6 : Cond.selects C w w ∈ gT) (hyw : w.cls = y.cls) (hst : st = av.reverse ++ va_rf r :: rest) (hW : (rest.map fun v => v.category).sum ≤ 8) (hdg : decode M.1 pc = .ok (.invokevirtual i, 3))
    (k0 : ∀ v y, G l z M okv en (pc + 3) lv ((eg v).toList ++ rest) y (kk v y)) : G l z M okv en pc lv st x (obj r x kd fun q => bnd (f q x) kk) := by
  refine G_obj fun q hr hkb => ?_
  subst hr; subst hkd
  refine G_call (rest := rest) (hC q) (fun C0 hR hS hl hc hs hM => ?_) k0
  obtain ⟨hx, hb, hml, hown, hts, hnm, hE, hf1, hf2⟩ := C0
  exact w_runVP (own := M.2.1) (Ts := gT) (C := C) (b := q) (As := av) ⟨hx, hb, hml, hown, hts⟩ hM ⟨callB_of av.length hts (gT_ws w4) rfl rfl rfl (hts _ w3) (hts _ w1) hy ⟨Nat.le_trans hd hf1, Nat.le_trans (show 8 + (n' + 11) + 64 * d' ≤ 64 * M.2.2.2.2.2 by omega) hf2⟩, hts _ w2, va_Nw.use rfl (hE.2.2.2.2.2.2.2 y w5), fun mk hmk => by
    obtain ⟨c2, r2, m2, q1, q2, q3, q4, kP, hkP, hkPi⟩ := Cond.selects_spec (hts _ w6)
    have e1 := findClass_of_methodNamed hmk
    have e2 := findClass_of_methodNamed q3
    rw [hyw] at e2
    have e3 : m2.cls = mk.cls := Option.some.inj (e2.symm.trans e1)
    exact ⟨kP, by rw [← e3]; exact hkP, hkPi⟩⟩ ⟨gPc_blind, va_recv (q0 := 0) hE.1 (hR.at_obj hkb hcl.2.1) hcl.1 rfl, gPc_pre hR hS hE⟩ rfl rfl hl.1 hst (lv_room hW) hdg ⟨hc, hs⟩
theorem Sm_paw {x : Hp} {a q : Nat} {g : Nat → Int32} (h : q ≠ a) : Sm (p_aw x a g) x q := ⟨rfl, rfl, fun _ => rfl, fun _ => rfl, by simp [h_ai, p_aw, h], rfl, rfl⟩
theorem nfw : nativeFrameWords "java/lang/System" "arraycopy" 5 ≤ 30 := by decide +kernel
theorem G_acpy {r q : Option Nat} {sp dp n : Int32} {i : Nat} {kk : Hp → Option (α × Hp)} (w1 : Cond.methodLink M.2.1 i arraycopyName ∈ gT) (w2 : Cond.native arraycopyName ∈ gT) (w3 : Cond.static arraycopyName ∈ gT) (w4 : Cond.initialized "java/lang/System" ∈ gT) (hd : 1 ≤ M.2.2.2.2.2) (hW : (st.map fun v => v.category).sum ≤ 8) (hdg : decode M.1 pc = .ok (.invokestatic i, 3))
    (k0 : ∀ y, G l z M okv en (pc + 3) lv st y (kk y)) : G l z M okv en pc lv (.int n :: .int dp :: va_rf q :: .int sp :: va_rf r :: st) x (acpy r x sp q dp n kk) := by
  refine G_objB fun a hr hka => ?_
  refine G_obj fun b hq hkb => ?_
  subst hr; subst hq
  refine G_if (fun hh => ?_) (fun _ => G_none)
  obtain ⟨hab, h1, h2, h3, h4, h5, hfit⟩ := hh
  intro v xe hE
  obtain ⟨h0, k⟩ := k0 (p_aw x b (va_cpy (h_ai x a) (h_ai x b) sp.toNatClampNeg dp.toNatClampNeg n.toNatClampNeg)) v xe hE
  refine ⟨h0, fun D cA b0 p e R s m args below meth c z0 s0 Q C g1 g2 hF H locs ls g3 g4 hR hS hl => ?_⟩
  have C' := C
  obtain ⟨hx, hb, hml, hown, hts, hnm, hE', hf1, hf2⟩ := C
  have hc1 := hR.at_arr (t := 0) hkb (by omega)
  rw [apay_0] at hc1
  have hA1 : ArrOfT s (cA 0) .byte := (hE'.1.2 0 _ rfl).1
  obtain ⟨scr, hc0, hs2, hs3, hs4, hs5⟩ : ∃ scr : Cell, H[a]? = some scr ∧ s.isArrayOf scr .byte ∧ scr.vm ≠ .unknown ∧ h_n x a ≤ scr.slots.size ∧ ∀ j : Nat, j < h_n x a → scr.slots[j]? = some (.int (h_ai x a j)) := by
    rcases hka with hka | hka
    · have h6 := hR.at_arr (t := 0) hka (by omega)
      rw [apay_0] at h6
      have h7 : H[a]? = some (arrV (cA 0) (h_n x a) (fun j => .int (h_ai x a j))) := h6
      refine ⟨arrV (cA 0) (h_n x a) (fun j => .int (h_ai x a j)), h7, hA1 _ _, fun h => ?_, ?_, fun j hj => ?_⟩
      · cases h
      · rw [arrV_size]
        exact Nat.le_refl _
      · rw [arrV_read _ _ hj]
    · obtain ⟨cell, e1, e2, e3, e4, e5, e6, -⟩ := ((hR.2.2 a).2 (by omega)).2.2.1 hka
      exact ⟨cell, e1, e2, e3, e4, e6⟩
  have hnf := nfw
  refine w_copy (rest := st) hx hb (hml.trans hl.1.symm) hown (hts _ w1) (hts _ w2) (hts _ w3) (hts _ w4) hc0 hs2 hs3 hs4 hs5 hc1 hA1 h1 h2 h3 h4 h5 hfit (Nat.le_trans hd hf1) (by omega) hdg fun H1 L e1 e2 e3 e4 => ?_
  have hba : b0 ≤ b := ((hR.2.2 b).1 (by omega) (by omega)).2
  refine k D cA b0 p e R s m args below meth c z0 s0 Q C' g1 g2 hF H1 (locs ++ L) ls g3 g4 (hR.put e2 e3 (by omega) (by omega) rfl rfl (fun q hq => Sm_paw hq) ?_) ⟨by rw [e2]; exact hS.1, fun q f1 f2 => (e3 q (fun z => f2 (by rw [z]; exact hba))).trans (hS.2.1 q f1 f2), fun q hq => by
    rcases List.mem_append.mp hq with h | h
    · exact hS.2.2 q h
    · rw [e4 q h]
      exact hba⟩ hl
  rw [ent_arr (t := 0) (show h_k (p_aw x b _) b = 100 + 0 from hkb), apay_0]
  have : h_ai (p_aw x b (va_cpy (h_ai x a) (h_ai x b) sp.toNatClampNeg dp.toNatClampNeg n.toNatClampNeg)) b = va_cpy (h_ai x a) (h_ai x b) sp.toNatClampNeg dp.toNatClampNeg n.toNatClampNeg := by simp [h_ai, p_aw]
  rw [this]
  exact e1
theorem G_clonb {r : Option Nat} {i : Nat} {kk : Option Nat → Hp → Option (α × Hp)} (w1 : Cond.methodLink M.2.1 i ⟨"[B", "clone", "()Ljava/lang/Object;"⟩ ∈ gT) (w2 : Cond.sameMethod "[B" "java/lang/Object" "clone" "()Ljava/lang/Object;" ∈ gT) (w3 : Cond.native ⟨"java/lang/Object", "clone", "()Ljava/lang/Object;"⟩ ∈ gT) (w4 : Cond.instanceMethod ⟨"java/lang/Object", "clone", "()Ljava/lang/Object;"⟩ ∈ gT) (w5 : Cond.selects "[B" ⟨"[B", "clone", "()Ljava/lang/Object;"⟩ ⟨"java/lang/Object", "clone", "()Ljava/lang/Object;"⟩ ∈ gT) (hd : 1 ≤ M.2.2.2.2.2) (hW : (st.map fun v => v.category).sum ≤ 8) (hdg : decode M.1 pc = .ok (.invokevirtual i, 3))
    (k0 : ∀ r y, G l z M okv en (pc + 3) lv (va_rf r :: st) y (kk r y)) : G l z M okv en pc lv (va_rf r :: st) x (clonb r x kk) := by
  refine G_obj fun b hr hkb => ?_
  subst hr
  refine G_if (fun hfit => ?_) (fun _ => G_none)
  intro v xe hE
  obtain ⟨h0, k⟩ := k0 (some (h_sz x)) (p_aw (p_n x 100 (h_n x b) (h_n x b)) (h_sz x) (h_ai x b)) v xe hE
  have z1 : h_sz (p_aw (p_n x 100 (h_n x b) (h_n x b)) (h_sz x) (h_ai x b)) = h_sz x + 1 := rfl
  have z2 : h_sl (p_aw (p_n x 100 (h_n x b) (h_n x b)) (h_sz x) (h_ai x b)) = h_sl x + h_n x b := rfl
  rw [z1, z2] at h0
  refine ⟨⟨by omega, by omega⟩, fun D cA b0 p e R s m args below meth c z0 s0 Q C g1 g2 hF H locs ls g3 g4 hR hS hl => ?_⟩
  have C' := C
  obtain ⟨hx, hb, hml, hown, hts, hnm, hE', hf1, hf2⟩ := C
  have hc1 := hR.at_arr (t := 0) hkb (by omega)
  rw [apay_0] at hc1
  have hA1 : ArrOfT s (cA 0) .byte := (hE'.1.2 0 _ rfl).1
  have hnm0 : s.vm.findClass "[B" = some (cA 0) := (hE'.1.2 0 _ rfl).2
  refine w_clone (rest := st) hx hb (hml.trans hl.1.symm) hown (hts _ w1) (hts _ w2) (hts _ w3) (hts _ w4) (hts _ w5) hE'.2.2.2.2.2.2.1 hc1 hA1 hnm0 (fun j w hw => ?_) (Nat.le_trans hd hf1) (by omega) (by omega) (by show _ + h_n x b ≤ _; omega) hdg fun H1 e1 e2 e3 => ?_
  · have hj : j < h_n x b := by
      have := (Array.getElem?_eq_some_iff.mp hw).1
      have e5 : (vp_cell (cA 0) (h_n x b, .inl (h_ai x b))).slots.size = h_n x b := arrV_size _ _ _
      omega
    have e6 : (vp_cell (cA 0) (h_n x b, .inl (h_ai x b))).slots[j]? = some (.int (h_ai x b j)) := arrV_read _ _ hj
    cases e6.symm.trans hw
    exact hfit j hj
  · rw [hR.1] at e1 e2 ⊢
    have hk9 : h_k (p_n x 100 (h_n x b) (h_n x b)) (h_sz x) = 100 + 0 := by simp [h_k, p_n]
    have hR1 : Rep D cA b0 s (p_aw (p_n x 100 (h_n x b) (h_n x b)) (h_sz x) (h_ai x b)) H1 := by
      refine ⟨e2, ?_, fun q => ?_⟩
      · have := hR.2.1
        show b0 ≤ h_sz x + 1
        omega
      · by_cases hqa : q = h_sz x
        · subst hqa
          refine ⟨fun _ _ => ⟨?_, hR.2.1⟩, fun h2 => ?_⟩
          · rw [ent_arr (t := 0) (show h_k (p_aw (p_n x 100 (h_n x b) (h_n x b)) (h_sz x) (h_ai x b)) (h_sz x) = 100 + 0 from hk9), apay_0]
            have e7 : h_ai (p_aw (p_n x 100 (h_n x b) (h_n x b)) (h_sz x) (h_ai x b)) (h_sz x) = h_ai x b := by simp [h_ai, p_aw]
            have e8 : h_n (p_aw (p_n x 100 (h_n x b) (h_n x b)) (h_sz x) (h_ai x b)) (h_sz x) = h_n x b := by simp [h_n, p_aw, p_n]
            rw [e7, e8]
            exact e1
          · have : h_k (p_aw (p_n x 100 (h_n x b) (h_n x b)) (h_sz x) (h_ai x b)) (h_sz x) = 100 + 0 := hk9
            omega
        · have hs1 : Sm (p_n x 100 (h_n x b) (h_n x b)) x q := Sm_pn hqa
          have hs2 : Sm (p_aw (p_n x 100 (h_n x b) (h_n x b)) (h_sz x) (h_ai x b)) (p_n x 100 (h_n x b) (h_n x b)) q := Sm_paw hqa
          have hs : Sm (p_aw (p_n x 100 (h_n x b) (h_n x b)) (h_sz x) (h_ai x b)) x q := ⟨hs2.1.trans hs1.1, hs2.2.1.trans hs1.2.1, fun f => (hs2.2.2.1 f).trans (hs1.2.2.1 f), fun f => (hs2.2.2.2.1 f).trans (hs1.2.2.2.1 f), hs2.2.2.2.2.1.trans hs1.2.2.2.2.1, hs2.2.2.2.2.2.1.trans hs1.2.2.2.2.2.1, hs2.2.2.2.2.2.2.trans hs1.2.2.2.2.2.2⟩
          refine ⟨fun h1 h2 => ?_, fun h2 => ?_⟩
          · rw [hs.1] at h1 h2
            have h3 := (hR.2.2 q).1 h1 h2
            rw [ent_congr hs]
            exact ⟨h3.1.kept (e3 q (by rw [hR.1]; exact hR.lt h1)), h3.2⟩
          · rw [hs.1] at h2
            have h3 := (hR.2.2 q).2 h2
            exact ⟨h3.1, (h3.2.kept (fun q' hq _ => e3 q' hq)).same hs⟩
    have := k D cA b0 p e R s m args below meth c z0 s0 Q C' g1 g2 hF H1 locs ls (by rw [z1]; omega) (by rw [z2]; omega) hR1 ⟨Nat.le_trans hS.1 (by rw [e2, hR.1]; omega), fun q f1 f2 => (e3 q (Nat.lt_of_lt_of_le f1 hS.1)).trans (hS.2.1 q f1 f2), hS.2.2⟩ hl
    rw [z1, z2, show h_sz x + 1 - z0 = h_sz x - z0 + 1 by omega, show h_sl x + h_n x b - s0 = h_sl x - s0 + h_n x b by omega] at this
    exact this
theorem G_castb {r : Option Nat} {i : Nat} {E : Option (α × Hp)} (w1 : Cond.classLink M.2.1 i "[B" ∈ gT) (hdg : decode M.1 pc = .ok (.checkcast i, 3)) (k0 : G l z M okv en (pc + 3) lv (va_rf r :: st) x E) : G l z M okv en pc lv (va_rf r :: st) x (castb r x E) := by
  refine G_obj fun b hr hkb => ?_
  subst hr
  refine G_rd (fun C hR hS k2 => ?_) k0
  obtain ⟨hx, hb, -, hown, hts, -, ⟨hK, -⟩, -⟩ := C
  have h1 := hR.at_arr (t := 0) hkb (by omega)
  exact va_castA (ws := [(b, .inl (_, (h_n x b, apay x 0 b)))]) (D := (fun _ => 0, fun _ _ => 0)) (cl := vwCl) hx hb hown (hts _ w1) (fun k q hq => by
      have hz : k < 1 := (List.getElem?_eq_some_iff.mp hq).1
      rw [show k = 0 by omega] at hq
      cases hq
      exact h1) 0 rfl (hK.2 0 _ rfl).2 hdg k2
end ROWSJ
end
section
/-! ===== THE START: what the premises give, as a heap of maps ===== -/
/-- the premises, leaf by leaf -/
def gL : List Cond := flatC (Jvm.Cond.and given_1 narrow_1)
/-- the bytes of the String constants -/
def gB : List (List Int32) := [[119, 101, 108, 108, 32, 108, 97, 110, 101, 32, 117, 110, 100, 101, 114, 32, 114, 97, 116, 101, 32, 109, 111, 115, 116, 32, 98, 117, 114, 115, 116, 32, 114, 97, 110, 107, 32, 104, 111, 108, 100, 115, 32, 100, 114, 111, 112, 115, 32, 111, 108, 100, 32, 110, 101, 119, 32, 102, 111, 108, 107, 32, 116, 111, 32, 98, 114, 105, 110, 103, 115, 32, 101, 118, 101, 114, 121, 32, 102, 114, 111, 109, 32, 114, 97, 105, 115, 101, 32, 99, 97, 112, 32, 115, 104, 117, 116, 32, 119, 104, 101, 110, 32, 109, 105, 110, 117, 116, 101, 32, 115, 112, 97, 114, 101, 32, 116, 111, 107, 101, 110, 115, 32, 119, 97, 105, 116, 115, 32, 115, 101, 110, 116, 32, 108, 111, 115, 116, 32, 108, 101, 110, 116, 32, 102, 117, 108, 108, 32, 100, 114, 121, 32, 110, 111, 116, 32, 97, 110, 100, 32, 111, 114, 32, 109, 105, 110, 32, 109, 97, 120, 32],
  [119, 101, 108, 108, 32, 51, 59, 119, 101, 108, 108, 32],
  [59],
  [108, 97, 110, 101, 32, 108],
  [32, 117, 110, 100, 101, 114, 32, 108],
  [32, 114, 97, 116, 101, 32],
  [32, 109, 111, 115, 116, 32],
  [32, 98, 117, 114, 115, 116, 32],
  [32, 114, 97, 110, 107, 32],
  [32, 104, 111, 108, 100, 115, 32],
  [32, 100, 114, 111, 112, 115, 32],
  [111, 108, 100],
  [110, 101, 119],
  [59, 10],
  [102, 111, 108, 107, 32, 102],
  [32, 116, 111, 32, 108],
  [32, 98, 114, 105, 110, 103, 115, 32],
  [32, 101, 118, 101, 114, 121, 32],
  [32, 102, 114, 111, 109, 32],
  [114, 97, 105, 115, 101, 32, 108],
  [99, 97, 112, 32, 108],
  [115, 104, 117, 116, 32, 108],
  [32, 116, 111, 32],
  [],
  [109, 105, 110, 117, 116, 101, 32, 45, 32],
  [115, 112, 97, 114, 101, 43, 116, 111, 107, 101, 110, 115, 32, 108],
  [119, 97, 105, 116, 115, 32, 108],
  [32, 42, 32, 50, 32, 45, 32],
  [115, 101, 110, 116, 32, 108],
  [47, 50],
  [108, 111, 115, 116, 32, 108],
  [32, 45, 32, 108, 101, 110, 116, 32, 108],
  [109, 105, 110, 40],
  [44, 51, 48, 32, 45, 32, 116, 111, 107, 101, 110, 115, 32, 108],
  [41],
  [32, 119, 104, 101, 110, 32],
  [102, 117, 108, 108, 32, 108],
  [110, 111, 116, 32, 100, 114, 121, 32, 108],
  [109, 105, 110, 117, 116, 101, 32, 62, 61, 32],
  [100, 114, 121, 32, 108],
  [32, 111, 114, 32, 115, 112, 97, 114, 101, 32, 60, 32],
  [91, 110, 111, 116, 32, 102, 117, 108, 108, 32, 108],
  [32, 97, 110, 100, 32, 109, 105, 110, 117, 116, 101, 32, 47, 32, 52, 32, 42, 32, 52, 32, 61, 32, 109, 105, 110, 117, 116, 101, 93],
  [32, 62, 32],
  [50, 32, 62, 32, 49],
  [59, 32]]
theorem gL_in (i : Nat) {w : Cond} (h : gL[i]? = some w) : w ∈ gL := List.mem_of_getElem? h
section START
variable {s : State} {args : Array Value} {A : Nat → Prop}
/-- a String constant: where it lies, where its bytes -/
def Sc (s : State) (A : Nat → Prop) (k : Nat) (q : Nat × Nat) : Prop := va_O "java/lang/String" q.1 A s s.heap ∧ va_OF "java/lang/String" "coder" "B" (.int 0) q.1 A s s.heap ∧ va_OF "java/lang/String" "value" "[B" (.ref q.2) q.1 A s s.heap ∧ va_T .byte q.2 (gB.getD k []).length (fun j => .int ((gB.getD k []).getD j 0)) A s s.heap
theorem sc_of {tm : Term} {k : Nat} (hN : (gB.getD k []).length < 2 ^ 31) (hex : (Cond.exactly tm "java/lang/String").before args s = true) (hco : (Cond.eq (.field tm "java/lang/String" "coder" "B") (.int 0)).before args s = true) (har : (Cond.arrayOf (.field tm "java/lang/String" "value" "[B") .byte).before args s = true) (hle : (Cond.eq (.length (.field tm "java/lang/String" "value" "[B")) (.int (Int32.ofNat (gB.getD k []).length))).before args s = true)
    (hel : ∀ j : Nat, j < (gB.getD k []).length → (Cond.eq (.elem (.field tm "java/lang/String" "value" "[B") (.int (Int32.ofNat j))) (.int ((gB.getD k []).getD j 0))).before args s = true) (hA : ∀ a : Nat, a < s.heap.size → ¬ A a) : ∃ q : Nat × Nat, tm.eval args s none [] s = some (.ref q.1) ∧ Sc s A k q := by
  obtain ⟨a, c, cB, kB, q1, q2, q3, q4, q5, q6, -⟩ := Cond.exactly_spec (args := args) (first := s) (o := none) (s := s) (idx := []) (t := tm) (cls := "java/lang/String") hex
  obtain ⟨t, ht, hT⟩ := va_Tof (f := fun j => .int ((gB.getD k []).getD j 0)) (A := A) hN har (va_eqt hle) (fun j hj => va_eqt (hel j hj)) hA
  exact ⟨(a, t), q1, ⟨cB, q3, q5, by rw [q6]; exact q2, hA a (Array.getElem?_eq_some_iff.mp q3).1⟩, vk_OFof q1 (va_eqt hco) hA, vk_OFof q1 ht hA, hT⟩

theorem sc_0 (hs : ∀ w ∈ gL, w.before args s = true) (hA : ∀ a : Nat, a < s.heap.size → ¬ A a) : ∃ q : Nat × Nat, (Term.string "BucketBrigade$Tokens" 25).eval args s none [] s = some (.ref q.1) ∧ Sc s A 0 q :=
  sc_of (k := 0) (by decide +kernel) (hs _ (gL_in 289 (by decide +kernel))) (hs _ (gL_in 290 (by decide +kernel))) (hs _ (gL_in 291 (by decide +kernel))) (hs _ (gL_in 292 (by decide +kernel))) (fun j hj => hs _ (va_run (L := gL) (N := 172) (p := 293) (f := fun j => Cond.eq (.elem (.field (Term.string "BucketBrigade$Tokens" 25) "java/lang/String" "value" "[B") (.int (Int32.ofNat j))) (.int ((gB.getD 0 []).getD j 0))) (by decide +kernel) j hj)) hA
theorem sc_1 (hs : ∀ w ∈ gL, w.before args s = true) (hA : ∀ a : Nat, a < s.heap.size → ¬ A a) : ∃ q : Nat × Nat, (Term.string "BucketBrigadeLaw$Sim" 226).eval args s none [] s = some (.ref q.1) ∧ Sc s A 1 q :=
  sc_of (k := 1) (by decide +kernel) (hs _ (gL_in 741 (by decide +kernel))) (hs _ (gL_in 742 (by decide +kernel))) (hs _ (gL_in 743 (by decide +kernel))) (hs _ (gL_in 744 (by decide +kernel))) (fun j hj => hs _ (va_run (L := gL) (N := 12) (p := 745) (f := fun j => Cond.eq (.elem (.field (Term.string "BucketBrigadeLaw$Sim" 226) "java/lang/String" "value" "[B") (.int (Int32.ofNat j))) (.int ((gB.getD 1 []).getD j 0))) (by decide +kernel) j hj)) hA
theorem sc_2 (hs : ∀ w ∈ gL, w.before args s = true) (hA : ∀ a : Nat, a < s.heap.size → ¬ A a) : ∃ q : Nat × Nat, (Term.string "BucketBrigadeLaw$Sim" 228).eval args s none [] s = some (.ref q.1) ∧ Sc s A 2 q :=
  sc_of (k := 2) (by decide +kernel) (hs _ (gL_in 757 (by decide +kernel))) (hs _ (gL_in 758 (by decide +kernel))) (hs _ (gL_in 759 (by decide +kernel))) (hs _ (gL_in 760 (by decide +kernel))) (fun j hj => hs _ (va_run (L := gL) (N := 1) (p := 761) (f := fun j => Cond.eq (.elem (.field (Term.string "BucketBrigadeLaw$Sim" 228) "java/lang/String" "value" "[B") (.int (Int32.ofNat j))) (.int ((gB.getD 2 []).getD j 0))) (by decide +kernel) j hj)) hA
theorem sc_3 (hs : ∀ w ∈ gL, w.before args s = true) (hA : ∀ a : Nat, a < s.heap.size → ¬ A a) : ∃ q : Nat × Nat, (Term.string "BucketBrigadeLaw$Sim" 230).eval args s none [] s = some (.ref q.1) ∧ Sc s A 3 q :=
  sc_of (k := 3) (by decide +kernel) (hs _ (gL_in 762 (by decide +kernel))) (hs _ (gL_in 763 (by decide +kernel))) (hs _ (gL_in 764 (by decide +kernel))) (hs _ (gL_in 765 (by decide +kernel))) (fun j hj => hs _ (va_run (L := gL) (N := 6) (p := 766) (f := fun j => Cond.eq (.elem (.field (Term.string "BucketBrigadeLaw$Sim" 230) "java/lang/String" "value" "[B") (.int (Int32.ofNat j))) (.int ((gB.getD 3 []).getD j 0))) (by decide +kernel) j hj)) hA
theorem sc_4 (hs : ∀ w ∈ gL, w.before args s = true) (hA : ∀ a : Nat, a < s.heap.size → ¬ A a) : ∃ q : Nat × Nat, (Term.string "BucketBrigadeLaw$Sim" 232).eval args s none [] s = some (.ref q.1) ∧ Sc s A 4 q :=
  sc_of (k := 4) (by decide +kernel) (hs _ (gL_in 772 (by decide +kernel))) (hs _ (gL_in 773 (by decide +kernel))) (hs _ (gL_in 774 (by decide +kernel))) (hs _ (gL_in 775 (by decide +kernel))) (fun j hj => hs _ (va_run (L := gL) (N := 8) (p := 776) (f := fun j => Cond.eq (.elem (.field (Term.string "BucketBrigadeLaw$Sim" 232) "java/lang/String" "value" "[B") (.int (Int32.ofNat j))) (.int ((gB.getD 4 []).getD j 0))) (by decide +kernel) j hj)) hA
theorem sc_5 (hs : ∀ w ∈ gL, w.before args s = true) (hA : ∀ a : Nat, a < s.heap.size → ¬ A a) : ∃ q : Nat × Nat, (Term.string "BucketBrigadeLaw$Sim" 234).eval args s none [] s = some (.ref q.1) ∧ Sc s A 5 q :=
  sc_of (k := 5) (by decide +kernel) (hs _ (gL_in 784 (by decide +kernel))) (hs _ (gL_in 785 (by decide +kernel))) (hs _ (gL_in 786 (by decide +kernel))) (hs _ (gL_in 787 (by decide +kernel))) (fun j hj => hs _ (va_run (L := gL) (N := 6) (p := 788) (f := fun j => Cond.eq (.elem (.field (Term.string "BucketBrigadeLaw$Sim" 234) "java/lang/String" "value" "[B") (.int (Int32.ofNat j))) (.int ((gB.getD 5 []).getD j 0))) (by decide +kernel) j hj)) hA
theorem sc_6 (hs : ∀ w ∈ gL, w.before args s = true) (hA : ∀ a : Nat, a < s.heap.size → ¬ A a) : ∃ q : Nat × Nat, (Term.string "BucketBrigadeLaw$Sim" 236).eval args s none [] s = some (.ref q.1) ∧ Sc s A 6 q :=
  sc_of (k := 6) (by decide +kernel) (hs _ (gL_in 794 (by decide +kernel))) (hs _ (gL_in 795 (by decide +kernel))) (hs _ (gL_in 796 (by decide +kernel))) (hs _ (gL_in 797 (by decide +kernel))) (fun j hj => hs _ (va_run (L := gL) (N := 6) (p := 798) (f := fun j => Cond.eq (.elem (.field (Term.string "BucketBrigadeLaw$Sim" 236) "java/lang/String" "value" "[B") (.int (Int32.ofNat j))) (.int ((gB.getD 6 []).getD j 0))) (by decide +kernel) j hj)) hA
theorem sc_7 (hs : ∀ w ∈ gL, w.before args s = true) (hA : ∀ a : Nat, a < s.heap.size → ¬ A a) : ∃ q : Nat × Nat, (Term.string "BucketBrigadeLaw$Sim" 238).eval args s none [] s = some (.ref q.1) ∧ Sc s A 7 q :=
  sc_of (k := 7) (by decide +kernel) (hs _ (gL_in 804 (by decide +kernel))) (hs _ (gL_in 805 (by decide +kernel))) (hs _ (gL_in 806 (by decide +kernel))) (hs _ (gL_in 807 (by decide +kernel))) (fun j hj => hs _ (va_run (L := gL) (N := 7) (p := 808) (f := fun j => Cond.eq (.elem (.field (Term.string "BucketBrigadeLaw$Sim" 238) "java/lang/String" "value" "[B") (.int (Int32.ofNat j))) (.int ((gB.getD 7 []).getD j 0))) (by decide +kernel) j hj)) hA
theorem sc_8 (hs : ∀ w ∈ gL, w.before args s = true) (hA : ∀ a : Nat, a < s.heap.size → ¬ A a) : ∃ q : Nat × Nat, (Term.string "BucketBrigadeLaw$Sim" 240).eval args s none [] s = some (.ref q.1) ∧ Sc s A 8 q :=
  sc_of (k := 8) (by decide +kernel) (hs _ (gL_in 815 (by decide +kernel))) (hs _ (gL_in 816 (by decide +kernel))) (hs _ (gL_in 817 (by decide +kernel))) (hs _ (gL_in 818 (by decide +kernel))) (fun j hj => hs _ (va_run (L := gL) (N := 6) (p := 819) (f := fun j => Cond.eq (.elem (.field (Term.string "BucketBrigadeLaw$Sim" 240) "java/lang/String" "value" "[B") (.int (Int32.ofNat j))) (.int ((gB.getD 8 []).getD j 0))) (by decide +kernel) j hj)) hA
theorem sc_9 (hs : ∀ w ∈ gL, w.before args s = true) (hA : ∀ a : Nat, a < s.heap.size → ¬ A a) : ∃ q : Nat × Nat, (Term.string "BucketBrigadeLaw$Sim" 242).eval args s none [] s = some (.ref q.1) ∧ Sc s A 9 q :=
  sc_of (k := 9) (by decide +kernel) (hs _ (gL_in 825 (by decide +kernel))) (hs _ (gL_in 826 (by decide +kernel))) (hs _ (gL_in 827 (by decide +kernel))) (hs _ (gL_in 828 (by decide +kernel))) (fun j hj => hs _ (va_run (L := gL) (N := 7) (p := 829) (f := fun j => Cond.eq (.elem (.field (Term.string "BucketBrigadeLaw$Sim" 242) "java/lang/String" "value" "[B") (.int (Int32.ofNat j))) (.int ((gB.getD 9 []).getD j 0))) (by decide +kernel) j hj)) hA
theorem sc_10 (hs : ∀ w ∈ gL, w.before args s = true) (hA : ∀ a : Nat, a < s.heap.size → ¬ A a) : ∃ q : Nat × Nat, (Term.string "BucketBrigadeLaw$Sim" 244).eval args s none [] s = some (.ref q.1) ∧ Sc s A 10 q :=
  sc_of (k := 10) (by decide +kernel) (hs _ (gL_in 836 (by decide +kernel))) (hs _ (gL_in 837 (by decide +kernel))) (hs _ (gL_in 838 (by decide +kernel))) (hs _ (gL_in 839 (by decide +kernel))) (fun j hj => hs _ (va_run (L := gL) (N := 7) (p := 840) (f := fun j => Cond.eq (.elem (.field (Term.string "BucketBrigadeLaw$Sim" 244) "java/lang/String" "value" "[B") (.int (Int32.ofNat j))) (.int ((gB.getD 10 []).getD j 0))) (by decide +kernel) j hj)) hA
theorem sc_11 (hs : ∀ w ∈ gL, w.before args s = true) (hA : ∀ a : Nat, a < s.heap.size → ¬ A a) : ∃ q : Nat × Nat, (Term.string "BucketBrigadeLaw$Sim" 246).eval args s none [] s = some (.ref q.1) ∧ Sc s A 11 q :=
  sc_of (k := 11) (by decide +kernel) (hs _ (gL_in 847 (by decide +kernel))) (hs _ (gL_in 848 (by decide +kernel))) (hs _ (gL_in 849 (by decide +kernel))) (hs _ (gL_in 850 (by decide +kernel))) (fun j hj => hs _ (va_run (L := gL) (N := 3) (p := 851) (f := fun j => Cond.eq (.elem (.field (Term.string "BucketBrigadeLaw$Sim" 246) "java/lang/String" "value" "[B") (.int (Int32.ofNat j))) (.int ((gB.getD 11 []).getD j 0))) (by decide +kernel) j hj)) hA
theorem sc_12 (hs : ∀ w ∈ gL, w.before args s = true) (hA : ∀ a : Nat, a < s.heap.size → ¬ A a) : ∃ q : Nat × Nat, (Term.string "BucketBrigadeLaw$Sim" 248).eval args s none [] s = some (.ref q.1) ∧ Sc s A 12 q :=
  sc_of (k := 12) (by decide +kernel) (hs _ (gL_in 854 (by decide +kernel))) (hs _ (gL_in 855 (by decide +kernel))) (hs _ (gL_in 856 (by decide +kernel))) (hs _ (gL_in 857 (by decide +kernel))) (fun j hj => hs _ (va_run (L := gL) (N := 3) (p := 858) (f := fun j => Cond.eq (.elem (.field (Term.string "BucketBrigadeLaw$Sim" 248) "java/lang/String" "value" "[B") (.int (Int32.ofNat j))) (.int ((gB.getD 12 []).getD j 0))) (by decide +kernel) j hj)) hA
theorem sc_13 (hs : ∀ w ∈ gL, w.before args s = true) (hA : ∀ a : Nat, a < s.heap.size → ¬ A a) : ∃ q : Nat × Nat, (Term.string "BucketBrigadeLaw$Sim" 250).eval args s none [] s = some (.ref q.1) ∧ Sc s A 13 q :=
  sc_of (k := 13) (by decide +kernel) (hs _ (gL_in 861 (by decide +kernel))) (hs _ (gL_in 862 (by decide +kernel))) (hs _ (gL_in 863 (by decide +kernel))) (hs _ (gL_in 864 (by decide +kernel))) (fun j hj => hs _ (va_run (L := gL) (N := 2) (p := 865) (f := fun j => Cond.eq (.elem (.field (Term.string "BucketBrigadeLaw$Sim" 250) "java/lang/String" "value" "[B") (.int (Int32.ofNat j))) (.int ((gB.getD 13 []).getD j 0))) (by decide +kernel) j hj)) hA
theorem sc_14 (hs : ∀ w ∈ gL, w.before args s = true) (hA : ∀ a : Nat, a < s.heap.size → ¬ A a) : ∃ q : Nat × Nat, (Term.string "BucketBrigadeLaw$Sim" 252).eval args s none [] s = some (.ref q.1) ∧ Sc s A 14 q :=
  sc_of (k := 14) (by decide +kernel) (hs _ (gL_in 867 (by decide +kernel))) (hs _ (gL_in 868 (by decide +kernel))) (hs _ (gL_in 869 (by decide +kernel))) (hs _ (gL_in 870 (by decide +kernel))) (fun j hj => hs _ (va_run (L := gL) (N := 6) (p := 871) (f := fun j => Cond.eq (.elem (.field (Term.string "BucketBrigadeLaw$Sim" 252) "java/lang/String" "value" "[B") (.int (Int32.ofNat j))) (.int ((gB.getD 14 []).getD j 0))) (by decide +kernel) j hj)) hA
theorem sc_15 (hs : ∀ w ∈ gL, w.before args s = true) (hA : ∀ a : Nat, a < s.heap.size → ¬ A a) : ∃ q : Nat × Nat, (Term.string "BucketBrigadeLaw$Sim" 254).eval args s none [] s = some (.ref q.1) ∧ Sc s A 15 q :=
  sc_of (k := 15) (by decide +kernel) (hs _ (gL_in 877 (by decide +kernel))) (hs _ (gL_in 878 (by decide +kernel))) (hs _ (gL_in 879 (by decide +kernel))) (hs _ (gL_in 880 (by decide +kernel))) (fun j hj => hs _ (va_run (L := gL) (N := 5) (p := 881) (f := fun j => Cond.eq (.elem (.field (Term.string "BucketBrigadeLaw$Sim" 254) "java/lang/String" "value" "[B") (.int (Int32.ofNat j))) (.int ((gB.getD 15 []).getD j 0))) (by decide +kernel) j hj)) hA
theorem sc_16 (hs : ∀ w ∈ gL, w.before args s = true) (hA : ∀ a : Nat, a < s.heap.size → ¬ A a) : ∃ q : Nat × Nat, (Term.string "BucketBrigadeLaw$Sim" 256).eval args s none [] s = some (.ref q.1) ∧ Sc s A 16 q :=
  sc_of (k := 16) (by decide +kernel) (hs _ (gL_in 886 (by decide +kernel))) (hs _ (gL_in 887 (by decide +kernel))) (hs _ (gL_in 888 (by decide +kernel))) (hs _ (gL_in 889 (by decide +kernel))) (fun j hj => hs _ (va_run (L := gL) (N := 8) (p := 890) (f := fun j => Cond.eq (.elem (.field (Term.string "BucketBrigadeLaw$Sim" 256) "java/lang/String" "value" "[B") (.int (Int32.ofNat j))) (.int ((gB.getD 16 []).getD j 0))) (by decide +kernel) j hj)) hA
theorem sc_17 (hs : ∀ w ∈ gL, w.before args s = true) (hA : ∀ a : Nat, a < s.heap.size → ¬ A a) : ∃ q : Nat × Nat, (Term.string "BucketBrigadeLaw$Sim" 258).eval args s none [] s = some (.ref q.1) ∧ Sc s A 17 q :=
  sc_of (k := 17) (by decide +kernel) (hs _ (gL_in 898 (by decide +kernel))) (hs _ (gL_in 899 (by decide +kernel))) (hs _ (gL_in 900 (by decide +kernel))) (hs _ (gL_in 901 (by decide +kernel))) (fun j hj => hs _ (va_run (L := gL) (N := 7) (p := 902) (f := fun j => Cond.eq (.elem (.field (Term.string "BucketBrigadeLaw$Sim" 258) "java/lang/String" "value" "[B") (.int (Int32.ofNat j))) (.int ((gB.getD 17 []).getD j 0))) (by decide +kernel) j hj)) hA
theorem sc_18 (hs : ∀ w ∈ gL, w.before args s = true) (hA : ∀ a : Nat, a < s.heap.size → ¬ A a) : ∃ q : Nat × Nat, (Term.string "BucketBrigadeLaw$Sim" 260).eval args s none [] s = some (.ref q.1) ∧ Sc s A 18 q :=
  sc_of (k := 18) (by decide +kernel) (hs _ (gL_in 909 (by decide +kernel))) (hs _ (gL_in 910 (by decide +kernel))) (hs _ (gL_in 911 (by decide +kernel))) (hs _ (gL_in 912 (by decide +kernel))) (fun j hj => hs _ (va_run (L := gL) (N := 6) (p := 913) (f := fun j => Cond.eq (.elem (.field (Term.string "BucketBrigadeLaw$Sim" 260) "java/lang/String" "value" "[B") (.int (Int32.ofNat j))) (.int ((gB.getD 18 []).getD j 0))) (by decide +kernel) j hj)) hA
theorem sc_19 (hs : ∀ w ∈ gL, w.before args s = true) (hA : ∀ a : Nat, a < s.heap.size → ¬ A a) : ∃ q : Nat × Nat, (Term.string "BucketBrigadeLaw$Sim" 262).eval args s none [] s = some (.ref q.1) ∧ Sc s A 19 q :=
  sc_of (k := 19) (by decide +kernel) (hs _ (gL_in 919 (by decide +kernel))) (hs _ (gL_in 920 (by decide +kernel))) (hs _ (gL_in 921 (by decide +kernel))) (hs _ (gL_in 922 (by decide +kernel))) (fun j hj => hs _ (va_run (L := gL) (N := 7) (p := 923) (f := fun j => Cond.eq (.elem (.field (Term.string "BucketBrigadeLaw$Sim" 262) "java/lang/String" "value" "[B") (.int (Int32.ofNat j))) (.int ((gB.getD 19 []).getD j 0))) (by decide +kernel) j hj)) hA
theorem sc_20 (hs : ∀ w ∈ gL, w.before args s = true) (hA : ∀ a : Nat, a < s.heap.size → ¬ A a) : ∃ q : Nat × Nat, (Term.string "BucketBrigadeLaw$Sim" 264).eval args s none [] s = some (.ref q.1) ∧ Sc s A 20 q :=
  sc_of (k := 20) (by decide +kernel) (hs _ (gL_in 930 (by decide +kernel))) (hs _ (gL_in 931 (by decide +kernel))) (hs _ (gL_in 932 (by decide +kernel))) (hs _ (gL_in 933 (by decide +kernel))) (fun j hj => hs _ (va_run (L := gL) (N := 5) (p := 934) (f := fun j => Cond.eq (.elem (.field (Term.string "BucketBrigadeLaw$Sim" 264) "java/lang/String" "value" "[B") (.int (Int32.ofNat j))) (.int ((gB.getD 20 []).getD j 0))) (by decide +kernel) j hj)) hA
theorem sc_21 (hs : ∀ w ∈ gL, w.before args s = true) (hA : ∀ a : Nat, a < s.heap.size → ¬ A a) : ∃ q : Nat × Nat, (Term.string "BucketBrigadeLaw$Sim" 266).eval args s none [] s = some (.ref q.1) ∧ Sc s A 21 q :=
  sc_of (k := 21) (by decide +kernel) (hs _ (gL_in 939 (by decide +kernel))) (hs _ (gL_in 940 (by decide +kernel))) (hs _ (gL_in 941 (by decide +kernel))) (hs _ (gL_in 942 (by decide +kernel))) (fun j hj => hs _ (va_run (L := gL) (N := 6) (p := 943) (f := fun j => Cond.eq (.elem (.field (Term.string "BucketBrigadeLaw$Sim" 266) "java/lang/String" "value" "[B") (.int (Int32.ofNat j))) (.int ((gB.getD 21 []).getD j 0))) (by decide +kernel) j hj)) hA
theorem sc_22 (hs : ∀ w ∈ gL, w.before args s = true) (hA : ∀ a : Nat, a < s.heap.size → ¬ A a) : ∃ q : Nat × Nat, (Term.string "BucketBrigadeLaw$Sim" 268).eval args s none [] s = some (.ref q.1) ∧ Sc s A 22 q :=
  sc_of (k := 22) (by decide +kernel) (hs _ (gL_in 949 (by decide +kernel))) (hs _ (gL_in 950 (by decide +kernel))) (hs _ (gL_in 951 (by decide +kernel))) (hs _ (gL_in 952 (by decide +kernel))) (fun j hj => hs _ (va_run (L := gL) (N := 4) (p := 953) (f := fun j => Cond.eq (.elem (.field (Term.string "BucketBrigadeLaw$Sim" 268) "java/lang/String" "value" "[B") (.int (Int32.ofNat j))) (.int ((gB.getD 22 []).getD j 0))) (by decide +kernel) j hj)) hA
theorem sc_23 (hs : ∀ w ∈ gL, w.before args s = true) (hA : ∀ a : Nat, a < s.heap.size → ¬ A a) : ∃ q : Nat × Nat, (Term.string "BucketBrigadeLaw$Sim" 108).eval args s none [] s = some (.ref q.1) ∧ Sc s A 23 q :=
  sc_of (k := 23) (by decide +kernel) (hs _ (gL_in 957 (by decide +kernel))) (hs _ (gL_in 958 (by decide +kernel))) (hs _ (gL_in 959 (by decide +kernel))) (hs _ (gL_in 960 (by decide +kernel))) (fun j hj => hs _ (absurd hj (Nat.not_lt_zero _))) hA
theorem sc_24 (hs : ∀ w ∈ gL, w.before args s = true) (hA : ∀ a : Nat, a < s.heap.size → ¬ A a) : ∃ q : Nat × Nat, (Term.string "BucketBrigadeLaw$Sim" 121).eval args s none [] s = some (.ref q.1) ∧ Sc s A 24 q :=
  sc_of (k := 24) (by decide +kernel) (hs _ (gL_in 961 (by decide +kernel))) (hs _ (gL_in 962 (by decide +kernel))) (hs _ (gL_in 963 (by decide +kernel))) (hs _ (gL_in 964 (by decide +kernel))) (fun j hj => hs _ (va_run (L := gL) (N := 9) (p := 965) (f := fun j => Cond.eq (.elem (.field (Term.string "BucketBrigadeLaw$Sim" 121) "java/lang/String" "value" "[B") (.int (Int32.ofNat j))) (.int ((gB.getD 24 []).getD j 0))) (by decide +kernel) j hj)) hA
theorem sc_25 (hs : ∀ w ∈ gL, w.before args s = true) (hA : ∀ a : Nat, a < s.heap.size → ¬ A a) : ∃ q : Nat × Nat, (Term.string "BucketBrigadeLaw$Sim" 123).eval args s none [] s = some (.ref q.1) ∧ Sc s A 25 q :=
  sc_of (k := 25) (by decide +kernel) (hs _ (gL_in 974 (by decide +kernel))) (hs _ (gL_in 975 (by decide +kernel))) (hs _ (gL_in 976 (by decide +kernel))) (hs _ (gL_in 977 (by decide +kernel))) (fun j hj => hs _ (va_run (L := gL) (N := 14) (p := 978) (f := fun j => Cond.eq (.elem (.field (Term.string "BucketBrigadeLaw$Sim" 123) "java/lang/String" "value" "[B") (.int (Int32.ofNat j))) (.int ((gB.getD 25 []).getD j 0))) (by decide +kernel) j hj)) hA
theorem sc_26 (hs : ∀ w ∈ gL, w.before args s = true) (hA : ∀ a : Nat, a < s.heap.size → ¬ A a) : ∃ q : Nat × Nat, (Term.string "BucketBrigadeLaw$Sim" 125).eval args s none [] s = some (.ref q.1) ∧ Sc s A 26 q :=
  sc_of (k := 26) (by decide +kernel) (hs _ (gL_in 992 (by decide +kernel))) (hs _ (gL_in 993 (by decide +kernel))) (hs _ (gL_in 994 (by decide +kernel))) (hs _ (gL_in 995 (by decide +kernel))) (fun j hj => hs _ (va_run (L := gL) (N := 7) (p := 996) (f := fun j => Cond.eq (.elem (.field (Term.string "BucketBrigadeLaw$Sim" 125) "java/lang/String" "value" "[B") (.int (Int32.ofNat j))) (.int ((gB.getD 26 []).getD j 0))) (by decide +kernel) j hj)) hA
theorem sc_27 (hs : ∀ w ∈ gL, w.before args s = true) (hA : ∀ a : Nat, a < s.heap.size → ¬ A a) : ∃ q : Nat × Nat, (Term.string "BucketBrigadeLaw$Sim" 127).eval args s none [] s = some (.ref q.1) ∧ Sc s A 27 q :=
  sc_of (k := 27) (by decide +kernel) (hs _ (gL_in 1003 (by decide +kernel))) (hs _ (gL_in 1004 (by decide +kernel))) (hs _ (gL_in 1005 (by decide +kernel))) (hs _ (gL_in 1006 (by decide +kernel))) (fun j hj => hs _ (va_run (L := gL) (N := 7) (p := 1007) (f := fun j => Cond.eq (.elem (.field (Term.string "BucketBrigadeLaw$Sim" 127) "java/lang/String" "value" "[B") (.int (Int32.ofNat j))) (.int ((gB.getD 27 []).getD j 0))) (by decide +kernel) j hj)) hA
theorem sc_28 (hs : ∀ w ∈ gL, w.before args s = true) (hA : ∀ a : Nat, a < s.heap.size → ¬ A a) : ∃ q : Nat × Nat, (Term.string "BucketBrigadeLaw$Sim" 129).eval args s none [] s = some (.ref q.1) ∧ Sc s A 28 q :=
  sc_of (k := 28) (by decide +kernel) (hs _ (gL_in 1014 (by decide +kernel))) (hs _ (gL_in 1015 (by decide +kernel))) (hs _ (gL_in 1016 (by decide +kernel))) (hs _ (gL_in 1017 (by decide +kernel))) (fun j hj => hs _ (va_run (L := gL) (N := 6) (p := 1018) (f := fun j => Cond.eq (.elem (.field (Term.string "BucketBrigadeLaw$Sim" 129) "java/lang/String" "value" "[B") (.int (Int32.ofNat j))) (.int ((gB.getD 28 []).getD j 0))) (by decide +kernel) j hj)) hA
theorem sc_29 (hs : ∀ w ∈ gL, w.before args s = true) (hA : ∀ a : Nat, a < s.heap.size → ¬ A a) : ∃ q : Nat × Nat, (Term.string "BucketBrigadeLaw$Sim" 131).eval args s none [] s = some (.ref q.1) ∧ Sc s A 29 q :=
  sc_of (k := 29) (by decide +kernel) (hs _ (gL_in 1024 (by decide +kernel))) (hs _ (gL_in 1025 (by decide +kernel))) (hs _ (gL_in 1026 (by decide +kernel))) (hs _ (gL_in 1027 (by decide +kernel))) (fun j hj => hs _ (va_run (L := gL) (N := 2) (p := 1028) (f := fun j => Cond.eq (.elem (.field (Term.string "BucketBrigadeLaw$Sim" 131) "java/lang/String" "value" "[B") (.int (Int32.ofNat j))) (.int ((gB.getD 29 []).getD j 0))) (by decide +kernel) j hj)) hA
theorem sc_30 (hs : ∀ w ∈ gL, w.before args s = true) (hA : ∀ a : Nat, a < s.heap.size → ¬ A a) : ∃ q : Nat × Nat, (Term.string "BucketBrigadeLaw$Sim" 133).eval args s none [] s = some (.ref q.1) ∧ Sc s A 30 q :=
  sc_of (k := 30) (by decide +kernel) (hs _ (gL_in 1030 (by decide +kernel))) (hs _ (gL_in 1031 (by decide +kernel))) (hs _ (gL_in 1032 (by decide +kernel))) (hs _ (gL_in 1033 (by decide +kernel))) (fun j hj => hs _ (va_run (L := gL) (N := 6) (p := 1034) (f := fun j => Cond.eq (.elem (.field (Term.string "BucketBrigadeLaw$Sim" 133) "java/lang/String" "value" "[B") (.int (Int32.ofNat j))) (.int ((gB.getD 30 []).getD j 0))) (by decide +kernel) j hj)) hA
theorem sc_31 (hs : ∀ w ∈ gL, w.before args s = true) (hA : ∀ a : Nat, a < s.heap.size → ¬ A a) : ∃ q : Nat × Nat, (Term.string "BucketBrigadeLaw$Sim" 135).eval args s none [] s = some (.ref q.1) ∧ Sc s A 31 q :=
  sc_of (k := 31) (by decide +kernel) (hs _ (gL_in 1040 (by decide +kernel))) (hs _ (gL_in 1041 (by decide +kernel))) (hs _ (gL_in 1042 (by decide +kernel))) (hs _ (gL_in 1043 (by decide +kernel))) (fun j hj => hs _ (va_run (L := gL) (N := 9) (p := 1044) (f := fun j => Cond.eq (.elem (.field (Term.string "BucketBrigadeLaw$Sim" 135) "java/lang/String" "value" "[B") (.int (Int32.ofNat j))) (.int ((gB.getD 31 []).getD j 0))) (by decide +kernel) j hj)) hA
theorem sc_32 (hs : ∀ w ∈ gL, w.before args s = true) (hA : ∀ a : Nat, a < s.heap.size → ¬ A a) : ∃ q : Nat × Nat, (Term.string "BucketBrigadeLaw$Sim" 137).eval args s none [] s = some (.ref q.1) ∧ Sc s A 32 q :=
  sc_of (k := 32) (by decide +kernel) (hs _ (gL_in 1053 (by decide +kernel))) (hs _ (gL_in 1054 (by decide +kernel))) (hs _ (gL_in 1055 (by decide +kernel))) (hs _ (gL_in 1056 (by decide +kernel))) (fun j hj => hs _ (va_run (L := gL) (N := 4) (p := 1057) (f := fun j => Cond.eq (.elem (.field (Term.string "BucketBrigadeLaw$Sim" 137) "java/lang/String" "value" "[B") (.int (Int32.ofNat j))) (.int ((gB.getD 32 []).getD j 0))) (by decide +kernel) j hj)) hA
theorem sc_33 (hs : ∀ w ∈ gL, w.before args s = true) (hA : ∀ a : Nat, a < s.heap.size → ¬ A a) : ∃ q : Nat × Nat, (Term.string "BucketBrigadeLaw$Sim" 139).eval args s none [] s = some (.ref q.1) ∧ Sc s A 33 q :=
  sc_of (k := 33) (by decide +kernel) (hs _ (gL_in 1061 (by decide +kernel))) (hs _ (gL_in 1062 (by decide +kernel))) (hs _ (gL_in 1063 (by decide +kernel))) (hs _ (gL_in 1064 (by decide +kernel))) (fun j hj => hs _ (va_run (L := gL) (N := 14) (p := 1065) (f := fun j => Cond.eq (.elem (.field (Term.string "BucketBrigadeLaw$Sim" 139) "java/lang/String" "value" "[B") (.int (Int32.ofNat j))) (.int ((gB.getD 33 []).getD j 0))) (by decide +kernel) j hj)) hA
theorem sc_34 (hs : ∀ w ∈ gL, w.before args s = true) (hA : ∀ a : Nat, a < s.heap.size → ¬ A a) : ∃ q : Nat × Nat, (Term.string "BucketBrigadeLaw$Sim" 141).eval args s none [] s = some (.ref q.1) ∧ Sc s A 34 q :=
  sc_of (k := 34) (by decide +kernel) (hs _ (gL_in 1079 (by decide +kernel))) (hs _ (gL_in 1080 (by decide +kernel))) (hs _ (gL_in 1081 (by decide +kernel))) (hs _ (gL_in 1082 (by decide +kernel))) (fun j hj => hs _ (va_run (L := gL) (N := 1) (p := 1083) (f := fun j => Cond.eq (.elem (.field (Term.string "BucketBrigadeLaw$Sim" 141) "java/lang/String" "value" "[B") (.int (Int32.ofNat j))) (.int ((gB.getD 34 []).getD j 0))) (by decide +kernel) j hj)) hA
theorem sc_35 (hs : ∀ w ∈ gL, w.before args s = true) (hA : ∀ a : Nat, a < s.heap.size → ¬ A a) : ∃ q : Nat × Nat, (Term.string "BucketBrigadeLaw$Sim" 270).eval args s none [] s = some (.ref q.1) ∧ Sc s A 35 q :=
  sc_of (k := 35) (by decide +kernel) (hs _ (gL_in 1084 (by decide +kernel))) (hs _ (gL_in 1085 (by decide +kernel))) (hs _ (gL_in 1086 (by decide +kernel))) (hs _ (gL_in 1087 (by decide +kernel))) (fun j hj => hs _ (va_run (L := gL) (N := 6) (p := 1088) (f := fun j => Cond.eq (.elem (.field (Term.string "BucketBrigadeLaw$Sim" 270) "java/lang/String" "value" "[B") (.int (Int32.ofNat j))) (.int ((gB.getD 35 []).getD j 0))) (by decide +kernel) j hj)) hA
theorem sc_36 (hs : ∀ w ∈ gL, w.before args s = true) (hA : ∀ a : Nat, a < s.heap.size → ¬ A a) : ∃ q : Nat × Nat, (Term.string "BucketBrigadeLaw$Sim" 147).eval args s none [] s = some (.ref q.1) ∧ Sc s A 36 q :=
  sc_of (k := 36) (by decide +kernel) (hs _ (gL_in 1094 (by decide +kernel))) (hs _ (gL_in 1095 (by decide +kernel))) (hs _ (gL_in 1096 (by decide +kernel))) (hs _ (gL_in 1097 (by decide +kernel))) (fun j hj => hs _ (va_run (L := gL) (N := 6) (p := 1098) (f := fun j => Cond.eq (.elem (.field (Term.string "BucketBrigadeLaw$Sim" 147) "java/lang/String" "value" "[B") (.int (Int32.ofNat j))) (.int ((gB.getD 36 []).getD j 0))) (by decide +kernel) j hj)) hA
theorem sc_37 (hs : ∀ w ∈ gL, w.before args s = true) (hA : ∀ a : Nat, a < s.heap.size → ¬ A a) : ∃ q : Nat × Nat, (Term.string "BucketBrigadeLaw$Sim" 149).eval args s none [] s = some (.ref q.1) ∧ Sc s A 37 q :=
  sc_of (k := 37) (by decide +kernel) (hs _ (gL_in 1104 (by decide +kernel))) (hs _ (gL_in 1105 (by decide +kernel))) (hs _ (gL_in 1106 (by decide +kernel))) (hs _ (gL_in 1107 (by decide +kernel))) (fun j hj => hs _ (va_run (L := gL) (N := 9) (p := 1108) (f := fun j => Cond.eq (.elem (.field (Term.string "BucketBrigadeLaw$Sim" 149) "java/lang/String" "value" "[B") (.int (Int32.ofNat j))) (.int ((gB.getD 37 []).getD j 0))) (by decide +kernel) j hj)) hA
theorem sc_38 (hs : ∀ w ∈ gL, w.before args s = true) (hA : ∀ a : Nat, a < s.heap.size → ¬ A a) : ∃ q : Nat × Nat, (Term.string "BucketBrigadeLaw$Sim" 151).eval args s none [] s = some (.ref q.1) ∧ Sc s A 38 q :=
  sc_of (k := 38) (by decide +kernel) (hs _ (gL_in 1117 (by decide +kernel))) (hs _ (gL_in 1118 (by decide +kernel))) (hs _ (gL_in 1119 (by decide +kernel))) (hs _ (gL_in 1120 (by decide +kernel))) (fun j hj => hs _ (va_run (L := gL) (N := 10) (p := 1121) (f := fun j => Cond.eq (.elem (.field (Term.string "BucketBrigadeLaw$Sim" 151) "java/lang/String" "value" "[B") (.int (Int32.ofNat j))) (.int ((gB.getD 38 []).getD j 0))) (by decide +kernel) j hj)) hA
theorem sc_39 (hs : ∀ w ∈ gL, w.before args s = true) (hA : ∀ a : Nat, a < s.heap.size → ¬ A a) : ∃ q : Nat × Nat, (Term.string "BucketBrigadeLaw$Sim" 153).eval args s none [] s = some (.ref q.1) ∧ Sc s A 39 q :=
  sc_of (k := 39) (by decide +kernel) (hs _ (gL_in 1131 (by decide +kernel))) (hs _ (gL_in 1132 (by decide +kernel))) (hs _ (gL_in 1133 (by decide +kernel))) (hs _ (gL_in 1134 (by decide +kernel))) (fun j hj => hs _ (va_run (L := gL) (N := 5) (p := 1135) (f := fun j => Cond.eq (.elem (.field (Term.string "BucketBrigadeLaw$Sim" 153) "java/lang/String" "value" "[B") (.int (Int32.ofNat j))) (.int ((gB.getD 39 []).getD j 0))) (by decide +kernel) j hj)) hA
theorem sc_40 (hs : ∀ w ∈ gL, w.before args s = true) (hA : ∀ a : Nat, a < s.heap.size → ¬ A a) : ∃ q : Nat × Nat, (Term.string "BucketBrigadeLaw$Sim" 155).eval args s none [] s = some (.ref q.1) ∧ Sc s A 40 q :=
  sc_of (k := 40) (by decide +kernel) (hs _ (gL_in 1140 (by decide +kernel))) (hs _ (gL_in 1141 (by decide +kernel))) (hs _ (gL_in 1142 (by decide +kernel))) (hs _ (gL_in 1143 (by decide +kernel))) (fun j hj => hs _ (va_run (L := gL) (N := 12) (p := 1144) (f := fun j => Cond.eq (.elem (.field (Term.string "BucketBrigadeLaw$Sim" 155) "java/lang/String" "value" "[B") (.int (Int32.ofNat j))) (.int ((gB.getD 40 []).getD j 0))) (by decide +kernel) j hj)) hA
theorem sc_41 (hs : ∀ w ∈ gL, w.before args s = true) (hA : ∀ a : Nat, a < s.heap.size → ¬ A a) : ∃ q : Nat × Nat, (Term.string "BucketBrigadeLaw$Sim" 157).eval args s none [] s = some (.ref q.1) ∧ Sc s A 41 q :=
  sc_of (k := 41) (by decide +kernel) (hs _ (gL_in 1156 (by decide +kernel))) (hs _ (gL_in 1157 (by decide +kernel))) (hs _ (gL_in 1158 (by decide +kernel))) (hs _ (gL_in 1159 (by decide +kernel))) (fun j hj => hs _ (va_run (L := gL) (N := 11) (p := 1160) (f := fun j => Cond.eq (.elem (.field (Term.string "BucketBrigadeLaw$Sim" 157) "java/lang/String" "value" "[B") (.int (Int32.ofNat j))) (.int ((gB.getD 41 []).getD j 0))) (by decide +kernel) j hj)) hA
theorem sc_42 (hs : ∀ w ∈ gL, w.before args s = true) (hA : ∀ a : Nat, a < s.heap.size → ¬ A a) : ∃ q : Nat × Nat, (Term.string "BucketBrigadeLaw$Sim" 159).eval args s none [] s = some (.ref q.1) ∧ Sc s A 42 q :=
  sc_of (k := 42) (by decide +kernel) (hs _ (gL_in 1171 (by decide +kernel))) (hs _ (gL_in 1172 (by decide +kernel))) (hs _ (gL_in 1173 (by decide +kernel))) (hs _ (gL_in 1174 (by decide +kernel))) (fun j hj => hs _ (va_run (L := gL) (N := 29) (p := 1175) (f := fun j => Cond.eq (.elem (.field (Term.string "BucketBrigadeLaw$Sim" 159) "java/lang/String" "value" "[B") (.int (Int32.ofNat j))) (.int ((gB.getD 42 []).getD j 0))) (by decide +kernel) j hj)) hA
theorem sc_43 (hs : ∀ w ∈ gL, w.before args s = true) (hA : ∀ a : Nat, a < s.heap.size → ¬ A a) : ∃ q : Nat × Nat, (Term.string "BucketBrigadeLaw$Sim" 165).eval args s none [] s = some (.ref q.1) ∧ Sc s A 43 q :=
  sc_of (k := 43) (by decide +kernel) (hs _ (gL_in 1204 (by decide +kernel))) (hs _ (gL_in 1205 (by decide +kernel))) (hs _ (gL_in 1206 (by decide +kernel))) (hs _ (gL_in 1207 (by decide +kernel))) (fun j hj => hs _ (va_run (L := gL) (N := 3) (p := 1208) (f := fun j => Cond.eq (.elem (.field (Term.string "BucketBrigadeLaw$Sim" 165) "java/lang/String" "value" "[B") (.int (Int32.ofNat j))) (.int ((gB.getD 43 []).getD j 0))) (by decide +kernel) j hj)) hA
theorem sc_44 (hs : ∀ w ∈ gL, w.before args s = true) (hA : ∀ a : Nat, a < s.heap.size → ¬ A a) : ∃ q : Nat × Nat, (Term.string "BucketBrigadeLaw$Sim" 167).eval args s none [] s = some (.ref q.1) ∧ Sc s A 44 q :=
  sc_of (k := 44) (by decide +kernel) (hs _ (gL_in 1211 (by decide +kernel))) (hs _ (gL_in 1212 (by decide +kernel))) (hs _ (gL_in 1213 (by decide +kernel))) (hs _ (gL_in 1214 (by decide +kernel))) (fun j hj => hs _ (va_run (L := gL) (N := 5) (p := 1215) (f := fun j => Cond.eq (.elem (.field (Term.string "BucketBrigadeLaw$Sim" 167) "java/lang/String" "value" "[B") (.int (Int32.ofNat j))) (.int ((gB.getD 44 []).getD j 0))) (by decide +kernel) j hj)) hA
theorem sc_45 (hs : ∀ w ∈ gL, w.before args s = true) (hA : ∀ a : Nat, a < s.heap.size → ¬ A a) : ∃ q : Nat × Nat, (Term.string "BucketBrigadeLaw$Sim" 275).eval args s none [] s = some (.ref q.1) ∧ Sc s A 45 q :=
  sc_of (k := 45) (by decide +kernel) (hs _ (gL_in 1220 (by decide +kernel))) (hs _ (gL_in 1221 (by decide +kernel))) (hs _ (gL_in 1222 (by decide +kernel))) (hs _ (gL_in 1223 (by decide +kernel))) (fun j hj => hs _ (va_run (L := gL) (N := 2) (p := 1224) (f := fun j => Cond.eq (.elem (.field (Term.string "BucketBrigadeLaw$Sim" 275) "java/lang/String" "value" "[B") (.int (Int32.ofNat j))) (.int ((gB.getD 45 []).getD j 0))) (by decide +kernel) j hj)) hA
theorem sc_all (hs : ∀ w ∈ gL, w.before args s = true) (hA : ∀ a : Nat, a < s.heap.size → ¬ A a) : ∀ k : Nat, ∃ q : Nat × Nat, ∀ r, gStr[k]? = some r → (Term.string r.1 r.2.1).eval args s none [] s = some (.ref q.1) ∧ r.2.2.2 = k ∧ Sc s A k q := by
  intro k
  match k with
  | 0 => obtain ⟨q, h1, h2⟩ := sc_0 hs hA; exact ⟨q, fun r hr => by cases hr; exact ⟨h1, rfl, h2⟩⟩
  | 1 => obtain ⟨q, h1, h2⟩ := sc_1 hs hA; exact ⟨q, fun r hr => by cases hr; exact ⟨h1, rfl, h2⟩⟩
  | 2 => obtain ⟨q, h1, h2⟩ := sc_2 hs hA; exact ⟨q, fun r hr => by cases hr; exact ⟨h1, rfl, h2⟩⟩
  | 3 => obtain ⟨q, h1, h2⟩ := sc_3 hs hA; exact ⟨q, fun r hr => by cases hr; exact ⟨h1, rfl, h2⟩⟩
  | 4 => obtain ⟨q, h1, h2⟩ := sc_4 hs hA; exact ⟨q, fun r hr => by cases hr; exact ⟨h1, rfl, h2⟩⟩
  | 5 => obtain ⟨q, h1, h2⟩ := sc_5 hs hA; exact ⟨q, fun r hr => by cases hr; exact ⟨h1, rfl, h2⟩⟩
  | 6 => obtain ⟨q, h1, h2⟩ := sc_6 hs hA; exact ⟨q, fun r hr => by cases hr; exact ⟨h1, rfl, h2⟩⟩
  | 7 => obtain ⟨q, h1, h2⟩ := sc_7 hs hA; exact ⟨q, fun r hr => by cases hr; exact ⟨h1, rfl, h2⟩⟩
  | 8 => obtain ⟨q, h1, h2⟩ := sc_8 hs hA; exact ⟨q, fun r hr => by cases hr; exact ⟨h1, rfl, h2⟩⟩
  | 9 => obtain ⟨q, h1, h2⟩ := sc_9 hs hA; exact ⟨q, fun r hr => by cases hr; exact ⟨h1, rfl, h2⟩⟩
  | 10 => obtain ⟨q, h1, h2⟩ := sc_10 hs hA; exact ⟨q, fun r hr => by cases hr; exact ⟨h1, rfl, h2⟩⟩
  | 11 => obtain ⟨q, h1, h2⟩ := sc_11 hs hA; exact ⟨q, fun r hr => by cases hr; exact ⟨h1, rfl, h2⟩⟩
  | 12 => obtain ⟨q, h1, h2⟩ := sc_12 hs hA; exact ⟨q, fun r hr => by cases hr; exact ⟨h1, rfl, h2⟩⟩
  | 13 => obtain ⟨q, h1, h2⟩ := sc_13 hs hA; exact ⟨q, fun r hr => by cases hr; exact ⟨h1, rfl, h2⟩⟩
  | 14 => obtain ⟨q, h1, h2⟩ := sc_14 hs hA; exact ⟨q, fun r hr => by cases hr; exact ⟨h1, rfl, h2⟩⟩
  | 15 => obtain ⟨q, h1, h2⟩ := sc_15 hs hA; exact ⟨q, fun r hr => by cases hr; exact ⟨h1, rfl, h2⟩⟩
  | 16 => obtain ⟨q, h1, h2⟩ := sc_16 hs hA; exact ⟨q, fun r hr => by cases hr; exact ⟨h1, rfl, h2⟩⟩
  | 17 => obtain ⟨q, h1, h2⟩ := sc_17 hs hA; exact ⟨q, fun r hr => by cases hr; exact ⟨h1, rfl, h2⟩⟩
  | 18 => obtain ⟨q, h1, h2⟩ := sc_18 hs hA; exact ⟨q, fun r hr => by cases hr; exact ⟨h1, rfl, h2⟩⟩
  | 19 => obtain ⟨q, h1, h2⟩ := sc_19 hs hA; exact ⟨q, fun r hr => by cases hr; exact ⟨h1, rfl, h2⟩⟩
  | 20 => obtain ⟨q, h1, h2⟩ := sc_20 hs hA; exact ⟨q, fun r hr => by cases hr; exact ⟨h1, rfl, h2⟩⟩
  | 21 => obtain ⟨q, h1, h2⟩ := sc_21 hs hA; exact ⟨q, fun r hr => by cases hr; exact ⟨h1, rfl, h2⟩⟩
  | 22 => obtain ⟨q, h1, h2⟩ := sc_22 hs hA; exact ⟨q, fun r hr => by cases hr; exact ⟨h1, rfl, h2⟩⟩
  | 23 => obtain ⟨q, h1, h2⟩ := sc_23 hs hA; exact ⟨q, fun r hr => by cases hr; exact ⟨h1, rfl, h2⟩⟩
  | 24 => obtain ⟨q, h1, h2⟩ := sc_24 hs hA; exact ⟨q, fun r hr => by cases hr; exact ⟨h1, rfl, h2⟩⟩
  | 25 => obtain ⟨q, h1, h2⟩ := sc_25 hs hA; exact ⟨q, fun r hr => by cases hr; exact ⟨h1, rfl, h2⟩⟩
  | 26 => obtain ⟨q, h1, h2⟩ := sc_26 hs hA; exact ⟨q, fun r hr => by cases hr; exact ⟨h1, rfl, h2⟩⟩
  | 27 => obtain ⟨q, h1, h2⟩ := sc_27 hs hA; exact ⟨q, fun r hr => by cases hr; exact ⟨h1, rfl, h2⟩⟩
  | 28 => obtain ⟨q, h1, h2⟩ := sc_28 hs hA; exact ⟨q, fun r hr => by cases hr; exact ⟨h1, rfl, h2⟩⟩
  | 29 => obtain ⟨q, h1, h2⟩ := sc_29 hs hA; exact ⟨q, fun r hr => by cases hr; exact ⟨h1, rfl, h2⟩⟩
  | 30 => obtain ⟨q, h1, h2⟩ := sc_30 hs hA; exact ⟨q, fun r hr => by cases hr; exact ⟨h1, rfl, h2⟩⟩
  | 31 => obtain ⟨q, h1, h2⟩ := sc_31 hs hA; exact ⟨q, fun r hr => by cases hr; exact ⟨h1, rfl, h2⟩⟩
  | 32 => obtain ⟨q, h1, h2⟩ := sc_32 hs hA; exact ⟨q, fun r hr => by cases hr; exact ⟨h1, rfl, h2⟩⟩
  | 33 => obtain ⟨q, h1, h2⟩ := sc_33 hs hA; exact ⟨q, fun r hr => by cases hr; exact ⟨h1, rfl, h2⟩⟩
  | 34 => obtain ⟨q, h1, h2⟩ := sc_34 hs hA; exact ⟨q, fun r hr => by cases hr; exact ⟨h1, rfl, h2⟩⟩
  | 35 => obtain ⟨q, h1, h2⟩ := sc_35 hs hA; exact ⟨q, fun r hr => by cases hr; exact ⟨h1, rfl, h2⟩⟩
  | 36 => obtain ⟨q, h1, h2⟩ := sc_36 hs hA; exact ⟨q, fun r hr => by cases hr; exact ⟨h1, rfl, h2⟩⟩
  | 37 => obtain ⟨q, h1, h2⟩ := sc_37 hs hA; exact ⟨q, fun r hr => by cases hr; exact ⟨h1, rfl, h2⟩⟩
  | 38 => obtain ⟨q, h1, h2⟩ := sc_38 hs hA; exact ⟨q, fun r hr => by cases hr; exact ⟨h1, rfl, h2⟩⟩
  | 39 => obtain ⟨q, h1, h2⟩ := sc_39 hs hA; exact ⟨q, fun r hr => by cases hr; exact ⟨h1, rfl, h2⟩⟩
  | 40 => obtain ⟨q, h1, h2⟩ := sc_40 hs hA; exact ⟨q, fun r hr => by cases hr; exact ⟨h1, rfl, h2⟩⟩
  | 41 => obtain ⟨q, h1, h2⟩ := sc_41 hs hA; exact ⟨q, fun r hr => by cases hr; exact ⟨h1, rfl, h2⟩⟩
  | 42 => obtain ⟨q, h1, h2⟩ := sc_42 hs hA; exact ⟨q, fun r hr => by cases hr; exact ⟨h1, rfl, h2⟩⟩
  | 43 => obtain ⟨q, h1, h2⟩ := sc_43 hs hA; exact ⟨q, fun r hr => by cases hr; exact ⟨h1, rfl, h2⟩⟩
  | 44 => obtain ⟨q, h1, h2⟩ := sc_44 hs hA; exact ⟨q, fun r hr => by cases hr; exact ⟨h1, rfl, h2⟩⟩
  | 45 => obtain ⟨q, h1, h2⟩ := sc_45 hs hA; exact ⟨q, fun r hr => by cases hr; exact ⟨h1, rfl, h2⟩⟩
  | k + 46 => exact ⟨(0, 0), fun r hr => by simp [gStr] at hr⟩
theorem dg_DigitTens (hs : ∀ w ∈ gL, w.before args s = true) (hA : ∀ a : Nat, a < s.heap.size → ¬ A a) : ∃ t : Nat, (Term.static "java/lang/Integer" "DigitTens" "[B").eval args s none [] s = some (.ref t) ∧ va_T .byte t 100 (fun j => .int (nI (48 + j / 10))) A s s.heap :=
  va_Tof (by decide) (hs _ (gL_in 115 (by decide +kernel))) (va_eqt (hs _ (gL_in 116 (by decide +kernel)))) (fun j hj => va_eqt (hs _ (va_run (L := gL) (N := 100) (p := 117) (f := fun j => Cond.eq (.elem (.static "java/lang/Integer" "DigitTens" "[B") (.int (Int32.ofNat j))) (.int (nI (48 + j / 10)))) (by decide +kernel) j hj))) hA
theorem dg_DigitOnes (hs : ∀ w ∈ gL, w.before args s = true) (hA : ∀ a : Nat, a < s.heap.size → ¬ A a) : ∃ t : Nat, (Term.static "java/lang/Integer" "DigitOnes" "[B").eval args s none [] s = some (.ref t) ∧ va_T .byte t 100 (fun j => .int (nI (48 + j % 10))) A s s.heap :=
  va_Tof (by decide) (hs _ (gL_in 12 (by decide +kernel))) (va_eqt (hs _ (gL_in 13 (by decide +kernel)))) (fun j hj => va_eqt (hs _ (va_run (L := gL) (N := 100) (p := 14) (f := fun j => Cond.eq (.elem (.static "java/lang/Integer" "DigitOnes" "[B") (.int (Int32.ofNat j))) (.int (nI (48 + j % 10)))) (by decide +kernel) j hj))) hA
end START
theorem lw_i (i : Nat) {w : Cond} (h : lw_tbl[i]? = some w) : w ∈ lw_tbl := List.mem_of_getElem? h
theorem st_cls {s : State} {args : Array Value} (hts : ∀ w ∈ lw_tbl, w.before args s = true) : ∀ k : Nat, ∃ q : ClassId × (Nat → Nat), ∀ r : vw_C, vwCl[k]? = some r → u_Kn s r.1 r.2.1 r.2.2 q.1 q.2 := by
  intro k
  have htg : ∀ w ∈ gT, w.before args s = true := fun w hw => hts w (List.mem_filter.mp hw).1
  match k with
  | 0 => obtain ⟨c, i, h⟩ := u_known (C := RJ0) (T := TJ0) (N := 4) (n := 4) htg kin_0 (hts (.instantiable RJ0 4) (lw_i 1037 (by decide +kernel))); exact ⟨(c, i), fun r hr => by cases hr; exact h⟩
  | 1 => obtain ⟨c, i, h⟩ := u_known (C := RJ4) (T := TJ4) (N := 4) (n := 4) htg kin_1 (hts (.instantiable RJ4 4) (lw_i 855 (by decide +kernel))); exact ⟨(c, i), fun r hr => by cases hr; exact h⟩
  | 2 => obtain ⟨c, i, h⟩ := u_known (C := RX0) (T := TX0) (N := 5) (n := 5) htg kin_2 (hts (.instantiable RX0 5) (lw_i 102 (by decide +kernel))); exact ⟨(c, i), fun r hr => by cases hr; exact h⟩
  | 3 => obtain ⟨c, i, h⟩ := u_known (C := RX1) (T := TX1) (N := 5) (n := 5) htg kin_3 (hts (.instantiable RX1 5) (lw_i 281 (by decide +kernel))); exact ⟨(c, i), fun r hr => by cases hr; exact h⟩
  | 4 => obtain ⟨c, i, h⟩ := u_known (C := RX2) (T := TX2) (N := 18) (n := 18) htg kin_4 (hts (.instantiable RX2 18) (lw_i 183 (by decide +kernel))); exact ⟨(c, i), fun r hr => by cases hr; exact h⟩
  | 5 => obtain ⟨c, i, h⟩ := u_known (C := RX3) (T := TX3) (N := 5) (n := 5) htg kin_5 (hts (.instantiable RX3 5) (lw_i 109 (by decide +kernel))); exact ⟨(c, i), fun r hr => by cases hr; exact h⟩
  | 6 => obtain ⟨c, i, h⟩ := u_known (C := RX4) (T := TX4) (N := 3) (n := 3) htg kin_6 (hts (.instantiable RX4 3) (lw_i 189 (by decide +kernel))); exact ⟨(c, i), fun r hr => by cases hr; exact h⟩
  | 7 => obtain ⟨c, i, h⟩ := u_known (C := RX5) (T := TX5) (N := 7) (n := 7) htg kin_7 (hts (.instantiable RX5 7) (lw_i 94 (by decide +kernel))); exact ⟨(c, i), fun r hr => by cases hr; exact h⟩
  | 8 => obtain ⟨c, i, h⟩ := u_known (C := RX6) (T := TX6) (N := 11) (n := 11) htg kin_8 (hts (.instantiable RX6 11) (lw_i 100 (by decide +kernel))); exact ⟨(c, i), fun r hr => by cases hr; exact h⟩
  | 9 => obtain ⟨c, i, h⟩ := u_known (C := RX7) (T := TX7) (N := 2) (n := 2) htg kin_9 (hts (.instantiable RX7 2) (lw_i 171 (by decide +kernel))); exact ⟨(c, i), fun r hr => by cases hr; exact h⟩
  | 10 => obtain ⟨c, i, h⟩ := u_known (C := RX8) (T := TX8) (N := 2) (n := 2) htg kin_10 (hts (.instantiable RX8 2) (lw_i 78 (by decide +kernel))); exact ⟨(c, i), fun r hr => by cases hr; exact h⟩
  | 11 => obtain ⟨c, i, h⟩ := u_known (C := RX9) (T := TX9) (N := 5) (n := 5) htg kin_11 (hts (.instantiable RX9 5) (lw_i 348 (by decide +kernel))); exact ⟨(c, i), fun r hr => by cases hr; exact h⟩
  | 12 => obtain ⟨c, i, h⟩ := u_known (C := RX10) (T := TX10) (N := 5) (n := 5) htg kin_12 (hts (.instantiable RX10 5) (lw_i 70 (by decide +kernel))); exact ⟨(c, i), fun r hr => by cases hr; exact h⟩
  | 13 => obtain ⟨c, i, h⟩ := u_known (C := RX11) (T := TX11) (N := 19) (n := 19) htg kin_13 (hts (.instantiable RX11 19) (lw_i 1377 (by decide +kernel))); exact ⟨(c, i), fun r hr => by cases hr; exact h⟩
  | 14 => obtain ⟨c, i, h⟩ := u_known (C := RX12) (T := TX12) (N := 8) (n := 8) htg kin_14 (hts (.instantiable RX12 8) (lw_i 792 (by decide +kernel))); exact ⟨(c, i), fun r hr => by cases hr; exact h⟩
  | k + 15 => exact ⟨(0, fun _ => 0), fun r hr => by simp [vwCl] at hr⟩
theorem st_arr {s : State} {args : Array Value} (hts : ∀ w ∈ lw_tbl, w.before args s = true) : ∀ t : Nat, ∃ c : ClassId, ∀ ty, (gTy (fun _ => 0))[t]? = some (0, ty) → ArrOfT s c ty ∧ va_RA s c ty := by
  intro t
  match t with
  | 0 => obtain ⟨c, k, comp, h1, h2, h3⟩ := Cond.arrayClass_spec (hts (.arrayClass .byte) (lw_i 92 (by decide +kernel))); exact ⟨c, fun ty h => by cases h; exact ⟨fun n z => ⟨(fun k h => by cases h), k, h2, comp, h3⟩, h1⟩⟩
  | 1 => obtain ⟨c, k, comp, h1, h2, h3⟩ := Cond.arrayClass_spec (hts (.arrayClass .int) (lw_i 140 (by decide +kernel))); exact ⟨c, fun ty h => by cases h; exact ⟨fun n z => ⟨(fun k h => by cases h), k, h2, comp, h3⟩, h1⟩⟩
  | 2 => obtain ⟨c, k, comp, h1, h2, h3⟩ := Cond.arrayClass_spec (hts (.arrayClass .long) (lw_i 425 (by decide +kernel))); exact ⟨c, fun ty h => by cases h; exact ⟨fun n z => ⟨(fun k h => by cases h), k, h2, comp, h3⟩, h1⟩⟩
  | 3 => obtain ⟨comp, c, k, h1, h2, h3, h4, h5⟩ := Cond.arrayOver_spec (hts (.arrayOver (.object "BucketBrigade$Folk")) (lw_i 169 (by decide +kernel))); exact ⟨c, fun ty h => by cases h; exact ⟨fun n z => ⟨(fun k h => by cases h), k, h3, comp, h4⟩, k, comp, h3, h4, h1, h5⟩⟩
  | 4 => obtain ⟨comp, c, k, h1, h2, h3, h4, h5⟩ := Cond.arrayOver_spec (hts (.arrayOver (.object "BucketBrigade$Lane")) (lw_i 167 (by decide +kernel))); exact ⟨c, fun ty h => by cases h; exact ⟨fun n z => ⟨(fun k h => by cases h), k, h3, comp, h4⟩, k, comp, h3, h4, h1, h5⟩⟩
  | 5 => obtain ⟨comp, c, k, h1, h2, h3, h4, h5⟩ := Cond.arrayOver_spec (hts (.arrayOver (.object "BucketBrigade$Order")) (lw_i 108 (by decide +kernel))); exact ⟨c, fun ty h => by cases h; exact ⟨fun n z => ⟨(fun k h => by cases h), k, h3, comp, h4⟩, k, comp, h3, h4, h1, h5⟩⟩
  | 6 => obtain ⟨comp, c, k, h1, h2, h3, h4, h5⟩ := Cond.arrayOver_spec (hts (.arrayOver (.object "BucketBrigadeLaw$Lane")) (lw_i 1340 (by decide +kernel))); exact ⟨c, fun ty h => by cases h; exact ⟨fun n z => ⟨(fun k h => by cases h), k, h3, comp, h4⟩, k, comp, h3, h4, h1, h5⟩⟩
  | 7 => obtain ⟨comp, c, k, h1, h2, h3, h4, h5⟩ := arrayOverA_spec (hts (.arrayOver (.array .int)) (lw_i 1342 (by decide +kernel))); exact ⟨c, fun ty h => by cases h; exact ⟨fun n z => ⟨(fun k h => by cases h), k, h3, comp, h4⟩, h5⟩⟩
  | k + 8 => exact ⟨0, fun ty h => by simp [gTy] at h⟩
theorem st_sref {s : State} {args : Array Value} (hts : ∀ w ∈ lw_tbl, w.before args s = true) : ∀ q ∈ gStr, (Cond.stringRef q.1 q.2.1 q.2.2.1).before args s = true := by
  intro q hq
  simp only [gStr, List.mem_cons, List.not_mem_nil, or_false] at hq
  rcases hq with rfl | rfl | rfl | rfl | rfl | rfl | rfl | rfl | rfl | rfl | rfl | rfl | rfl | rfl | rfl | rfl | rfl | rfl | rfl | rfl | rfl | rfl | rfl | rfl | rfl | rfl | rfl | rfl | rfl | rfl | rfl | rfl | rfl | rfl | rfl | rfl | rfl | rfl | rfl | rfl | rfl | rfl | rfl | rfl | rfl | rfl
  · exact hts _ (lw_i 353 (by decide +kernel))
  · exact hts _ (lw_i 884 (by decide +kernel))
  · exact hts _ (lw_i 1007 (by decide +kernel))
  · exact hts _ (lw_i 1008 (by decide +kernel))
  · exact hts _ (lw_i 1009 (by decide +kernel))
  · exact hts _ (lw_i 1010 (by decide +kernel))
  · exact hts _ (lw_i 1011 (by decide +kernel))
  · exact hts _ (lw_i 1012 (by decide +kernel))
  · exact hts _ (lw_i 1013 (by decide +kernel))
  · exact hts _ (lw_i 1014 (by decide +kernel))
  · exact hts _ (lw_i 1015 (by decide +kernel))
  · exact hts _ (lw_i 1016 (by decide +kernel))
  · exact hts _ (lw_i 1017 (by decide +kernel))
  · exact hts _ (lw_i 1018 (by decide +kernel))
  · exact hts _ (lw_i 1019 (by decide +kernel))
  · exact hts _ (lw_i 1020 (by decide +kernel))
  · exact hts _ (lw_i 1021 (by decide +kernel))
  · exact hts _ (lw_i 1022 (by decide +kernel))
  · exact hts _ (lw_i 1023 (by decide +kernel))
  · exact hts _ (lw_i 1024 (by decide +kernel))
  · exact hts _ (lw_i 1025 (by decide +kernel))
  · exact hts _ (lw_i 1026 (by decide +kernel))
  · exact hts _ (lw_i 1027 (by decide +kernel))
  · exact hts _ (lw_i 1031 (by decide +kernel))
  · exact hts _ (lw_i 1089 (by decide +kernel))
  · exact hts _ (lw_i 1090 (by decide +kernel))
  · exact hts _ (lw_i 1091 (by decide +kernel))
  · exact hts _ (lw_i 1092 (by decide +kernel))
  · exact hts _ (lw_i 1093 (by decide +kernel))
  · exact hts _ (lw_i 1094 (by decide +kernel))
  · exact hts _ (lw_i 1095 (by decide +kernel))
  · exact hts _ (lw_i 1096 (by decide +kernel))
  · exact hts _ (lw_i 1097 (by decide +kernel))
  · exact hts _ (lw_i 1098 (by decide +kernel))
  · exact hts _ (lw_i 1099 (by decide +kernel))
  · exact hts _ (lw_i 1100 (by decide +kernel))
  · exact hts _ (lw_i 1104 (by decide +kernel))
  · exact hts _ (lw_i 1105 (by decide +kernel))
  · exact hts _ (lw_i 1106 (by decide +kernel))
  · exact hts _ (lw_i 1107 (by decide +kernel))
  · exact hts _ (lw_i 1108 (by decide +kernel))
  · exact hts _ (lw_i 1109 (by decide +kernel))
  · exact hts _ (lw_i 1110 (by decide +kernel))
  · exact hts _ (lw_i 1111 (by decide +kernel))
  · exact hts _ (lw_i 1112 (by decide +kernel))
  · exact hts _ (lw_i 1113 (by decide +kernel))
/-- what the walks lean on, at the start -/
theorem st_ev {s : State} {args : Array Value} {z : Nat → Nat} {D : va_G} {cA : Nat → ClassId} (hts : ∀ w ∈ lw_tbl, w.before args s = true) (hs : ∀ w ∈ gL, w.before args s = true) (hK : va_K D vwCl (gTy cA) s) (hz : ∀ q ∈ gStr, (Term.string q.1 q.2.1).eval args s none [] s = some (.ref (z q.2.2.2)))
    (h100 : (Term.static "java/lang/Integer" "DigitTens" "[B").eval args s none [] s = some (.ref (z 100))) (h101 : (Term.static "java/lang/Integer" "DigitOnes" "[B").eval args s none [] s = some (.ref (z 101))) (h102 : (Term.static "jdk/internal/util/Preconditions" "SIOOBE_FORMATTER" "Ljava/util/function/BiFunction;").eval args s none [] s = some (va_rf (zfm z))) : Ev z D cA s.heap.size s := by
  have hA : ∀ a : Nat, a < s.heap.size → ¬ s.heap.size ≤ a := fun a h => Nat.not_le.mpr h
  refine ⟨hK, fun w hw => ?_, fun q hq => ?_, fun q hq => ?_, fun C hC => ?_, hts (.arrayOver (.array .int)) (lw_i 1342 (by decide +kernel)), va_Nw.of rfl (hts (.castable "[B" "java/lang/Cloneable") (lw_i 921 (by decide +kernel))), fun y hy => ?_⟩
  · have h1 := hts w (List.mem_append_right _ (List.mem_filter.mp hw).1)
    have h2 := (List.mem_filter.mp hw).2
    cases w <;> first | exact va_Nw.of rfl h1 | exact absurd h2 Bool.false_ne_true
  · exact vk_R.of (A := args) (st_sref hts q hq) (hz q hq)
  · simp only [gZs, List.mem_cons, List.not_mem_nil, or_false] at hq
    rcases hq with rfl | rfl | rfl | rfl
    · exact va_Zof (hts (.laysStatic "java/lang/String" "COMPACT_STRINGS" "Z") (lw_i 363 (by decide +kernel))) (hts (.initialized "java/lang/String") (lw_i 50 (by decide +kernel))) (va_eqi (hs _ (gL_in 4 (by decide +kernel)))) hA
    · exact va_Zof (hts (.laysStatic "java/lang/Integer" "DigitTens" "[B") (lw_i 998 (by decide +kernel))) (hts (.initialized "java/lang/Integer") (lw_i 62 (by decide +kernel))) h100 hA
    · exact va_Zof (hts (.laysStatic "java/lang/Integer" "DigitOnes" "[B") (lw_i 996 (by decide +kernel))) (hts (.initialized "java/lang/Integer") (lw_i 62 (by decide +kernel))) h101 hA
    · exact va_Zof (hts (.laysStatic "jdk/internal/util/Preconditions" "SIOOBE_FORMATTER" "Ljava/util/function/BiFunction;") (lw_i 379 (by decide +kernel))) (hts (.initialized "jdk/internal/util/Preconditions") (lw_i 52 (by decide +kernel))) h102 hA
  · simp only [gAO, List.mem_cons, List.not_mem_nil, or_false] at hC
    rcases hC with rfl | rfl | rfl | rfl
    · exact va_AO.of (A := args) (hts _ (lw_i 108 (by decide +kernel)))
    · exact va_AO.of (A := args) (hts _ (lw_i 167 (by decide +kernel)))
    · exact va_AO.of (A := args) (hts _ (lw_i 169 (by decide +kernel)))
    · exact va_AO.of (A := args) (hts _ (lw_i 1340 (by decide +kernel)))
  · simp only [gPv, List.mem_cons, List.not_mem_nil, or_false] at hy
    rcases hy with rfl | rfl | rfl | rfl
    · exact va_Nw.of rfl (hts _ (lw_i 897 (by decide +kernel)))
    · exact va_Nw.of rfl (hts _ (lw_i 901 (by decide +kernel)))
    · exact va_Nw.of rfl (hts _ (lw_i 949 (by decide +kernel)))
    · exact va_Nw.of rfl (hts _ (lw_i 953 (by decide +kernel)))
theorem st_fm {s : State} {args : Array Value} (hs : ∀ w ∈ gL, w.before args s = true) : ∃ r : Option Nat, (Term.static "jdk/internal/util/Preconditions" "SIOOBE_FORMATTER" "Ljava/util/function/BiFunction;").eval args s none [] s = some (va_rf r) := by
  obtain ⟨v, h1, h2⟩ := Cond.isRef_spec (hs (.isRef (.static "jdk/internal/util/Preconditions" "SIOOBE_FORMATTER" "Ljava/util/function/BiFunction;")) (gL_in 5 (by decide +kernel)))
  cases v with
  | null => exact ⟨none, h1⟩
  | ref a => exact ⟨some a, h1⟩
  | _ => exact absurd h2 (by simp [Value.isRef])
/-- how many String constants -/
def gK : Nat := 46
/-- a choice, of any proposition -/
noncomputable def cif {α : Type} (p : Prop) (a b : α) : α := @ite α p (Classical.propDecidable p) a b
theorem cif_pos {α : Type} {p : Prop} {a b : α} (h : p) : cif p a b = a := by unfold cif; exact if_pos h
theorem cif_neg {α : Type} {p : Prop} {a b : α} (h : ¬ p) : cif p a b = b := by unfold cif; exact if_neg h
/-- the heap as the law finds it: the script, the String constants and their bytes, the digits -/
def St0 (z : Nat → Nat) (b L : Nat) (xs : Nat → Int32) (x : Hp) : Prop :=
  (∀ k, k < gK → h_k x (z k) = 201 ∧ h_i x 1 (z k) = 0 ∧ h_r x 0 (z k) = some (z (200 + k)) ∧ h_k x (z (200 + k)) = 300 ∧ h_n x (z (200 + k)) = (gB.getD k []).length ∧ ∀ j, j < (gB.getD k []).length → h_ai x (z (200 + k)) j = (gB.getD k []).getD j 0) ∧
  (h_k x (z 100) = 300 ∧ h_n x (z 100) = 100 ∧ ∀ j, j < 100 → h_ai x (z 100) j = nI (48 + j / 10)) ∧
  (h_k x (z 101) = 300 ∧ h_n x (z 101) = 100 ∧ ∀ j, j < 100 → h_ai x (z 101) j = nI (48 + j % 10)) ∧
  (h_k x b = 301 ∧ h_n x b = L ∧ ∀ j, j < L → h_ai x b j = xs j) ∧
  (∀ a, h_k x a ≠ 0 → 200 ≤ h_k x a ∧ a < h_sz x)
end
section
/-! ===== THE FIRST HEAP, AND THE CLAIM OUT OF THE LAW'S FUNCTION ===== -/
section HP0
variable {s : State} {A : Nat → Prop} {b L : Nat} {xs : Nat → Int32} {adK adV : Nat → Nat} {dt dn : Nat}
noncomputable def hp0 (s : State) (b : Nat) (adK adV : Nat → Nat) (dt dn : Nat) : Hp :=
  (fun a => cif (a = b) 301 (cif (∃ k, k < gK ∧ a = adK k) 201 (cif ((∃ k, k < gK ∧ a = adV k) ∨ a = dt ∨ a = dn) 300 0)),
   fun a => (match s.heap[a]? with | some c => c.slots.size | none => 0) % 2 ^ 32,
   fun _ _ => 0,
   fun _ a => @dite _ (∃ k, k < gK ∧ a = adK k) (Classical.propDecidable _) (fun h => some (adV (Classical.choose h))) (fun _ => none),
   fun a j => match s.heap[a]? with | some c => (match c.slots[j]? with | some (.int v) => v | _ => 0) | none => 0,
   fun _ _ => 0, fun _ _ => none, s.heap.size, 0)
/-- an object of String's; an array -/
def isSO (s : State) (a : Nat) : Prop := ∃ cell : Cell, s.heap[a]? = some cell ∧ s.vm.findClass "java/lang/String" = some cell.cls
def isAR (s : State) (ty : FieldType) (a : Nat) : Prop := ∃ cell : Cell, s.heap[a]? = some cell ∧ s.isArrayOf cell ty
theorem so_ar {a : Nat} {ty : FieldType} {cS : ClassId} (hS : ClassAt s "java/lang/String" cS) (h1 : isSO s a) (h2 : isAR s ty a) : False := by
  obtain ⟨c1, e1, f1⟩ := h1
  obtain ⟨c2, e2, -, k, hk, comp, hkind⟩ := h2
  cases e1.symm.trans e2
  obtain ⟨g1, kC, g2, g3⟩ := hS
  have h3 := Option.some.inj (g1.symm.trans f1)
  subst h3
  cases g2.symm.trans hk
  rw [g3] at hkind
  cases hkind
theorem ar_ar {a : Nat} (h1 : isAR s .int a) (h2 : isAR s .byte a) : False := by
  obtain ⟨c1, e1, -, k1, hk1, comp1, hkind1⟩ := h1
  obtain ⟨c2, e2, -, k, hk, comp, hkind⟩ := h2
  cases e1.symm.trans e2
  cases hk1.symm.trans hk
  rw [hkind1] at hkind
  cases hkind
theorem t_isAR {ty : FieldType} {t N : Nat} {f : Nat → Value} (h : va_T ty t N f A s s.heap) : isAR s ty t := by
  obtain ⟨cell, h1, h2, -⟩ := h
  exact ⟨cell, h1, h2⟩
theorem t_lt {ty : FieldType} {t N : Nat} {f : Nat → Value} (h : va_T ty t N f A s s.heap) : t < s.heap.size := by
  obtain ⟨cell, h1, -⟩ := h
  exact (Array.getElem?_eq_some_iff.mp h1).1
theorem t_rep {ty : FieldType} {t N : Nat} {f : Nat → Int32} (hN : N < 2 ^ 31) (h : va_T ty t N (fun j => .int (f j)) A s s.heap) : h_n (hp0 s b adK adV dt dn) t = N ∧ ∀ j, j < N → h_ai (hp0 s b adK adV dt dn) t j = f j := by
  obtain ⟨cell, h1, h2, h3, h4, h5, h6, h7⟩ := h
  refine ⟨?_, fun j hj => ?_⟩
  · show (match s.heap[t]? with | some c => c.slots.size | none => 0) % 2 ^ 32 = N
    rw [h1]
    show cell.slots.size % 2 ^ 32 = N
    have h8 : (Int32.ofNat cell.slots.size).toBitVec.toNat = (Int32.ofNat N).toBitVec.toNat := congrArg (fun z : Int32 => z.toBitVec.toNat) h5
    have h9 : ∀ n : Nat, (Int32.ofNat n).toBitVec.toNat = n % 2 ^ 32 := fun n => by first | rfl | rw [Int32.toBitVec_ofNat, BitVec.toNat_ofNat]
    rw [h9, h9] at h8
    omega
  · show (match s.heap[t]? with | some c => (match c.slots[j]? with | some (.int v) => v | _ => 0) | none => 0) = f j
    rw [h1]
    show (match cell.slots[j]? with | some (.int v) => v | _ => 0) = f j
    rw [h6 j hj]
theorem t_same {ty : FieldType} {t N : Nat} {f : Nat → Int32} (hN : N < 2 ^ 31) (h : va_T ty t N (fun j => .int (f j)) A s s.heap) : va_T ty t (h_n (hp0 s b adK adV dt dn) t) (fun j => .int (h_ai (hp0 s b adK adV dt dn) t j)) A s s.heap := by
  obtain ⟨e1, e2⟩ := t_rep (b := b) (adK := adK) (adV := adV) (dt := dt) (dn := dn) hN h
  rw [e1]
  obtain ⟨cell, h1, h2, h3, h4, h5, h6, h7⟩ := h
  exact ⟨cell, h1, h2, h3, h4, h5, fun j hj => by show _ = some (Value.int (h_ai (hp0 s b adK adV dt dn) t j)); rw [e2 j hj]; exact h6 j hj, h7⟩
theorem x_T (hL : L ≤ 260) (hX : va_X b L xs s s.heap) (hA : ∀ a : Nat, a < s.heap.size → ¬ A a) : va_T .int b L (fun j => .int (xs j)) A s s.heap := by
  obtain ⟨scr, h1, h2, h3, h4, h5⟩ := hX
  exact ⟨scr, h1, h2, h3, by omega, by rw [h4] <;> rfl, h5, hA b (Array.getElem?_eq_some_iff.mp h1).1⟩
theorem of_uniq {o n d : String} {v w : Value} {t : Nat} (h1 : va_OF o n d v t A s s.heap) (h2 : va_OF o n d w t A s s.heap) : v = w := by
  obtain ⟨cf, k, i, f, cell, a1, a2, a3, a4, a5, -⟩ := h1
  obtain ⟨cf', k', i', f', cell', b1, b2, b3, b4, b5, -⟩ := h2
  cases a1.symm.trans b1
  cases a3.symm.trans b3
  exact Option.some.inj (a5.symm.trans b5)
theorem hp0_ok {D : va_G} {cA : Nat → ClassId} {cS : ClassId} (hS : ClassAt s "java/lang/String" cS) (hL : L ≤ 260) (hX : va_X b L xs s s.heap) (hSc : ∀ k, k < gK → Sc s (fun q => s.heap.size ≤ q) k (adK k, adV k)) (hdt : va_T .byte dt 100 (fun j => .int (nI (48 + j / 10))) (fun q => s.heap.size ≤ q) s s.heap) (hdn : va_T .byte dn 100 (fun j => .int (nI (48 + j % 10))) (fun q => s.heap.size ≤ q) s s.heap) :
    Rep D cA s.heap.size s (hp0 s b adK adV dt dn) s.heap ∧ ∀ z : Nat → Nat, (∀ k, k < gK → z k = adK k) → (∀ k, k < gK → z (200 + k) = adV k) → z 100 = dt → z 101 = dn → St0 z b L xs (hp0 s b adK adV dt dn) := by
  have hgB : ∀ k, k < gK → (gB.getD k []).length < 2 ^ 31 := by decide +kernel
  have hA : ∀ a : Nat, a < s.heap.size → ¬ (fun q => s.heap.size ≤ q) a := fun a h => Nat.not_le.mpr h
  have hbT := x_T (A := fun q => s.heap.size ≤ q) hL hX hA
  have hbI : isAR s .int b := t_isAR hbT
  have hkS : ∀ k, k < gK → isSO s (adK k) := fun k hk => by
    obtain ⟨cell, h1, h2, h3, h4⟩ := (hSc k hk).1
    exact ⟨cell, h1, h3⟩
  have hkB : ∀ k, k < gK → isAR s .byte (adV k) := fun k hk => t_isAR (hSc k hk).2.2.2
  have k301 : h_k (hp0 s b adK adV dt dn) b = 301 := cif_pos rfl
  have k201 : ∀ k, k < gK → h_k (hp0 s b adK adV dt dn) (adK k) = 201 := by
    intro k hk
    have n1 : ¬ adK k = b := fun e => so_ar hS (hkS k hk) (e ▸ hbI)
    exact (cif_neg n1).trans (cif_pos ⟨k, hk, rfl⟩)
  have k300 : ∀ a, isAR s .byte a → ((∃ k, k < gK ∧ a = adV k) ∨ a = dt ∨ a = dn) → h_k (hp0 s b adK adV dt dn) a = 300 := by
    intro a ha h
    have n1 : ¬ a = b := fun e => ar_ar hbI (e ▸ ha)
    have n2 : ¬ ∃ k, k < gK ∧ a = adK k := fun ⟨k, hk, e⟩ => so_ar hS (hkS k hk) (e ▸ ha)
    exact (cif_neg n1).trans ((cif_neg n2).trans (cif_pos h))
  have kall : ∀ a, h_k (hp0 s b adK adV dt dn) a ≠ 0 → a = b ∨ (∃ k, k < gK ∧ a = adK k) ∨ ((∃ k, k < gK ∧ a = adV k) ∨ a = dt ∨ a = dn) := by
    intro a h
    by_cases h1 : a = b
    · exact Or.inl h1
    · by_cases h2 : ∃ k, k < gK ∧ a = adK k
      · exact Or.inr (Or.inl h2)
      · by_cases h3 : (∃ k, k < gK ∧ a = adV k) ∨ a = dt ∨ a = dn
        · exact Or.inr (Or.inr h3)
        · exact absurd ((cif_neg h1).trans ((cif_neg h2).trans (cif_neg h3))) h
  have kval : ∀ k, k < gK → h_r (hp0 s b adK adV dt dn) 0 (adK k) = some (adV k) := by
    intro k hk
    have hex : ∃ j, j < gK ∧ adK k = adK j := ⟨k, hk, rfl⟩
    have h1 : h_r (hp0 s b adK adV dt dn) 0 (adK k) = some (adV (Classical.choose hex)) := dif_pos hex
    have h2 := Classical.choose_spec hex
    rw [h1]
    have h3 := (hSc _ h2.1).2.2.1
    dsimp only at h3
    rw [← h2.2] at h3
    have h4 := of_uniq h3 (hSc k hk).2.2.1
    injection h4 with h5
    rw [h5]
  have old : ∀ a, h_k (hp0 s b adK adV dt dn) a ≠ 0 → 200 ≤ h_k (hp0 s b adK adV dt dn) a ∧ a < s.heap.size ∧ oldAt s.heap.size s (hp0 s b adK adV dt dn) a s.heap := by
    intro a h
    rcases kall a h with rfl | ⟨k, hk, rfl⟩ | h3
    · refine ⟨by rw [k301]; omega, t_lt hbT, fun e => ?_, fun e => ?_, fun _ => t_same (by omega) hbT⟩
      · rw [k301] at e
        omega
      · rw [k301] at e
        omega
    · have hk' := k201 k hk
      obtain ⟨s1, s2, s3, s4⟩ := hSc k hk
      refine ⟨by rw [hk']; omega, ?_, fun _ => ⟨s1, s2, ?_⟩, fun e => ?_, fun e => ?_⟩
      · obtain ⟨cell, h1, -⟩ := s1
        exact (Array.getElem?_eq_some_iff.mp h1).1
      · rw [kval k hk]
        exact s3
      · rw [hk'] at e
        omega
      · rw [hk'] at e
        omega
    · have hT : ∃ (N : Nat) (f : Nat → Int32), N < 2 ^ 31 ∧ va_T .byte a N (fun j => .int (f j)) (fun q => s.heap.size ≤ q) s s.heap := by
        rcases h3 with ⟨k, hk, rfl⟩ | rfl | rfl
        · exact ⟨_, _, hgB k hk, (hSc k hk).2.2.2⟩
        · exact ⟨_, _, by omega, hdt⟩
        · exact ⟨_, _, by omega, hdn⟩
      obtain ⟨N, f, hN, hT⟩ := hT
      have hk' := k300 a (t_isAR hT) h3
      refine ⟨by rw [hk']; omega, t_lt hT, fun e => ?_, fun _ => t_same hN hT, fun e => ?_⟩
      · rw [hk'] at e
        omega
      · rw [hk'] at e
        omega
  refine ⟨⟨rfl, Nat.le_refl _, fun a => ⟨fun h1 h2 => absurd (old a h1).1 (by omega), fun h2 => (old a (by omega)).2⟩⟩, fun z z1 z2 z3 z4 => ⟨fun k hk => ?_, ?_, ?_, ?_, fun a h => ⟨(old a h).1, (old a h).2.1⟩⟩⟩
  · rw [z1 k hk, z2 k hk]
    obtain ⟨e1, e2⟩ := t_rep (b := b) (adK := adK) (adV := adV) (dt := dt) (dn := dn) (hgB k hk) (hSc k hk).2.2.2
    exact ⟨k201 k hk, rfl, kval k hk, k300 _ (hkB k hk) (Or.inl ⟨k, hk, rfl⟩), e1, e2⟩
  · rw [z3]
    obtain ⟨e1, e2⟩ := t_rep (b := b) (adK := adK) (adV := adV) (dt := dt) (dn := dn) (by omega) hdt
    exact ⟨k300 _ (t_isAR hdt) (Or.inr (Or.inl rfl)), e1, e2⟩
  · rw [z4]
    obtain ⟨e1, e2⟩ := t_rep (b := b) (adK := adK) (adV := adV) (dt := dt) (dn := dn) (by omega) hdn
    exact ⟨k300 _ (t_isAR hdn) (Or.inr (Or.inr rfl)), e1, e2⟩
  · obtain ⟨e1, e2⟩ := t_rep (b := b) (adK := adK) (adV := adV) (dt := dt) (dn := dn) (by omega) hbT
    exact ⟨k301, e1, e2⟩
end HP0
end
