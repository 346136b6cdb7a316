section
-- ===== PART A: goes FIRST, ahead of the names: the tables' words, and 'selects' of the private methods out of them =====
/-- a private method of a class that the tables say can be made, by its rows of tables_1 -/
def lw_okq (q : MethodName × Nat) : Prop := (q.1.cls ≠ "java/lang/invoke/MethodHandle" ∧ q.1.cls ≠ "java/lang/invoke/VarHandle") ∧ Cond.instantiable q.1.cls q.2 ∈ tables_1 ∧ Cond.privateMethod q.1 ∈ tables_1 ∧ Cond.instanceMethod q.1 ∈ tables_1
theorem lw_p0 : lw_okq (⟨"java/lang/Throwable", "fillInStackTrace", "(I)Ljava/lang/Throwable;"⟩, 6) := ⟨⟨by decide +kernel, by decide +kernel⟩, List.mem_of_getElem? (i := 475) (by decide +kernel), List.mem_of_getElem? (i := 473) (by decide +kernel), List.mem_of_getElem? (i := 474) (by decide +kernel)⟩
theorem lw_p1 : lw_okq (⟨"BucketBrigade", "countNow", "(I)I"⟩, 5) := ⟨⟨by decide +kernel, by decide +kernel⟩, List.mem_of_getElem? (i := 32) (by decide +kernel), List.mem_of_getElem? (i := 504) (by decide +kernel), List.mem_of_getElem? (i := 505) (by decide +kernel)⟩
theorem lw_p2 : lw_okq (⟨"BucketBrigade$Site", "sumOverLanes", "(I)I"⟩, 11) := ⟨⟨by decide +kernel, by decide +kernel⟩, List.mem_of_getElem? (i := 62) (by decide +kernel), List.mem_of_getElem? (i := 512) (by decide +kernel), List.mem_of_getElem? (i := 513) (by decide +kernel)⟩
theorem lw_p3 : lw_okq (⟨"BucketBrigade$Queue", "slotOf", "(I)I"⟩, 3) := ⟨⟨by decide +kernel, by decide +kernel⟩, List.mem_of_getElem? (i := 151) (by decide +kernel), List.mem_of_getElem? (i := 542) (by decide +kernel), List.mem_of_getElem? (i := 543) (by decide +kernel)⟩
theorem lw_p4 : lw_okq (⟨"BucketBrigade$Site", "obey", "(LBucketBrigade$Order;)V"⟩, 11) := ⟨⟨by decide +kernel, by decide +kernel⟩, List.mem_of_getElem? (i := 62) (by decide +kernel), List.mem_of_getElem? (i := 594) (by decide +kernel), List.mem_of_getElem? (i := 595) (by decide +kernel)⟩
theorem lw_p5 : lw_okq (⟨"BucketBrigade$Site", "reckon", "(II)I"⟩, 11) := ⟨⟨by decide +kernel, by decide +kernel⟩, List.mem_of_getElem? (i := 62) (by decide +kernel), List.mem_of_getElem? (i := 598) (by decide +kernel), List.mem_of_getElem? (i := 599) (by decide +kernel)⟩
theorem lw_p6 : lw_okq (⟨"BucketBrigade$Site", "step", "(II)V"⟩, 11) := ⟨⟨by decide +kernel, by decide +kernel⟩, List.mem_of_getElem? (i := 62) (by decide +kernel), List.mem_of_getElem? (i := 609) (by decide +kernel), List.mem_of_getElem? (i := 610) (by decide +kernel)⟩
theorem lw_p7 : lw_okq (⟨"BucketBrigade$Site", "letFolkCome", "()V"⟩, 11) := ⟨⟨by decide +kernel, by decide +kernel⟩, List.mem_of_getElem? (i := 62) (by decide +kernel), List.mem_of_getElem? (i := 635) (by decide +kernel), List.mem_of_getElem? (i := 636) (by decide +kernel)⟩
theorem lw_p8 : lw_okq (⟨"BucketBrigade$Site", "sendPails", "()I"⟩, 11) := ⟨⟨by decide +kernel, by decide +kernel⟩, List.mem_of_getElem? (i := 62) (by decide +kernel), List.mem_of_getElem? (i := 668) (by decide +kernel), List.mem_of_getElem? (i := 669) (by decide +kernel)⟩
theorem lw_p9 : lw_okq (⟨"BucketBrigade$Site", "whoSends", "()LBucketBrigade$Lane;"⟩, 11) := ⟨⟨by decide +kernel, by decide +kernel⟩, List.mem_of_getElem? (i := 62) (by decide +kernel), List.mem_of_getElem? (i := 672) (by decide +kernel), List.mem_of_getElem? (i := 673) (by decide +kernel)⟩
theorem lw_p10 : lw_okq (⟨"BucketBrigade$Lane", "isLetSend", "()Z"⟩, 18) := ⟨⟨by decide +kernel, by decide +kernel⟩, List.mem_of_getElem? (i := 145) (by decide +kernel), List.mem_of_getElem? (i := 680) (by decide +kernel), List.mem_of_getElem? (i := 681) (by decide +kernel)⟩
theorem lw_p11 : lw_okq (⟨"BucketBrigadeLaw$Sim", "holds", "(III)Z"⟩, 8) := ⟨⟨by decide +kernel, by decide +kernel⟩, List.mem_of_getElem? (i := 754) (by decide +kernel), List.mem_of_getElem? (i := 752) (by decide +kernel), List.mem_of_getElem? (i := 753) (by decide +kernel)⟩
theorem lw_p12 : lw_okq (⟨"BucketBrigadeLaw$Sim", "value", "(ILBucketBrigadeLaw$Lane;I)I"⟩, 8) := ⟨⟨by decide +kernel, by decide +kernel⟩, List.mem_of_getElem? (i := 754) (by decide +kernel), List.mem_of_getElem? (i := 757) (by decide +kernel), List.mem_of_getElem? (i := 758) (by decide +kernel)⟩
theorem lw_p13 : lw_okq (⟨"BucketBrigade$Tokens", "scanToken", "(LBucketBrigade$Tape;I)I"⟩, 5) := ⟨⟨by decide +kernel, by decide +kernel⟩, List.mem_of_getElem? (i := 310) (by decide +kernel), List.mem_of_getElem? (i := 1134) (by decide +kernel), List.mem_of_getElem? (i := 1135) (by decide +kernel)⟩
theorem lw_p14 : lw_okq (⟨"BucketBrigade$Tokens", "add", "(IIJ)V"⟩, 5) := ⟨⟨by decide +kernel, by decide +kernel⟩, List.mem_of_getElem? (i := 310) (by decide +kernel), List.mem_of_getElem? (i := 1138) (by decide +kernel), List.mem_of_getElem? (i := 1139) (by decide +kernel)⟩
theorem lw_p15 : lw_okq (⟨"BucketBrigade$Tokens", "scanWord", "(LBucketBrigade$Tape;I)I"⟩, 5) := ⟨⟨by decide +kernel, by decide +kernel⟩, List.mem_of_getElem? (i := 310) (by decide +kernel), List.mem_of_getElem? (i := 1145) (by decide +kernel), List.mem_of_getElem? (i := 1146) (by decide +kernel)⟩
def lw_privs_1 : List (MethodName × Nat) := [(⟨"java/lang/Throwable", "fillInStackTrace", "(I)Ljava/lang/Throwable;"⟩, 6), (⟨"BucketBrigade", "countNow", "(I)I"⟩, 5), (⟨"BucketBrigade$Site", "sumOverLanes", "(I)I"⟩, 11), (⟨"BucketBrigade$Queue", "slotOf", "(I)I"⟩, 3), (⟨"BucketBrigade$Site", "obey", "(LBucketBrigade$Order;)V"⟩, 11), (⟨"BucketBrigade$Site", "reckon", "(II)I"⟩, 11), (⟨"BucketBrigade$Site", "step", "(II)V"⟩, 11), (⟨"BucketBrigade$Site", "letFolkCome", "()V"⟩, 11), (⟨"BucketBrigade$Site", "sendPails", "()I"⟩, 11), (⟨"BucketBrigade$Site", "whoSends", "()LBucketBrigade$Lane;"⟩, 11), (⟨"BucketBrigade$Lane", "isLetSend", "()Z"⟩, 18), (⟨"BucketBrigadeLaw$Sim", "holds", "(III)Z"⟩, 8), (⟨"BucketBrigadeLaw$Sim", "value", "(ILBucketBrigadeLaw$Lane;I)I"⟩, 8), (⟨"BucketBrigade$Tokens", "scanToken", "(LBucketBrigade$Tape;I)I"⟩, 5), (⟨"BucketBrigade$Tokens", "add", "(IIJ)V"⟩, 5), (⟨"BucketBrigade$Tokens", "scanWord", "(LBucketBrigade$Tape;I)I"⟩, 5)]
theorem lw_r1 : ∀ q ∈ lw_privs_1, lw_okq q := List.forall_mem_cons.mpr ⟨lw_p0, List.forall_mem_cons.mpr ⟨lw_p1, List.forall_mem_cons.mpr ⟨lw_p2, List.forall_mem_cons.mpr ⟨lw_p3, List.forall_mem_cons.mpr ⟨lw_p4, List.forall_mem_cons.mpr ⟨lw_p5, List.forall_mem_cons.mpr ⟨lw_p6, List.forall_mem_cons.mpr ⟨lw_p7, List.forall_mem_cons.mpr ⟨lw_p8, List.forall_mem_cons.mpr ⟨lw_p9, List.forall_mem_cons.mpr ⟨lw_p10, List.forall_mem_cons.mpr ⟨lw_p11, List.forall_mem_cons.mpr ⟨lw_p12, List.forall_mem_cons.mpr ⟨lw_p13, List.forall_mem_cons.mpr ⟨lw_p14, List.forall_mem_cons.mpr ⟨lw_p15, fun _ h => absurd h List.not_mem_nil⟩⟩⟩⟩⟩⟩⟩⟩⟩⟩⟩⟩⟩⟩⟩⟩
theorem lw_p16 : lw_okq (⟨"BucketBrigade$Tokens", "kindOfWord", "(J)I"⟩, 5) := ⟨⟨by decide +kernel, by decide +kernel⟩, List.mem_of_getElem? (i := 310) (by decide +kernel), List.mem_of_getElem? (i := 1149) (by decide +kernel), List.mem_of_getElem? (i := 1150) (by decide +kernel)⟩
theorem lw_p17 : lw_okq (⟨"BucketBrigade$Tokens", "scanNumber", "(LBucketBrigade$Tape;I)I"⟩, 5) := ⟨⟨by decide +kernel, by decide +kernel⟩, List.mem_of_getElem? (i := 310) (by decide +kernel), List.mem_of_getElem? (i := 1153) (by decide +kernel), List.mem_of_getElem? (i := 1154) (by decide +kernel)⟩
theorem lw_p18 : lw_okq (⟨"BucketBrigade$Tokens", "scanSymbol", "(LBucketBrigade$Tape;I)I"⟩, 5) := ⟨⟨by decide +kernel, by decide +kernel⟩, List.mem_of_getElem? (i := 310) (by decide +kernel), List.mem_of_getElem? (i := 1158) (by decide +kernel), List.mem_of_getElem? (i := 1159) (by decide +kernel)⟩
theorem lw_p19 : lw_okq (⟨"BucketBrigade$Reader", "kind", "()I"⟩, 7) := ⟨⟨by decide +kernel, by decide +kernel⟩, List.mem_of_getElem? (i := 56) (by decide +kernel), List.mem_of_getElem? (i := 1174) (by decide +kernel), List.mem_of_getElem? (i := 1175) (by decide +kernel)⟩
theorem lw_p20 : lw_okq (⟨"BucketBrigade$Reader", "number", "(II)I"⟩, 7) := ⟨⟨by decide +kernel, by decide +kernel⟩, List.mem_of_getElem? (i := 56) (by decide +kernel), List.mem_of_getElem? (i := 1179) (by decide +kernel), List.mem_of_getElem? (i := 1180) (by decide +kernel)⟩
theorem lw_p21 : lw_okq (⟨"BucketBrigade$Reader", "fail", "()V"⟩, 7) := ⟨⟨by decide +kernel, by decide +kernel⟩, List.mem_of_getElem? (i := 56) (by decide +kernel), List.mem_of_getElem? (i := 1183) (by decide +kernel), List.mem_of_getElem? (i := 1184) (by decide +kernel)⟩
theorem lw_p22 : lw_okq (⟨"BucketBrigade$Reader", "blame", "(I)V"⟩, 7) := ⟨⟨by decide +kernel, by decide +kernel⟩, List.mem_of_getElem? (i := 56) (by decide +kernel), List.mem_of_getElem? (i := 1195) (by decide +kernel), List.mem_of_getElem? (i := 1196) (by decide +kernel)⟩
theorem lw_p23 : lw_okq (⟨"BucketBrigade$Reader", "readLane", "()V"⟩, 7) := ⟨⟨by decide +kernel, by decide +kernel⟩, List.mem_of_getElem? (i := 56) (by decide +kernel), List.mem_of_getElem? (i := 1199) (by decide +kernel), List.mem_of_getElem? (i := 1200) (by decide +kernel)⟩
theorem lw_p24 : lw_okq (⟨"BucketBrigade$Reader", "newName", "([JI)J"⟩, 7) := ⟨⟨by decide +kernel, by decide +kernel⟩, List.mem_of_getElem? (i := 56) (by decide +kernel), List.mem_of_getElem? (i := 1203) (by decide +kernel), List.mem_of_getElem? (i := 1204) (by decide +kernel)⟩
theorem lw_p25 : lw_okq (⟨"BucketBrigade$Reader", "takes", "(I)Z"⟩, 7) := ⟨⟨by decide +kernel, by decide +kernel⟩, List.mem_of_getElem? (i := 56) (by decide +kernel), List.mem_of_getElem? (i := 1210) (by decide +kernel), List.mem_of_getElem? (i := 1211) (by decide +kernel)⟩
theorem lw_p26 : lw_okq (⟨"BucketBrigade$Reader", "toldLane", "()I"⟩, 7) := ⟨⟨by decide +kernel, by decide +kernel⟩, List.mem_of_getElem? (i := 56) (by decide +kernel), List.mem_of_getElem? (i := 1214) (by decide +kernel), List.mem_of_getElem? (i := 1215) (by decide +kernel)⟩
theorem lw_p27 : lw_okq (⟨"BucketBrigade$Reader", "need", "(I)V"⟩, 7) := ⟨⟨by decide +kernel, by decide +kernel⟩, List.mem_of_getElem? (i := 56) (by decide +kernel), List.mem_of_getElem? (i := 1218) (by decide +kernel), List.mem_of_getElem? (i := 1219) (by decide +kernel)⟩
theorem lw_p28 : lw_okq (⟨"BucketBrigade$Reader", "readFolk", "()V"⟩, 7) := ⟨⟨by decide +kernel, by decide +kernel⟩, List.mem_of_getElem? (i := 56) (by decide +kernel), List.mem_of_getElem? (i := 1228) (by decide +kernel), List.mem_of_getElem? (i := 1229) (by decide +kernel)⟩
theorem lw_p29 : lw_okq (⟨"BucketBrigade$Reader", "readOrder", "(I)V"⟩, 7) := ⟨⟨by decide +kernel, by decide +kernel⟩, List.mem_of_getElem? (i := 56) (by decide +kernel), List.mem_of_getElem? (i := 1234) (by decide +kernel), List.mem_of_getElem? (i := 1235) (by decide +kernel)⟩
theorem lw_p30 : lw_okq (⟨"BucketBrigade$Reader", "sum", "(I)V"⟩, 7) := ⟨⟨by decide +kernel, by decide +kernel⟩, List.mem_of_getElem? (i := 56) (by decide +kernel), List.mem_of_getElem? (i := 1238) (by decide +kernel), List.mem_of_getElem? (i := 1239) (by decide +kernel)⟩
theorem lw_p31 : lw_okq (⟨"BucketBrigade$Reader", "product", "(I)V"⟩, 7) := ⟨⟨by decide +kernel, by decide +kernel⟩, List.mem_of_getElem? (i := 56) (by decide +kernel), List.mem_of_getElem? (i := 1242) (by decide +kernel), List.mem_of_getElem? (i := 1243) (by decide +kernel)⟩
def lw_privs_2 : List (MethodName × Nat) := [(⟨"BucketBrigade$Tokens", "kindOfWord", "(J)I"⟩, 5), (⟨"BucketBrigade$Tokens", "scanNumber", "(LBucketBrigade$Tape;I)I"⟩, 5), (⟨"BucketBrigade$Tokens", "scanSymbol", "(LBucketBrigade$Tape;I)I"⟩, 5), (⟨"BucketBrigade$Reader", "kind", "()I"⟩, 7), (⟨"BucketBrigade$Reader", "number", "(II)I"⟩, 7), (⟨"BucketBrigade$Reader", "fail", "()V"⟩, 7), (⟨"BucketBrigade$Reader", "blame", "(I)V"⟩, 7), (⟨"BucketBrigade$Reader", "readLane", "()V"⟩, 7), (⟨"BucketBrigade$Reader", "newName", "([JI)J"⟩, 7), (⟨"BucketBrigade$Reader", "takes", "(I)Z"⟩, 7), (⟨"BucketBrigade$Reader", "toldLane", "()I"⟩, 7), (⟨"BucketBrigade$Reader", "need", "(I)V"⟩, 7), (⟨"BucketBrigade$Reader", "readFolk", "()V"⟩, 7), (⟨"BucketBrigade$Reader", "readOrder", "(I)V"⟩, 7), (⟨"BucketBrigade$Reader", "sum", "(I)V"⟩, 7), (⟨"BucketBrigade$Reader", "product", "(I)V"⟩, 7)]
theorem lw_r2 : ∀ q ∈ lw_privs_2, lw_okq q := List.forall_mem_cons.mpr ⟨lw_p16, List.forall_mem_cons.mpr ⟨lw_p17, List.forall_mem_cons.mpr ⟨lw_p18, List.forall_mem_cons.mpr ⟨lw_p19, List.forall_mem_cons.mpr ⟨lw_p20, List.forall_mem_cons.mpr ⟨lw_p21, List.forall_mem_cons.mpr ⟨lw_p22, List.forall_mem_cons.mpr ⟨lw_p23, List.forall_mem_cons.mpr ⟨lw_p24, List.forall_mem_cons.mpr ⟨lw_p25, List.forall_mem_cons.mpr ⟨lw_p26, List.forall_mem_cons.mpr ⟨lw_p27, List.forall_mem_cons.mpr ⟨lw_p28, List.forall_mem_cons.mpr ⟨lw_p29, List.forall_mem_cons.mpr ⟨lw_p30, List.forall_mem_cons.mpr ⟨lw_p31, fun _ h => absurd h List.not_mem_nil⟩⟩⟩⟩⟩⟩⟩⟩⟩⟩⟩⟩⟩⟩⟩⟩
theorem lw_p32 : lw_okq (⟨"BucketBrigade$Reader", "value", "(I)V"⟩, 7) := ⟨⟨by decide +kernel, by decide +kernel⟩, List.mem_of_getElem? (i := 56) (by decide +kernel), List.mem_of_getElem? (i := 1246) (by decide +kernel), List.mem_of_getElem? (i := 1247) (by decide +kernel)⟩
theorem lw_p33 : lw_okq (⟨"BucketBrigade$Reader", "enters", "(I)Z"⟩, 7) := ⟨⟨by decide +kernel, by decide +kernel⟩, List.mem_of_getElem? (i := 56) (by decide +kernel), List.mem_of_getElem? (i := 1254) (by decide +kernel), List.mem_of_getElem? (i := 1255) (by decide +kernel)⟩
theorem lw_p34 : lw_okq (⟨"BucketBrigade$Reader", "pair", "(II)V"⟩, 7) := ⟨⟨by decide +kernel, by decide +kernel⟩, List.mem_of_getElem? (i := 56) (by decide +kernel), List.mem_of_getElem? (i := 1258) (by decide +kernel), List.mem_of_getElem? (i := 1259) (by decide +kernel)⟩
theorem lw_p35 : lw_okq (⟨"BucketBrigade$Reader", "test", "(I)V"⟩, 7) := ⟨⟨by decide +kernel, by decide +kernel⟩, List.mem_of_getElem? (i := 56) (by decide +kernel), List.mem_of_getElem? (i := 1262) (by decide +kernel), List.mem_of_getElem? (i := 1263) (by decide +kernel)⟩
theorem lw_p36 : lw_okq (⟨"BucketBrigade$Reader", "both", "(I)V"⟩, 7) := ⟨⟨by decide +kernel, by decide +kernel⟩, List.mem_of_getElem? (i := 56) (by decide +kernel), List.mem_of_getElem? (i := 1266) (by decide +kernel), List.mem_of_getElem? (i := 1267) (by decide +kernel)⟩
theorem lw_p37 : lw_okq (⟨"BucketBrigade$Reader", "single", "(I)V"⟩, 7) := ⟨⟨by decide +kernel, by decide +kernel⟩, List.mem_of_getElem? (i := 56) (by decide +kernel), List.mem_of_getElem? (i := 1270) (by decide +kernel), List.mem_of_getElem? (i := 1271) (by decide +kernel)⟩
def lw_privs_3 : List (MethodName × Nat) := [(⟨"BucketBrigade$Reader", "value", "(I)V"⟩, 7), (⟨"BucketBrigade$Reader", "enters", "(I)Z"⟩, 7), (⟨"BucketBrigade$Reader", "pair", "(II)V"⟩, 7), (⟨"BucketBrigade$Reader", "test", "(I)V"⟩, 7), (⟨"BucketBrigade$Reader", "both", "(I)V"⟩, 7), (⟨"BucketBrigade$Reader", "single", "(I)V"⟩, 7)]
theorem lw_r3 : ∀ q ∈ lw_privs_3, lw_okq q := List.forall_mem_cons.mpr ⟨lw_p32, List.forall_mem_cons.mpr ⟨lw_p33, List.forall_mem_cons.mpr ⟨lw_p34, List.forall_mem_cons.mpr ⟨lw_p35, List.forall_mem_cons.mpr ⟨lw_p36, List.forall_mem_cons.mpr ⟨lw_p37, fun _ h => absurd h List.not_mem_nil⟩⟩⟩⟩⟩⟩
def lw_privs : List (MethodName × Nat) := lw_privs_1 ++ (lw_privs_2 ++ (lw_privs_3))
def lw_tbl : List Cond := k2_sels lw_privs ++ tables_1
theorem lw_privs_ok : ∀ q ∈ lw_privs, lw_okq q := by
  show ∀ q ∈ lw_privs_1 ++ (lw_privs_2 ++ (lw_privs_3)), lw_okq q
  exact List.forall_mem_append.mpr ⟨lw_r1, List.forall_mem_append.mpr ⟨lw_r2, lw_r3⟩⟩
/-- the streams that the claim lets the run draw from -/
abbrev lw_cs : List Choice := [Jvm.Choice.named "NaN.bits"]
theorem lw_bits : nanBits ∈ lw_cs := by first | decide | exact List.mem_cons_self | simp [lw_cs, nanBits]
-- ===== end of PART A; then your names; then what follows =====
def RX0 : String := "BucketBrigade$Book"
def TX0 : u_T := fun k => match k with
  | 0 => ("BucketBrigade$Book", "signs", "[I", true)
  | 1 => ("BucketBrigade$Book", "details", "[I", true)
  | 2 => ("BucketBrigade$Book", "length", "I", false)
  | 3 => ("BucketBrigade$Book", "orderCount", "I", false)
  | _ => ("BucketBrigade$Book", "orders", "[LBucketBrigade$Order;", true)
def tyX0 : Nat → FieldType := fun k => match k with
  | 0 => .array .int
  | 1 => .array .int
  | 2 => .int
  | 3 => .int
  | _ => .array (.object "BucketBrigade$Order")
abbrev wsX00 : List Cond := u_ws RX0 TX0 5
theorem nmX0 : ∀ a, a < 5 → ∀ b, b < 5 → a ≠ b → (TX0 a).2.1 ≠ (TX0 b).2.1 := by decide +kernel
theorem tyX0_ok : ∀ k, k < 5 → parseFieldDescriptor (TX0 k).2.2.1 = some (tyX0 k) := by decide +kernel
abbrev cX0_init : ByteArray := prog_2_method_1_code
def yX0_init : MethodName := ⟨RX0, "<init>", "()V"⟩
abbrev cX0_clear : ByteArray := prog_2_method_2_code
def yX0_clear : MethodName := ⟨RX0, "clear", "()V"⟩
abbrev cX0_add : ByteArray := prog_2_method_3_code
def yX0_add : MethodName := ⟨RX0, "add", "(II)V"⟩
abbrev cX0_addOrder : ByteArray := prog_2_method_4_code
def yX0_addOrder : MethodName := ⟨RX0, "addOrder", "()LBucketBrigade$Order;"⟩
abbrev cX0_orderAt : ByteArray := prog_2_method_5_code
def yX0_orderAt : MethodName := ⟨RX0, "orderAt", "(I)LBucketBrigade$Order;"⟩
abbrev cX0_copyFrom : ByteArray := prog_2_method_6_code
def yX0_copyFrom : MethodName := ⟨RX0, "copyFrom", "(LBucketBrigade$Book;)V"⟩
def RX1 : String := "BucketBrigade$Folk"
def TX1 : u_T := fun k => match k with
  | 0 => ("BucketBrigade$Folk", "lane", "I", false)
  | 1 => ("BucketBrigade$Folk", "many", "I", false)
  | 2 => ("BucketBrigade$Folk", "brought", "I", false)
  | 3 => ("BucketBrigade$Folk", "every", "I", false)
  | _ => ("BucketBrigade$Folk", "from", "I", false)
def tyX1 : Nat → FieldType := fun k => match k with
  | 0 => .int
  | 1 => .int
  | 2 => .int
  | 3 => .int
  | _ => .int
abbrev wsX10 : List Cond := u_ws RX1 TX1 5
theorem nmX1 : ∀ a, a < 5 → ∀ b, b < 5 → a ≠ b → (TX1 a).2.1 ≠ (TX1 b).2.1 := by decide +kernel
theorem tyX1_ok : ∀ k, k < 5 → parseFieldDescriptor (TX1 k).2.2.1 = some (tyX1 k) := by decide +kernel
abbrev cX1_init : ByteArray := prog_3_method_1_code
def yX1_init : MethodName := ⟨RX1, "<init>", "()V"⟩
abbrev cX1_tell : ByteArray := prog_3_method_2_code
def yX1_tell : MethodName := ⟨RX1, "tell", "(IIII)V"⟩
abbrev cX1_copyFrom : ByteArray := prog_3_method_3_code
def yX1_copyFrom : MethodName := ⟨RX1, "copyFrom", "(LBucketBrigade$Folk;)V"⟩
abbrev cX1_comeIn : ByteArray := prog_3_method_4_code
def yX1_comeIn : MethodName := ⟨RX1, "comeIn", "(I)Z"⟩
abbrev cX1_fact : ByteArray := prog_3_method_5_code
def yX1_fact : MethodName := ⟨RX1, "fact", "(I)I"⟩
def RX2 : String := "BucketBrigade$Lane"
def TX2 : u_T := fun k => match k with
  | 0 => ("BucketBrigade$Lane", "number", "I", true)
  | 1 => ("BucketBrigade$Lane", "queue", "LBucketBrigade$Queue;", true)
  | 2 => ("BucketBrigade$Lane", "over", "LBucketBrigade$Lane;", false)
  | 3 => ("BucketBrigade$Lane", "rate", "I", false)
  | 4 => ("BucketBrigade$Lane", "most", "I", false)
  | 5 => ("BucketBrigade$Lane", "tokens", "I", false)
  | 6 => ("BucketBrigade$Lane", "sent", "I", false)
  | 7 => ("BucketBrigade$Lane", "lost", "I", false)
  | 8 => ("BucketBrigade$Lane", "borrowed", "I", false)
  | 9 => ("BucketBrigade$Lane", "waited", "I", false)
  | 10 => ("BucketBrigade$Lane", "shut", "Z", false)
  | 11 => ("BucketBrigade$Lane", "burst", "I", false)
  | 12 => ("BucketBrigade$Lane", "rank", "I", false)
  | 13 => ("BucketBrigade$Lane", "holds", "I", false)
  | 14 => ("BucketBrigade$Lane", "dropsOld", "Z", false)
  | 15 => ("BucketBrigade$Lane", "lent", "I", false)
  | 16 => ("BucketBrigade$Lane", "ownInMinute", "I", false)
  | _ => ("BucketBrigade$Lane", "allInMinute", "I", false)
def tyX2 : Nat → FieldType := fun k => match k with
  | 0 => .int
  | 1 => .object "BucketBrigade$Queue"
  | 2 => .object "BucketBrigade$Lane"
  | 3 => .int
  | 4 => .int
  | 5 => .int
  | 6 => .int
  | 7 => .int
  | 8 => .int
  | 9 => .int
  | 10 => .boolean
  | 11 => .int
  | 12 => .int
  | 13 => .int
  | 14 => .boolean
  | 15 => .int
  | 16 => .int
  | _ => .int
abbrev wsX20 : List Cond := u_ws RX2 TX2 18
theorem nmX2 : ∀ a, a < 18 → ∀ b, b < 18 → a ≠ b → (TX2 a).2.1 ≠ (TX2 b).2.1 := by decide +kernel
theorem tyX2_ok : ∀ k, k < 18 → parseFieldDescriptor (TX2 k).2.2.1 = some (tyX2 k) := by decide +kernel
abbrev cX2_init : ByteArray := prog_4_method_1_code
def yX2_init : MethodName := ⟨RX2, "<init>", "(I)V"⟩
abbrev cX2_tell : ByteArray := prog_4_method_2_code
def yX2_tell : MethodName := ⟨RX2, "tell", "(LBucketBrigade$Lane;IIIIIZ)V"⟩
abbrev cX2_copyFrom : ByteArray := prog_4_method_3_code
def yX2_copyFrom : MethodName := ⟨RX2, "copyFrom", "(LBucketBrigade$Lane;LBucketBrigade$Lane;)V"⟩
abbrev cX2_beginMinute : ByteArray := prog_4_method_4_code
def yX2_beginMinute : MethodName := ⟨RX2, "beginMinute", "()V"⟩
abbrev cX2_isFull : ByteArray := prog_4_method_5_code
def yX2_isFull : MethodName := ⟨RX2, "isFull", "()Z"⟩
abbrev cX2_takePail : ByteArray := prog_4_method_6_code
def yX2_takePail : MethodName := ⟨RX2, "takePail", "(I)V"⟩
abbrev cX2_getTokens : ByteArray := prog_4_method_7_code
def yX2_getTokens : MethodName := ⟨RX2, "getTokens", "(I)V"⟩
abbrev cX2_isOrIsUnder : ByteArray := prog_4_method_8_code
def yX2_isOrIsUnder : MethodName := ⟨RX2, "isOrIsUnder", "(LBucketBrigade$Lane;)Z"⟩
abbrev cX2_whoLends : ByteArray := prog_4_method_9_code
def yX2_whoLends : MethodName := ⟨RX2, "whoLends", "()LBucketBrigade$Lane;"⟩
abbrev cX2_canSend : ByteArray := prog_4_method_10_code
def yX2_canSend : MethodName := ⟨RX2, "canSend", "()Z"⟩
abbrev cX2_isLetSend : ByteArray := prog_4_method_11_code
def yX2_isLetSend : MethodName := ⟨RX2, "isLetSend", "()Z"⟩
abbrev cX2_goesAheadOf : ByteArray := prog_4_method_12_code
def yX2_goesAheadOf : MethodName := ⟨RX2, "goesAheadOf", "(LBucketBrigade$Lane;)Z"⟩
abbrev cX2_sendPail : ByteArray := prog_4_method_13_code
def yX2_sendPail : MethodName := ⟨RX2, "sendPail", "(I)V"⟩
abbrev cX2_fact : ByteArray := prog_4_method_14_code
def yX2_fact : MethodName := ⟨RX2, "fact", "(I)I"⟩
abbrev cX2_known : ByteArray := prog_4_method_15_code
def yX2_known : MethodName := ⟨RX2, "known", "(I)I"⟩
def RX3 : String := "BucketBrigade$Order"
def TX3 : u_T := fun k => match k with
  | 0 => ("BucketBrigade$Order", "kind", "I", false)
  | 1 => ("BucketBrigade$Order", "lane", "I", false)
  | 2 => ("BucketBrigade$Order", "sumFrom", "I", false)
  | 3 => ("BucketBrigade$Order", "testFrom", "I", false)
  | _ => ("BucketBrigade$Order", "end", "I", false)
def tyX3 : Nat → FieldType := fun k => match k with
  | 0 => .int
  | 1 => .int
  | 2 => .int
  | 3 => .int
  | _ => .int
abbrev wsX30 : List Cond := u_ws RX3 TX3 5
theorem nmX3 : ∀ a, a < 5 → ∀ b, b < 5 → a ≠ b → (TX3 a).2.1 ≠ (TX3 b).2.1 := by decide +kernel
theorem tyX3_ok : ∀ k, k < 5 → parseFieldDescriptor (TX3 k).2.2.1 = some (tyX3 k) := by decide +kernel
abbrev cX3_init : ByteArray := prog_5_method_1_code
def yX3_init : MethodName := ⟨RX3, "<init>", "()V"⟩
abbrev cX3_tell : ByteArray := prog_5_method_2_code
def yX3_tell : MethodName := ⟨RX3, "tell", "(IIIII)V"⟩
def RX4 : String := "BucketBrigade$Queue"
def TX4 : u_T := fun k => match k with
  | 0 => ("BucketBrigade$Queue", "size", "I", false)
  | 1 => ("BucketBrigade$Queue", "minutes", "[I", true)
  | _ => ("BucketBrigade$Queue", "front", "I", false)
def tyX4 : Nat → FieldType := fun k => match k with
  | 0 => .int
  | 1 => .array .int
  | _ => .int
abbrev wsX40 : List Cond := u_ws RX4 TX4 3
theorem nmX4 : ∀ a, a < 3 → ∀ b, b < 3 → a ≠ b → (TX4 a).2.1 ≠ (TX4 b).2.1 := by decide +kernel
theorem tyX4_ok : ∀ k, k < 3 → parseFieldDescriptor (TX4 k).2.2.1 = some (tyX4 k) := by decide +kernel
abbrev cX4_init : ByteArray := prog_6_method_1_code
def yX4_init : MethodName := ⟨RX4, "<init>", "()V"⟩
abbrev cX4_clear : ByteArray := prog_6_method_2_code
def yX4_clear : MethodName := ⟨RX4, "clear", "()V"⟩
abbrev cX4_add : ByteArray := prog_6_method_3_code
def yX4_add : MethodName := ⟨RX4, "add", "(I)V"⟩
abbrev cX4_at : ByteArray := prog_6_method_4_code
def yX4_at : MethodName := ⟨RX4, "at", "(I)I"⟩
abbrev cX4_dropFront : ByteArray := prog_6_method_5_code
def yX4_dropFront : MethodName := ⟨RX4, "dropFront", "()V"⟩
abbrev cX4_copyFrom : ByteArray := prog_6_method_6_code
def yX4_copyFrom : MethodName := ⟨RX4, "copyFrom", "(LBucketBrigade$Queue;)V"⟩
abbrev cX4_slotOf : ByteArray := prog_6_method_7_code
def yX4_slotOf : MethodName := ⟨RX4, "slotOf", "(I)I"⟩
def RX5 : String := "BucketBrigade$Reader"
def TX5 : u_T := fun k => match k with
  | 0 => ("BucketBrigade$Reader", "draft", "LBucketBrigade$Site;", true)
  | 1 => ("BucketBrigade$Reader", "errorPlace", "I", false)
  | 2 => ("BucketBrigade$Reader", "tokens", "LBucketBrigade$Tokens;", true)
  | 3 => ("BucketBrigade$Reader", "laneNames", "[J", true)
  | 4 => ("BucketBrigade$Reader", "folkNames", "[J", true)
  | 5 => ("BucketBrigade$Reader", "next", "I", false)
  | _ => ("BucketBrigade$Reader", "error", "I", false)
def tyX5 : Nat → FieldType := fun k => match k with
  | 0 => .object "BucketBrigade$Site"
  | 1 => .int
  | 2 => .object "BucketBrigade$Tokens"
  | 3 => .array .long
  | 4 => .array .long
  | 5 => .int
  | _ => .int
abbrev wsX50 : List Cond := u_ws RX5 TX5 7
theorem nmX5 : ∀ a, a < 7 → ∀ b, b < 7 → a ≠ b → (TX5 a).2.1 ≠ (TX5 b).2.1 := by decide +kernel
theorem tyX5_ok : ∀ k, k < 7 → parseFieldDescriptor (TX5 k).2.2.1 = some (tyX5 k) := by decide +kernel
abbrev cX5_init : ByteArray := prog_7_method_1_code
def yX5_init : MethodName := ⟨RX5, "<init>", "()V"⟩
abbrev cX5_read : ByteArray := prog_7_method_2_code
def yX5_read : MethodName := ⟨RX5, "read", "(LBucketBrigade$Tape;I)I"⟩
abbrev cX5_readLane : ByteArray := prog_7_method_3_code
def yX5_readLane : MethodName := ⟨RX5, "readLane", "()V"⟩
abbrev cX5_readFolk : ByteArray := prog_7_method_4_code
def yX5_readFolk : MethodName := ⟨RX5, "readFolk", "()V"⟩
abbrev cX5_readOrder : ByteArray := prog_7_method_5_code
def yX5_readOrder : MethodName := ⟨RX5, "readOrder", "(I)V"⟩
abbrev cX5_test : ByteArray := prog_7_method_6_code
def yX5_test : MethodName := ⟨RX5, "test", "(I)V"⟩
abbrev cX5_both : ByteArray := prog_7_method_7_code
def yX5_both : MethodName := ⟨RX5, "both", "(I)V"⟩
abbrev cX5_single : ByteArray := prog_7_method_8_code
def yX5_single : MethodName := ⟨RX5, "single", "(I)V"⟩
abbrev cX5_compares : ByteArray := prog_7_method_9_code
def yX5_compares : MethodName := ⟨RX5, "compares", "(I)Z"⟩
abbrev cX5_sum : ByteArray := prog_7_method_10_code
def yX5_sum : MethodName := ⟨RX5, "sum", "(I)V"⟩
abbrev cX5_product : ByteArray := prog_7_method_11_code
def yX5_product : MethodName := ⟨RX5, "product", "(I)V"⟩
abbrev cX5_value : ByteArray := prog_7_method_12_code
def yX5_value : MethodName := ⟨RX5, "value", "(I)V"⟩
abbrev cX5_pair : ByteArray := prog_7_method_13_code
def yX5_pair : MethodName := ⟨RX5, "pair", "(II)V"⟩
abbrev cX5_kind : ByteArray := prog_7_method_14_code
def yX5_kind : MethodName := ⟨RX5, "kind", "()I"⟩
abbrev cX5_takes : ByteArray := prog_7_method_15_code
def yX5_takes : MethodName := ⟨RX5, "takes", "(I)Z"⟩
abbrev cX5_need : ByteArray := prog_7_method_16_code
def yX5_need : MethodName := ⟨RX5, "need", "(I)V"⟩
abbrev cX5_enters : ByteArray := prog_7_method_17_code
def yX5_enters : MethodName := ⟨RX5, "enters", "(I)Z"⟩
abbrev cX5_number : ByteArray := prog_7_method_18_code
def yX5_number : MethodName := ⟨RX5, "number", "(II)I"⟩
abbrev cX5_newName : ByteArray := prog_7_method_19_code
def yX5_newName : MethodName := ⟨RX5, "newName", "([JI)J"⟩
abbrev cX5_toldLane : ByteArray := prog_7_method_20_code
def yX5_toldLane : MethodName := ⟨RX5, "toldLane", "()I"⟩
abbrev cX5_placeOf : ByteArray := prog_7_method_21_code
def yX5_placeOf : MethodName := ⟨RX5, "placeOf", "(J[JI)I"⟩
abbrev cX5_keepName : ByteArray := prog_7_method_22_code
def yX5_keepName : MethodName := ⟨RX5, "keepName", "([JIJ)V"⟩
abbrev cX5_fail : ByteArray := prog_7_method_23_code
def yX5_fail : MethodName := ⟨RX5, "fail", "()V"⟩
abbrev cX5_blame : ByteArray := prog_7_method_24_code
def yX5_blame : MethodName := ⟨RX5, "blame", "(I)V"⟩
def RX6 : String := "BucketBrigade$Site"
def TX6 : u_T := fun k => match k with
  | 0 => ("BucketBrigade$Site", "book", "LBucketBrigade$Book;", true)
  | 1 => ("BucketBrigade$Site", "minute", "I", false)
  | 2 => ("BucketBrigade$Site", "well", "I", false)
  | 3 => ("BucketBrigade$Site", "laneCount", "I", false)
  | 4 => ("BucketBrigade$Site", "folkCount", "I", false)
  | 5 => ("BucketBrigade$Site", "lanes", "[LBucketBrigade$Lane;", true)
  | 6 => ("BucketBrigade$Site", "folks", "[LBucketBrigade$Folk;", true)
  | 7 => ("BucketBrigade$Site", "stack", "LBucketBrigade$Stack;", true)
  | 8 => ("BucketBrigade$Site", "spare", "I", false)
  | 9 => ("BucketBrigade$Site", "came", "I", false)
  | _ => ("BucketBrigade$Site", "carriedOut", "I", false)
def tyX6 : Nat → FieldType := fun k => match k with
  | 0 => .object "BucketBrigade$Book"
  | 1 => .int
  | 2 => .int
  | 3 => .int
  | 4 => .int
  | 5 => .array (.object "BucketBrigade$Lane")
  | 6 => .array (.object "BucketBrigade$Folk")
  | 7 => .object "BucketBrigade$Stack"
  | 8 => .int
  | 9 => .int
  | _ => .int
abbrev wsX60 : List Cond := u_ws RX6 TX6 11
theorem nmX6 : ∀ a, a < 11 → ∀ b, b < 11 → a ≠ b → (TX6 a).2.1 ≠ (TX6 b).2.1 := by decide +kernel
theorem tyX6_ok : ∀ k, k < 11 → parseFieldDescriptor (TX6 k).2.2.1 = some (tyX6 k) := by decide +kernel
abbrev cX6_init : ByteArray := prog_8_method_1_code
def yX6_init : MethodName := ⟨RX6, "<init>", "(LBucketBrigade$Book;)V"⟩
abbrev cX6_begin : ByteArray := prog_8_method_2_code
def yX6_begin : MethodName := ⟨RX6, "begin", "(I)V"⟩
abbrev cX6_copyFrom : ByteArray := prog_8_method_3_code
def yX6_copyFrom : MethodName := ⟨RX6, "copyFrom", "(LBucketBrigade$Site;)V"⟩
abbrev cX6_addLane : ByteArray := prog_8_method_4_code
def yX6_addLane : MethodName := ⟨RX6, "addLane", "()LBucketBrigade$Lane;"⟩
abbrev cX6_laneAt : ByteArray := prog_8_method_5_code
def yX6_laneAt : MethodName := ⟨RX6, "laneAt", "(I)LBucketBrigade$Lane;"⟩
abbrev cX6_addFolk : ByteArray := prog_8_method_6_code
def yX6_addFolk : MethodName := ⟨RX6, "addFolk", "()LBucketBrigade$Folk;"⟩
abbrev cX6_folkAt : ByteArray := prog_8_method_7_code
def yX6_folkAt : MethodName := ⟨RX6, "folkAt", "(I)LBucketBrigade$Folk;"⟩
abbrev cX6_takeIn : ByteArray := prog_8_method_8_code
def yX6_takeIn : MethodName := ⟨RX6, "takeIn", "(LBucketBrigade$Lane;I)V"⟩
abbrev cX6_goOneMinute : ByteArray := prog_8_method_9_code
def yX6_goOneMinute : MethodName := ⟨RX6, "goOneMinute", "()I"⟩
abbrev cX6_obey : ByteArray := prog_8_method_10_code
def yX6_obey : MethodName := ⟨RX6, "obey", "(LBucketBrigade$Order;)V"⟩
abbrev cX6_reckon : ByteArray := prog_8_method_11_code
def yX6_reckon : MethodName := ⟨RX6, "reckon", "(II)I"⟩
abbrev cX6_step : ByteArray := prog_8_method_12_code
def yX6_step : MethodName := ⟨RX6, "step", "(II)V"⟩
abbrev cX6_combined : ByteArray := prog_8_method_13_code
def yX6_combined : MethodName := ⟨RX6, "combined", "(III)I"⟩
abbrev cX6_letFolkCome : ByteArray := prog_8_method_14_code
def yX6_letFolkCome : MethodName := ⟨RX6, "letFolkCome", "()V"⟩
abbrev cX6_sendPails : ByteArray := prog_8_method_15_code
def yX6_sendPails : MethodName := ⟨RX6, "sendPails", "()I"⟩
abbrev cX6_whoSends : ByteArray := prog_8_method_16_code
def yX6_whoSends : MethodName := ⟨RX6, "whoSends", "()LBucketBrigade$Lane;"⟩
abbrev cX6_tally : ByteArray := prog_8_method_17_code
def yX6_tally : MethodName := ⟨RX6, "tally", "(I)I"⟩
abbrev cX6_sumOverLanes : ByteArray := prog_8_method_18_code
def yX6_sumOverLanes : MethodName := ⟨RX6, "sumOverLanes", "(I)I"⟩
abbrev cX6_shareOf : ByteArray := prog_8_method_19_code
def yX6_shareOf : MethodName := ⟨RX6, "shareOf", "(LBucketBrigade$Lane;I)I"⟩
def RX7 : String := "BucketBrigade$Stack"
def TX7 : u_T := fun k => match k with
  | 0 => ("BucketBrigade$Stack", "numbers", "[I", true)
  | _ => ("BucketBrigade$Stack", "height", "I", false)
def tyX7 : Nat → FieldType := fun k => match k with
  | 0 => .array .int
  | _ => .int
abbrev wsX70 : List Cond := u_ws RX7 TX7 2
theorem nmX7 : ∀ a, a < 2 → ∀ b, b < 2 → a ≠ b → (TX7 a).2.1 ≠ (TX7 b).2.1 := by decide +kernel
theorem tyX7_ok : ∀ k, k < 2 → parseFieldDescriptor (TX7 k).2.2.1 = some (tyX7 k) := by decide +kernel
abbrev cX7_init : ByteArray := prog_9_method_1_code
def yX7_init : MethodName := ⟨RX7, "<init>", "()V"⟩
abbrev cX7_clear : ByteArray := prog_9_method_2_code
def yX7_clear : MethodName := ⟨RX7, "clear", "()V"⟩
abbrev cX7_push : ByteArray := prog_9_method_3_code
def yX7_push : MethodName := ⟨RX7, "push", "(I)V"⟩
abbrev cX7_pop : ByteArray := prog_9_method_4_code
def yX7_pop : MethodName := ⟨RX7, "pop", "()I"⟩
def RX8 : String := "BucketBrigade$Tape"
def TX8 : u_T := fun k => match k with
  | 0 => ("BucketBrigade$Tape", "bytes", "[B", true)
  | _ => ("BucketBrigade$Tape", "length", "I", false)
def tyX8 : Nat → FieldType := fun k => match k with
  | 0 => .array .byte
  | _ => .int
abbrev wsX80 : List Cond := u_ws RX8 TX8 2
theorem nmX8 : ∀ a, a < 2 → ∀ b, b < 2 → a ≠ b → (TX8 a).2.1 ≠ (TX8 b).2.1 := by decide +kernel
theorem tyX8_ok : ∀ k, k < 2 → parseFieldDescriptor (TX8 k).2.2.1 = some (tyX8 k) := by decide +kernel
abbrev cX8_init : ByteArray := prog_10_method_1_code
def yX8_init : MethodName := ⟨RX8, "<init>", "()V"⟩
abbrev cX8_append : ByteArray := prog_10_method_2_code
def yX8_append : MethodName := ⟨RX8, "append", "(I)V"⟩
abbrev cX8_at : ByteArray := prog_10_method_3_code
def yX8_at : MethodName := ⟨RX8, "at", "(I)I"⟩
def RX9 : String := "BucketBrigade$Tokens"
def TX9 : u_T := fun k => match k with
  | 0 => ("BucketBrigade$Tokens", "keywords", "[J", true)
  | 1 => ("BucketBrigade$Tokens", "kinds", "[I", true)
  | 2 => ("BucketBrigade$Tokens", "starts", "[I", true)
  | 3 => ("BucketBrigade$Tokens", "values", "[J", true)
  | _ => ("BucketBrigade$Tokens", "size", "I", false)
def tyX9 : Nat → FieldType := fun k => match k with
  | 0 => .array .long
  | 1 => .array .int
  | 2 => .array .int
  | 3 => .array .long
  | _ => .int
abbrev wsX90 : List Cond := u_ws RX9 TX9 5
theorem nmX9 : ∀ a, a < 5 → ∀ b, b < 5 → a ≠ b → (TX9 a).2.1 ≠ (TX9 b).2.1 := by decide +kernel
theorem tyX9_ok : ∀ k, k < 5 → parseFieldDescriptor (TX9 k).2.2.1 = some (tyX9 k) := by decide +kernel
abbrev cX9_init : ByteArray := prog_11_method_1_code
def yX9_init : MethodName := ⟨RX9, "<init>", "()V"⟩
abbrev cX9_kindOf : ByteArray := prog_11_method_2_code
def yX9_kindOf : MethodName := ⟨RX9, "kindOf", "(I)I"⟩
abbrev cX9_startOf : ByteArray := prog_11_method_3_code
def yX9_startOf : MethodName := ⟨RX9, "startOf", "(I)I"⟩
abbrev cX9_valueOf : ByteArray := prog_11_method_4_code
def yX9_valueOf : MethodName := ⟨RX9, "valueOf", "(I)J"⟩
abbrev cX9_scan : ByteArray := prog_11_method_5_code
def yX9_scan : MethodName := ⟨RX9, "scan", "(LBucketBrigade$Tape;)V"⟩
abbrev cX9_behindBlanks : ByteArray := prog_11_method_6_code
def yX9_behindBlanks : MethodName := ⟨RX9, "behindBlanks", "(LBucketBrigade$Tape;I)I"⟩
abbrev cX9_scanToken : ByteArray := prog_11_method_7_code
def yX9_scanToken : MethodName := ⟨RX9, "scanToken", "(LBucketBrigade$Tape;I)I"⟩
abbrev cX9_scanWord : ByteArray := prog_11_method_8_code
def yX9_scanWord : MethodName := ⟨RX9, "scanWord", "(LBucketBrigade$Tape;I)I"⟩
abbrev cX9_scanNumber : ByteArray := prog_11_method_9_code
def yX9_scanNumber : MethodName := ⟨RX9, "scanNumber", "(LBucketBrigade$Tape;I)I"⟩
abbrev cX9_scanSymbol : ByteArray := prog_11_method_10_code
def yX9_scanSymbol : MethodName := ⟨RX9, "scanSymbol", "(LBucketBrigade$Tape;I)I"⟩
abbrev cX9_add : ByteArray := prog_11_method_11_code
def yX9_add : MethodName := ⟨RX9, "add", "(IIJ)V"⟩
abbrev cX9_kindOfWord : ByteArray := prog_11_method_12_code
def yX9_kindOfWord : MethodName := ⟨RX9, "kindOfWord", "(J)I"⟩
abbrev cX9_longer : ByteArray := prog_11_method_13_code
def yX9_longer : MethodName := ⟨RX9, "longer", "(JI)J"⟩
abbrev cX9_isLetter : ByteArray := prog_11_method_14_code
def yX9_isLetter : MethodName := ⟨RX9, "isLetter", "(I)Z"⟩
abbrev cX9_isDigit : ByteArray := prog_11_method_15_code
def yX9_isDigit : MethodName := ⟨RX9, "isDigit", "(I)Z"⟩
abbrev cX9_isSymbol : ByteArray := prog_11_method_16_code
def yX9_isSymbol : MethodName := ⟨RX9, "isSymbol", "(I)Z"⟩
def RX10 : String := "BucketBrigade"
def TX10 : u_T := fun k => match k with
  | 0 => ("BucketBrigade", "tape", "LBucketBrigade$Tape;", true)
  | 1 => ("BucketBrigade", "reader", "LBucketBrigade$Reader;", true)
  | 2 => ("BucketBrigade", "now", "LBucketBrigade$Site;", true)
  | 3 => ("BucketBrigade", "ahead", "LBucketBrigade$Site;", true)
  | _ => ("BucketBrigade", "errorPlace", "I", false)
def tyX10 : Nat → FieldType := fun k => match k with
  | 0 => .object "BucketBrigade$Tape"
  | 1 => .object "BucketBrigade$Reader"
  | 2 => .object "BucketBrigade$Site"
  | 3 => .object "BucketBrigade$Site"
  | _ => .int
abbrev wsX100 : List Cond := u_ws RX10 TX10 5
theorem nmX10 : ∀ a, a < 5 → ∀ b, b < 5 → a ≠ b → (TX10 a).2.1 ≠ (TX10 b).2.1 := by decide +kernel
theorem tyX10_ok : ∀ k, k < 5 → parseFieldDescriptor (TX10 k).2.2.1 = some (tyX10 k) := by decide +kernel
abbrev cX10_init : ByteArray := prog_1_method_1_code
def yX10_init : MethodName := ⟨RX10, "<init>", "()V"⟩
abbrev cX10_feed : ByteArray := prog_1_method_2_code
def yX10_feed : MethodName := ⟨RX10, "feed", "(IIIII)I"⟩
abbrev cX10_trim : ByteArray := prog_1_method_3_code
def yX10_trim : MethodName := ⟨RX10, "trim", "(I)I"⟩
abbrev cX10_teach : ByteArray := prog_1_method_4_code
def yX10_teach : MethodName := ⟨RX10, "teach", "()I"⟩
abbrev cX10_count : ByteArray := prog_1_method_6_code
def yX10_count : MethodName := ⟨RX10, "count", "(I)I"⟩
abbrev cX10_lane : ByteArray := prog_1_method_7_code
def yX10_lane : MethodName := ⟨RX10, "lane", "(II)I"⟩
abbrev cX10_pail : ByteArray := prog_1_method_8_code
def yX10_pail : MethodName := ⟨RX10, "pail", "(II)I"⟩
abbrev cX10_folk : ByteArray := prog_1_method_9_code
def yX10_folk : MethodName := ⟨RX10, "folk", "(II)I"⟩
abbrev cX10_lender : ByteArray := prog_1_method_10_code
def yX10_lender : MethodName := ⟨RX10, "lender", "(I)I"⟩
abbrev cX10_common : ByteArray := prog_1_method_11_code
def yX10_common : MethodName := ⟨RX10, "common", "(II)I"⟩
abbrev cX10_eldest : ByteArray := prog_1_method_12_code
def yX10_eldest : MethodName := ⟨RX10, "eldest", "()I"⟩
abbrev cX10_bring : ByteArray := prog_1_method_13_code
def yX10_bring : MethodName := ⟨RX10, "bring", "(II)I"⟩
abbrev cX10_give : ByteArray := prog_1_method_14_code
def yX10_give : MethodName := ⟨RX10, "give", "(II)I"⟩
abbrev cX10_setRate : ByteArray := prog_1_method_15_code
def yX10_setRate : MethodName := ⟨RX10, "setRate", "(II)I"⟩
abbrev cX10_setMost : ByteArray := prog_1_method_16_code
def yX10_setMost : MethodName := ⟨RX10, "setMost", "(II)I"⟩
abbrev cX10_setWell : ByteArray := prog_1_method_17_code
def yX10_setWell : MethodName := ⟨RX10, "setWell", "(I)I"⟩
abbrev cX10_pass : ByteArray := prog_1_method_18_code
def yX10_pass : MethodName := ⟨RX10, "pass", "(I)I"⟩
abbrev cX10_foresee : ByteArray := prog_1_method_20_code
def yX10_foresee : MethodName := ⟨RX10, "foresee", "(II)I"⟩
abbrev cX10_mean : ByteArray := prog_1_method_22_code
def yX10_mean : MethodName := ⟨RX10, "mean", "()D"⟩
abbrev cX10_countNow : ByteArray := prog_1_method_25_code
def yX10_countNow : MethodName := ⟨RX10, "countNow", "(I)I"⟩
abbrev cX10_numberOf : ByteArray := prog_1_method_27_code
def yX10_numberOf : MethodName := ⟨RX10, "numberOf", "(LBucketBrigade$Lane;)I"⟩
def RX11 : String := "BucketBrigadeLaw$Lane"
def TX11 : u_T := fun k => match k with
  | 0 => ("BucketBrigadeLaw$Lane", "over", "LBucketBrigadeLaw$Lane;", false)
  | 1 => ("BucketBrigadeLaw$Lane", "number", "I", false)
  | 2 => ("BucketBrigadeLaw$Lane", "rate", "I", false)
  | 3 => ("BucketBrigadeLaw$Lane", "most", "I", false)
  | 4 => ("BucketBrigadeLaw$Lane", "burst", "I", false)
  | 5 => ("BucketBrigadeLaw$Lane", "rank", "I", false)
  | 6 => ("BucketBrigadeLaw$Lane", "tokens", "I", false)
  | 7 => ("BucketBrigadeLaw$Lane", "holds", "I", false)
  | 8 => ("BucketBrigadeLaw$Lane", "isOld", "Z", false)
  | 9 => ("BucketBrigadeLaw$Lane", "pails", "[I", true)
  | 10 => ("BucketBrigadeLaw$Lane", "waits", "I", false)
  | 11 => ("BucketBrigadeLaw$Lane", "sent", "I", false)
  | 12 => ("BucketBrigadeLaw$Lane", "lost", "I", false)
  | 13 => ("BucketBrigadeLaw$Lane", "lent", "I", false)
  | 14 => ("BucketBrigadeLaw$Lane", "borrowed", "I", false)
  | 15 => ("BucketBrigadeLaw$Lane", "waited", "I", false)
  | 16 => ("BucketBrigadeLaw$Lane", "isShut", "Z", false)
  | 17 => ("BucketBrigadeLaw$Lane", "own", "I", false)
  | _ => ("BucketBrigadeLaw$Lane", "all", "I", false)
def tyX11 : Nat → FieldType := fun k => match k with
  | 0 => .object "BucketBrigadeLaw$Lane"
  | 1 => .int
  | 2 => .int
  | 3 => .int
  | 4 => .int
  | 5 => .int
  | 6 => .int
  | 7 => .int
  | 8 => .boolean
  | 9 => .array .int
  | 10 => .int
  | 11 => .int
  | 12 => .int
  | 13 => .int
  | 14 => .int
  | 15 => .int
  | 16 => .boolean
  | 17 => .int
  | _ => .int
abbrev wsX110 : List Cond := u_ws RX11 TX11 19
theorem nmX11 : ∀ a, a < 19 → ∀ b, b < 19 → a ≠ b → (TX11 a).2.1 ≠ (TX11 b).2.1 := by decide +kernel
theorem tyX11_ok : ∀ k, k < 19 → parseFieldDescriptor (TX11 k).2.2.1 = some (tyX11 k) := by decide +kernel
abbrev cX11_init : ByteArray := prog_13_method_1_code
def yX11_init : MethodName := ⟨RX11, "<init>", "()V"⟩
abbrev cX11_can : ByteArray := prog_13_method_2_code
def yX11_can : MethodName := ⟨RX11, "can", "()Z"⟩
abbrev cX11_lender : ByteArray := prog_13_method_3_code
def yX11_lender : MethodName := ⟨RX11, "lender", "()LBucketBrigadeLaw$Lane;"⟩
abbrev cX11_order : ByteArray := prog_13_method_4_code
def yX11_order : MethodName := ⟨RX11, "order", "()I"⟩
abbrev cX11_pop : ByteArray := prog_13_method_5_code
def yX11_pop : MethodName := ⟨RX11, "pop", "()V"⟩
def RX12 : String := "BucketBrigadeLaw$Sim"
def TX12 : u_T := fun k => match k with
  | 0 => ("BucketBrigadeLaw$Sim", "minute", "I", false)
  | 1 => ("BucketBrigadeLaw$Sim", "well", "I", false)
  | 2 => ("BucketBrigadeLaw$Sim", "came", "I", false)
  | 3 => ("BucketBrigadeLaw$Sim", "done", "I", false)
  | 4 => ("BucketBrigadeLaw$Sim", "spare", "I", false)
  | 5 => ("BucketBrigadeLaw$Sim", "lanes", "[LBucketBrigadeLaw$Lane;", false)
  | 6 => ("BucketBrigadeLaw$Sim", "folk", "[[I", false)
  | _ => ("BucketBrigadeLaw$Sim", "orders", "[[I", false)
def tyX12 : Nat → FieldType := fun k => match k with
  | 0 => .int
  | 1 => .int
  | 2 => .int
  | 3 => .int
  | 4 => .int
  | 5 => .array (.object "BucketBrigadeLaw$Lane")
  | 6 => .array (.array .int)
  | _ => .array (.array .int)
abbrev wsX120 : List Cond := u_ws RX12 TX12 8
theorem nmX12 : ∀ a, a < 8 → ∀ b, b < 8 → a ≠ b → (TX12 a).2.1 ≠ (TX12 b).2.1 := by decide +kernel
theorem tyX12_ok : ∀ k, k < 8 → parseFieldDescriptor (TX12 k).2.2.1 = some (tyX12 k) := by decide +kernel
abbrev cX12_init : ByteArray := prog_14_method_1_code
def yX12_init : MethodName := ⟨RX12, "<init>", "()V"⟩
abbrev cX12_bring : ByteArray := prog_14_method_3_code
def yX12_bring : MethodName := ⟨RX12, "bring", "(LBucketBrigadeLaw$Lane;I)I"⟩
abbrev cX12_value : ByteArray := prog_14_method_4_code
def yX12_value : MethodName := ⟨RX12, "value", "(ILBucketBrigadeLaw$Lane;I)I"⟩
abbrev cX12_told : ByteArray := prog_14_method_5_code
def yX12_told : MethodName := ⟨RX12, "told", "(III)Ljava/lang/String;"⟩
abbrev cX12_holds : ByteArray := prog_14_method_6_code
def yX12_holds : MethodName := ⟨RX12, "holds", "(III)Z"⟩
abbrev cX12_test : ByteArray := prog_14_method_7_code
def yX12_test : MethodName := ⟨RX12, "test", "(III)Ljava/lang/String;"⟩
abbrev cX12_pass : ByteArray := prog_14_method_8_code
def yX12_pass : MethodName := ⟨RX12, "pass", "()V"⟩
abbrev cX12_behind : ByteArray := prog_14_method_9_code
def yX12_behind : MethodName := ⟨RX12, "behind", "(I)LBucketBrigadeLaw$Sim;"⟩
abbrev cX12_counted : ByteArray := prog_14_method_10_code
def yX12_counted : MethodName := ⟨RX12, "counted", "(I)I"⟩
abbrev cX12_isSame : ByteArray := prog_14_method_11_code
def yX12_isSame : MethodName := ⟨RX12, "isSame", "(LBucketBrigade;)Z"⟩
abbrev cX12_text : ByteArray := prog_14_method_12_code
def yX12_text : MethodName := ⟨RX12, "text", "()Ljava/lang/String;"⟩
def RX13 : String := "BucketBrigadeModel$Reader"
def TX13 : u_T := fun k => match k with
  | _ => ("", "", "", false)
def tyX13 : Nat → FieldType := fun k => match k with
  | _ => .int
abbrev wsX130 : List Cond := u_ws RX13 TX13 0
theorem nmX13 : ∀ a, a < 0 → ∀ b, b < 0 → a ≠ b → (TX13 a).2.1 ≠ (TX13 b).2.1 := by decide +kernel
theorem tyX13_ok : ∀ k, k < 0 → parseFieldDescriptor (TX13 k).2.2.1 = some (tyX13 k) := by decide +kernel
def RX14 : String := "BucketBrigadeModel$Told"
def TX14 : u_T := fun k => match k with
  | _ => ("", "", "", false)
def tyX14 : Nat → FieldType := fun k => match k with
  | _ => .int
abbrev wsX140 : List Cond := u_ws RX14 TX14 0
theorem nmX14 : ∀ a, a < 0 → ∀ b, b < 0 → a ≠ b → (TX14 a).2.1 ≠ (TX14 b).2.1 := by decide +kernel
theorem tyX14_ok : ∀ k, k < 0 → parseFieldDescriptor (TX14 k).2.2.1 = some (tyX14 k) := by decide +kernel
def RX15 : String := "BucketBrigadeModel"
def TX15 : u_T := fun k => match k with
  | _ => ("", "", "", false)
def tyX15 : Nat → FieldType := fun k => match k with
  | _ => .int
abbrev wsX150 : List Cond := u_ws RX15 TX15 0
theorem nmX15 : ∀ a, a < 0 → ∀ b, b < 0 → a ≠ b → (TX15 a).2.1 ≠ (TX15 b).2.1 := by decide +kernel
theorem tyX15_ok : ∀ k, k < 0 → parseFieldDescriptor (TX15 k).2.2.1 = some (tyX15 k) := by decide +kernel
def RJ5 : String := "java/lang/AbstractStringBuilder"
def TJ5 : u_T := fun k => match k with
  | _ => ("", "", "", false)
def tyJ5 : Nat → FieldType := fun k => match k with
  | _ => .int
abbrev wsJ50 : List Cond := u_ws RJ5 TJ5 0
theorem nmJ5 : ∀ a, a < 0 → ∀ b, b < 0 → a ≠ b → (TJ5 a).2.1 ≠ (TJ5 b).2.1 := by decide +kernel
theorem tyJ5_ok : ∀ k, k < 0 → parseFieldDescriptor (TJ5 k).2.2.1 = some (tyJ5 k) := by decide +kernel
abbrev cJ5_init_d00df : ByteArray := prog_18_method_2_code
def yJ5_init_d00df : MethodName := ⟨RJ5, "<init>", "(I)V"⟩
abbrev cJ5_length_8abf5 : ByteArray := prog_18_method_6_code
def yJ5_length_8abf5 : MethodName := ⟨RJ5, "length", "()I"⟩
abbrev cJ5_ensureCapacityInternal_d00df : ByteArray := prog_18_method_9_code
def yJ5_ensureCapacityInternal_d00df : MethodName := ⟨RJ5, "ensureCapacityInternal", "(I)V"⟩
abbrev cJ5_newCapacity_0f7a4 : ByteArray := prog_18_method_10_code
def yJ5_newCapacity_0f7a4 : MethodName := ⟨RJ5, "newCapacity", "(I)I"⟩
abbrev cJ5_inflate_da8c8 : ByteArray := prog_18_method_11_code
def yJ5_inflate_da8c8 : MethodName := ⟨RJ5, "inflate", "()V"⟩
abbrev cJ5_append_cf1ce : ByteArray := prog_18_method_22_code
def yJ5_append_cf1ce : MethodName := ⟨RJ5, "append", "(Ljava/lang/String;)Ljava/lang/AbstractStringBuilder;"⟩
abbrev cJ5_appendNull_278bc : ByteArray := prog_18_method_26_code
def yJ5_appendNull_278bc : MethodName := ⟨RJ5, "appendNull", "()Ljava/lang/AbstractStringBuilder;"⟩
abbrev cJ5_append_c97b9 : ByteArray := prog_18_method_32_code
def yJ5_append_c97b9 : MethodName := ⟨RJ5, "append", "(I)Ljava/lang/AbstractStringBuilder;"⟩
abbrev cJ5_getValue_6d5f1 : ByteArray := prog_18_method_64_code
def yJ5_getValue_6d5f1 : MethodName := ⟨RJ5, "getValue", "()[B"⟩
abbrev cJ5_isLatin1_aae02 : ByteArray := prog_18_method_68_code
def yJ5_isLatin1_aae02 : MethodName := ⟨RJ5, "isLatin1", "()Z"⟩
abbrev cJ5_inflateIfNeededFor_a7421 : ByteArray := prog_18_method_71_code
def yJ5_inflateIfNeededFor_a7421 : MethodName := ⟨RJ5, "inflateIfNeededFor", "(Ljava/lang/String;)V"⟩
abbrev cJ5_putStringAt_47b60 : ByteArray := prog_18_method_73_code
def yJ5_putStringAt_47b60 : MethodName := ⟨RJ5, "putStringAt", "(ILjava/lang/String;)V"⟩
def RJ6 : String := "java/lang/Integer"
def TJ6 : u_T := fun k => match k with
  | _ => ("", "", "", false)
def tyJ6 : Nat → FieldType := fun k => match k with
  | _ => .int
abbrev wsJ60 : List Cond := u_ws RJ6 TJ6 0
theorem nmJ6 : ∀ a, a < 0 → ∀ b, b < 0 → a ≠ b → (TJ6 a).2.1 ≠ (TJ6 b).2.1 := by decide +kernel
theorem tyJ6_ok : ∀ k, k < 0 → parseFieldDescriptor (TJ6 k).2.2.1 = some (tyJ6 k) := by decide +kernel
abbrev cJ6_getChars_ba4f3 : ByteArray := prog_24_method_12_code
def yJ6_getChars_ba4f3 : MethodName := ⟨RJ6, "getChars", "(II[B)I"⟩
abbrev cJ6_stringSize_0f7a4 : ByteArray := prog_24_method_13_code
def yJ6_stringSize_0f7a4 : MethodName := ⟨RJ6, "stringSize", "(I)I"⟩
def RJ9 : String := "java/lang/Math"
def TJ9 : u_T := fun k => match k with
  | _ => ("", "", "", false)
def tyJ9 : Nat → FieldType := fun k => match k with
  | _ => .int
abbrev wsJ90 : List Cond := u_ws RJ9 TJ9 0
theorem nmJ9 : ∀ a, a < 0 → ∀ b, b < 0 → a ≠ b → (TJ9 a).2.1 ≠ (TJ9 b).2.1 := by decide +kernel
theorem tyJ9_ok : ∀ k, k < 0 → parseFieldDescriptor (TJ9 k).2.2.1 = some (tyJ9 k) := by decide +kernel
abbrev cJ9_max_7cf53 : ByteArray := prog_25_method_65_code
def yJ9_max_7cf53 : MethodName := ⟨RJ9, "max", "(II)I"⟩
abbrev cJ9_min_7cf53 : ByteArray := prog_25_method_69_code
def yJ9_min_7cf53 : MethodName := ⟨RJ9, "min", "(II)I"⟩
def RJ0 : String := "java/lang/String"
def TJ0 : u_T := fun k => match k with
  | 0 => ("java/lang/String", "value", "[B", true)
  | 1 => ("java/lang/String", "coder", "B", true)
  | 2 => ("java/lang/String", "hash", "I", false)
  | _ => ("java/lang/String", "hashIsZero", "Z", false)
def tyJ0 : Nat → FieldType := fun k => match k with
  | 0 => .array .byte
  | 1 => .byte
  | 2 => .int
  | _ => .boolean
abbrev wsJ00 : List Cond := u_ws RJ0 TJ0 4
theorem nmJ0 : ∀ a, a < 4 → ∀ b, b < 4 → a ≠ b → (TJ0 a).2.1 ≠ (TJ0 b).2.1 := by decide +kernel
theorem tyJ0_ok : ∀ k, k < 4 → parseFieldDescriptor (TJ0 k).2.2.1 = some (tyJ0 k) := by decide +kernel
abbrev cJ0_init_81219 : ByteArray := prog_27_method_53_code
def yJ0_init_81219 : MethodName := ⟨RJ0, "<init>", "(Ljava/lang/StringBuilder;)V"⟩
abbrev cJ0_length_8abf5 : ByteArray := prog_27_method_54_code
def yJ0_length_8abf5 : MethodName := ⟨RJ0, "length", "()I"⟩
abbrev cJ0_charAt_5068e : ByteArray := prog_27_method_56_code
def yJ0_charAt_5068e : MethodName := ⟨RJ0, "charAt", "(I)C"⟩
abbrev cJ0_getBytes_840e7 : ByteArray := prog_27_method_147_code
def yJ0_getBytes_840e7 : MethodName := ⟨RJ0, "getBytes", "([BIB)V"⟩
abbrev cJ0_init_db425 : ByteArray := prog_27_method_150_code
def yJ0_init_db425 : MethodName := ⟨RJ0, "<init>", "(Ljava/lang/AbstractStringBuilder;Ljava/lang/Void;)V"⟩
abbrev cJ0_coder_7d493 : ByteArray := prog_27_method_152_code
def yJ0_coder_7d493 : MethodName := ⟨RJ0, "coder", "()B"⟩
abbrev cJ0_isLatin1_aae02 : ByteArray := prog_27_method_154_code
def yJ0_isLatin1_aae02 : MethodName := ⟨RJ0, "isLatin1", "()Z"⟩
abbrev cJ0_checkIndex_df160 : ByteArray := prog_27_method_155_code
def yJ0_checkIndex_df160 : MethodName := ⟨RJ0, "checkIndex", "(II)V"⟩
abbrev cJ0_checkBoundsOffCount_cabcc : ByteArray := prog_27_method_157_code
def yJ0_checkBoundsOffCount_cabcc : MethodName := ⟨RJ0, "checkBoundsOffCount", "(III)I"⟩
abbrev cJ0_checkBoundsBeginEnd_23922 : ByteArray := prog_27_method_158_code
def yJ0_checkBoundsBeginEnd_23922 : MethodName := ⟨RJ0, "checkBoundsBeginEnd", "(III)V"⟩
def RJ4 : String := "java/lang/StringBuilder"
def TJ4 : u_T := fun k => match k with
  | 0 => ("java/lang/AbstractStringBuilder", "value", "[B", false)
  | 1 => ("java/lang/AbstractStringBuilder", "coder", "B", false)
  | 2 => ("java/lang/AbstractStringBuilder", "maybeLatin1", "Z", false)
  | _ => ("java/lang/AbstractStringBuilder", "count", "I", false)
def tyJ4 : Nat → FieldType := fun k => match k with
  | 0 => .array .byte
  | 1 => .byte
  | 2 => .boolean
  | _ => .int
abbrev wsJ40 : List Cond := u_ws RJ4 TJ4 4
theorem nmJ4 : ∀ a, a < 4 → ∀ b, b < 4 → a ≠ b → (TJ4 a).2.1 ≠ (TJ4 b).2.1 := by decide +kernel
theorem tyJ4_ok : ∀ k, k < 4 → parseFieldDescriptor (TJ4 k).2.2.1 = some (tyJ4 k) := by decide +kernel
abbrev cJ4_init_da8c8 : ByteArray := prog_28_method_1_code
def yJ4_init_da8c8 : MethodName := ⟨RJ4, "<init>", "()V"⟩
abbrev cJ4_append_15ec4 : ByteArray := prog_28_method_7_code
def yJ4_append_15ec4 : MethodName := ⟨RJ4, "append", "(Ljava/lang/String;)Ljava/lang/StringBuilder;"⟩
abbrev cJ4_append_bf812 : ByteArray := prog_28_method_15_code
def yJ4_append_bf812 : MethodName := ⟨RJ4, "append", "(I)Ljava/lang/StringBuilder;"⟩
abbrev cJ4_toString_0e30d : ByteArray := prog_28_method_42_code
def yJ4_toString_0e30d : MethodName := ⟨RJ4, "toString", "()Ljava/lang/String;"⟩
abbrev cJ4_length_8abf5 : ByteArray := prog_28_method_93_code
def yJ4_length_8abf5 : MethodName := ⟨RJ4, "length", "()I"⟩
def RJ1 : String := "java/lang/StringLatin1"
def TJ1 : u_T := fun k => match k with
  | _ => ("", "", "", false)
def tyJ1 : Nat → FieldType := fun k => match k with
  | _ => .int
abbrev wsJ10 : List Cond := u_ws RJ1 TJ1 0
theorem nmJ1 : ∀ a, a < 0 → ∀ b, b < 0 → a ≠ b → (TJ1 a).2.1 ≠ (TJ1 b).2.1 := by decide +kernel
theorem tyJ1_ok : ∀ k, k < 0 → parseFieldDescriptor (TJ1 k).2.2.1 = some (tyJ1 k) := by decide +kernel
abbrev cJ1_charAt_3b067 : ByteArray := prog_29_method_2_code
def yJ1_charAt_3b067 : MethodName := ⟨RJ1, "charAt", "([BI)C"⟩
abbrev cJ1_inflate_0e8fd : ByteArray := prog_29_method_50_code
def yJ1_inflate_0e8fd : MethodName := ⟨RJ1, "inflate", "([BI[BII)V"⟩
def RJ2 : String := "java/lang/StringUTF16"
def TJ2 : u_T := fun k => match k with
  | _ => ("", "", "", false)
def tyJ2 : Nat → FieldType := fun k => match k with
  | _ => .int
abbrev wsJ20 : List Cond := u_ws RJ2 TJ2 0
theorem nmJ2 : ∀ a, a < 0 → ∀ b, b < 0 → a ≠ b → (TJ2 a).2.1 ≠ (TJ2 b).2.1 := by decide +kernel
theorem tyJ2_ok : ∀ k, k < 0 → parseFieldDescriptor (TJ2 k).2.2.1 = some (tyJ2 k) := by decide +kernel
abbrev cJ2_newBytesFor_77867 : ByteArray := prog_30_method_2_code
def yJ2_newBytesFor_77867 : MethodName := ⟨RJ2, "newBytesFor", "(I)[B"⟩
abbrev cJ2_newBytesLength_0f7a4 : ByteArray := prog_30_method_3_code
def yJ2_newBytesLength_0f7a4 : MethodName := ⟨RJ2, "newBytesLength", "(I)I"⟩
abbrev cJ2_putChar_b72d1 : ByteArray := prog_30_method_4_code
def yJ2_putChar_b72d1 : MethodName := ⟨RJ2, "putChar", "([BII)V"⟩
abbrev cJ2_getChar_3b067 : ByteArray := prog_30_method_5_code
def yJ2_getChar_3b067 : MethodName := ⟨RJ2, "getChar", "([BI)C"⟩
abbrev cJ2_length_9d52b : ByteArray := prog_30_method_6_code
def yJ2_length_9d52b : MethodName := ⟨RJ2, "length", "([B)I"⟩
abbrev cJ2_coderFromArrayLen_85cad : ByteArray := prog_30_method_15_code
def yJ2_coderFromArrayLen_85cad : MethodName := ⟨RJ2, "coderFromArrayLen", "([BI)B"⟩
abbrev cJ2_compress_39247 : ByteArray := prog_30_method_17_code
def yJ2_compress_39247 : MethodName := ⟨RJ2, "compress", "([BII)[B"⟩
abbrev cJ2_compress_5af95 : ByteArray := prog_30_method_22_code
def yJ2_compress_5af95 : MethodName := ⟨RJ2, "compress", "([BI[BII)I"⟩
abbrev cJ2_getChars_46870 : ByteArray := prog_30_method_77_code
def yJ2_getChars_46870 : MethodName := ⟨RJ2, "getChars", "(III[B)I"⟩
abbrev cJ2_putCharsAt_cd4e5 : ByteArray := prog_30_method_81_code
def yJ2_putCharsAt_cd4e5 : MethodName := ⟨RJ2, "putCharsAt", "([BICCCC)I"⟩
abbrev cJ2_charAt_3b067 : ByteArray := prog_30_method_83_code
def yJ2_charAt_3b067 : MethodName := ⟨RJ2, "charAt", "([BI)C"⟩
abbrev cJ2_inflate_0e8fd : ByteArray := prog_30_method_86_code
def yJ2_inflate_0e8fd : MethodName := ⟨RJ2, "inflate", "([BI[BII)V"⟩
abbrev cJ2_getChars_ba4f3 : ByteArray := prog_30_method_89_code
def yJ2_getChars_ba4f3 : MethodName := ⟨RJ2, "getChars", "(II[B)I"⟩
abbrev cJ2_checkIndex_2214a : ByteArray := prog_30_method_91_code
def yJ2_checkIndex_2214a : MethodName := ⟨RJ2, "checkIndex", "(I[B)V"⟩
abbrev cJ2_checkBoundsBeginEnd_d044e : ByteArray := prog_30_method_93_code
def yJ2_checkBoundsBeginEnd_d044e : MethodName := ⟨RJ2, "checkBoundsBeginEnd", "(II[B)V"⟩
abbrev cJ2_checkBoundsOffCount_d044e : ByteArray := prog_30_method_94_code
def yJ2_checkBoundsOffCount_d044e : MethodName := ⟨RJ2, "checkBoundsOffCount", "(II[B)V"⟩
def RJ10 : String := "java/lang/System"
def TJ10 : u_T := fun k => match k with
  | _ => ("", "", "", false)
def tyJ10 : Nat → FieldType := fun k => match k with
  | _ => .int
abbrev wsJ100 : List Cond := u_ws RJ10 TJ10 0
theorem nmJ10 : ∀ a, a < 0 → ∀ b, b < 0 → a ≠ b → (TJ10 a).2.1 ≠ (TJ10 b).2.1 := by decide +kernel
theorem tyJ10_ok : ∀ k, k < 0 → parseFieldDescriptor (TJ10 k).2.2.1 = some (tyJ10 k) := by decide +kernel
def RJ7 : String := "java/util/Arrays"
def TJ7 : u_T := fun k => match k with
  | _ => ("", "", "", false)
def tyJ7 : Nat → FieldType := fun k => match k with
  | _ => .int
abbrev wsJ70 : List Cond := u_ws RJ7 TJ7 0
theorem nmJ7 : ∀ a, a < 0 → ∀ b, b < 0 → a ≠ b → (TJ7 a).2.1 ≠ (TJ7 b).2.1 := by decide +kernel
theorem tyJ7_ok : ∀ k, k < 0 → parseFieldDescriptor (TJ7 k).2.2.1 = some (tyJ7 k) := by decide +kernel
abbrev cJ7_copyOf_9075b : ByteArray := prog_33_method_121_code
def yJ7_copyOf_9075b : MethodName := ⟨RJ7, "copyOf", "([BI)[B"⟩
abbrev cJ7_checkLength_df160 : ByteArray := prog_33_method_131_code
def yJ7_checkLength_df160 : MethodName := ⟨RJ7, "checkLength", "(II)V"⟩
abbrev cJ7_copyOfRange_39247 : ByteArray := prog_33_method_132_code
def yJ7_copyOfRange_39247 : MethodName := ⟨RJ7, "copyOfRange", "([BII)[B"⟩
abbrev cJ7_copyOfRangeByte_39247 : ByteArray := prog_33_method_133_code
def yJ7_copyOfRangeByte_39247 : MethodName := ⟨RJ7, "copyOfRangeByte", "([BII)[B"⟩
def RJ8 : String := "jdk/internal/util/ArraysSupport"
def TJ8 : u_T := fun k => match k with
  | _ => ("", "", "", false)
def tyJ8 : Nat → FieldType := fun k => match k with
  | _ => .int
abbrev wsJ80 : List Cond := u_ws RJ8 TJ8 0
theorem nmJ8 : ∀ a, a < 0 → ∀ b, b < 0 → a ≠ b → (TJ8 a).2.1 ≠ (TJ8 b).2.1 := by decide +kernel
theorem tyJ8_ok : ∀ k, k < 0 → parseFieldDescriptor (TJ8 k).2.2.1 = some (tyJ8 k) := by decide +kernel
abbrev cJ8_newLength_cabcc : ByteArray := prog_34_method_27_code
def yJ8_newLength_cabcc : MethodName := ⟨RJ8, "newLength", "(III)I"⟩
abbrev cJ8_hugeLength_7cf53 : ByteArray := prog_34_method_28_code
def yJ8_hugeLength_7cf53 : MethodName := ⟨RJ8, "hugeLength", "(II)I"⟩
def RJ3 : String := "jdk/internal/util/Preconditions"
def TJ3 : u_T := fun k => match k with
  | _ => ("", "", "", false)
def tyJ3 : Nat → FieldType := fun k => match k with
  | _ => .int
abbrev wsJ30 : List Cond := u_ws RJ3 TJ3 0
theorem nmJ3 : ∀ a, a < 0 → ∀ b, b < 0 → a ≠ b → (TJ3 a).2.1 ≠ (TJ3 b).2.1 := by decide +kernel
theorem tyJ3_ok : ∀ k, k < 0 → parseFieldDescriptor (TJ3 k).2.2.1 = some (tyJ3 k) := by decide +kernel
abbrev cJ3_checkIndex_8e157 : ByteArray := prog_35_method_11_code
def yJ3_checkIndex_8e157 : MethodName := ⟨RJ3, "checkIndex", "(IILjava/util/function/BiFunction;)I"⟩
abbrev cJ3_checkFromToIndex_8c36e : ByteArray := prog_35_method_12_code
def yJ3_checkFromToIndex_8c36e : MethodName := ⟨RJ3, "checkFromToIndex", "(IIILjava/util/function/BiFunction;)I"⟩
abbrev cJ3_checkFromIndexSize_8c36e : ByteArray := prog_35_method_13_code
def yJ3_checkFromIndexSize_8c36e : MethodName := ⟨RJ3, "checkFromIndexSize", "(IIILjava/util/function/BiFunction;)I"⟩
def RL : String := "BucketBrigadeLaw"
abbrev cL_below : ByteArray := method_2_code
def yL_below : MethodName := ⟨RL, "below", "(II)I"⟩
abbrev cL_cell : ByteArray := method_3_code
def yL_cell : MethodName := ⟨RL, "cell", "([II)I"⟩
abbrev cL_say : ByteArray := method_4_code
def yL_say : MethodName := ⟨RL, "say", "(LBucketBrigade;Ljava/lang/String;)I"⟩
abbrev cL_chosen : ByteArray := method_5_code
def yL_chosen : MethodName := ⟨RL, "chosen", "([I)LBucketBrigadeLaw$Sim;"⟩
abbrev cL_act : ByteArray := method_6_code
def yL_act : MethodName := ⟨RL, "act", "(LBucketBrigade;LBucketBrigadeLaw$Sim;I)Z"⟩
abbrev cL_law : ByteArray := code
def yL_law : MethodName := ⟨RL, "law", "([I)Z"⟩
abbrev cL_hasShut : ByteArray := method_8_code
def yL_hasShut : MethodName := ⟨RL, "hasShut", "(LBucketBrigadeLaw$Sim;I)Z"⟩
abbrev vwCl : List vw_C := [(RJ0, TJ0, 4), (RJ4, TJ4, 4), (RX0, TX0, 5), (RX1, TX1, 5), (RX2, TX2, 18), (RX3, TX3, 5), (RX4, TX4, 3), (RX5, TX5, 7), (RX6, TX6, 11), (RX7, TX7, 2), (RX8, TX8, 2), (RX9, TX9, 5), (RX10, TX10, 5), (RX11, TX11, 19), (RX12, TX12, 8)]
end
section
/-! ===== THE HEAP AS MAPS: kinds, lengths, fields by number, arrays, size, slots ===== -/
/-- the tables' words that a callee may be handed -/
def gT : List Cond := lw_tbl.filter goodWord
theorem gT_in (i : Nat) {w : Cond} (h : lw_tbl[i]? = some w) (hg : goodWord w = true) : w ∈ gT := List.mem_filter.mpr ⟨List.mem_of_getElem? h, hg⟩
theorem gT_good : ∀ w ∈ gT, (w.onTables && w.keeps) = true ∨ ∃ ty, w = .arrayClass ty := fun _ h => good_of_word (List.mem_filter.mp h).2
theorem gT_goodIn (ws : List Cond) (h : ∀ w ∈ ws, w ∈ gT) : GoodIn gT ws := fun w hw => ⟨h w hw, gT_good w (h w hw)⟩
abbrev Hp : Type := (Nat → Nat) × (Nat → Nat) × (Nat → Nat → Int32) × (Nat → Nat → Option Nat) × (Nat → Nat → Int32) × (Nat → Nat → Int64) × (Nat → Nat → Option Nat) × Nat × Nat
def h_k (x : Hp) : Nat → Nat := x.1
def h_n (x : Hp) : Nat → Nat := x.2.1
def h_i (x : Hp) : Nat → Nat → Int32 := x.2.2.1
def h_r (x : Hp) : Nat → Nat → Option Nat := x.2.2.2.1
def h_ai (x : Hp) : Nat → Nat → Int32 := x.2.2.2.2.1
def h_al (x : Hp) : Nat → Nat → Int64 := x.2.2.2.2.2.1
def h_ar (x : Hp) : Nat → Nat → Option Nat := x.2.2.2.2.2.2.1
def h_sz (x : Hp) : Nat := x.2.2.2.2.2.2.2.1
def h_sl (x : Hp) : Nat := x.2.2.2.2.2.2.2.2
def u2 {α : Type} (f : Nat → Nat → α) (a b : Nat) (v : α) : Nat → Nat → α := fun a' b' => if a' = a ∧ b' = b then v else f a' b'
/-- writes: a field (its number, the address), a place of an array -/
def p_i (x : Hp) (f a : Nat) (v : Int32) : Hp := (x.1, x.2.1, u2 x.2.2.1 f a v, x.2.2.2)
def p_r (x : Hp) (f a : Nat) (v : Option Nat) : Hp := (x.1, x.2.1, x.2.2.1, u2 x.2.2.2.1 f a v, x.2.2.2.2)
def p_ai (x : Hp) (a j : Nat) (v : Int32) : Hp := (x.1, x.2.1, x.2.2.1, x.2.2.2.1, u2 x.2.2.2.2.1 a j v, x.2.2.2.2.2)
def p_al (x : Hp) (a j : Nat) (v : Int64) : Hp := (x.1, x.2.1, x.2.2.1, x.2.2.2.1, x.2.2.2.2.1, u2 x.2.2.2.2.2.1 a j v, x.2.2.2.2.2.2)
def p_ar (x : Hp) (a j : Nat) (v : Option Nat) : Hp := (x.1, x.2.1, x.2.2.1, x.2.2.2.1, x.2.2.2.2.1, x.2.2.2.2.2.1, u2 x.2.2.2.2.2.2.1 a j v, x.2.2.2.2.2.2.2)
/-- the bytes (or ints) of a whole array at once -/
def p_aw (x : Hp) (a : Nat) (g : Nat → Int32) : Hp := (x.1, x.2.1, x.2.2.1, x.2.2.2.1, fun a' => if a' = a then g else x.2.2.2.2.1 a', x.2.2.2.2.2)
/-- a new cell: its kind, its length, its slots -/
def p_n (x : Hp) (k n w : Nat) : Hp := (fun a => if a = h_sz x then k else x.1 a, fun a => if a = h_sz x then n else x.2.1 a, fun f a => if a = h_sz x then 0 else x.2.2.1 f a, fun f a => if a = h_sz x then none else x.2.2.2.1 f a, fun a j => if a = h_sz x then 0 else x.2.2.2.2.1 a j, fun a j => if a = h_sz x then 0 else x.2.2.2.2.2.1 a j, fun a j => if a = h_sz x then none else x.2.2.2.2.2.2.1 a j, h_sz x + 1, h_sl x + w)
/-- which fields of a class are references, in the order of the slots -/
def gR : Nat → List Bool := fun c => match c with
  | 0 => [true, false, false, false]
  | 1 => [true, false, false, false]
  | 2 => [true, true, false, false, true]
  | 3 => [false, false, false, false, false]
  | 4 => [false, true, true, false, false, false, false, false, false, false, false, false, false, false, false, false, false, false]
  | 5 => [false, false, false, false, false]
  | 6 => [false, true, false]
  | 7 => [true, false, true, true, true, false, false]
  | 8 => [true, false, false, false, false, true, true, true, false, false, false]
  | 9 => [true, false]
  | 10 => [true, false]
  | 11 => [true, true, true, true, false]
  | 12 => [true, true, true, true, false]
  | 13 => [true, false, false, false, false, false, false, false, false, true, false, false, false, false, false, false, false, false, false]
  | 14 => [false, false, false, false, false, true, true, true]
  | _ => []
def fsv (x : Hp) (ci a : Nat) : Nat → List Bool → List Value
  | _, [] => []
  | k, b :: l => (if b = true then va_rf (h_r x (20 * ci + k) a) else .int (h_i x (20 * ci + k) a)) :: fsv x ci a (k + 1) l
def dfl (l : List Bool) : List Value := l.map (fun b => if b = true then .null else .int 0)
/-- arrays: 0 bytes, 1 ints, 2 longs, 3 .. references -/
def apay (x : Hp) (t a : Nat) : (Nat → Int32) ⊕ (Nat → Int64) ⊕ (Nat → UInt32) ⊕ (Nat → UInt64) ⊕ (Nat → Option Nat) := if t = 2 then .inr (.inl (h_al x a)) else if t < 2 then .inl (h_ai x a) else .inr (.inr (.inr (.inr (h_ar x a))))
/-- the kind of a cell: 0 is any; class c is c + 1, an array of sort t is 100 + t; 200 more: a cell from before, that nobody writes -/
def ent (cA : Nat → ClassId) (x : Hp) (a : Nat) : va_E :=
  if h_k x a < 100 then .inr (h_k x a - 1, fsv x (h_k x a - 1) a 0 (gR (h_k x a - 1))) else .inl (cA (h_k x a - 100), h_n x a, apay x (h_k x a - 100) a)
/-- cells from before: Strings, their bytes, the script -/
def oldAt (b0 : Nat) (U : State) (x : Hp) (a : Nat) (H : Heap) : Prop :=
  (h_k x a = 201 → va_O "java/lang/String" a (fun q => b0 ≤ q) U H ∧ va_OF "java/lang/String" "coder" "B" (.int (h_i x 1 a)) a (fun q => b0 ≤ q) U H ∧ va_OF "java/lang/String" "value" "[B" (va_rf (h_r x 0 a)) a (fun q => b0 ≤ q) U H) ∧
  (h_k x a = 300 → va_T .byte a (h_n x a) (fun j => .int (h_ai x a j)) (fun q => b0 ≤ q) U H) ∧
  (h_k x a = 301 → va_T .int a (h_n x a) (fun j => .int (h_ai x a j)) (fun q => b0 ≤ q) U H)
def cellAt (D : va_G) (cA : Nat → ClassId) (b0 : Nat) (U : State) (x : Hp) (a : Nat) (H : Heap) : Prop :=
  (h_k x a ≠ 0 → h_k x a < 200 → va_at D vwCl (a, ent cA x a) H ∧ b0 ≤ a) ∧ (200 ≤ h_k x a → a < b0 ∧ oldAt b0 U x a H)
def Rep (D : va_G) (cA : Nat → ClassId) (b0 : Nat) (U : State) (x : Hp) (H : Heap) : Prop :=
  H.size = h_sz x ∧ b0 ≤ h_sz x ∧ ∀ a, cellAt D cA b0 U x a H
/-- two heaps of maps that agree at an address -/
def Sm (x y : Hp) (a : Nat) : Prop := h_k x a = h_k y a ∧ h_n x a = h_n y a ∧ (∀ f, h_i x f a = h_i y f a) ∧ (∀ f, h_r x f a = h_r y f a) ∧ h_ai x a = h_ai y a ∧ h_al x a = h_al y a ∧ h_ar x a = h_ar y a
/-- the array classes -/
def gTy (cA : Nat → ClassId) : List (ClassId × FieldType) := [(cA 0, .byte), (cA 1, .int), (cA 2, .long), (cA 3, .object "BucketBrigade$Folk"), (cA 4, .object "BucketBrigade$Lane"), (cA 5, .object "BucketBrigade$Order"), (cA 6, .object "BucketBrigadeLaw$Lane"), (cA 7, .array .int)]
theorem oldAt.moved {b0 a : Nat} {u U : State} {x : Hp} {H : Heap} (hvm : u.vm.Alike U.vm) (h : oldAt b0 u x a H) : oldAt b0 U x a H :=
  ⟨fun e => ⟨(h.1 e).1.moved hvm, (h.1 e).2.1.moved hvm, (h.1 e).2.2.moved hvm⟩, fun e => (h.2.1 e).moved hvm, fun e => (h.2.2 e).moved hvm⟩
theorem oldAt.kept {b0 a : Nat} {U : State} {x : Hp} {H H1 : Heap} (h : oldAt b0 U x a H) (hq : ∀ q : Nat, q < H.size → ¬ b0 ≤ q → H1[q]? = H[q]?) : oldAt b0 U x a H1 :=
  ⟨fun e => ⟨(h.1 e).1.kept hq, (h.1 e).2.1.kept hq, (h.1 e).2.2.kept hq⟩, fun e => (h.2.1 e).kept hq, fun e => (h.2.2 e).kept hq⟩
theorem oldAt.same {b0 a : Nat} {U : State} {x y : Hp} {H : Heap} (hs : Sm y x a) (h : oldAt b0 U x a H) : oldAt b0 U y a H := by
  obtain ⟨e1, e2, e3, e4, e5, -, -⟩ := hs
  unfold oldAt at h ⊢
  rw [e1, e2, e3, e4, e5]
  exact h
theorem Rep.moved {D : va_G} {cA : Nat → ClassId} {b0 : Nat} {u U : State} {x : Hp} {H : Heap} (hvm : u.vm.Alike U.vm) (h : Rep D cA b0 u x H) : Rep D cA b0 U x H :=
  ⟨h.1, h.2.1, fun a => ⟨(h.2.2 a).1, fun e => ⟨((h.2.2 a).2 e).1, ((h.2.2 a).2 e).2.moved hvm⟩⟩⟩
theorem Rep.lt {D : va_G} {cA : Nat → ClassId} {b0 a : Nat} {U : State} {x : Hp} {H : Heap} (h : Rep D cA b0 U x H) (ha : h_k x a ≠ 0) : a < h_sz x := by
  by_cases h2 : h_k x a < 200
  · rw [← h.1]
    exact ((h.2.2 a).1 ha h2).1.lt
  · have := ((h.2.2 a).2 (by omega)).1
    have := h.2.1
    omega
theorem fsv_get {x : Hp} {ci a : Nat} : ∀ (l : List Bool) (j k : Nat) (b : Bool), l[k]? = some b → (fsv x ci a j l)[k]? = some (if b = true then va_rf (h_r x (20 * ci + (j + k)) a) else .int (h_i x (20 * ci + (j + k)) a))
  | [], _, _, _, h => by simp at h
  | c :: l, j, 0, b, h => by
    simp at h
    subst h
    simp [fsv]
  | c :: l, j, k + 1, b, h => by
    simp at h
    have := fsv_get (x := x) (ci := ci) (a := a) l (j + 1) k b h
    simp only [fsv, List.getElem?_cons_succ]
    rw [this]
    have e : j + 1 + k = j + (k + 1) := by omega
    rw [e]
theorem fsv_len {x : Hp} {ci a : Nat} : ∀ (l : List Bool) (j : Nat), (fsv x ci a j l).length = l.length
  | [], _ => rfl
  | _ :: l, j => by simp [fsv, fsv_len l (j + 1)]
/-- what a list of fields depends on -/
theorem fsv_congr {x y : Hp} {ci cj a b : Nat} : ∀ (l : List Bool) (j : Nat), (∀ k, j ≤ k → h_i x (20 * ci + k) a = h_i y (20 * cj + k) b) → (∀ k, j ≤ k → h_r x (20 * ci + k) a = h_r y (20 * cj + k) b) → fsv x ci a j l = fsv y cj b j l
  | [], _, _, _ => rfl
  | c :: l, j, h1, h2 => by
    simp only [fsv]
    rw [h1 j (Nat.le_refl _), h2 j (Nat.le_refl _), fsv_congr l (j + 1) (fun k hk => h1 k (by omega)) (fun k hk => h2 k (by omega))]
theorem fsv_pi {x : Hp} {ci a k : Nat} {v : Int32} : ∀ (l : List Bool) (j i : Nat), j + i = k → l[i]? = some false → fsv (p_i x (20 * ci + k) a v) ci a j l = (fsv x ci a j l).set i (.int v)
  | [], _, _, _, h => by simp at h
  | c :: l, j, 0, e, h => by
    simp at h
    subst h
    simp at e
    subst e
    simp only [fsv, List.set_cons_zero]
    congr 1
    · simp [h_i, p_i, u2]
    · refine fsv_congr l (j + 1) (fun k hk => ?_) (fun k hk => rfl)
      have : ¬ k = j := by omega
      simp [h_i, p_i, u2, this]
  | c :: l, j, i + 1, e, h => by
    simp at h
    simp only [fsv, List.set_cons_succ]
    rw [fsv_pi l (j + 1) i (by omega) h]
    congr 1
    have : ¬ j = k := by omega
    simp [h_i, p_i, u2, this, h_r]
theorem fsv_pr {x : Hp} {ci a k : Nat} {v : Option Nat} : ∀ (l : List Bool) (j i : Nat), j + i = k → l[i]? = some true → fsv (p_r x (20 * ci + k) a v) ci a j l = (fsv x ci a j l).set i (va_rf v)
  | [], _, _, _, h => by simp at h
  | c :: l, j, 0, e, h => by
    simp at h
    subst h
    simp at e
    subst e
    simp only [fsv, List.set_cons_zero]
    congr 1
    · simp [h_r, p_r, u2]
    · refine fsv_congr l (j + 1) (fun k hk => rfl) (fun k hk => ?_)
      have : ¬ k = j := by omega
      simp [h_r, p_r, u2, this]
  | c :: l, j, i + 1, e, h => by
    simp at h
    simp only [fsv, List.set_cons_succ]
    rw [fsv_pr l (j + 1) i (by omega) h]
    congr 1
    have : ¬ j = k := by omega
    simp [h_r, p_r, u2, this, h_i]
theorem fsv_new {x : Hp} {ci k n w : Nat} : ∀ (l : List Bool) (j : Nat), fsv (p_n x k n w) ci (h_sz x) j l = dfl l
  | [], _ => rfl
  | c :: l, j => by
    simp only [fsv, dfl, List.map_cons]
    rw [fsv_new l (j + 1)]
    congr 1
    cases c <;> simp [h_i, h_r, p_n, va_rf]
/-- a class's facts: its number, name, fields, how many -/
def Cl (ci : Nat) (C : String) (T : u_T) (N : Nat) (ty : Nat → FieldType) : Prop :=
  vwCl[ci]? = some (C, T, N) ∧ ci < 99 ∧ (∀ w ∈ u_ws C T N, w ∈ gT) ∧ (∀ k, k < N → parseFieldDescriptor (T k).2.2.1 = some (ty k)) ∧ (∀ a, a < N → ∀ b, b < N → a ≠ b → (T a).2.1 ≠ (T b).2.1) ∧ (gR ci).length = N ∧ (∀ j, j < N → defaultValue (ty j) = vp_V (dfl (gR ci)) j)
theorem ent_obj {cA : Nat → ClassId} {x : Hp} {a ci : Nat} (h : h_k x a = ci + 1) (hc : ci < 99) : ent cA x a = .inr (ci, fsv x ci a 0 (gR ci)) := by
  unfold ent
  rw [h, if_pos (by omega)]
  rfl
theorem ent_arr {cA : Nat → ClassId} {x : Hp} {a t : Nat} (h : h_k x a = 100 + t) : ent cA x a = .inl (cA t, h_n x a, apay x t a) := by
  unfold ent
  rw [h, if_neg (by omega)]
  have : 100 + t - 100 = t := by omega
  rw [this]
theorem ent_congr {cA : Nat → ClassId} {x y : Hp} {a : Nat} (hs : Sm x y a) : ent cA x a = ent cA y a := by
  obtain ⟨h1, h2, h3, h4, h5, h6, h7⟩ := hs
  unfold ent apay
  rw [h1, h2, h5, h6, h7, fsv_congr (x := x) (y := y) (cj := h_k y a - 1) (b := a) _ 0 (fun k _ => h3 _) (fun k _ => h4 _)]
/-- a write at one address -/
theorem Rep.put {D : va_G} {cA : Nat → ClassId} {b0 a : Nat} {U : State} {x y : Hp} {H H1 : Heap} (h : Rep D cA b0 U x H) (z : H1.size = H.size) (o : ∀ q : Nat, q ≠ a → H1[q]? = H[q]?) (hk0 : h_k x a ≠ 0) (hk2 : h_k x a < 200) (e1 : h_sz y = h_sz x) (e2 : h_k y a = h_k x a) (e3 : ∀ q, q ≠ a → Sm y x q) (e4 : va_at D vwCl (a, ent cA y a) H1) : Rep D cA b0 U y H1 := by
  have hb : b0 ≤ a := ((h.2.2 a).1 hk0 hk2).2
  refine ⟨by rw [z, e1]; exact h.1, by rw [e1]; exact h.2.1, fun q => ?_⟩
  by_cases hqa : q = a
  · subst hqa
    refine ⟨fun _ _ => ⟨e4, hb⟩, fun h2 => ?_⟩
    rw [e2] at h2
    omega
  · have hs := e3 q hqa
    refine ⟨fun h1 h2 => ?_, fun h2 => ?_⟩
    · rw [hs.1] at h1 h2
      have h3 := (h.2.2 q).1 h1 h2
      rw [ent_congr hs]
      exact ⟨h3.1.kept (o q hqa), h3.2⟩
    · rw [hs.1] at h2
      have h3 := (h.2.2 q).2 h2
      exact ⟨h3.1, (h3.2.kept (fun q' _ hq' => o q' (fun e => hq' (by rw [e]; exact hb)))).same hs⟩
theorem Sm_pn {x : Hp} {k n w q : Nat} (h : q ≠ h_sz x) : Sm (p_n x k n w) x q :=
  ⟨by simp [h_k, p_n, h], by simp [h_n, p_n, h], fun f => by simp [h_i, p_n, h], fun f => by simp [h_r, p_n, h], by funext j; simp [h_ai, p_n, h], by funext j; simp [h_al, p_n, h], by funext j; simp [h_ar, p_n, h]⟩
theorem Rep.push {D : va_G} {cA : Nat → ClassId} {b0 k n w : Nat} {U : State} {x : Hp} {H H1 : Heap} (h : Rep D cA b0 U x H) (z : H1.size = H.size + 1) (o : ∀ q : Nat, q < H.size → H1[q]? = H[q]?) (hk : k < 200) (e4 : va_at D vwCl (h_sz x, ent cA (p_n x k n w) (h_sz x)) H1) : Rep D cA b0 U (p_n x k n w) H1 := by
  have hz := h.1
  have hb := h.2.1
  refine ⟨?_, ?_, fun q => ?_⟩
  · show H1.size = h_sz x + 1
    omega
  · show b0 ≤ h_sz x + 1
    omega
  · by_cases hqa : q = h_sz x
    · subst hqa
      refine ⟨fun _ _ => ⟨e4, hb⟩, fun h2 => ?_⟩
      have : h_k (p_n x k n w) (h_sz x) = k := by simp [h_k, p_n]
      omega
    · have hs : Sm (p_n x k n w) x q := Sm_pn hqa
      refine ⟨fun h1 h2 => ?_, fun h2 => ?_⟩
      · rw [hs.1] at h1 h2
        have h3 := (h.2.2 q).1 h1 h2
        rw [ent_congr hs]
        exact ⟨h3.1.kept (o q (by rw [hz]; exact h.lt h1)), h3.2⟩
      · rw [hs.1] at h2
        have h3 := (h.2.2 q).2 h2
        exact ⟨h3.1, (h3.2.kept (fun q' hq _ => o q' hq)).same hs⟩
theorem Rep.at_obj {D : va_G} {cA : Nat → ClassId} {b0 a ci : Nat} {U : State} {x : Hp} {H : Heap} (h : Rep D cA b0 U x H) (hk : h_k x a = ci + 1) (hc : ci < 99) : va_P D vwCl [(a, .inr (ci, fsv x ci a 0 (gR ci)))] H := by
  have h1 := ((h.2.2 a).1 (by omega) (by omega)).1
  rw [ent_obj hk hc] at h1
  intro k q hq
  have hz : k < 1 := (List.getElem?_eq_some_iff.mp hq).1
  rw [show k = 0 by omega] at hq
  cases hq
  exact h1
theorem Rep.at_arr {D : va_G} {cA : Nat → ClassId} {b0 a t : Nat} {U : State} {x : Hp} {H : Heap} (h : Rep D cA b0 U x H) (hk : h_k x a = 100 + t) (ht : t < 99) : H[a]? = some (vp_cell (cA t) (h_n x a, apay x t a)) := by
  have h1 := ((h.2.2 a).1 (by omega) (by omega)).1
  rw [ent_arr hk] at h1
  exact h1
/-! ===== END the heap as maps ===== -/
end
section
/-! ===== A METHOD AS A FUNCTION ON MAPS; G: the machine, from here, does what the function says ===== -/
/-- the String constants that the run reads: class, entry, text, number -/
def gStr : List (String × Nat × String × Nat) := [("BucketBrigade$Tokens", 25, "well lane under rate most burst rank holds drops old new folk to brings every from raise cap shut when minute spare tokens waits sent lost lent full dry not and or min max ", 0), ("BucketBrigadeLaw$Sim", 226, "well 3;well ", 1), ("BucketBrigadeLaw$Sim", 228, ";", 2), ("BucketBrigadeLaw$Sim", 230, "lane l", 3), ("BucketBrigadeLaw$Sim", 232, " under l", 4), ("BucketBrigadeLaw$Sim", 234, " rate ", 5), ("BucketBrigadeLaw$Sim", 236, " most ", 6), ("BucketBrigadeLaw$Sim", 238, " burst ", 7), ("BucketBrigadeLaw$Sim", 240, " rank ", 8), ("BucketBrigadeLaw$Sim", 242, " holds ", 9), ("BucketBrigadeLaw$Sim", 244, " drops ", 10), ("BucketBrigadeLaw$Sim", 246, "old", 11), ("BucketBrigadeLaw$Sim", 248, "new", 12), ("BucketBrigadeLaw$Sim", 250, ";\n", 13), ("BucketBrigadeLaw$Sim", 252, "folk f", 14), ("BucketBrigadeLaw$Sim", 254, " to l", 15), ("BucketBrigadeLaw$Sim", 256, " brings ", 16), ("BucketBrigadeLaw$Sim", 258, " every ", 17), ("BucketBrigadeLaw$Sim", 260, " from ", 18), ("BucketBrigadeLaw$Sim", 262, "raise l", 19), ("BucketBrigadeLaw$Sim", 264, "cap l", 20), ("BucketBrigadeLaw$Sim", 266, "shut l", 21), ("BucketBrigadeLaw$Sim", 268, " to ", 22), ("BucketBrigadeLaw$Sim", 108, "", 23), ("BucketBrigadeLaw$Sim", 121, "minute - ", 24), ("BucketBrigadeLaw$Sim", 123, "spare+tokens l", 25), ("BucketBrigadeLaw$Sim", 125, "waits l", 26), ("BucketBrigadeLaw$Sim", 127, " * 2 - ", 27), ("BucketBrigadeLaw$Sim", 129, "sent l", 28), ("BucketBrigadeLaw$Sim", 131, "/2", 29), ("BucketBrigadeLaw$Sim", 133, "lost l", 30), ("BucketBrigadeLaw$Sim", 135, " - lent l", 31), ("BucketBrigadeLaw$Sim", 137, "min(", 32), ("BucketBrigadeLaw$Sim", 139, ",30 - tokens l", 33), ("BucketBrigadeLaw$Sim", 141, ")", 34), ("BucketBrigadeLaw$Sim", 270, " when ", 35), ("BucketBrigadeLaw$Sim", 147, "full l", 36), ("BucketBrigadeLaw$Sim", 149, "not dry l", 37), ("BucketBrigadeLaw$Sim", 151, "minute >= ", 38), ("BucketBrigadeLaw$Sim", 153, "dry l", 39), ("BucketBrigadeLaw$Sim", 155, " or spare < ", 40), ("BucketBrigadeLaw$Sim", 157, "[not full l", 41), ("BucketBrigadeLaw$Sim", 159, " and minute / 4 * 4 = minute]", 42), ("BucketBrigadeLaw$Sim", 165, " > ", 43), ("BucketBrigadeLaw$Sim", 167, "2 > 1", 44), ("BucketBrigadeLaw$Sim", 275, "; ", 45)]
/-- a formatter, that is only handed on -/
def zfm (z : Nat → Nat) : Option Nat := if z 103 = 0 then none else some (z 102)
/-- the JDK's statics that it reads: class, name, type, value -/
def gZs (z : Nat → Nat) : List (String × String × String × Value) := [("java/lang/String", "COMPACT_STRINGS", "Z", .int 1), ("java/lang/Integer", "DigitTens", "[B", .ref (z 100)), ("java/lang/Integer", "DigitOnes", "[B", .ref (z 101)), ("jdk/internal/util/Preconditions", "SIOOBE_FORMATTER", "Ljava/util/function/BiFunction;", va_rf (zfm z))]
/-- methods of other classes of a nest -/
def gNw : List Cond := tables_1.filter (fun w => match w with | .methodLinkNest _ _ _ _ => true | _ => false)
/-- arrays of references of which the tables tell -/
def gAO : List String := ["BucketBrigade$Order", "BucketBrigade$Lane", "BucketBrigade$Folk", "BucketBrigadeLaw$Lane"]
def va_AI (U : State) : Prop := (Cond.arrayOver (.array .int)).before #[] U = true
theorem va_AI.moved {u U : State} (hvm : u.vm.Alike U.vm) (h : va_AI u) : va_AI U := over_moved hvm h
/-- what a walk may lean on: the classes, the nest, the strings, the statics, the arrays -/
def Ev (z : Nat → Nat) (D : va_G) (cA : Nat → ClassId) (b0 : Nat) (U : State) : Prop :=
  va_K D vwCl (gTy cA) U ∧ (∀ w ∈ gNw, va_Nw w U) ∧ (∀ q ∈ gStr, vk_R q.1 q.2.1 q.2.2.1 (z q.2.2.2) U) ∧ (∀ q ∈ gZs z, va_Z q.1 q.2.1 q.2.2.1 q.2.2.2 (fun a => b0 ≤ a) U U.heap) ∧ (∀ C ∈ gAO, va_AO C U) ∧ va_AI U ∧ va_Nw (.castable "[B" "java/lang/Cloneable") U
/-- code, class, name, locals, how it returns, frames -/
abbrev Mt : Type := ByteArray × String × String × Nat × Instr × Nat
def Cx (z : Nat → Nat) (M : Mt) (D : va_G) (cA : Nat → ClassId) (b0 : Nat) (p : Program) (R : Room) (s : State) (m : MethodId) (args : Array Value) (meth : Method) (c : Code) : Prop :=
  p.tables.exec = Jvm.exec ∧ c.code = M.1 ∧ c.maxLocals = M.2.2.2.1 ∧ s.vm.findClass M.2.1 = some m.cls ∧ (∀ w ∈ gT, w.before args s = true) ∧ meth.name = M.2.2.1 ∧ Ev z D cA b0 s ∧ M.2.2.2.2.2 ≤ R.frames ∧ 64 * M.2.2.2.2.2 ≤ R.locals
/-- the end of a method: its return instruction, over the heap that the function says -/
def Fi (l : Launch) (M : Mt) (okv : Prop) (rv : Option Value) (D : va_G) (cA : Nat → ClassId) (b0 : Nat) (p : Program) (e : Env) (R : Room) (s : State) (m : MethodId) (args : Array Value) (below : List Frame) (meth : Method) (c : Code) (z0 s0 : Nat) (Q : State → Prop) (xe : Hp) : Prop :=
  ∀ (pc : Nat) (H : Heap) (locs : List Loc) (ls : Array Slot), okv → decode M.1 pc = .ok (M.2.2.2.2.1, 1) → Rep D cA b0 s xe H → va_S (fun q => b0 ≤ q) s.heap H locs → W p l e R s m args below meth c H locs (h_sz xe - z0) (h_sl xe - s0) Q (F0 m pc ls rv.toList)
def G {α : Type} (l : Launch) (z : Nat → Nat) (M : Mt) (okv : α → Prop) (en : α → Option Value) (pc : Nat) (lv : List (Nat × Value)) (st : List Value) (x : Hp) (E : Option (α × Hp)) : Prop :=
  ∀ (v : α) (xe : Hp), E = some (v, xe) → (h_sz x ≤ h_sz xe ∧ h_sl x ≤ h_sl xe) ∧
    ∀ (D : va_G) (cA : Nat → ClassId) (b0 : Nat) (p : Program) (e : Env) (R : Room) (s : State) (m : MethodId) (args : Array Value) (below : List Frame) (meth : Method) (c : Code) (z0 s0 : Nat) (Q : State → Prop),
      Cx z M D cA b0 p R s m args meth c → h_sz xe - z0 ≤ R.cells → h_sl xe - s0 ≤ R.slots → Fi l M (okv v) (en v) D cA b0 p e R s m args below meth c z0 s0 Q xe →
      ∀ (H : Heap) (locs : List Loc) (ls : Array Slot), z0 ≤ h_sz x → s0 ≤ h_sl x → Rep D cA b0 s x H → va_S (fun q => b0 ≤ q) s.heap H locs → lv_has ls M.2.2.2.1 lv →
      W p l e R s m args below meth c H locs (h_sz x - z0) (h_sl x - s0) Q (F0 m pc ls st)
/-! the combinators -/
section COMB
variable {α β : Type}
def bnd (y : Option (α × Hp)) (k : α → Hp → Option (β × Hp)) : Option (β × Hp) := match y with
  | none => none
  | some (a, x) => k a x
/-- a field of an object of class number c (its kind c + 1) -/
def obj (r : Option Nat) (x : Hp) (kd : Nat) (k : Nat → Option β) : Option β := match r with
  | none => none
  | some b => if h_k x b = kd then k b else none
def geti (r : Option Nat) (x : Hp) (kd f : Nat) (k : Int32 → Option β) : Option β := obj r x kd fun b => k (h_i x f b)
def getr (r : Option Nat) (x : Hp) (kd f : Nat) (k : Option Nat → Option β) : Option β := obj r x kd fun b => k (h_r x f b)
def puti (r : Option Nat) (x : Hp) (kd f : Nat) (v : Int32) (k : Hp → Option β) : Option β := obj r x kd fun b => k (p_i x f b v)
def putr (r : Option Nat) (x : Hp) (kd f : Nat) (v : Option Nat) (k : Hp → Option β) : Option β := obj r x kd fun b => k (p_r x f b v)
/-- a truth value, or nothing -/
def bool (v : Int32) (k : Option β) : Option β := if v = 0 ∨ v = 1 then k else none
def idx (r : Option Nat) (x : Hp) (kd : Nat) (i : Int32) (k : Nat → Nat → Option β) : Option β := obj r x kd fun b => if 0 ≤ i.toInt ∧ i.toInt < h_n x b then k b i.toNatClampNeg else none
def aldi (r : Option Nat) (x : Hp) (kd : Nat) (i : Int32) (k : Int32 → Option β) : Option β := idx r x kd i fun b j => k (h_ai x b j)
def aldl (r : Option Nat) (x : Hp) (kd : Nat) (i : Int32) (k : Int64 → Option β) : Option β := idx r x kd i fun b j => k (h_al x b j)
def aldr (r : Option Nat) (x : Hp) (kd : Nat) (i : Int32) (k : Option Nat → Option β) : Option β := idx r x kd i fun b j => k (h_ar x b j)
def asti (r : Option Nat) (x : Hp) (kd : Nat) (i : Int32) (v : Int32) (k : Hp → Option β) : Option β := idx r x kd i fun b j => k (p_ai x b j v)
def astl (r : Option Nat) (x : Hp) (kd : Nat) (i : Int32) (v : Int64) (k : Hp → Option β) : Option β := idx r x kd i fun b j => k (p_al x b j v)
/-- a reference into an array: null, or an object of the kind kv -/
def astr (r : Option Nat) (x : Hp) (kd kv : Nat) (i : Int32) (v : Option Nat) (k : Hp → Option β) : Option β := idx r x kd i fun b j => match v with
  | none => k (p_ar x b j none)
  | some q => if h_k x q = kv then k (p_ar x b j (some q)) else none
def alen (r : Option Nat) (x : Hp) (kd : Nat) (k : Int32 → Option β) : Option β := obj r x kd fun b => k (Int32.ofNat (h_n x b))
def newo (x : Hp) (kd w : Nat) (k : Option Nat → Hp → Option β) : Option β := k (some (h_sz x)) (p_n x kd 0 w)
def newa (x : Hp) (kd : Nat) (n : Int32) (k : Option Nat → Hp → Option β) : Option β := if 0 ≤ n.toInt ∧ n.toInt ≤ 60000000 then k (some (h_sz x)) (p_n x kd n.toNatClampNeg n.toNatClampNeg) else none
/-- division by what is not 0 -/
def nz (y : Int32) (k : Option β) : Option β := if y = 0 then none else k
def nn (r : Option Nat) (k : Nat → Option β) : Option β := match r with
  | none => none
  | some b => k b
end COMB
section ROWS
variable {α : Type} {l : Launch} {z : Nat → Nat} {M : Mt} {okv : α → Prop} {en : α → Option Value} {pc : Nat} {lv : List (Nat × Value)} {st : List Value} {x : Hp} {E E1 E2 : Option (α × Hp)}
theorem G_none : G l z M okv en pc lv st x (none : Option (α × Hp)) := fun v xe h => by cases h
theorem G_ret {v : α} (hok : okv v) (hdg : decode M.1 pc = .ok (M.2.2.2.2.1, 1)) (hst : st = (en v).toList) : G l z M okv en pc lv st x (some (v, x)) := by
  intro v' xe h
  cases h
  subst hst
  exact ⟨⟨Nat.le_refl _, Nat.le_refl _⟩, fun D cA b0 p e R s m args below meth c z0 s0 Q C h1 h2 hF H locs ls h3 h4 hR hS hl => hF pc H locs ls hok hdg hR hS⟩
/-- one row that leaves heap and locals -/
theorem G_st {pc' : Nat} {st' : List Value} (h : ∀ {D : va_G} {cA : Nat → ClassId} {b0 : Nat} {p : Program} {e : Env} {R : Room} {s : State} {m : MethodId} {args : Array Value} {below : List Frame} {meth : Method} {c : Code} {H : Heap} {locs : List Loc} {cells slots : Nat} {Q : State → Prop} {ls : Array Slot},
      Cx z M D cA b0 p R s m args meth c → lv_has ls M.2.2.2.1 lv → W p l e R s m args below meth c H locs cells slots Q (F0 m pc' ls st') → W p l e R s m args below meth c H locs cells slots Q (F0 m pc ls st))
    (k : G l z M okv en pc' lv st' x E) : G l z M okv en pc lv st x E := by
  intro v xe hE
  obtain ⟨h0, k⟩ := k v xe hE
  exact ⟨h0, fun D cA b0 p e R s m args below meth c z0 s0 Q C h1 h2 hF H locs ls h3 h4 hR hS hl => h C hl (k D cA b0 p e R s m args below meth c z0 s0 Q C h1 h2 hF H locs ls h3 h4 hR hS hl)⟩
/-- one row that leaves the heap and names new locals -/
theorem G_sto {pc' : Nat} {st' : List Value} {lv' : List (Nat × Value)} (h : ∀ {D : va_G} {cA : Nat → ClassId} {b0 : Nat} {p : Program} {e : Env} {R : Room} {s : State} {m : MethodId} {args : Array Value} {below : List Frame} {meth : Method} {c : Code} {H : Heap} {locs : List Loc} {cells slots : Nat} {Q : State → Prop} {ls : Array Slot},
      Cx z M D cA b0 p R s m args meth c → lv_has ls M.2.2.2.1 lv → (∀ ls' : Array Slot, lv_has ls' M.2.2.2.1 lv' → W p l e R s m args below meth c H locs cells slots Q (F0 m pc' ls' st')) → W p l e R s m args below meth c H locs cells slots Q (F0 m pc ls st))
    (k : G l z M okv en pc' lv' st' x E) : G l z M okv en pc lv st x E := by
  intro v xe hE
  obtain ⟨h0, k⟩ := k v xe hE
  exact ⟨h0, fun D cA b0 p e R s m args below meth c z0 s0 Q C h1 h2 hF H locs ls h3 h4 hR hS hl => h C hl (fun ls' hl' => k D cA b0 p e R s m args below meth c z0 s0 Q C h1 h2 hF H locs ls' h3 h4 hR hS hl')⟩
/-- a branch -/
theorem G_br {pa pb : Nat} {st' : List Value} {cond : Prop} [Decidable cond] (h : ∀ {D : va_G} {cA : Nat → ClassId} {b0 : Nat} {p : Program} {e : Env} {R : Room} {s : State} {m : MethodId} {args : Array Value} {below : List Frame} {meth : Method} {c : Code} {H : Heap} {locs : List Loc} {cells slots : Nat} {Q : State → Prop} {ls : Array Slot},
      Cx z M D cA b0 p R s m args meth c → (cond → W p l e R s m args below meth c H locs cells slots Q (F0 m pa ls st')) → (¬ cond → W p l e R s m args below meth c H locs cells slots Q (F0 m pb ls st')) → W p l e R s m args below meth c H locs cells slots Q (F0 m pc ls st))
    (k1 : cond → G l z M okv en pa lv st' x E1) (k2 : ¬ cond → G l z M okv en pb lv st' x E2) : G l z M okv en pc lv st x (if cond then E1 else E2) := by
  intro v xe hE
  by_cases hc : cond
  · rw [if_pos hc] at hE
    obtain ⟨h0, k⟩ := k1 hc v xe hE
    exact ⟨h0, fun D cA b0 p e R s m args below meth c z0 s0 Q C h1 h2 hF H locs ls h3 h4 hR hS hl => h C (fun _ => k D cA b0 p e R s m args below meth c z0 s0 Q C h1 h2 hF H locs ls h3 h4 hR hS hl) (fun q => absurd hc q)⟩
  · rw [if_neg hc] at hE
    obtain ⟨h0, k⟩ := k2 hc v xe hE
    exact ⟨h0, fun D cA b0 p e R s m args below meth c z0 s0 Q C h1 h2 hF H locs ls h3 h4 hR hS hl => h C (fun q => absurd q hc) (fun _ => k D cA b0 p e R s m args below meth c z0 s0 Q C h1 h2 hF H locs ls h3 h4 hR hS hl)⟩
/-- a split that no instruction makes (of a switch) -/
theorem G_if {cond : Prop} [Decidable cond] (k1 : cond → G l z M okv en pc lv st x E1) (k2 : ¬ cond → G l z M okv en pc lv st x E2) : G l z M okv en pc lv st x (if cond then E1 else E2) := by
  intro v xe hE
  by_cases hc : cond
  · rw [if_pos hc] at hE
    exact k1 hc v xe hE
  · rw [if_neg hc] at hE
    exact k2 hc v xe hE
theorem G_lv (ks : List Nat) {lv' : List (Nat × Value)} (h : lv_pick lv ks = lv') (k : G l z M okv en pc lv' st x E) : G l z M okv en pc lv st x E := by
  intro v xe hE
  obtain ⟨h0, k⟩ := k v xe hE
  exact ⟨h0, fun D cA b0 p e R s m args below meth c z0 s0 Q C h1 h2 hF H locs ls h3 h4 hR hS hl => k D cA b0 p e R s m args below meth c z0 s0 Q C h1 h2 hF H locs ls h3 h4 hR hS (lv_sub hl ks h)⟩
theorem rf_cat (r : Option Nat) : (va_rf r).category = 1 := by cases r <;> rfl
/-- which locals a store at i leaves -/
def sok (i : Nat) : List (Nat × Value) → Prop
  | [] => True
  | q :: l => (q.1 ≠ i ∧ (q.1 + 1 = i → q.2.category = 1)) ∧ sok i l
theorem sok_of {i : Nat} : ∀ (l : List (Nat × Value)), sok i l → ∀ q ∈ l, q.1 ≠ i ∧ (q.1 + 1 = i → q.2.category = 1)
  | [], _, _, h => by cases h
  | _ :: l, h, q, hq => by
    rcases List.mem_cons.mp hq with rfl | hq
    · exact h.1
    · exact sok_of l h.2 q hq
def sok2 (i : Nat) : List (Nat × Value) → Prop
  | [] => True
  | q :: l => q.1 ≠ i + 1 ∧ sok2 i l
theorem sok2_of {i : Nat} : ∀ (l : List (Nat × Value)), sok2 i l → ∀ q ∈ l, q.1 ≠ i + 1
  | [], _, _, h => by cases h
  | _ :: l, h, q, hq => by
    rcases List.mem_cons.mp hq with rfl | hq
    · exact h.1
    · exact sok2_of l h.2 q hq
theorem sok_a {i a : Nat} {v : Value} {l : List (Nat × Value)} (h1 : a ≠ i) (h2 : a + 1 ≠ i) (h : sok i l) : sok i ((a, v) :: l) := ⟨⟨h1, fun q => absurd q h2⟩, h⟩
theorem sok_b {i a : Nat} {v : Value} {l : List (Nat × Value)} (h1 : a ≠ i) (h2 : v.category = 1) (h : sok i l) : sok i ((a, v) :: l) := ⟨⟨h1, fun _ => h2⟩, h⟩
theorem sok2_a {i a : Nat} {v : Value} {l : List (Nat × Value)} (h1 : a ≠ i + 1) (h : sok2 i l) : sok2 i ((a, v) :: l) := ⟨h1, h⟩
/-! stack and locals -/
theorem G_iconst {n : Int} {v : Int32} (hdg : decode M.1 pc = .ok (.iconst n, 1)) (hv : Int32.ofInt n = v) (k : G l z M okv en (pc + 1) lv (.int v :: st) x E) : G l z M okv en pc lv st x E := G_st (fun C _ k => lv_iconst C.1 C.2.1 hdg hv k) k
theorem G_bipush {n : Int} {v : Int32} (hdg : decode M.1 pc = .ok (.bipush n, 2)) (hv : (Int8.ofInt n).toInt32 = v) (k : G l z M okv en (pc + 2) lv (.int v :: st) x E) : G l z M okv en pc lv st x E := G_st (fun C _ k => lv_bipush C.1 C.2.1 hdg hv k) k
theorem G_sipush {n : Int} {v : Int32} (hdg : decode M.1 pc = .ok (.sipush n, 3)) (hv : (Int16.ofInt n).toInt32 = v) (k : G l z M okv en (pc + 3) lv (.int v :: st) x E) : G l z M okv en pc lv st x E := G_st (fun C _ k => lv_sipush C.1 C.2.1 hdg hv k) k
theorem G_lconst {n : Fin 2} {v : Int64} (hdg : decode M.1 pc = .ok (.lconst n, 1)) (hv : Int64.ofNat (n : Nat) = v) (k : G l z M okv en (pc + 1) lv (.long v :: st) x E) : G l z M okv en pc lv st x E := G_st (fun C _ k => lv_lconst C.1 C.2.1 hdg hv k) k
theorem G_ldc {i : Nat} {v : Int32} (hw : Cond.constant M.2.1 i v ∈ gT) (hdg : decode M.1 pc = .ok (.ldc i, 2)) (k : G l z M okv en (pc + 2) lv (.int v :: st) x E) : G l z M okv en pc lv st x E := G_st (fun C _ k => lv_ldc C.1 C.2.1 C.2.2.2.1 (C.2.2.2.2.1 _ hw) hdg k) k
theorem G_ldc2 {i : Nat} {v : Int64} (hw : Cond.constantLong M.2.1 i v ∈ gT) (hdg : decode M.1 pc = .ok (.ldc2_w i, 3)) (k : G l z M okv en (pc + 3) lv (.long v :: st) x E) : G l z M okv en pc lv st x E := G_st (fun C _ k => lv_ldc2 C.1 C.2.1 C.2.2.2.1 (C.2.2.2.2.1 _ hw) hdg k) k
theorem G_null (hdg : decode M.1 pc = .ok (.aconst_null, 1)) (k : G l z M okv en (pc + 1) lv (va_rf none :: st) x E) : G l z M okv en pc lv st x E := G_st (fun C _ k => lv_null C.1 C.2.1 hdg k) k
theorem G_iload_n {k0 : Fin 4} {i : Nat} {v : Int32} (j : Nat) (hdg : decode M.1 pc = .ok (.iload_n k0, 1)) (hi : (k0 : Nat) = i) (hj : lv[j]? = some (i, .int v)) (k : G l z M okv en (pc + 1) lv (.int v :: st) x E) : G l z M okv en pc lv st x E := G_st (fun C hl k => lv_iload_n C.1 C.2.1 hdg hi (lv_at hl j hj) k) k
theorem G_iload {i : Nat} {v : Int32} (j : Nat) (hdg : decode M.1 pc = .ok (.iload i, 2)) (hj : lv[j]? = some (i, .int v)) (k : G l z M okv en (pc + 2) lv (.int v :: st) x E) : G l z M okv en pc lv st x E := G_st (fun C hl k => lv_iload C.1 C.2.1 hdg (lv_at hl j hj) k) k
theorem G_lload_n {k0 : Fin 4} {i : Nat} {v : Int64} (j : Nat) (hdg : decode M.1 pc = .ok (.lload_n k0, 1)) (hi : (k0 : Nat) = i) (hj : lv[j]? = some (i, .long v)) (k : G l z M okv en (pc + 1) lv (.long v :: st) x E) : G l z M okv en pc lv st x E := G_st (fun C hl k => lv_lload_n C.1 C.2.1 hdg hi (lv_at hl j hj) k) k
theorem G_lload {i : Nat} {v : Int64} (j : Nat) (hdg : decode M.1 pc = .ok (.lload i, 2)) (hj : lv[j]? = some (i, .long v)) (k : G l z M okv en (pc + 2) lv (.long v :: st) x E) : G l z M okv en pc lv st x E := G_st (fun C hl k => lv_lload C.1 C.2.1 hdg (lv_at hl j hj) k) k
theorem G_aload_n {k0 : Fin 4} {i : Nat} {v : Option Nat} (j : Nat) (hdg : decode M.1 pc = .ok (.aload_n k0, 1)) (hi : (k0 : Nat) = i) (hj : lv[j]? = some (i, va_rf v)) (k : G l z M okv en (pc + 1) lv (va_rf v :: st) x E) : G l z M okv en pc lv st x E := G_st (fun C hl k => by
  cases v with
  | none => exact lv_aload_nN C.1 C.2.1 hdg hi (lv_at hl j hj) k
  | some a => exact lv_aload_n C.1 C.2.1 hdg hi (lv_at hl j hj) k) k
theorem G_aload {i : Nat} {v : Option Nat} (j : Nat) (hdg : decode M.1 pc = .ok (.aload i, 2)) (hj : lv[j]? = some (i, va_rf v)) (k : G l z M okv en (pc + 2) lv (va_rf v :: st) x E) : G l z M okv en pc lv st x E := G_st (fun C hl k => by
  cases v with
  | none => exact lv_aloadN C.1 C.2.1 hdg (lv_at hl j hj) k
  | some a => exact lv_aload C.1 C.2.1 hdg (lv_at hl j hj) k) k
theorem lvst {ls' : Array Slot} {nL i : Nat} {v : Value} {lv l2 : List (Nat × Value)} (ks : List Nat) (hk : lv_pick lv ks = l2) (hs : sok i l2) (h : lv_has ls' nL ((i, v) :: lv.filter (fun q => !(q.1 == i) && !(q.1 + 1 == i && q.2.category == 2)))) : lv_has ls' nL ((i, v) :: l2) := by
  refine ⟨h.1, h.2.1, fun q hq => ?_⟩
  rcases List.mem_cons.mp hq with rfl | hq
  · exact h.2.2 _ List.mem_cons_self
  · refine h.2.2 q (List.mem_cons_of_mem _ (List.mem_filter.mpr ⟨?_, ?_⟩))
    · rw [← hk] at hq
      obtain ⟨k, -, hk⟩ := List.mem_filterMap.mp hq
      exact List.mem_of_getElem? hk
    · obtain ⟨h1, h2⟩ := sok_of l2 hs q hq
      by_cases h3 : q.1 + 1 = i
      · simp [h1, h2 h3]
      · simp [h1, h3]
theorem lvst2 {ls' : Array Slot} {nL i : Nat} {v : Value} {lv l2 : List (Nat × Value)} (ks : List Nat) (hk : lv_pick lv ks = l2) (hs : sok i l2) (hs2 : sok2 i l2) (h : lv_has ls' nL ((i, v) :: lv.filter (fun q => !(q.1 == i) && (!(q.1 == i + 1) && !(q.1 + 1 == i && q.2.category == 2))))) : lv_has ls' nL ((i, v) :: l2) := by
  refine ⟨h.1, h.2.1, fun q hq => ?_⟩
  rcases List.mem_cons.mp hq with rfl | hq
  · exact h.2.2 _ List.mem_cons_self
  · refine h.2.2 q (List.mem_cons_of_mem _ (List.mem_filter.mpr ⟨?_, ?_⟩))
    · rw [← hk] at hq
      obtain ⟨k, -, hk⟩ := List.mem_filterMap.mp hq
      exact List.mem_of_getElem? hk
    · obtain ⟨h1, h2⟩ := sok_of l2 hs q hq
      have h4 := sok2_of l2 hs2 q hq
      by_cases h3 : q.1 + 1 = i
      · simp [h1, h2 h3, h4]
      · simp [h1, h3, h4]
theorem G_istore_n {k0 : Fin 4} {i : Nat} {v : Int32} {l2 : List (Nat × Value)} (ks : List Nat) (hdg : decode M.1 pc = .ok (.istore_n k0, 1)) (hi : (k0 : Nat) = i) (hn : i < M.2.2.2.1) (hk : lv_pick lv ks = l2) (hs : sok i l2) (k : G l z M okv en (pc + 1) ((i, .int v) :: l2) st x E) : G l z M okv en pc lv (.int v :: st) x E := G_sto (fun C hl k => lv_istore_n C.1 C.2.1 hdg hi hl hn rfl (fun ls' h => k ls' (lvst ks hk hs h))) k
theorem G_istore {i : Nat} {v : Int32} {l2 : List (Nat × Value)} (ks : List Nat) (hdg : decode M.1 pc = .ok (.istore i, 2)) (hn : i < M.2.2.2.1) (hk : lv_pick lv ks = l2) (hs : sok i l2) (k : G l z M okv en (pc + 2) ((i, .int v) :: l2) st x E) : G l z M okv en pc lv (.int v :: st) x E := G_sto (fun C hl k => lv_istore C.1 C.2.1 hdg hl hn rfl (fun ls' h => k ls' (lvst ks hk hs h))) k
theorem G_lstore_n {k0 : Fin 4} {i : Nat} {v : Int64} {l2 : List (Nat × Value)} (ks : List Nat) (hdg : decode M.1 pc = .ok (.lstore_n k0, 1)) (hi : (k0 : Nat) = i) (hn : i + 1 < M.2.2.2.1) (hk : lv_pick lv ks = l2) (hs : sok i l2) (hs2 : sok2 i l2) (k : G l z M okv en (pc + 1) ((i, .long v) :: l2) st x E) : G l z M okv en pc lv (.long v :: st) x E := G_sto (fun C hl k => lv_lstore_n C.1 C.2.1 hdg hi hl hn rfl (fun ls' h => k ls' (lvst2 ks hk hs hs2 h))) k
theorem G_lstore {i : Nat} {v : Int64} {l2 : List (Nat × Value)} (ks : List Nat) (hdg : decode M.1 pc = .ok (.lstore i, 2)) (hn : i + 1 < M.2.2.2.1) (hk : lv_pick lv ks = l2) (hs : sok i l2) (hs2 : sok2 i l2) (k : G l z M okv en (pc + 2) ((i, .long v) :: l2) st x E) : G l z M okv en pc lv (.long v :: st) x E := G_sto (fun C hl k => lv_lstore C.1 C.2.1 hdg hl hn rfl (fun ls' h => k ls' (lvst2 ks hk hs hs2 h))) k
theorem G_astore_n {k0 : Fin 4} {i : Nat} {v : Option Nat} {l2 : List (Nat × Value)} (ks : List Nat) (hdg : decode M.1 pc = .ok (.astore_n k0, 1)) (hi : (k0 : Nat) = i) (hn : i < M.2.2.2.1) (hk : lv_pick lv ks = l2) (hs : sok i l2) (k : G l z M okv en (pc + 1) ((i, va_rf v) :: l2) st x E) : G l z M okv en pc lv (va_rf v :: st) x E := G_sto (fun C hl k => by
  cases v with
  | none => exact lv_astore_nN C.1 C.2.1 hdg hi hl hn rfl (fun ls' h => k ls' (lvst ks hk hs h))
  | some a => exact lv_astore_n C.1 C.2.1 hdg hi hl hn rfl (fun ls' h => k ls' (lvst ks hk hs h))) k
theorem G_astore {i : Nat} {v : Option Nat} {l2 : List (Nat × Value)} (ks : List Nat) (hdg : decode M.1 pc = .ok (.astore i, 2)) (hn : i < M.2.2.2.1) (hk : lv_pick lv ks = l2) (hs : sok i l2) (k : G l z M okv en (pc + 2) ((i, va_rf v) :: l2) st x E) : G l z M okv en pc lv (va_rf v :: st) x E := G_sto (fun C hl k => by
  cases v with
  | none => exact lv_astoreN C.1 C.2.1 hdg hl hn rfl (fun ls' h => k ls' (lvst ks hk hs h))
  | some a => exact lv_astore C.1 C.2.1 hdg hl hn rfl (fun ls' h => k ls' (lvst ks hk hs h))) k
theorem G_iinc {i : Nat} {n : Int} {v w : Int32} {l2 : List (Nat × Value)} (j : Nat) (ks : List Nat) (hdg : decode M.1 pc = .ok (.iinc i n, 3)) (hj : lv[j]? = some (i, .int v)) (hv : v + Int32.ofInt n = w) (hn : i < M.2.2.2.1) (hk : lv_pick lv ks = l2) (hs : sok i l2) (k : G l z M okv en (pc + 3) ((i, .int w) :: l2) st x E) : G l z M okv en pc lv st x E := G_sto (fun C hl k => lv_iinc C.1 C.2.1 hdg hl hj hv hn rfl (fun ls' h => k ls' (lvst ks hk hs h))) k
theorem G_iadd {a b : Int32} (hdg : decode M.1 pc = .ok (.iadd, 1)) (k : G l z M okv en (pc + 1) lv (.int (a + b) :: st) x E) : G l z M okv en pc lv (.int b :: .int a :: st) x E := G_st (fun C _ k => lv_iadd C.1 C.2.1 hdg k) k
theorem G_isub {a b : Int32} (hdg : decode M.1 pc = .ok (.isub, 1)) (k : G l z M okv en (pc + 1) lv (.int (a - b) :: st) x E) : G l z M okv en pc lv (.int b :: .int a :: st) x E := G_st (fun C _ k => lv_isub C.1 C.2.1 hdg k) k
theorem G_imul {a b : Int32} (hdg : decode M.1 pc = .ok (.imul, 1)) (k : G l z M okv en (pc + 1) lv (.int (a * b) :: st) x E) : G l z M okv en pc lv (.int b :: .int a :: st) x E := G_st (fun C _ k => lv_imul C.1 C.2.1 hdg k) k
theorem G_iand {a b : Int32} (hdg : decode M.1 pc = .ok (.iand, 1)) (k : G l z M okv en (pc + 1) lv (.int (a &&& b) :: st) x E) : G l z M okv en pc lv (.int b :: .int a :: st) x E := G_st (fun C _ k => lv_iand C.1 C.2.1 hdg k) k
theorem G_ior {a b : Int32} (hdg : decode M.1 pc = .ok (.ior, 1)) (k : G l z M okv en (pc + 1) lv (.int (a ||| b) :: st) x E) : G l z M okv en pc lv (.int b :: .int a :: st) x E := G_st (fun C _ k => lv_ior C.1 C.2.1 hdg k) k
theorem G_ishl {a b : Int32} (hdg : decode M.1 pc = .ok (.ishl, 1)) (k : G l z M okv en (pc + 1) lv (.int (a <<< (b &&& 31)) :: st) x E) : G l z M okv en pc lv (.int b :: .int a :: st) x E := G_st (fun C _ k => lv_ishl C.1 C.2.1 hdg k) k
theorem G_ishr {a b : Int32} (hdg : decode M.1 pc = .ok (.ishr, 1)) (k : G l z M okv en (pc + 1) lv (.int (a >>> (b &&& 31)) :: st) x E) : G l z M okv en pc lv (.int b :: .int a :: st) x E := G_st (fun C _ k => lv_ishr C.1 C.2.1 hdg k) k
theorem G_ineg {a : Int32} (hdg : decode M.1 pc = .ok (.ineg, 1)) (k : G l z M okv en (pc + 1) lv (.int (-a) :: st) x E) : G l z M okv en pc lv (.int a :: st) x E := G_st (fun C _ k => lv_ineg C.1 C.2.1 hdg k) k
theorem G_idiv {a b : Int32} (hdg : decode M.1 pc = .ok (.idiv, 1)) (k : G l z M okv en (pc + 1) lv (.int (a / b) :: st) x E) : G l z M okv en pc lv (.int b :: .int a :: st) x (nz b E) := by
  unfold nz
  exact G_if (fun _ => G_none) (fun hne => G_st (fun C _ k => lv_idiv C.1 C.2.1 hdg hne k) k)
theorem G_irem {a b : Int32} (hdg : decode M.1 pc = .ok (.irem, 1)) (k : G l z M okv en (pc + 1) lv (.int (a - a / b * b) :: st) x E) : G l z M okv en pc lv (.int b :: .int a :: st) x (nz b E) := by
  unfold nz
  exact G_if (fun _ => G_none) (fun hne => G_st (fun C _ k => lv_irem C.1 C.2.1 hdg hne k) k)
theorem G_ladd {a b : Int64} (hdg : decode M.1 pc = .ok (.ladd, 1)) (k : G l z M okv en (pc + 1) lv (.long (a + b) :: st) x E) : G l z M okv en pc lv (.long b :: .long a :: st) x E := G_st (fun C _ k => lv_ladd C.1 C.2.1 hdg k) k
theorem G_lmul {a b : Int64} (hdg : decode M.1 pc = .ok (.lmul, 1)) (k : G l z M okv en (pc + 1) lv (.long (a * b) :: st) x E) : G l z M okv en pc lv (.long b :: .long a :: st) x E := G_st (fun C _ k => lv_lmul C.1 C.2.1 hdg k) k
theorem G_lcmp {a b : Int64} (hdg : decode M.1 pc = .ok (.lcmp, 1)) (k : G l z M okv en (pc + 1) lv (.int (lg_cmp a b) :: st) x E) : G l z M okv en pc lv (.long b :: .long a :: st) x E := G_st (fun C _ k => W.lcmp C.1 C.2.1 hdg k) k
theorem G_i2l {a : Int32} (hdg : decode M.1 pc = .ok (.i2l, 1)) (k : G l z M okv en (pc + 1) lv (.long a.toInt64 :: st) x E) : G l z M okv en pc lv (.int a :: st) x E := G_st (fun C _ k => lv_i2l C.1 C.2.1 hdg rfl k) k
theorem G_l2i {a : Int64} (hdg : decode M.1 pc = .ok (.l2i, 1)) (k : G l z M okv en (pc + 1) lv (.int a.toInt32 :: st) x E) : G l z M okv en pc lv (.long a :: st) x E := G_st (fun C _ k => lv_l2i C.1 C.2.1 hdg rfl k) k
theorem G_i2b {a : Int32} (hdg : decode M.1 pc = .ok (.i2b, 1)) (k : G l z M okv en (pc + 1) lv (.int a.toInt8.toInt32 :: st) x E) : G l z M okv en pc lv (.int a :: st) x E := G_st (fun C _ k => lv_i2b C.1 C.2.1 hdg rfl k) k
theorem G_i2c {a : Int32} (hdg : decode M.1 pc = .ok (.i2c, 1)) (k : G l z M okv en (pc + 1) lv (.int (a.toUInt32 % 65536).toInt32 :: st) x E) : G l z M okv en pc lv (.int a :: st) x E := G_st (fun C _ k => lv_i2c C.1 C.2.1 hdg rfl k) k
theorem G_i2d {a : Int32} (hdg : decode M.1 pc = .ok (.i2d, 1)) (k : G l z M okv en (pc + 1) lv (.double (FP.i2d a) :: st) x E) : G l z M okv en pc lv (.int a :: st) x E := G_st (fun C _ k => lv_i2d C.1 C.2.1 hdg k) k
theorem G_dconst0 (hdg : decode M.1 pc = .ok (.dconst 0, 1)) (k : G l z M okv en (pc + 1) lv (.double FP.dconst0 :: st) x E) : G l z M okv en pc lv st x E := G_st (fun C _ k => lv_dconst0 C.1 C.2.1 hdg k) k
theorem G_dcmp {a b : UInt64} {op : CmpOp} (hdg : decode M.1 pc = .ok (.dcmp op, 1)) (k : G l z M okv en (pc + 1) lv (.int (Op.cmpValue (FP.dcmp a b) op) :: st) x E) : G l z M okv en pc lv (.double b :: .double a :: st) x E := G_st (fun C _ k => lv_dcmp C.1 C.2.1 hdg k) k
theorem G_dup {va : Value} (hdg : decode M.1 pc = .ok (.dup, 1)) (hva : va.category = 1) (k : G l z M okv en (pc + 1) lv (va :: va :: st) x E) : G l z M okv en pc lv (va :: st) x E := G_st (fun C _ k => lv_dup C.1 C.2.1 hdg hva k) k
theorem G_dup2 {va vb : Value} (hdg : decode M.1 pc = .ok (.dup2, 1)) (hva : va.category = 1) (hvb : vb.category = 1) (k : G l z M okv en (pc + 1) lv (va :: vb :: va :: vb :: st) x E) : G l z M okv en pc lv (va :: vb :: st) x E := G_st (fun C _ k => lv_dup2_11 C.1 C.2.1 hdg hva hvb k) k
theorem G_dup_x1 {va vb : Value} (hdg : decode M.1 pc = .ok (.dup_x1, 1)) (hva : va.category = 1) (hvb : vb.category = 1) (k : G l z M okv en (pc + 1) lv (va :: vb :: va :: st) x E) : G l z M okv en pc lv (va :: vb :: st) x E := G_st (fun C _ k => lv_dup_x1 C.1 C.2.1 hdg hva hvb k) k
theorem G_pop {va : Value} (hdg : decode M.1 pc = .ok (.pop, 1)) (hva : va.category = 1) (k : G l z M okv en (pc + 1) lv st x E) : G l z M okv en pc lv (va :: st) x E := G_st (fun C _ k => lv_pop C.1 C.2.1 hdg hva k) k
theorem G_goto {off : Int} {tgt : Nat} (hdg : decode M.1 pc = .ok (.goto off, 3)) (ht : (pc : Int) + off = (tgt : Int)) (k : G l z M okv en tgt lv st x E) : G l z M okv en pc lv st x E := G_st (fun C _ k => lv_goto C.1 C.2.1 hdg ht k) k
/-! branches -/
theorem G_if_eq {a : Int32} {off : Int} {tgt : Nat} (hdg : decode M.1 pc = .ok (.ifCond .eq off, 3)) (ht : (pc : Int) + off = (tgt : Int)) (k1 : a = 0 → G l z M okv en tgt lv st x E1) (k2 : ¬ a = 0 → G l z M okv en (pc + 3) lv st x E2) : G l z M okv en pc lv (.int a :: st) x (if a = 0 then E1 else E2) := G_br (fun C k1 k2 => lv_if_eq C.1 C.2.1 hdg ht k1 k2) k1 k2
theorem G_if_ne {a : Int32} {off : Int} {tgt : Nat} (hdg : decode M.1 pc = .ok (.ifCond .ne off, 3)) (ht : (pc : Int) + off = (tgt : Int)) (k1 : a = 0 → G l z M okv en (pc + 3) lv st x E1) (k2 : ¬ a = 0 → G l z M okv en tgt lv st x E2) : G l z M okv en pc lv (.int a :: st) x (if a = 0 then E1 else E2) := G_br (fun C k1 k2 => lv_if_ne C.1 C.2.1 hdg ht k2 k1) k1 k2
theorem G_if_lt {a : Int32} {off : Int} {tgt : Nat} (hdg : decode M.1 pc = .ok (.ifCond .lt off, 3)) (ht : (pc : Int) + off = (tgt : Int)) (k1 : a < 0 → G l z M okv en tgt lv st x E1) (k2 : ¬ a < 0 → G l z M okv en (pc + 3) lv st x E2) : G l z M okv en pc lv (.int a :: st) x (if a < 0 then E1 else E2) := G_br (fun C k1 k2 => lv_if_lt C.1 C.2.1 hdg ht k1 k2) k1 k2
theorem G_if_ge {a : Int32} {off : Int} {tgt : Nat} (hdg : decode M.1 pc = .ok (.ifCond .ge off, 3)) (ht : (pc : Int) + off = (tgt : Int)) (k1 : 0 ≤ a → G l z M okv en tgt lv st x E1) (k2 : ¬ 0 ≤ a → G l z M okv en (pc + 3) lv st x E2) : G l z M okv en pc lv (.int a :: st) x (if 0 ≤ a then E1 else E2) := G_br (fun C k1 k2 => lv_if_ge C.1 C.2.1 hdg ht k1 k2) k1 k2
theorem G_if_gt {a : Int32} {off : Int} {tgt : Nat} (hdg : decode M.1 pc = .ok (.ifCond .gt off, 3)) (ht : (pc : Int) + off = (tgt : Int)) (k1 : 0 < a → G l z M okv en tgt lv st x E1) (k2 : ¬ 0 < a → G l z M okv en (pc + 3) lv st x E2) : G l z M okv en pc lv (.int a :: st) x (if 0 < a then E1 else E2) := G_br (fun C k1 k2 => lv_if_gt C.1 C.2.1 hdg ht k1 k2) k1 k2
theorem G_if_le {a : Int32} {off : Int} {tgt : Nat} (hdg : decode M.1 pc = .ok (.ifCond .le off, 3)) (ht : (pc : Int) + off = (tgt : Int)) (k1 : a ≤ 0 → G l z M okv en tgt lv st x E1) (k2 : ¬ a ≤ 0 → G l z M okv en (pc + 3) lv st x E2) : G l z M okv en pc lv (.int a :: st) x (if a ≤ 0 then E1 else E2) := G_br (fun C k1 k2 => lv_if_le C.1 C.2.1 hdg ht k1 k2) k1 k2
theorem G_icmp_eq {a b : Int32} {off : Int} {tgt : Nat} (hdg : decode M.1 pc = .ok (.if_icmp .eq off, 3)) (ht : (pc : Int) + off = (tgt : Int)) (k1 : a = b → G l z M okv en tgt lv st x E1) (k2 : ¬ a = b → G l z M okv en (pc + 3) lv st x E2) : G l z M okv en pc lv (.int b :: .int a :: st) x (if a = b then E1 else E2) := G_br (fun C k1 k2 => lv_icmp_eq C.1 C.2.1 hdg ht k1 k2) k1 k2
theorem G_icmp_ne {a b : Int32} {off : Int} {tgt : Nat} (hdg : decode M.1 pc = .ok (.if_icmp .ne off, 3)) (ht : (pc : Int) + off = (tgt : Int)) (k1 : a = b → G l z M okv en (pc + 3) lv st x E1) (k2 : ¬ a = b → G l z M okv en tgt lv st x E2) : G l z M okv en pc lv (.int b :: .int a :: st) x (if a = b then E1 else E2) := G_br (fun C k1 k2 => lv_icmp_ne C.1 C.2.1 hdg ht k2 k1) k1 k2
theorem G_icmp_lt {a b : Int32} {off : Int} {tgt : Nat} (hdg : decode M.1 pc = .ok (.if_icmp .lt off, 3)) (ht : (pc : Int) + off = (tgt : Int)) (k1 : a < b → G l z M okv en tgt lv st x E1) (k2 : ¬ a < b → G l z M okv en (pc + 3) lv st x E2) : G l z M okv en pc lv (.int b :: .int a :: st) x (if a < b then E1 else E2) := G_br (fun C k1 k2 => lv_icmp_lt C.1 C.2.1 hdg ht k1 k2) k1 k2
theorem G_icmp_ge {a b : Int32} {off : Int} {tgt : Nat} (hdg : decode M.1 pc = .ok (.if_icmp .ge off, 3)) (ht : (pc : Int) + off = (tgt : Int)) (k1 : b ≤ a → G l z M okv en tgt lv st x E1) (k2 : ¬ b ≤ a → G l z M okv en (pc + 3) lv st x E2) : G l z M okv en pc lv (.int b :: .int a :: st) x (if b ≤ a then E1 else E2) := G_br (fun C k1 k2 => lv_icmp_ge C.1 C.2.1 hdg ht k1 k2) k1 k2
theorem G_icmp_gt {a b : Int32} {off : Int} {tgt : Nat} (hdg : decode M.1 pc = .ok (.if_icmp .gt off, 3)) (ht : (pc : Int) + off = (tgt : Int)) (k1 : b < a → G l z M okv en tgt lv st x E1) (k2 : ¬ b < a → G l z M okv en (pc + 3) lv st x E2) : G l z M okv en pc lv (.int b :: .int a :: st) x (if b < a then E1 else E2) := G_br (fun C k1 k2 => lv_icmp_gt C.1 C.2.1 hdg ht k1 k2) k1 k2
theorem G_icmp_le {a b : Int32} {off : Int} {tgt : Nat} (hdg : decode M.1 pc = .ok (.if_icmp .le off, 3)) (ht : (pc : Int) + off = (tgt : Int)) (k1 : a ≤ b → G l z M okv en tgt lv st x E1) (k2 : ¬ a ≤ b → G l z M okv en (pc + 3) lv st x E2) : G l z M okv en pc lv (.int b :: .int a :: st) x (if a ≤ b then E1 else E2) := G_br (fun C k1 k2 => lv_icmp_le C.1 C.2.1 hdg ht k1 k2) k1 k2
theorem G_acmp_eq {a b : Option Nat} {off : Int} {tgt : Nat} (hdg : decode M.1 pc = .ok (.if_acmp .eq off, 3)) (ht : (pc : Int) + off = (tgt : Int)) (k1 : a = b → G l z M okv en tgt lv st x E1) (k2 : ¬ a = b → G l z M okv en (pc + 3) lv st x E2) : G l z M okv en pc lv (va_rf b :: va_rf a :: st) x (if a = b then E1 else E2) := G_br (fun C k1 k2 => lv_acmp_eq C.1 C.2.1 hdg ht k1 k2) k1 k2
theorem G_acmp_ne {a b : Option Nat} {off : Int} {tgt : Nat} (hdg : decode M.1 pc = .ok (.if_acmp .ne off, 3)) (ht : (pc : Int) + off = (tgt : Int)) (k1 : a = b → G l z M okv en (pc + 3) lv st x E1) (k2 : ¬ a = b → G l z M okv en tgt lv st x E2) : G l z M okv en pc lv (va_rf b :: va_rf a :: st) x (if a = b then E1 else E2) := G_br (fun C k1 k2 => lv_acmp_ne C.1 C.2.1 hdg ht k2 k1) k1 k2
theorem G_ifnull {a : Option Nat} {off : Int} {tgt : Nat} (hdg : decode M.1 pc = .ok (.ifnull off, 3)) (ht : (pc : Int) + off = (tgt : Int)) (k1 : a = none → G l z M okv en tgt lv st x E1) (k2 : ¬ a = none → G l z M okv en (pc + 3) lv st x E2) : G l z M okv en pc lv (va_rf a :: st) x (if a = none then E1 else E2) := G_br (fun C k1 k2 => by
  cases a with
  | none => exact lv_ifnullN C.1 C.2.1 hdg ht (k1 rfl)
  | some b => exact lv_ifnull C.1 C.2.1 hdg (k2 (by simp))) k1 k2
theorem G_ifnonnull {a : Option Nat} {off : Int} {tgt : Nat} (hdg : decode M.1 pc = .ok (.ifnonnull off, 3)) (ht : (pc : Int) + off = (tgt : Int)) (k1 : a = none → G l z M okv en (pc + 3) lv st x E1) (k2 : ¬ a = none → G l z M okv en tgt lv st x E2) : G l z M okv en pc lv (va_rf a :: st) x (if a = none then E1 else E2) := G_br (fun C k1 k2 => by
  cases a with
  | none => exact lv_ifnonnullN C.1 C.2.1 hdg (k1 rfl)
  | some b => exact lv_ifnonnull C.1 C.2.1 hdg ht (k2 (by simp))) k1 k2
/-! switches: where the value is known -/
theorem G_lookup {dflt : Int} {ps : Array (Int × Int)} {len : Nat} {a : Int32} {off : Int} {tgt : Nat} (hdg : decode M.1 pc = .ok (.lookupswitch dflt ps, len)) (hp : (ps.toList.zip (ps.toList.drop 1)).all (fun (a, next) => a.1 < next.1) = true) (ho : Op.lookupswitch.offset ps.toList dflt a.toInt = off) (ht : (pc : Int) + off = (tgt : Int)) (k : G l z M okv en tgt lv st x E) : G l z M okv en pc lv (.int a :: st) x E := G_st (fun C _ k => lv_lookup C.1 C.2.1 hdg hp ho ht k) k
theorem G_tableOut {dflt lo hi : Int} {offs : Array Int} {len : Nat} {a : Int32} {tgt : Nat} (hdg : decode M.1 pc = .ok (.tableswitch dflt lo hi offs, len)) (h : a.toInt < lo ∨ hi < a.toInt) (ht : (pc : Int) + dflt = (tgt : Int)) (k : G l z M okv en tgt lv st x E) : G l z M okv en pc lv (.int a :: st) x E := G_st (fun C _ k => lv_tableOut C.1 C.2.1 hdg h ht k) k
theorem G_tableIn {dflt lo hi : Int} {offs : Array Int} {len : Nat} {a : Int32} {off : Int} {tgt : Nat} (hdg : decode M.1 pc = .ok (.tableswitch dflt lo hi offs, len)) (h1 : ¬ a.toInt < lo) (h2 : ¬ hi < a.toInt) (ho : offs[(a.toInt - lo).toNat]? = some off) (ht : (pc : Int) + off = (tgt : Int)) (k : G l z M okv en tgt lv st x E) : G l z M okv en pc lv (.int a :: st) x E := G_st (fun C _ k => lv_tableIn C.1 C.2.1 hdg h1 h2 ho ht k) k
end ROWS
end
section
/-! ===== ROWS THAT READ AND WRITE THE HEAP ===== -/
theorem Sm_pi {x : Hp} {f a q : Nat} {v : Int32} (h : q ≠ a) : Sm (p_i x f a v) x q := ⟨rfl, rfl, fun f' => by simp [h_i, p_i, u2, h], fun _ => rfl, rfl, rfl, rfl⟩
theorem Sm_pr {x : Hp} {f a q : Nat} {v : Option Nat} (h : q ≠ a) : Sm (p_r x f a v) x q := ⟨rfl, rfl, fun _ => rfl, fun f' => by simp [h_r, p_r, u2, h], rfl, rfl, rfl⟩
theorem Sm_pai {x : Hp} {a j q : Nat} {v : Int32} (h : q ≠ a) : Sm (p_ai x a j v) x q := ⟨rfl, rfl, fun _ => rfl, fun _ => rfl, by funext i; simp [h_ai, p_ai, u2, h], rfl, rfl⟩
theorem Sm_pal {x : Hp} {a j q : Nat} {v : Int64} (h : q ≠ a) : Sm (p_al x a j v) x q := ⟨rfl, rfl, fun _ => rfl, fun _ => rfl, rfl, by funext i; simp [h_al, p_al, u2, h], rfl⟩
theorem Sm_par {x : Hp} {a j q : Nat} {v : Option Nat} (h : q ≠ a) : Sm (p_ar x a j v) x q := ⟨rfl, rfl, fun _ => rfl, fun _ => rfl, rfl, rfl, by funext i; simp [h_ar, p_ar, u2, h]⟩
section WH
variable {p : Program} {l : Launch} {e : Env} {R : Room} {s : State} {m : MethodId} {args : Array Value} {below : List Frame} {meth : Method} {c : Code} {H : Heap} {locs : List Loc} {cells slots : Nat} {Q : State → Prop}
variable {cc : ByteArray} {own : String} {pc : Nat} {ls : Array Slot} {rest : List Value} {D : va_G} {cA : Nat → ClassId} {b0 a : Nat} {x y : Hp}
theorem w_put {tys : List (ClassId × FieldType)} (hexec : p.tables.exec = Jvm.exec) (hb : c.code = cc) (hts : ∀ w ∈ gT, w.before args s = true) (hown : s.vm.findClass own = some m.cls) (hK : va_K D vwCl tys s) {ci k i N : Nat} {C ref : String} {T : u_T} {ty : Nat → FieldType} (hc : Cl ci C T N ty) (hk : k < N) (hR : Rep D cA b0 s x H) (hka : h_k x a = ci + 1) (hS : va_S (fun q => b0 ≤ q) s.heap H locs)
    (hw : Cond.fieldLink own i ref (T k).2.1 (T k).2.2.1 ∈ gT) (href : ref = (T k).1) (hfin : (T k).2.2.2 = false ∨ ((T k).2.2.2 = true ∧ meth.name = "<init>" ∧ (T k).1 = own)) {v : Value} (hn : narrow (ty k) v = v) (hfit : fits (ty k) v = true)
    (hy1 : h_sz y = h_sz x) (hy2 : h_k y a = h_k x a) (hy3 : ∀ q, q ≠ a → Sm y x q) (hy4 : fsv y ci a 0 (gR ci) = (fsv x ci a 0 (gR ci)).set k v) (hdg : decode cc pc = .ok (.putfield i, 3))
    (kk : ∀ (H' : Heap) (locs' : List Loc), Rep D cA b0 s y H' → va_S (fun q => b0 ≤ q) s.heap H' locs' → W p l e R s m args below meth c H' locs' cells slots Q (F0 m (pc + 3) ls rest)) : W p l e R s m args below meth c H locs cells slots Q (F0 m pc ls (v :: .ref a :: rest)) := by
  obtain ⟨hcl, hci, hin, hty, hnm, hgl, -⟩ := hc
  have hlen : k < (fsv x ci a 0 (gR ci)).length := by rw [fsv_len, hgl]; exact hk
  have hap := va_apart (own := own) hts hin ty hty hnm hK hcl
  obtain ⟨r, h1, cell, q1, q2, q3, q4⟩ := hR.at_obj hka hci 0 _ rfl
  have hr : r = (C, T, N) := Option.some.inj (h1.symm.trans hcl)
  subst hr
  obtain ⟨hSl, hfc, kC, hkC, hkind⟩ := hK.1 ci _ hcl
  obtain ⟨cf, kf, fi, f, hi, hsl⟩ := hSl k hk
  have hlink := hts _ hw
  have hba : b0 ≤ a := ((hR.2.2 a).1 (by omega) (by omega)).2
  have hst := (u_facts hfc hkC (u_lays hts hin hk) hi).1
  have done : ∀ (H' : Heap), H'[a]? = some (cell.setSlot f.slot v) → H'.size = H.size → (∀ q, q ≠ a → H'[q]? = H[q]?) → W p l e R s m args below meth c H' (locs ++ [⟨a, f.slot⟩]) cells slots Q (F0 m (pc + 3) ls rest) := by
    intro H' e1 e2 e3
    rw [hsl] at e1
    refine kk H' _ (hR.put e2 e3 (by omega) (by omega) hy1 hy2 hy3 ?_) (hS.put e2 e3 hba)
    rw [ent_obj (hy2.trans hka) hci, hy4]
    exact ⟨_, hcl, t_OB.to (V := updV (vp_V (fsv x ci a 0 (gR ci))) k v) ⟨_, e1, q2, q3, t_set q4 hap hk v⟩ (fun j _ => vp_updV_set hlen v j)⟩
  subst href
  rcases hfin with hfin | ⟨hfin, hin2, hdecl⟩
  · have hlay := hts _ (hin _ (u_in_lay hk))
    unfold u_lay at hlay
    rw [if_neg (by rw [hfin]; decide)] at hlay
    have h6 := u_store hfc hkC hkind hlay hi (hty k hk) hn hfit
    exact W.putK hexec hb (f := f) ⟨hown, hlink, ⟨_, _, _, hi⟩, hst⟩ (by rw [q2]; exact h6) q1 q3 (by rw [hsl]; exact k2_hasslot (q4 k hk)) rfl rfl hdg done
  · have hlay := hts _ (hin _ (u_in_lay hk))
    unfold u_lay at hlay
    rw [if_pos hfin] at hlay
    have hcf : m.cls = cf := by
      obtain ⟨_, _, c', _, _, _, -, -, hf', -, -, -, hown2, -⟩ := Cond.laysFinal_spec hlay
      have e1 : c' = cf := by have := hi.symm.trans hf'; simp at this; exact this.1.symm
      rw [hdecl] at hown2
      rw [← e1]; exact Option.some.inj (hown.symm.trans hown2)
    have h6 := u_fits hfc hkC hkind (Or.inr hlay) hi (hty k hk) hn hfit
    exact W.putFinK hexec hb hown hlink hi hst hcf hin2 (by rw [q2]; exact h6) q1 q3 (by rw [hsl]; exact k2_hasslot (q4 k hk)) rfl rfl hdg done
theorem h_in {i : Int32} {n : Nat} (h : 0 ≤ i.toInt ∧ i.toInt < n) : ¬ (i < 0 ∨ n ≤ i.toNatClampNeg) := vp_in_iff.mpr h
/-- what stands behind a store into an array -/
theorem w_arr {t n : Nat} (ht : t < 99) (hR : Rep D cA b0 s x H) (hka : h_k x a = 100 + t) (hS : va_S (fun q => b0 ≤ q) s.heap H locs) {H' : Heap} {j : Nat} (e2 : H'.size = H.size) (e3 : ∀ q, q ≠ a → H'[q]? = H[q]?) (hy1 : h_sz y = h_sz x) (hy2 : h_k y a = h_k x a) (hy3 : ∀ q, q ≠ a → Sm y x q) (e1 : H'[a]? = some (vp_cell (cA t) (h_n y a, apay y t a))) : Rep D cA b0 s y H' ∧ va_S (fun q => b0 ≤ q) s.heap H' (locs ++ [⟨a, j⟩]) := by
  have hba : b0 ≤ a := ((hR.2.2 a).1 (by omega) (by omega)).2
  refine ⟨hR.put e2 e3 (by omega) (by omega) hy1 hy2 hy3 ?_, hS.put e2 e3 hba⟩
  rw [ent_arr (hy2.trans hka)]
  exact e1
end WH
section ROWSH
variable {α : Type} {l : Launch} {z : Nat → Nat} {M : Mt} {okv : α → Prop} {en : α → Option Value} {pc : Nat} {lv : List (Nat × Value)} {st : List Value} {x : Hp}
/-- a row with a guard that names the object: G of obj -/
theorem G_obj {r : Option Nat} {kd : Nat} {k : Nat → Option (α × Hp)} (h : ∀ b, r = some b → h_k x b = kd → G l z M okv en pc lv st x (k b)) : G l z M okv en pc lv st x (obj r x kd k) := by
  cases r with
  | none => exact G_none
  | some b =>
    show G l z M okv en pc lv st x (if h_k x b = kd then k b else none)
    exact G_if (fun hk => h b rfl hk) (fun _ => G_none)
/-- a row that reads the heap -/
theorem G_rd {E : Option (α × Hp)} {pc' : Nat} {st' : List Value} (h : ∀ {D : va_G} {cA : Nat → ClassId} {b0 : Nat} {p : Program} {e : Env} {R : Room} {s : State} {m : MethodId} {args : Array Value} {below : List Frame} {meth : Method} {c : Code} {H : Heap} {locs : List Loc} {cells slots : Nat} {Q : State → Prop} {ls : Array Slot},
      Cx z M D cA b0 p R s m args meth c → Rep D cA b0 s x H → va_S (fun q => b0 ≤ q) s.heap H locs → W p l e R s m args below meth c H locs cells slots Q (F0 m pc' ls st') → W p l e R s m args below meth c H locs cells slots Q (F0 m pc ls st))
    (k : G l z M okv en pc' lv st' x E) : G l z M okv en pc lv st x E := by
  intro v xe hE
  obtain ⟨h0, k⟩ := k v xe hE
  exact ⟨h0, fun D cA b0 p e R s m args below meth c z0 s0 Q C h1 h2 hF H locs ls h3 h4 hR hS hl => h C hR hS (k D cA b0 p e R s m args below meth c z0 s0 Q C h1 h2 hF H locs ls h3 h4 hR hS hl)⟩
/-- a row that writes -/
theorem G_wr {E : Option (α × Hp)} {y : Hp} {pc' : Nat} {st' : List Value} (e1 : h_sz y = h_sz x) (e2 : h_sl y = h_sl x) (h : ∀ {D : va_G} {cA : Nat → ClassId} {b0 : Nat} {p : Program} {e : Env} {R : Room} {s : State} {m : MethodId} {args : Array Value} {below : List Frame} {meth : Method} {c : Code} {H : Heap} {locs : List Loc} {cells slots : Nat} {Q : State → Prop} {ls : Array Slot},
      Cx z M D cA b0 p R s m args meth c → Rep D cA b0 s x H → va_S (fun q => b0 ≤ q) s.heap H locs → (∀ (H' : Heap) (locs' : List Loc), Rep D cA b0 s y H' → va_S (fun q => b0 ≤ q) s.heap H' locs' → W p l e R s m args below meth c H' locs' cells slots Q (F0 m pc' ls st')) → W p l e R s m args below meth c H locs cells slots Q (F0 m pc ls st))
    (k : G l z M okv en pc' lv st' y E) : G l z M okv en pc lv st x E := by
  intro v xe hE
  obtain ⟨h0, k⟩ := k v xe hE
  rw [e1, e2] at h0
  refine ⟨h0, fun D cA b0 p e R s m args below meth c z0 s0 Q C h1 h2 hF H locs ls h3 h4 hR hS hl => h C hR hS fun H' locs' hR' hS' => ?_⟩
  have := k D cA b0 p e R s m args below meth c z0 s0 Q C h1 h2 hF H' locs' ls (by rw [e1]; exact h3) (by rw [e2]; exact h4) hR' hS' hl
  rw [e1, e2] at this
  exact this
/-- a row that makes a cell -/
theorem G_mk {E : Option (α × Hp)} {k0 n w : Nat} {pc' : Nat} {st' : List Value} (h : ∀ {D : va_G} {cA : Nat → ClassId} {b0 : Nat} {p : Program} {e : Env} {R : Room} {s : State} {m : MethodId} {args : Array Value} {below : List Frame} {meth : Method} {c : Code} {H : Heap} {locs : List Loc} {cells slots : Nat} {Q : State → Prop} {ls : Array Slot},
      Cx z M D cA b0 p R s m args meth c → Rep D cA b0 s x H → va_S (fun q => b0 ≤ q) s.heap H locs → cells + 1 ≤ R.cells → slots + w ≤ R.slots → (∀ (H' : Heap), Rep D cA b0 s (p_n x k0 n w) H' → va_S (fun q => b0 ≤ q) s.heap H' locs → W p l e R s m args below meth c H' locs (cells + 1) (slots + w) Q (F0 m pc' ls st')) → W p l e R s m args below meth c H locs cells slots Q (F0 m pc ls st))
    (k : G l z M okv en pc' lv st' (p_n x k0 n w) E) : G l z M okv en pc lv st x E := by
  intro v xe hE
  obtain ⟨h0, k⟩ := k v xe hE
  have e1 : h_sz (p_n x k0 n w) = h_sz x + 1 := rfl
  have e2 : h_sl (p_n x k0 n w) = h_sl x + w := rfl
  rw [e1, e2] at h0
  refine ⟨⟨by omega, by omega⟩, fun D cA b0 p e R s m args below meth c z0 s0 Q C h1 h2 hF H locs ls h3 h4 hR hS hl => h C hR hS (by omega) (by omega) fun H' hR' hS' => ?_⟩
  have := k D cA b0 p e R s m args below meth c z0 s0 Q C h1 h2 hF H' locs ls (by rw [e1]; omega) (by rw [e2]; omega) hR' hS' hl
  rw [e1, e2, show h_sz x + 1 - z0 = h_sz x - z0 + 1 by omega, show h_sl x + w - s0 = h_sl x - s0 + w by omega] at this
  exact this
theorem G_geti {r : Option Nat} {kd f ci k i N : Nat} {C ref : String} {T : u_T} {ty : Nat → FieldType} {kk : Int32 → Option (α × Hp)} (hc : Cl ci C T N ty) (hk : k < N) (hg : (gR ci)[k]? = some false) (hkd : kd = ci + 1) (hf : f = 20 * ci + k) (hw : Cond.fieldLink M.2.1 i ref (T k).2.1 (T k).2.2.1 ∈ gT) (href : ref = (T k).1) (hdg : decode M.1 pc = .ok (.getfield i, 3))
    (k0 : ∀ v, G l z M okv en (pc + 3) lv (.int v :: st) x (kk v)) : G l z M okv en pc lv (va_rf r :: st) x (geti r x kd f kk) := by
  refine G_obj fun b hr hkb => ?_
  subst hr; subst hkd; subst hf; subst href
  refine G_rd (fun C hR hS k2 => ?_) (k0 (h_i x (20 * ci + k) b))
  obtain ⟨hx, hb, -, hown, hts, -, ⟨hK, -⟩, -⟩ := C
  obtain ⟨hcl, hci, hin, -⟩ := hc
  have hv := fsv_get (x := x) (ci := ci) (a := b) (gR ci) 0 k false hg
  rw [Nat.zero_add] at hv
  exact va_get hx hb hts hin hown hK (hR.at_obj hkb hci) 0 rfl hcl k hk (hts _ hw) (fun _ h => h) hv hdg k2
theorem G_getr {r : Option Nat} {kd f ci k i N : Nat} {C ref : String} {T : u_T} {ty : Nat → FieldType} {kk : Option Nat → Option (α × Hp)} (hc : Cl ci C T N ty) (hk : k < N) (hg : (gR ci)[k]? = some true) (hkd : kd = ci + 1) (hf : f = 20 * ci + k) (hw : Cond.fieldLink M.2.1 i ref (T k).2.1 (T k).2.2.1 ∈ gT) (href : ref = (T k).1) (hdg : decode M.1 pc = .ok (.getfield i, 3))
    (k0 : ∀ v, G l z M okv en (pc + 3) lv (va_rf v :: st) x (kk v)) : G l z M okv en pc lv (va_rf r :: st) x (getr r x kd f kk) := by
  refine G_obj fun b hr hkb => ?_
  subst hr; subst hkd; subst hf; subst href
  refine G_rd (fun C hR hS k2 => ?_) (k0 (h_r x (20 * ci + k) b))
  obtain ⟨hx, hb, -, hown, hts, -, ⟨hK, -⟩, -⟩ := C
  obtain ⟨hcl, hci, hin, -⟩ := hc
  have hv := fsv_get (x := x) (ci := ci) (a := b) (gR ci) 0 k true hg
  rw [Nat.zero_add] at hv
  exact va_get hx hb hts hin hown hK (hR.at_obj hkb hci) 0 rfl hcl k hk (hts _ hw) (fun _ h => h) hv hdg k2
/-- a field may be written here: it isn't final, or this is its class's constructor -/
def Wf (M : Mt) (T : u_T) (k : Nat) : Prop := (T k).2.2.2 = false ∨ ((T k).2.2.2 = true ∧ M.2.2.1 = "<init>" ∧ (T k).1 = M.2.1)
theorem G_puti {r : Option Nat} {kd f ci k i N : Nat} {C ref : String} {T : u_T} {ty : Nat → FieldType} {v : Int32} {kk : Hp → Option (α × Hp)} (hc : Cl ci C T N ty) (hk : k < N) (hg : (gR ci)[k]? = some false) (hkd : kd = ci + 1) (hf : f = 20 * ci + k) (hw : Cond.fieldLink M.2.1 i ref (T k).2.1 (T k).2.2.1 ∈ gT) (href : ref = (T k).1) (hfin : Wf M T k) (hn : narrow (ty k) (.int v) = .int v) (hfit : fits (ty k) (.int v) = true) (hdg : decode M.1 pc = .ok (.putfield i, 3))
    (k0 : ∀ y, G l z M okv en (pc + 3) lv st y (kk y)) : G l z M okv en pc lv (.int v :: va_rf r :: st) x (puti r x kd f v kk) := by
  refine G_obj fun b hr hkb => ?_
  subst hr; subst hkd; subst hf
  refine G_wr (y := p_i x (20 * ci + k) b v) rfl rfl (fun C hR hS k2 => ?_) (k0 _)
  obtain ⟨hx, hb, -, hown, hts, hnm, ⟨hK, -⟩, -⟩ := C
  exact w_put (y := p_i x (20 * ci + k) b v) hx hb hts hown hK hc hk hR hkb hS hw href (by rw [hnm]; exact hfin) hn hfit rfl rfl (fun q hq => Sm_pi hq) (fsv_pi (k := k) (gR ci) 0 k (Nat.zero_add k) hg) hdg k2
theorem G_putr {r : Option Nat} {kd f ci k i N : Nat} {C ref : String} {T : u_T} {ty : Nat → FieldType} {v : Option Nat} {kk : Hp → Option (α × Hp)} (hc : Cl ci C T N ty) (hk : k < N) (hg : (gR ci)[k]? = some true) (hkd : kd = ci + 1) (hf : f = 20 * ci + k) (hw : Cond.fieldLink M.2.1 i ref (T k).2.1 (T k).2.2.1 ∈ gT) (href : ref = (T k).1) (hfin : Wf M T k) (hn : narrow (ty k) (va_rf v) = va_rf v) (hfit : fits (ty k) (va_rf v) = true) (hdg : decode M.1 pc = .ok (.putfield i, 3))
    (k0 : ∀ y, G l z M okv en (pc + 3) lv st y (kk y)) : G l z M okv en pc lv (va_rf v :: va_rf r :: st) x (putr r x kd f v kk) := by
  refine G_obj fun b hr hkb => ?_
  subst hr; subst hkd; subst hf
  refine G_wr (y := p_r x (20 * ci + k) b v) rfl rfl (fun C hR hS k2 => ?_) (k0 _)
  obtain ⟨hx, hb, -, hown, hts, hnm, ⟨hK, -⟩, -⟩ := C
  exact w_put (y := p_r x (20 * ci + k) b v) hx hb hts hown hK hc hk hR hkb hS hw href (by rw [hnm]; exact hfin) hn hfit rfl rfl (fun q hq => Sm_pr hq) (fsv_pr (k := k) (gR ci) 0 k (Nat.zero_add k) hg) hdg k2
theorem nar_obj {C : String} {v : Option Nat} : narrow (.object C) (va_rf v) = va_rf v ∧ fits (.object C) (va_rf v) = true := by cases v <;> exact ⟨rfl, rfl⟩
theorem nar_arr {t : FieldType} {v : Option Nat} : narrow (.array t) (va_rf v) = va_rf v ∧ fits (.array t) (va_rf v) = true := by cases v <;> exact ⟨rfl, rfl⟩
theorem nar_int {v : Int32} : narrow .int (.int v) = .int v ∧ fits .int (.int v) = true := ⟨rfl, rfl⟩
theorem nar_bool {v : Int32} (h : v = 0 ∨ v = 1) : narrow .boolean (.int v) = .int v ∧ fits .boolean (.int v) = true := by rcases h with rfl | rfl <;> exact ⟨rfl, rfl⟩
theorem G_bool {v : Int32} {E : Option (α × Hp)} (h : v = 0 ∨ v = 1 → G l z M okv en pc lv st x E) : G l z M okv en pc lv st x (bool v E) := G_if h (fun _ => G_none)
theorem G_nn {r : Option Nat} {k : Nat → Option (α × Hp)} (h : ∀ b, r = some b → G l z M okv en pc lv st x (k b)) : G l z M okv en pc lv st x (nn r k) := by
  cases r with
  | none => exact G_none
  | some b => exact h b rfl
/-! arrays -/
theorem G_idx {r : Option Nat} {kd : Nat} {i : Int32} {k : Nat → Nat → Option (α × Hp)} (h : ∀ b, r = some b → h_k x b = kd → (0 ≤ i.toInt ∧ i.toInt < h_n x b) → G l z M okv en pc lv st x (k b i.toNatClampNeg)) : G l z M okv en pc lv st x (idx r x kd i k) :=
  G_obj fun b hr hk => G_if (fun hi => h b hr hk hi) (fun _ => G_none)
theorem G_iald {r : Option Nat} {i : Int32} {kk : Int32 → Option (α × Hp)} (hdg : decode M.1 pc = .ok (.iaload, 1)) (k0 : ∀ v, G l z M okv en (pc + 1) lv (.int v :: st) x (kk v)) : G l z M okv en pc lv (.int i :: va_rf r :: st) x (aldi r x 101 i kk) := by
  refine G_idx fun b hr hkb hi => ?_
  subst hr
  refine G_rd (fun C hR hS k2 => ?_) (k0 (h_ai x b i.toNatClampNeg))
  obtain ⟨hx, hb, -, hown, hts, hnm, ⟨hK, -⟩, -⟩ := C
  have h1 := hR.at_arr (t := 1) hkb (by omega)
  exact va_iald hx hb hK (ws := [(b, .inl (_, h_n x b, .inl (h_ai x b)))]) (fun k q hq => by
    have hz : k < 1 := (List.getElem?_eq_some_iff.mp hq).1
    rw [show k = 0 by omega] at hq
    cases hq
    exact h1) 0 1 rfl rfl (h_in hi) hdg k2
theorem G_bald {r : Option Nat} {i : Int32} {kk : Int32 → Option (α × Hp)} (hdg : decode M.1 pc = .ok (.baload, 1)) (k0 : ∀ v, G l z M okv en (pc + 1) lv (.int v :: st) x (kk v)) : G l z M okv en pc lv (.int i :: va_rf r :: st) x (aldi r x 100 i kk) := by
  refine G_idx fun b hr hkb hi => ?_
  subst hr
  refine G_rd (fun C hR hS k2 => ?_) (k0 (h_ai x b i.toNatClampNeg))
  obtain ⟨hx, hb, -, hown, hts, hnm, ⟨hK, -⟩, -⟩ := C
  have h1 := hR.at_arr (t := 0) hkb (by omega)
  exact va_bald hx hb hK (ws := [(b, .inl (_, h_n x b, .inl (h_ai x b)))]) (fun k q hq => by
    have hz : k < 1 := (List.getElem?_eq_some_iff.mp hq).1
    rw [show k = 0 by omega] at hq
    cases hq
    exact h1) 0 0 rfl rfl (h_in hi) hdg k2
theorem G_lald {r : Option Nat} {i : Int32} {kk : Int64 → Option (α × Hp)} (hdg : decode M.1 pc = .ok (.laload, 1)) (k0 : ∀ v, G l z M okv en (pc + 1) lv (.long v :: st) x (kk v)) : G l z M okv en pc lv (.int i :: va_rf r :: st) x (aldl r x 102 i kk) := by
  refine G_idx fun b hr hkb hi => ?_
  subst hr
  refine G_rd (fun C hR hS k2 => ?_) (k0 (h_al x b i.toNatClampNeg))
  obtain ⟨hx, hb, -, hown, hts, hnm, ⟨hK, -⟩, -⟩ := C
  have h1 := hR.at_arr (t := 2) hkb (by omega)
  exact va_lald hx hb hK (ws := [(b, .inl (_, h_n x b, .inr (.inl (h_al x b))))]) (fun k q hq => by
    have hz : k < 1 := (List.getElem?_eq_some_iff.mp hq).1
    rw [show k = 0 by omega] at hq
    cases hq
    exact h1) 0 2 rfl rfl (h_in hi) hdg k2
theorem apay_0 {x : Hp} {a : Nat} : apay x 0 a = .inl (h_ai x a) := rfl
theorem apay_1 {x : Hp} {a : Nat} : apay x 1 a = .inl (h_ai x a) := rfl
theorem apay_2 {x : Hp} {a : Nat} : apay x 2 a = .inr (.inl (h_al x a)) := rfl
theorem w_apay {x : Hp} {t a : Nat} (h : 2 < t) : apay x t a = .inr (.inr (.inr (.inr (h_ar x a)))) := by
  unfold apay
  rw [if_neg (by omega), if_neg (by omega)]
theorem G_aald {r : Option Nat} {i : Int32} {kd t : Nat} {kk : Option Nat → Option (α × Hp)} (hkd : kd = 100 + t) (ht : 2 < t) (ht2 : t < 8) (hdg : decode M.1 pc = .ok (.aaload, 1)) (k0 : ∀ v, G l z M okv en (pc + 1) lv (va_rf v :: st) x (kk v)) : G l z M okv en pc lv (.int i :: va_rf r :: st) x (aldr r x kd i kk) := by
  refine G_idx fun b hr hkb hi => ?_
  subst hr; subst hkd
  refine G_rd (fun {D cA b0 p e R s m args below meth c H locs cells slots Q ls} C hR hS k2 => ?_) (k0 (h_ar x b i.toNatClampNeg))
  obtain ⟨hx, hb, -, hown, hts, hnm, ⟨hK, -⟩, -⟩ := C
  have h1 := hR.at_arr hkb (by omega)
  rw [w_apay ht] at h1
  have hlt : i.toNatClampNeg < h_n x b := Nat.not_le.mp fun q => h_in hi (Or.inr q)
  have go : ∀ ty : FieldType, ty.isReference = true → ArrOfT s (cA t) ty → W p l e R s m args below meth c H locs cells slots Q (F0 m pc ls (.int i :: va_rf (some b) :: st)) := fun ty hty hA =>
    W.aald (v := va_rf (h_ar x b i.toNatClampNeg)) (ty := ty) hx hb h1 (hA _ (fun j => va_rf (h_ar x b j))) hty (fun q => by cases q) (by show ¬ (i < 0 ∨ (arrV _ _ _).slots.size ≤ _); rw [arrV_size]; exact h_in hi) (by show (arrV _ _ _).slots[_]? = _; rw [arrV_read _ _ hlt]) rfl rfl hdg k2
  have hT := hK.2
  rcases (show t = 3 ∨ t = 4 ∨ t = 5 ∨ t = 6 ∨ t = 7 by omega) with rfl | rfl | rfl | rfl | rfl
  · exact go _ rfl (hT 3 _ rfl).1
  · exact go _ rfl (hT 4 _ rfl).1
  · exact go _ rfl (hT 5 _ rfl).1
  · exact go _ rfl (hT 6 _ rfl).1
  · exact go _ rfl (hT 7 _ rfl).1
theorem G_iast {r : Option Nat} {i v : Int32} {kk : Hp → Option (α × Hp)} (hdg : decode M.1 pc = .ok (.iastore, 1)) (k0 : ∀ y, G l z M okv en (pc + 1) lv st y (kk y)) : G l z M okv en pc lv (.int v :: .int i :: va_rf r :: st) x (asti r x 101 i v kk) := by
  refine G_idx fun b hr hkb hi => ?_
  subst hr
  refine G_wr (y := p_ai x b i.toNatClampNeg v) rfl rfl (fun C hR hS k2 => ?_) (k0 _)
  obtain ⟨hx, hb, -, hown, hts, hnm, ⟨hK, -⟩, -⟩ := C
  have h1 := hR.at_arr (t := 1) hkb (by omega)
  refine W.iast hx hb h1 ((hK.2 1 _ rfl).1 (h_n x b) (fun j => .int (h_ai x b j))) (fun q => by cases q) (by show ¬ (i < 0 ∨ (arrV _ _ _).slots.size ≤ _); rw [arrV_size]; exact h_in hi) rfl rfl hdg fun H1 e zz oq => ?_
  refine (fun hh => k2 H1 _ hh.1 hh.2) (w_arr (t := 1) (y := p_ai x b i.toNatClampNeg v) (n := 0) (by omega) hR hkb hS zz oq rfl rfl (fun q hq => Sm_pai hq) ?_)
  rw [e, apay_1, apay_1, vp_cell_i, vp_cell_i, arrV_store]
  congr 2
  funext q
  by_cases hq : q = i.toNatClampNeg
  · subst hq
    simp [updV, h_ai, p_ai, u2]
  · simp [updV, h_ai, p_ai, u2, hq]
theorem G_bast {r : Option Nat} {i v : Int32} {kk : Hp → Option (α × Hp)} (hdg : decode M.1 pc = .ok (.bastore, 1)) (k0 : ∀ y, G l z M okv en (pc + 1) lv st y (kk y)) : G l z M okv en pc lv (.int v :: .int i :: va_rf r :: st) x (asti r x 100 i v.toInt8.toInt32 kk) := by
  refine G_idx fun b hr hkb hi => ?_
  subst hr
  refine G_wr (y := p_ai x b i.toNatClampNeg v.toInt8.toInt32) rfl rfl (fun C hR hS k2 => ?_) (k0 _)
  obtain ⟨hx, hb, -, hown, hts, hnm, ⟨hK, -⟩, -⟩ := C
  have h1 := hR.at_arr (t := 0) hkb (by omega)
  refine W.bast hx hb h1 ((hK.2 0 _ rfl).1 (h_n x b) (fun j => .int (h_ai x b j))) (fun q => by cases q) (by show ¬ (i < 0 ∨ (arrV _ _ _).slots.size ≤ _); rw [arrV_size]; exact h_in hi) rfl rfl hdg fun H1 e zz oq => ?_
  refine (fun hh => k2 H1 _ hh.1 hh.2) (w_arr (t := 0) (y := p_ai x b i.toNatClampNeg v.toInt8.toInt32) (n := 0) (by omega) hR hkb hS zz oq rfl rfl (fun q hq => Sm_pai hq) ?_)
  rw [e, apay_0, apay_0, vp_cell_i, vp_cell_i, arrV_store]
  congr 2
  funext q
  by_cases hq : q = i.toNatClampNeg
  · subst hq
    simp [updV, h_ai, p_ai, u2, narrow]
  · simp [updV, h_ai, p_ai, u2, hq]
theorem G_last {r : Option Nat} {i : Int32} {v : Int64} {kk : Hp → Option (α × Hp)} (hdg : decode M.1 pc = .ok (.lastore, 1)) (k0 : ∀ y, G l z M okv en (pc + 1) lv st y (kk y)) : G l z M okv en pc lv (.long v :: .int i :: va_rf r :: st) x (astl r x 102 i v kk) := by
  refine G_idx fun b hr hkb hi => ?_
  subst hr
  refine G_wr (y := p_al x b i.toNatClampNeg v) rfl rfl (fun C hR hS k2 => ?_) (k0 _)
  obtain ⟨hx, hb, -, hown, hts, hnm, ⟨hK, -⟩, -⟩ := C
  have h1 := hR.at_arr (t := 2) hkb (by omega)
  refine W.last hx hb h1 ((hK.2 2 _ rfl).1 (h_n x b) (fun j => .long (h_al x b j))) (fun q => by cases q) (by show ¬ (i < 0 ∨ (arrV _ _ _).slots.size ≤ _); rw [arrV_size]; exact h_in hi) rfl rfl hdg fun H1 e zz oq => ?_
  refine (fun hh => k2 H1 _ hh.1 hh.2) (w_arr (t := 2) (y := p_al x b i.toNatClampNeg v) (n := 0) (by omega) hR hkb hS zz oq rfl rfl (fun q hq => Sm_pal hq) ?_)
  rw [e, apay_2, apay_2, vp_cell_l, vp_cell_l, arrV_store]
  congr 2
  funext q
  by_cases hq : q = i.toNatClampNeg
  · subst hq
    simp [updV, h_al, p_al, u2]
  · simp [updV, h_al, p_al, u2, hq]
end ROWSH
end
section
/-! ===== NEW CELLS, CALLS, CONTRACTS ===== -/
theorem Ev.warm {z : Nat → Nat} {D : va_G} {cA : Nat → ClassId} {b0 : Nat} {s U : State} {locs : List Loc} (hW : s.WarmedH U.vm) (hS : va_S (fun q => b0 ≤ q) s.heap U.heap locs) (h : Ev z D cA b0 s) : Ev z D cA b0 U := by
  refine ⟨va_K.moved hW.alike h.1, fun w hw => ?_, fun q hq => (h.2.2.1 q hq).warm hW, fun q hq => ((h.2.2.2.1 q hq).moved hW.alike).kept hS.2.1, fun C hC => (h.2.2.2.2.1 C hC).moved hW.alike, h.2.2.2.2.2.1.moved hW.alike, va_Nw.warmC hW h.2.2.2.2.2.2⟩
  have h1 := h.2.1 w hw
  have h2 := (List.mem_filter.mp hw).2
  cases w <;> first | exact va_Nw.warmM hW h1 | exact absurd h2 Bool.false_ne_true
theorem Ev.same {z : Nat → Nat} {D : va_G} {cA : Nat → ClassId} {b0 : Nat} {s U : State} (hv : s.vm = U.vm) (hh : U.heap = s.heap) (h : Ev z D cA b0 s) : Ev z D cA b0 U := by
  refine ⟨va_K.moved (by rw [hv]; exact Vm.Alike.refl _) h.1, fun w hw => ?_, fun q hq => (h.2.2.1 q hq).same hv.symm, fun q hq => by rw [hh]; exact (h.2.2.2.1 q hq).moved (by rw [hv]; exact Vm.Alike.refl _), fun C hC => (h.2.2.2.2.1 C hC).moved (by rw [hv]; exact Vm.Alike.refl _), h.2.2.2.2.2.1.moved (by rw [hv]; exact Vm.Alike.refl _), va_Nw.same rfl hv h.2.2.2.2.2.2⟩
  have h1 := h.2.1 w hw
  have h2 := (List.mem_filter.mp hw).2
  cases w <;> first | exact va_Nw.same rfl hv h1 | exact absurd h2 Bool.false_ne_true
/-- what a method asks: its arguments, the heap -/
def gPc (z : Nat → Nat) (D : va_G) (cA : Nat → ClassId) (b0 : Nat) (av : List Value) (x : Hp) : Array Value → State → Prop := va_Pc av (fun U => Rep D cA b0 U x U.heap ∧ Ev z D cA b0 U)
def gQc (D : va_G) (cA : Nat → ClassId) (b0 : Nat) (rv : Option Value) (xe : Hp) : Array Value → State → Outcome → State → Prop := fun _ st oc t => (oc = .returned rv ∧ Rep D cA b0 t xe t.heap) ∧ va_F (fun q => b0 ≤ q) st t
/-- a method's contract, as a function on maps -/
def Ct {α : Type} (l : Launch) (z : Nat → Nat) (y : MethodName) (b : ByteArray) (n : Nat) (ret : Option FieldType) (d : Nat) (en : α → Option Value) (av : List Value) (f : Hp → Option (α × Hp)) : Prop :=
  ∀ (x : Hp) (v : α) (xe : Hp), f x = some (v, xe) → (h_sz x ≤ h_sz xe ∧ h_sl x ≤ h_sl xe) ∧ ∀ (D : va_G) (cA : Nat → ClassId) (b0 : Nat),
    Met l y (.code y b n ret :: gT) ({ frames := d, cells := h_sz xe - h_sz x, slots := h_sl xe - h_sl x, locals := 64 * d }) (gPc z D cA b0 av x) (gQc D cA b0 (en v) xe) (h_sz xe - h_sz x) (h_sl xe - h_sl x) (fun q => b0 ≤ q)
theorem gPc_blind {z : Nat → Nat} {D : va_G} {cA : Nat → ClassId} {b0 : Nat} {av : List Value} {x : Hp} : FrameBlind (gPc z D cA b0 av x) := fun a U g mk h => ⟨h.1, Rep.moved (u := U) (U := U.calling g mk a) (Vm.Alike.refl U.vm) h.2.1, Ev.same (s := U) (U := U.calling g mk a) rfl rfl h.2.2⟩
theorem gPc_pre {z : Nat → Nat} {D : va_G} {cA : Nat → ClassId} {b0 : Nat} {av : List Value} {x : Hp} {s : State} {H : Heap} {locs : List Loc} (hR : Rep D cA b0 s x H) (hS : va_S (fun q => b0 ≤ q) s.heap H locs) (hE : Ev z D cA b0 s) : ∀ U : State, U.heap = H → s.WarmedH U.vm → gPc z D cA b0 av x av.toArray U := fun U hU hW => ⟨rfl, by rw [hU]; exact hR.moved hW.alike, hE.warm hW (locs := locs) (by rw [hU]; exact hS)⟩
section WC
variable {p : Program} {l : Launch} {e : Env} {R : Room} {s : State} {m : MethodId} {args : Array Value} {below : List Frame} {meth : Method} {c : Code} {H : Heap} {locs : List Loc} {cells slots : Nat} {Q : State → Prop}
variable {pc : Nat} {ls : Array Slot} {rest st0 : List Value} {D : va_G} {cA : Nat → ClassId} {b0 : Nat} {xe : Hp}
theorem w_call {rv : Option Value} {mc ms : Nat} {a : Array Value} (hr : va_Run p l e R s m args below meth c H locs cells slots mc ms (F0 m pc ls st0) rest (gQc D cA b0 rv xe a) (fun q => b0 ≤ q)) (hS : va_S (fun q => b0 ≤ q) s.heap H locs)
    (kk : ∀ (H1 : Heap) (locs1 : List Loc), Rep D cA b0 s xe H1 → va_S (fun q => b0 ≤ q) s.heap H1 locs1 → W p l e R s m args below meth c H1 locs1 (cells + mc) (slots + ms) Q (F0 m (pc + 3) ls (rv.toList ++ rest))) : W p l e R s m args below meth c H locs cells slots Q (F0 m pc ls st0) := by
  intro T hT X
  obtain ⟨v, st₀, t, T', L, h0, X', hL, e1, e2, ⟨⟨hv, hR⟩, hz, hk⟩, st⟩ := hr T hT X
  cases hv
  rw [h0] at hz hk
  obtain ⟨t2, a1, b1⟩ := kk T'.heap (locs ++ L) (by rw [e1]; exact hR.moved (by rw [← e2]; exact X'.warmed.alike.symm))
    ⟨Nat.le_trans hS.1 (by rw [e1]; exact hz), fun q h1 h2 => by rw [e1, hk q (Nat.lt_of_lt_of_le h1 hS.1) h2]; exact hS.2.1 q h1 h2, fun q hq => by
      rcases List.mem_append.mp hq with h | h
      · exact hS.2.2 q h
      · exact hL q h⟩ T' rfl X'
  exact ⟨t2, st t2 a1, b1⟩
end WC
section ROWSC
variable {α γ : Type} {l : Launch} {z : Nat → Nat} {M : Mt} {okv : α → Prop} {en : α → Option Value} {pc : Nat} {lv : List (Nat × Value)} {st : List Value} {x : Hp}
/-- a call, by its run -/
theorem G_call {eg : γ → Option Value} {y : MethodName} {b : ByteArray} {n' d' : Nat} {ret : Option FieldType} {av : List Value} {f : Hp → Option (γ × Hp)} {kk : γ → Hp → Option (α × Hp)} {rest : List Value} (hC : Ct l z y b n' ret d' eg av f)
    (hrun : ∀ {D : va_G} {cA : Nat → ClassId} {b0 : Nat} {p : Program} {e : Env} {R : Room} {s : State} {m : MethodId} {args : Array Value} {below : List Frame} {meth : Method} {c : Code} {H : Heap} {locs : List Loc} {cells slots : Nat} {ls : Array Slot} {mc ms : Nat} {Qc : Array Value → State → Outcome → State → Prop},
      Cx z M D cA b0 p R s m args meth c → Rep D cA b0 s x H → va_S (fun q => b0 ≤ q) s.heap H locs → lv_has ls M.2.2.2.1 lv → cells + mc ≤ R.cells → slots + ms ≤ R.slots → Met l y (.code y b n' ret :: gT) ({ frames := d', cells := mc, slots := ms, locals := 64 * d' }) (gPc z D cA b0 av x) Qc mc ms (fun q => b0 ≤ q) →
      va_Run p l e R s m args below meth c H locs cells slots mc ms (F0 m pc ls st) rest (Qc av.toArray) (fun q => b0 ≤ q))
    (k0 : ∀ v y, G l z M okv en (pc + 3) lv ((eg v).toList ++ rest) y (kk v y)) : G l z M okv en pc lv st x (bnd (f x) kk) := by
  intro v xe hE
  cases hf : f x with
  | none => rw [hf] at hE; cases hE
  | some r =>
    obtain ⟨w, x1⟩ := r
    rw [hf] at hE
    obtain ⟨⟨g1, g2⟩, hM⟩ := hC x w x1 hf
    obtain ⟨⟨g3, g4⟩, k⟩ := k0 w x1 v xe hE
    refine ⟨⟨by omega, by omega⟩, fun D cA b0 p e R s m args below meth c z0 s0 Q C h1 h2 hF H locs ls h3 h4 hR hS hl => ?_⟩
    refine w_call (hrun C hR hS hl (by omega) (by omega) (hM D cA b0)) hS fun H1 locs1 hR1 hS1 => ?_
    have := k D cA b0 p e R s m args below meth c z0 s0 Q C h1 h2 hF H1 locs1 ls (by omega) (by omega) hR1 hS1 hl
    rw [show h_sz x1 - z0 = h_sz x - z0 + (h_sz x1 - h_sz x) by omega, show h_sl x1 - s0 = h_sl x - s0 + (h_sl x1 - h_sl x) by omega] at this
    exact this
/-- a callee's name: its class, its parameters -/
def Yn (y : MethodName) (n : Nat) : Prop := y.cls ≠ "java/lang/invoke/MethodHandle" ∧ y.cls ≠ "java/lang/invoke/VarHandle" ∧ (parseMethodDescriptor y.desc).map (fun d => d.parameters.length) = some n
theorem gT_ws {y : MethodName} {b : ByteArray} {n' : Nat} {ret : Option FieldType} (h : Cond.code y b n' ret ∈ gT) : GoodIn gT (.code y b n' ret :: gT) := gT_goodIn _ (fun w hw => by
  rcases List.mem_cons.mp hw with rfl | hw
  · exact h
  · exact hw)
theorem G_callS {eg : γ → Option Value} {y : MethodName} {b : ByteArray} {n' d' i : Nat} {ret : Option FieldType} {av : List Value} {f : Hp → Option (γ × Hp)} {kk : γ → Hp → Option (α × Hp)} (rest : List Value) (hC : Ct l z y b n' ret d' eg av f)
    (hy : Yn y av.length) (hd : d' + 1 ≤ M.2.2.2.2.2) (hn : n' ≤ 45) (w1 : Cond.methodLink M.2.1 i y ∈ gT) (w2 : Cond.static y ∈ gT) (w3 : Cond.initialized y.cls ∈ gT) (w4 : Cond.code y b n' ret ∈ gT) (hst : st = av.reverse ++ rest) (hW : (rest.map fun v => v.category).sum ≤ 8) (hdg : decode M.1 pc = .ok (.invokestatic i, 3))
    (k0 : ∀ v y, G l z M okv en (pc + 3) lv ((eg v).toList ++ rest) y (kk v y)) : G l z M okv en pc lv st x (bnd (f x) kk) := by
  refine G_call (rest := rest) hC (fun C hR hS hl hc hs hM => ?_) k0
  obtain ⟨hx, hb, hml, hown, hts, hnm, hE, hf1, hf2⟩ := C
  exact va_runS (own := M.2.1) (Ts := gT) ⟨hx, hb, hml, hown, hts⟩ hM ⟨callB_of av.length hts (gT_ws w4) rfl rfl rfl (hts _ w3) (hts _ w1) hy ⟨Nat.le_trans hd hf1, Nat.le_trans (show 8 + (n' + 11) + 64 * d' ≤ 64 * M.2.2.2.2.2 by omega) hf2⟩, hts _ w2⟩ ⟨gPc_blind, gPc_pre hR hS hE⟩ rfl rfl hl.1 hst (lv_room hW) hdg ⟨hc, hs⟩
theorem G_callV {eg : γ → Option Value} {y : MethodName} {b : ByteArray} {n' d' i : Nat} {ret : Option FieldType} {av : List Value} {r : Option Nat} {f : Nat → Hp → Option (γ × Hp)} {kk : γ → Hp → Option (α × Hp)} {kd ci N : Nat} {C : String} {T : u_T} {ty : Nat → FieldType} (rest : List Value) (hC : ∀ q, Ct l z y b n' ret d' eg (.ref q :: av) (f q)) (hcl : Cl ci C T N ty) (hkd : kd = ci + 1)
    (hy : Yn y av.length) (hd : d' + 1 ≤ M.2.2.2.2.2) (hn : n' ≤ 45) (w1 : Cond.methodLink M.2.1 i y ∈ gT) (w2 : Cond.instanceMethod y ∈ gT) (w5 : Cond.selects C y y ∈ gT) (w3 : Cond.initialized y.cls ∈ gT) (w4 : Cond.code y b n' ret ∈ gT) (hst : st = av.reverse ++ va_rf r :: rest) (hW : (rest.map fun v => v.category).sum ≤ 8) (hdg : decode M.1 pc = .ok (.invokevirtual i, 3))
    (k0 : ∀ v y, G l z M okv en (pc + 3) lv ((eg v).toList ++ rest) y (kk v y)) : G l z M okv en pc lv st x (obj r x kd fun q => bnd (f q x) kk) := by
  refine G_obj fun q hr hkb => ?_
  subst hr; subst hkd
  refine G_call (rest := rest) (hC q) (fun C hR hS hl hc hs hM => ?_) k0
  obtain ⟨hx, hb, hml, hown, hts, hnm, hE, hf1, hf2⟩ := C
  exact va_runV (own := M.2.1) (Ts := gT) (b := q) (As := av) ⟨hx, hb, hml, hown, hts⟩ hM ⟨callB_of av.length hts (gT_ws w4) rfl rfl rfl (hts _ w3) (hts _ w1) hy ⟨Nat.le_trans hd hf1, Nat.le_trans (show 8 + (n' + 11) + 64 * d' ≤ 64 * M.2.2.2.2.2 by omega) hf2⟩, hts _ w2, hts _ w5⟩ ⟨gPc_blind, va_recv (q0 := 0) hE.1 (hR.at_obj hkb hcl.2.1) hcl.1 rfl, gPc_pre hR hS hE⟩ rfl rfl hl.1 hst (lv_room hW) hdg ⟨hc, hs⟩
theorem G_callI {y : MethodName} {b : ByteArray} {n' d' i kd : Nat} {av : List Value} {r : Option Nat} {f : Nat → Hp → Option (Unit × Hp)} {kk : Unit → Hp → Option (α × Hp)} (rest : List Value) (hC : ∀ q, Ct l z y b n' none d' (fun _ => none) (.ref q :: av) (f q)) (hy1 : y.name = "<init>")
    (hy : Yn y av.length) (hd : d' + 1 ≤ M.2.2.2.2.2) (hn : n' ≤ 45) (w1 : Cond.methodLink M.2.1 i y ∈ gT) (w2 : Cond.instanceMethod y ∈ gT) (w3 : Cond.initialized y.cls ∈ gT) (w4 : Cond.code y b n' none ∈ gT) (hst : st = av.reverse ++ va_rf r :: rest) (hW : (rest.map fun v => v.category).sum ≤ 8) (hdg : decode M.1 pc = .ok (.invokespecial i, 3))
    (k0 : ∀ y, G l z M okv en (pc + 3) lv rest y (kk () y)) : G l z M okv en pc lv st x (obj r x kd fun q => bnd (f q x) kk) := by
  refine G_obj fun q hr hkb => ?_
  subst hr
  refine G_call (rest := rest) (hC q) (fun C hR hS hl hc hs hM => ?_) (fun _ => k0)
  obtain ⟨hx, hb, hml, hown, hts, hnm, hE, hf1, hf2⟩ := C
  exact va_runI (own := M.2.1) (Ts := gT) (b := q) (As := av) ⟨hx, hb, hml, hown, hts⟩ hM ⟨callB_of av.length hts (gT_ws w4) rfl rfl rfl (hts _ w3) (hts _ w1) hy ⟨Nat.le_trans hd hf1, Nat.le_trans (show 8 + (n' + 11) + 64 * d' ≤ 64 * M.2.2.2.2.2 by omega) hf2⟩, hy1, hts _ w2⟩ ⟨gPc_blind, gPc_pre hR hS hE⟩ rfl rfl hl.1 hst (lv_room hW) hdg ⟨hc, hs⟩
/-- a private constructor of a nest mate -/
theorem G_callN {y : MethodName} {b : ByteArray} {n' d' i kd : Nat} {host : String} {av : List Value} {r : Option Nat} {f : Nat → Hp → Option (Unit × Hp)} {kk : Unit → Hp → Option (α × Hp)} (rest : List Value) (hC : ∀ q, Ct l z y b n' none d' (fun _ => none) (.ref q :: av) (f q)) (hy1 : y.name = "<init>")
    (hy : Yn y av.length) (hd : d' + 1 ≤ M.2.2.2.2.2) (hn : n' ≤ 45) (w1 : Cond.methodLinkNest M.2.1 i y host ∈ gNw) (w2 : Cond.instanceMethod y ∈ gT) (w3 : Cond.initialized y.cls ∈ gT) (w4 : Cond.code y b n' none ∈ gT) (hst : st = av.reverse ++ va_rf r :: rest) (hW : (rest.map fun v => v.category).sum ≤ 8) (hdg : decode M.1 pc = .ok (.invokespecial i, 3))
    (k0 : ∀ y, G l z M okv en (pc + 3) lv rest y (kk () y)) : G l z M okv en pc lv st x (obj r x kd fun q => bnd (f q x) kk) := by
  refine G_obj fun q hr hkb => ?_
  subst hr
  refine G_call (rest := rest) (hC q) (fun C hR hS hl hc hs hM => ?_) (fun _ => k0)
  obtain ⟨hx, hb, hml, hown, hts, hnm, hE, hf1, hf2⟩ := C
  exact va_runIN (own := M.2.1) (Ts := gT) (b := q) (As := av) ⟨hx, hb, hml, hown, hts⟩ hM ⟨va_cnB av.length hts (gT_ws w4) rfl rfl rfl (hE.2.1 _ w1) (hts _ w3) hy ⟨Nat.le_trans hd hf1, Nat.le_trans (show 8 + (n' + 11) + 64 * d' ≤ 64 * M.2.2.2.2.2 by omega) hf2⟩, hy1, hts _ w2⟩ ⟨gPc_blind, gPc_pre hR hS hE⟩ rfl rfl hl.1 hst (lv_room hW) hdg ⟨hc, hs⟩
theorem G_objInit {r : Option Nat} {i : Nat} {E : Nat → Option (α × Hp)} (w1 : Cond.methodLink M.2.1 i Lib.objectInit ∈ gT) (w2 : Cond.instanceMethod Lib.objectInit ∈ gT) (w3 : Cond.code Lib.objectInit ⟨#[0xb1]⟩ 1 none ∈ gT) (hd : 1 ≤ M.2.2.2.2.2) (hW : (st.map fun v => v.category).sum ≤ 8) (hdg : decode M.1 pc = .ok (.invokespecial i, 3))
    (k0 : ∀ q, G l z M okv en (pc + 3) lv st x (E q)) : G l z M okv en pc lv (va_rf r :: st) x (nn r E) := by
  refine G_nn fun q hr => ?_
  subst hr
  refine G_st (fun C hl k => ?_) (k0 q)
  obtain ⟨hx, hb, hml, hown, hts, hnm, hE, hf1, hf2⟩ := C
  refine W.objInit hx hb hown (hts _ w1) (hts _ w2) (hts _ w3) rfl (hl.1.trans hml.symm) rfl hdg (Nat.le_trans hd hf1) ?_ k
  have := lv_room (pc := pc) (ls := #[]) (rest := []) (m := ‹_›) hW
  have h0 : 2 * (F0 ‹_› pc ‹_› (va_rf (some q) :: st)).monitorRoom + (st.map fun v => v.category).sum ≤ 8 := lv_room hW
  omega
/-! new objects, new arrays -/
theorem G_new {i ci kd N : Nat} {C : String} {T : u_T} {ty : Nat → FieldType} {kk : Option Nat → Hp → Option (α × Hp)} (hc : Cl ci C T N ty) (hkd : kd = ci + 1) (w1 : Cond.classLink M.2.1 i C ∈ gT) (w2 : Cond.instantiable C N ∈ gT) (w3 : Cond.initialized C ∈ gT) (hdg : decode M.1 pc = .ok (.new i, 3))
    (k0 : ∀ r y, G l z M okv en (pc + 3) lv (va_rf r :: st) y (kk r y)) : G l z M okv en pc lv st x (newo x kd N kk) := by
  subst hkd
  refine G_mk (fun C0 hR hS hcl hsl k => ?_) (k0 (some (h_sz x)) (p_n x (ci + 1) 0 N))
  obtain ⟨hx, hb, hml, hown, hts, hnm, hE, hf1, hf2⟩ := C0
  obtain ⟨hcl', hci, hin, hty, hnm', hgl, hdf⟩ := hc
  have hKn := hE.1.1 ci _ hcl'
  refine W.newcK hx hb hown (hts _ w1) (hts _ w2) (hts _ w3) rfl hdg hcl hsl hKn.2.1 hR.1 fun H1 kC hkC e1 z1 o1 => ?_
  have hz : H1.size = _ + 1 := z1.trans (by rw [← hR.1])
  refine k H1 (hR.push hz (fun q hq => o1 q (by rw [← hR.1]; exact hq)) (by omega) ?_) ⟨Nat.le_trans hS.1 (by omega), fun q h1 h2 => (o1 q (by rw [← hR.1]; exact Nat.lt_of_lt_of_le h1 hS.1)).trans (hS.2.1 q h1 h2), hS.2.2⟩
  have hk : h_k (p_n x (ci + 1) 0 N) (h_sz x) = ci + 1 := by simp [h_k, p_n]
  rw [ent_obj hk hci, fsv_new]
  exact ⟨_, hcl', (u_born ty hts hin hKn hkC e1 hty).to hdf⟩
theorem Int32_nneg {n : Int32} (h : 0 ≤ n.toInt) : ¬ n < 0 := by
  rw [Int32.lt_iff_toInt_lt, Int32.toInt_zero]
  omega
theorem Int32_clamp {n : Int32} : n.toNatClampNeg = n.toInt.toNat := rfl
theorem w_pn {D : va_G} {cA : Nat → ClassId} {x : Hp} {H1 : Heap} {t n w : Nat} {q : (Nat → Int32) ⊕ (Nat → Int64) ⊕ (Nat → UInt32) ⊕ (Nat → UInt64) ⊕ (Nat → Option Nat)} (hq : apay (p_n x (100 + t) n w) t (h_sz x) = q) (h : H1[h_sz x]? = some (vp_cell (cA t) (n, q))) : va_at D vwCl (h_sz x, ent cA (p_n x (100 + t) n w) (h_sz x)) H1 := by
  have hk : h_k (p_n x (100 + t) n w) (h_sz x) = 100 + t := by simp [h_k, p_n]
  have hn : h_n (p_n x (100 + t) n w) (h_sz x) = n := by simp [h_n, p_n]
  rw [ent_arr hk, hn, hq]
  exact h
theorem G_newa {at_ : ArrayType} {t kd : Nat} {n : Int32} {kk : Option Nat → Hp → Option (α × Hp)} (hkd : kd = 100 + t) (ht : (t = 0 ∧ at_ = .byte) ∨ (t = 1 ∧ at_ = .int) ∨ (t = 2 ∧ at_ = .long)) (w1 : Cond.arrayClass (newarray.typeOf at_) ∈ gT) (hdg : decode M.1 pc = .ok (.newarray at_, 2))
    (k0 : ∀ r y, G l z M okv en (pc + 2) lv (va_rf r :: st) y (kk r y)) : G l z M okv en pc lv (.int n :: st) x (newa x kd n kk) := by
  subst hkd
  refine G_if (fun hn => ?_) (fun _ => G_none)
  have hcl : n.toNatClampNeg ≤ 60000000 := by rw [Int32_clamp]; omega
  refine G_mk (fun C0 hR hS hcl' hsl k => ?_) (k0 (some (h_sz x)) (p_n x (100 + t) n.toNatClampNeg n.toNatClampNeg))
  obtain ⟨hx, hb, hml, hown, hts, hnm, hE, hf1, hf2⟩ := C0
  refine va_newaK hx hb (hts _ w1) rfl hdg rfl (Int32_nneg hn.1) rfl (by rcases ht with ⟨-, rfl⟩ | ⟨-, rfl⟩ | ⟨-, rfl⟩ <;> simp only [newarray.typeOf, componentBytes] <;> omega) hcl' hsl hR.1 fun H1 cB e1 z1 o1 hAr hNm => ?_
  have hz : H1.size = _ + 1 := z1.trans (by rw [← hR.1])
  refine k H1 (hR.push hz (fun q hq => o1 q (by rw [← hR.1]; exact hq)) (by omega) ?_) ⟨Nat.le_trans hS.1 (by omega), fun q h1 h2 => (o1 q (by rw [← hR.1]; exact Nat.lt_of_lt_of_le h1 hS.1)).trans (hS.2.1 q h1 h2), hS.2.2⟩
  rcases ht with ⟨rfl, rfl⟩ | ⟨rfl, rfl⟩ | ⟨rfl, rfl⟩
  · have h2 : _ = some _ := (hE.1.2 0 _ rfl).2
    have h3 := Option.some.inj (hNm.symm.trans h2)
    subst h3
    exact w_pn (q := .inl (fun _ => 0)) (by rw [apay_0]; congr 1; funext j; simp [h_ai, p_n]) e1
  · have h2 : _ = some _ := (hE.1.2 1 _ rfl).2
    have h3 := Option.some.inj (hNm.symm.trans h2)
    subst h3
    exact w_pn (q := .inl (fun _ => 0)) (by rw [apay_1]; congr 1; funext j; simp [h_ai, p_n]) e1
  · have h2 : _ = some _ := (hE.1.2 2 _ rfl).2
    have h3 := Option.some.inj (hNm.symm.trans h2)
    subst h3
    exact w_pn (q := .inr (.inl (fun _ => 0))) (by rw [apay_2]; congr 2; funext j; simp [h_al, p_n]) e1
end ROWSC
end
section
/-! ===== ARRAYS OF REFERENCES, LENGTHS, AND THE CONTRACT OF A WALK ===== -/
section ROWSD
variable {α : Type} {l : Launch} {z : Nat → Nat} {M : Mt} {okv : α → Prop} {en : α → Option Value} {pc : Nat} {lv : List (Nat × Value)} {st : List Value} {x : Hp}
theorem w_len {a : Nat} {f : Nat → Value} {n : Nat} : (arrV a n f).slots.size.toInt32 = Int32.ofNat n := by rw [arrV_size] <;> rfl
theorem G_alen {r : Option Nat} {kd t : Nat} {kk : Int32 → Option (α × Hp)} (hkd : kd = 100 + t) (ht2 : t < 8) (hdg : decode M.1 pc = .ok (.arraylength, 1)) (k0 : ∀ v, G l z M okv en (pc + 1) lv (.int v :: st) x (kk v)) : G l z M okv en pc lv (va_rf r :: st) x (alen r x kd kk) := by
  refine G_obj fun b hr hkb => ?_
  subst hr; subst hkd
  refine G_rd (fun {D cA b0 p e R s m args below meth c H locs cells slots Q ls} C hR hS k2 => ?_) (k0 (Int32.ofNat (h_n x b)))
  obtain ⟨hx, hb, -, hown, hts, hnm, ⟨hK, -⟩, -⟩ := C
  have h1 := hR.at_arr hkb (by omega)
  have hP : va_P D vwCl [(b, .inl (cA t, (h_n x b, apay x t b)))] H := fun k q hq => by
    have hz : k < 1 := (List.getElem?_eq_some_iff.mp hq).1
    rw [show k = 0 by omega] at hq
    cases hq
    exact h1
  have go : ∀ ty : FieldType, (gTy cA)[t]? = some (cA t, ty) → W p l e R s m args below meth c H locs cells slots Q (F0 m pc ls (.ref b :: st)) := fun ty h => va_alen (ty := ty) hx hb hK hP 0 t rfl h rfl hdg k2
  rcases (show t = 0 ∨ t = 1 ∨ t = 2 ∨ t = 3 ∨ t = 4 ∨ t = 5 ∨ t = 6 ∨ t = 7 by omega) with rfl | rfl | rfl | rfl | rfl | rfl | rfl | rfl
  · exact go _ rfl
  · exact go _ rfl
  · exact go _ rfl
  · exact go _ rfl
  · exact go _ rfl
  · exact go _ rfl
  · exact go _ rfl
  · exact go _ rfl
/-- an object of class number ci into a row of such -/
theorem G_aast {r v : Option Nat} {i : Int32} {kd kv t ci N : Nat} {C : String} {T : u_T} {ty : Nat → FieldType} {kk : Hp → Option (α × Hp)} (hcl : Cl ci C T N ty) (hkd : kd = 100 + t) (hkv : kv = ci + 1) (ht : 2 < t) (ht2 : t < 7) (hty : ∀ cA, (gTy cA)[t]? = some (cA t, .object C)) (hdg : decode M.1 pc = .ok (.aastore, 1)) (k0 : ∀ y, G l z M okv en (pc + 1) lv st y (kk y)) : G l z M okv en pc lv (va_rf v :: .int i :: va_rf r :: st) x (astr r x kd kv i v kk) := by
  refine G_idx fun b hr hkb hi => ?_
  subst hr; subst hkd; subst hkv
  have fin : ∀ {w : Option Nat} {D : va_G} {cA : Nat → ClassId} {b0 : Nat} {s : State} {H H1 : Heap} {locs : List Loc}, Rep D cA b0 s x H → va_S (fun q => b0 ≤ q) s.heap H locs → H1[b]? = some ((vp_cell (cA t) (h_n x b, .inr (.inr (.inr (.inr (h_ar x b)))))).setSlot i.toNatClampNeg (va_rf w)) → H1.size = H.size → (∀ q, q ≠ b → H1[q]? = H[q]?) → Rep D cA b0 s (p_ar x b i.toNatClampNeg w) H1 ∧ va_S (fun q => b0 ≤ q) s.heap H1 (locs ++ [⟨b, i.toNatClampNeg⟩]) := by
    intro w D cA b0 s H H1 locs hR hS e zz oq
    refine w_arr (t := t) (y := p_ar x b i.toNatClampNeg w) (n := 0) (by omega) hR hkb hS zz oq rfl rfl (fun q hq => Sm_par hq) ?_
    rw [e, w_apay ht, vp_cell_q, vp_cell_q, arrV_store]
    congr 2
    funext q
    by_cases hq : q = i.toNatClampNeg
    · subst hq
      simp [updV, h_ar, p_ar, u2]
    · simp [updV, h_ar, p_ar, u2, hq]
  have hsz : ∀ (cB : ClassId), ¬ (i < 0 ∨ (arrV cB (h_n x b) (fun j => va_rf (h_ar x b j))).slots.size ≤ i.toNatClampNeg) := fun cB => by rw [arrV_size]; exact h_in hi
  cases v with
  | none =>
    refine G_wr (y := p_ar x b i.toNatClampNeg none) rfl rfl (fun {D cA b0 p e R s m args below meth c H locs cells slots Q ls} C0 hR hS k2 => ?_) (k0 _)
    obtain ⟨hx, hb, -, hown, hts, hnm, ⟨hK, -⟩, -⟩ := C0
    have h1 := hR.at_arr hkb (by omega)
    rw [w_apay ht] at h1
    exact va_WaastN (C := C) hx hb h1 ((hK.2 t _ (hty cA)).1 _ (fun j => va_rf (h_ar x b j))) (fun h => by cases h) (hsz _) rfl rfl hdg fun H1 e zz oq => (fun hh => k2 H1 _ hh.1 hh.2) (fin (w := none) hR hS e zz oq)
  | some v =>
    refine G_if (fun hkv => ?_) (fun _ => G_none)
    refine G_wr (y := p_ar x b i.toNatClampNeg (some v)) rfl rfl (fun {D cA b0 p e R s m args below meth c H locs cells slots Q ls} C0 hR hS k2 => ?_) (k0 _)
    obtain ⟨hx, hb, -, hown, hts, hnm, ⟨hK, -⟩, -⟩ := C0
    have h1 := hR.at_arr hkb (by omega)
    rw [w_apay ht] at h1
    obtain ⟨r', hr', cellV, g1, g2, g3, -⟩ := hR.at_obj hkv hcl.2.1 0 _ rfl
    have hcls := (hK.1 ci _ hcl.1).2
    obtain ⟨kA, comp, c1, c2, c3, -⟩ := (hK.2 t _ (hty cA)).2
    have hcomp : comp = D.1 ci := Option.some.inj (c3.symm.trans hcls.1)
    subst hcomp
    obtain ⟨kC, hkC, -⟩ := hcls.2
    exact W.aast hx hb h1 (fun q h => by cases h) (fun h => by cases h) c1 c2 rfl hkC ⟨fun q => h_in hi (Or.inl q), Nat.not_le.mp fun q => hsz (cA t) (Or.inr q)⟩ g1 (fun q h => by rw [g3] at h; cases h) (by rw [g2]; exact hkC) (by rw [g2]; exact va_assign hcls) rfl rfl hdg fun H1 e zz oq => (fun hh => k2 H1 _ hh.1 hh.2) (fin (w := some v) hR hS e zz oq)
theorem G_anew {C : String} {i t kd : Nat} {n : Int32} {kk : Option Nat → Hp → Option (α × Hp)} (hkd : kd = 100 + t) (ht : 2 < t) (ht2 : t < 7) (hty : ∀ cA, (gTy cA)[t]? = some (cA t, .object C)) (w1 : Cond.classLink M.2.1 i C ∈ gT) (w2 : C ∈ gAO) (hdg : decode M.1 pc = .ok (.anewarray i, 3))
    (k0 : ∀ r y, G l z M okv en (pc + 3) lv (va_rf r :: st) y (kk r y)) : G l z M okv en pc lv (.int n :: st) x (newa x kd n kk) := by
  subst hkd
  refine G_if (fun hn => ?_) (fun _ => G_none)
  have hcl : n.toNatClampNeg ≤ 60000000 := by rw [Int32_clamp]; omega
  refine G_mk (fun {D cA b0 p e R s m args below meth c H locs cells slots Q ls} C0 hR hS hcl' hsl k => ?_) (k0 (some (h_sz x)) (p_n x (100 + t) n.toNatClampNeg n.toNatClampNeg))
  obtain ⟨hx, hb, hml, hown, hts, hnm, hE, hf1, hf2⟩ := C0
  refine W.anew hx hb hown (hts _ w1) (va_AO.use (hE.2.2.2.2.1 C w2)) rfl hdg rfl (Int32_nneg hn.1) (by omega) hcl' hsl fun cB kA comp f1 f2 f3 f4 => ?_
  generalize hH1 : H.push ({ cls := cB, slots := Array.replicate n.toNatClampNeg .null, vm := .none } : Cell) = H1
  have z1 : H1.size = H.size + 1 := by rw [← hH1, Array.size_push]
  have e1 : H1[h_sz x]? = some (arrV cB n.toNatClampNeg (fun _ => .null)) := by rw [← hH1, ← hR.1, Array.getElem?_push_size, ← arrV_new]
  have o1 : ∀ q : Nat, q < H.size → H1[q]? = H[q]? := fun q hq => by rw [← hH1, Array.getElem?_push, if_neg (Nat.ne_of_lt hq)]
  obtain ⟨kA', comp', -, -, -, h2⟩ := (hE.1.2 t _ (hty cA)).2
  have h3 := Option.some.inj (f1.symm.trans h2)
  dsimp only at h3
  subst h3
  rw [hR.1]
  refine k H1 (hR.push z1 o1 (by omega) ?_) ⟨Nat.le_trans hS.1 (by omega), fun q h1 h2 => (o1 q (Nat.lt_of_lt_of_le h1 hS.1)).trans (hS.2.1 q h1 h2), hS.2.2⟩
  exact w_pn (q := .inr (.inr (.inr (.inr (fun _ => none))))) (by rw [w_apay ht]; congr 4; funext j; simp [h_ar, p_n]) e1
end ROWSD
/-! the contract out of the walk, by the kind of what is returned -/
section CTOF
variable {l : Launch} {z : Nat → Nat} {y : MethodName} {b : ByteArray} {n d : Nat} {av : List Value}
theorem ct_of {α : Type} {okv : α → Prop} {en : α → Option Value} {ri : Instr} {ret : Option FieldType} {f : Hp → Option (α × Hp)} (hG : ∀ x, G l z (b, y.cls, y.name, n, ri, d) okv en 0 (lv_args 0 av) [] x (f x)) (hy : plainName y.cls = true) (hs : (lg_sl av).length ≤ n)
    (hret : ∀ {p : Program} {e : Env} {R : Room} {s : State} {m : MethodId} {args : Array Value} {below : List Frame} {meth : Method} {c : Code} {H : Heap} {locs : List Loc} {cells slots : Nat} {Qc : Array Value → State → Outcome → State → Prop} {free : Addr → Prop} {v : α} {pc : Nat} {ls : Array Slot}, okv v → p.tables.exec = Jvm.exec → c.code = b → meth.sig.returnType = ret → meth.locks = false → (∀ t : State, t.heap = H → s.WarmedH t.vm → Qc args s (.returned (en v)) t) → (∀ q ∈ locs, free q.base) → decode b pc = .ok (ri, 1) → W p l e R s m args below meth c H locs cells slots (MQ below Qc args s cells slots free) (F0 m pc ls (en v).toList)) : Ct l z y b n ret d en av f := by
  intro x v xe hE
  obtain ⟨h0, k⟩ := hG x v xe hE
  refine ⟨h0, fun D cA b0 => Met.ofW (cc := b) (maxL := n) (ret := ret) hy rfl ?_⟩
  intro p e s m args below meth c s₁ B hml hv
  obtain ⟨rfl, hR, hEv⟩ := hv
  have hts := atoms_spec (ws := .code y b n ret :: gT) B.pre
  have hl := lv_entry av (n := n) hs
  rw [lg_entry_eq]
  generalize (lg_sl av ++ List.replicate (n - (lg_sl av).length) Slot.unset).toArray = ls at hl ⊢
  have h1 := k D cA b0 p e (headSpec (.code y b n ret :: gT) ({ frames := d, cells := h_sz xe - h_sz x, slots := h_sl xe - h_sl x, locals := 64 * d })).room s m av.toArray below meth c (h_sz x) (h_sl x) (MQ below (gQc D cA b0 (en v) xe) av.toArray s (h_sz xe - h_sz x) (h_sl xe - h_sl x) (fun q => b0 ≤ q))
    ⟨B.exec, B.bytes, hml, findClass_of_methodNamed B.named, fun w hw => hts w (List.mem_cons_of_mem _ hw), (name_of_methodNamed B.named B.method).1, hEv, Nat.le_refl _, Nat.le_refl _⟩ (Nat.le_refl _) (Nat.le_refl _)
    (fun pc H locs ls ok hdg hR' hS' => hret ok B.exec B.bytes B.returns B.notSynchronized (fun t ht hW => ⟨⟨rfl, by rw [ht]; exact hR'.moved hW.alike⟩, hS'.F ht⟩) hS'.2.2 hdg) s.heap [] ls (Nat.le_refl _) (Nat.le_refl _) hR va_S.rf hl
  rw [Nat.sub_self, Nat.sub_self] at h1
  exact h1
theorem Ct_i {f : Hp → Option (Int32 × Hp)} (hG : ∀ x, G l z (b, y.cls, y.name, n, .ireturn, d) (fun _ => True) (fun v => some (.int v)) 0 (lv_args 0 av) [] x (f x)) (hy : plainName y.cls = true) (hs : (lg_sl av).length ≤ n) : Ct l z y b n (some .int) d (fun v : Int32 => some (.int v)) av f :=
  ct_of hG hy hs (fun _ hx hb hr hlk hq hf hdg => W.iret hx hb hr hq hf hdg hlk)
theorem Ct_z {f : Hp → Option (Int32 × Hp)} (hG : ∀ x, G l z (b, y.cls, y.name, n, .ireturn, d) (fun v => v = 0 ∨ v = 1) (fun v => some (.int v)) 0 (lv_args 0 av) [] x (f x)) (hy : plainName y.cls = true) (hs : (lg_sl av).length ≤ n) : Ct l z y b n (some .boolean) d (fun v : Int32 => some (.int v)) av f :=
  ct_of hG hy hs (fun ok hx hb hr hlk hq hf hdg => W.zret hx hb hr (nar_bool ok).1 hq hf hdg hlk)
theorem Ct_v {f : Hp → Option (Unit × Hp)} (hG : ∀ x, G l z (b, y.cls, y.name, n, .return_, d) (fun _ => True) (fun _ => none) 0 (lv_args 0 av) [] x (f x)) (hy : plainName y.cls = true) (hs : (lg_sl av).length ≤ n) : Ct l z y b n none d (fun _ : Unit => none) av f :=
  ct_of hG hy hs (fun _ hx hb hr hlk hq hf hdg => W.vret hx hb hr hq hf hdg hlk)
theorem Ct_r {C : String} {f : Hp → Option (Option Nat × Hp)} (hG : ∀ x, G l z (b, y.cls, y.name, n, .areturn, d) (fun _ => True) (fun v => some (va_rf v)) 0 (lv_args 0 av) [] x (f x)) (hy : plainName y.cls = true) (hs : (lg_sl av).length ≤ n) : Ct l z y b n (some (.object C)) d (fun v : Option Nat => some (va_rf v)) av f :=
  ct_of hG hy hs (fun {p e R s m args below meth c H locs cells slots Qc free v pc ls} _ hx hb hr hlk hq hf hdg => W.aret hx hb hr (Or.inl ⟨_, rfl⟩) (by cases v with | none => exact Or.inl rfl | some a => exact Or.inr ⟨a, rfl⟩) hq hf hdg hlk)
theorem Ct_ra {T : FieldType} {f : Hp → Option (Option Nat × Hp)} (hG : ∀ x, G l z (b, y.cls, y.name, n, .areturn, d) (fun _ => True) (fun v => some (va_rf v)) 0 (lv_args 0 av) [] x (f x)) (hy : plainName y.cls = true) (hs : (lg_sl av).length ≤ n) : Ct l z y b n (some (.array T)) d (fun v : Option Nat => some (va_rf v)) av f :=
  ct_of hG hy hs (fun {p e R s m args below meth c H locs cells slots Qc free v pc ls} _ hx hb hr hlk hq hf hdg => W.aret hx hb hr (Or.inr ⟨_, rfl⟩) (by cases v with | none => exact Or.inl rfl | some a => exact Or.inr ⟨a, rfl⟩) hq hf hdg hlk)
theorem Ct_l {f : Hp → Option (Int64 × Hp)} (hG : ∀ x, G l z (b, y.cls, y.name, n, .lreturn, d) (fun _ => True) (fun v => some (.long v)) 0 (lv_args 0 av) [] x (f x)) (hy : plainName y.cls = true) (hs : (lg_sl av).length ≤ n) : Ct l z y b n (some .long) d (fun v : Int64 => some (.long v)) av f :=
  ct_of hG hy hs (fun _ hx hb hr hlk hq hf hdg => W.lret hx hb hr hq hf hdg hlk)
theorem Ct_d {f : Hp → Option (UInt64 × Hp)} (hG : ∀ x, G l z (b, y.cls, y.name, n, .dreturn, d) (fun _ => True) (fun v => some (.double v)) 0 (lv_args 0 av) [] x (f x)) (hy : plainName y.cls = true) (hs : (lg_sl av).length ≤ n) : Ct l z y b n (some .double) d (fun v : UInt64 => some (.double v)) av f :=
  ct_of hG hy hs (fun _ hx hb hr hlk hq hf hdg => W.dret hx hb hr hq hf hdg hlk)
end CTOF
theorem lgl_n : (lg_sl []).length = 0 := rfl
theorem lgl_i {v : Int32} {l : List Value} : (lg_sl (.int v :: l)).length = (lg_sl l).length + 1 := by simp [lg_sl, Value.category]
theorem lgl_o {v : Nat} {l : List Value} : (lg_sl (.ref v :: l)).length = (lg_sl l).length + 1 := by simp [lg_sl, Value.category]
theorem lgl_r {v : Option Nat} {l : List Value} : (lg_sl (va_rf v :: l)).length = (lg_sl l).length + 1 := by cases v <;> simp [lg_sl, va_rf, Value.category]
theorem lgl_j {v : Int64} {l : List Value} : (lg_sl (.long v :: l)).length = (lg_sl l).length + 2 := by simp [lg_sl, Value.category]
theorem lva_n {i : Nat} : lv_args i [] = [] := rfl
theorem lva_i {i : Nat} {v : Int32} {l : List Value} : lv_args i (.int v :: l) = (i, .int v) :: lv_args (i + 1) l := by simp [lv_args, Value.category]
theorem lva_o {i : Nat} {v : Nat} {l : List Value} : lv_args i (.ref v :: l) = (i, va_rf (some v)) :: lv_args (i + 1) l := by simp [lv_args, Value.category, va_rf]
theorem lva_r {i : Nat} {v : Option Nat} {l : List Value} : lv_args i (va_rf v :: l) = (i, va_rf v) :: lv_args (i + 1) l := by cases v <;> simp [lv_args, va_rf, Value.category]
theorem lva_j {i : Nat} {v : Int64} {l : List Value} : lv_args i (.long v :: l) = (i, .long v) :: lv_args (i + 2) l := by simp [lv_args, Value.category]
theorem hw_n : (([] : List Value).map fun v => v.category).sum = 0 := rfl
theorem hw_i {v : Int32} {l : List Value} : ((Value.int v :: l).map fun v => v.category).sum = 1 + (l.map fun v => v.category).sum := by simp [Value.category]
theorem hw_r {v : Option Nat} {l : List Value} : ((va_rf v :: l).map fun v => v.category).sum = 1 + (l.map fun v => v.category).sum := by cases v <;> simp [va_rf, Value.category]
theorem hw_j {v : Int64} {l : List Value} : ((Value.long v :: l).map fun v => v.category).sum = 2 + (l.map fun v => v.category).sum := by simp [Value.category]
theorem hw_d {v : UInt64} {l : List Value} : ((Value.double v :: l).map fun v => v.category).sum = 2 + (l.map fun v => v.category).sum := by simp [Value.category]
/-! rows of rows of ints; cells from before -/
section ROWSE
variable {α : Type} {l : Launch} {z : Nat → Nat} {M : Mt} {okv : α → Prop} {en : α → Option Value} {pc : Nat} {lv : List (Nat × Value)} {st : List Value} {x : Hp}
theorem G_anewA {i : Nat} {n : Int32} {kk : Option Nat → Hp → Option (α × Hp)} (w1 : Cond.classLink M.2.1 i "[I" ∈ gT) (hdg : decode M.1 pc = .ok (.anewarray i, 3))
    (k0 : ∀ r y, G l z M okv en (pc + 3) lv (va_rf r :: st) y (kk r y)) : G l z M okv en pc lv (.int n :: st) x (newa x 107 n kk) := by
  refine G_if (fun hn => ?_) (fun _ => G_none)
  have hcl : n.toNatClampNeg ≤ 60000000 := by rw [Int32_clamp]; omega
  refine G_mk (fun {D cA b0 p e R s m args below meth c H locs cells slots Q ls} C0 hR hS hcl' hsl k => ?_) (k0 (some (h_sz x)) (p_n x (100 + 7) n.toNatClampNeg n.toNatClampNeg))
  obtain ⟨hx, hb, hml, hown, hts, hnm, hE, hf1, hf2⟩ := C0
  refine W.anewA (t := .int) hx hb hown (hts _ w1) (over_moved (Vm.Alike.refl _) hE.2.2.2.2.2.1) rfl hdg rfl (Int32_nneg hn.1) (by omega) hcl' hsl fun cB kA comp f1 f2 f3 f4 => ?_
  generalize hH1 : H.push ({ cls := cB, slots := Array.replicate n.toNatClampNeg .null, vm := .none } : Cell) = H1
  have z1 : H1.size = H.size + 1 := by rw [← hH1, Array.size_push]
  have e1 : H1[h_sz x]? = some (arrV cB n.toNatClampNeg (fun _ => .null)) := by rw [← hH1, ← hR.1, Array.getElem?_push_size, ← arrV_new]
  have o1 : ∀ q : Nat, q < H.size → H1[q]? = H[q]? := fun q hq => by rw [← hH1, Array.getElem?_push, if_neg (Nat.ne_of_lt hq)]
  have h2 : s.vm.findClass ("[" ++ (FieldType.array .int).toString) = some (cA 7) := (hE.1.2 7 _ rfl).2
  have h3 := Option.some.inj (f1.symm.trans h2)
  subst h3
  rw [hR.1]
  refine k H1 (hR.push z1 o1 (by omega) ?_) ⟨Nat.le_trans hS.1 (by omega), fun q h1 h2 => (o1 q (Nat.lt_of_lt_of_le h1 hS.1)).trans (hS.2.1 q h1 h2), hS.2.2⟩
  exact w_pn (q := .inr (.inr (.inr (.inr (fun _ => none))))) (by rw [w_apay (by omega)]; congr 4; funext j; simp [h_ar, p_n]) e1
theorem G_aastA {r v : Option Nat} {i : Int32} {kk : Hp → Option (α × Hp)} (hdg : decode M.1 pc = .ok (.aastore, 1)) (k0 : ∀ y, G l z M okv en (pc + 1) lv st y (kk y)) : G l z M okv en pc lv (va_rf v :: .int i :: va_rf r :: st) x (nn v fun _ => astr r x 107 101 i v kk) := by
  refine G_nn fun w hw => ?_
  subst hw
  refine G_idx fun b hr hkb hi => ?_
  subst hr
  have hsz : ∀ (cB : ClassId), ¬ (i < 0 ∨ (arrV cB (h_n x b) (fun j => va_rf (h_ar x b j))).slots.size ≤ i.toNatClampNeg) := fun cB => by rw [arrV_size]; exact h_in hi
  refine G_if (fun hkv => ?_) (fun _ => G_none)
  refine G_wr (y := p_ar x b i.toNatClampNeg (some w)) rfl rfl (fun {D cA b0 p e R s m args below meth c H locs cells slots Q ls} C0 hR hS k2 => ?_) (k0 _)
  obtain ⟨hx, hb, -, hown, hts, hnm, hE, -⟩ := C0
  have hK := hE.1
  have h1 := hR.at_arr (t := 7) hkb (by omega)
  rw [w_apay (by omega)] at h1
  have h2 := hR.at_arr (t := 1) hkv (by omega)
  obtain ⟨comp, c7, k7, g1, -, g3, g4, g5⟩ := arrayOverA_spec hE.2.2.2.2.2.1
  have h7 : s.vm.findClass ("[" ++ (FieldType.array .int).toString) = some (cA 7) := (hK.2 7 _ rfl).2
  have h1' : s.vm.findClass ("[" ++ FieldType.int.toString) = some (cA 1) := (hK.2 1 _ rfl).2
  have e7 := Option.some.inj (g5.symm.trans h7)
  have e1 : comp = cA 1 := Option.some.inj (g1.symm.trans h1')
  subst e7; subst e1
  obtain ⟨kC, hkC, -⟩ := Vm.findClass_spec g1
  refine W.aast hx hb h1 (fun q h => by cases h) (fun h => by cases h) g3 g4 rfl hkC ⟨fun q => h_in hi (Or.inl q), Nat.not_le.mp fun q => hsz (cA 7) (Or.inr q)⟩ h2 (fun q h => by cases h) hkC (va_asg _ _) rfl rfl hdg fun H1 e zz oq => ?_
  refine (fun hh => k2 H1 _ hh.1 hh.2) (w_arr (t := 7) (y := p_ar x b i.toNatClampNeg (some w)) (n := 0) (by omega) hR hkb hS zz oq rfl rfl (fun q hq => Sm_par hq) ?_)
  rw [e, w_apay (by omega), vp_cell_q, vp_cell_q, arrV_store]
  congr 2
  funext q
  by_cases hq : q = i.toNatClampNeg
  · subst hq
    simp [updV, h_ar, p_ar, u2, va_rf]
  · simp [updV, h_ar, p_ar, u2, hq]
theorem G_ialdO {r : Option Nat} {i : Int32} {kk : Int32 → Option (α × Hp)} (hdg : decode M.1 pc = .ok (.iaload, 1)) (k0 : ∀ v, G l z M okv en (pc + 1) lv (.int v :: st) x (kk v)) : G l z M okv en pc lv (.int i :: va_rf r :: st) x (aldi r x 301 i kk) := by
  refine G_idx fun b hr hkb hi => ?_
  subst hr
  refine G_rd (fun C hR hS k2 => ?_) (k0 (h_ai x b i.toNatClampNeg))
  obtain ⟨cell, h1, h2, h3, h4, h5, h6, -⟩ := ((hR.2.2 b).2 (by omega)).2.2.2 hkb
  have hlt : i.toNatClampNeg < h_n x b := Nat.not_le.mp fun q => h_in hi (Or.inr q)
  exact W.iald (v := .int (h_ai x b i.toNatClampNeg)) C.1 C.2.1 h1 h2 h3 (fun q => q.elim (fun q => h_in hi (Or.inl q)) (fun q => by omega)) (h6 _ hlt) rfl rfl hdg k2
theorem G_baldO {r : Option Nat} {i : Int32} {kk : Int32 → Option (α × Hp)} (hdg : decode M.1 pc = .ok (.baload, 1)) (k0 : ∀ v, G l z M okv en (pc + 1) lv (.int v :: st) x (kk v)) : G l z M okv en pc lv (.int i :: va_rf r :: st) x (aldi r x 300 i kk) := by
  refine G_idx fun b hr hkb hi => ?_
  subst hr
  refine G_rd (fun C hR hS k2 => ?_) (k0 (h_ai x b i.toNatClampNeg))
  obtain ⟨cell, h1, h2, h3, h4, h5, h6, -⟩ := ((hR.2.2 b).2 (by omega)).2.2.1 hkb
  have hlt : i.toNatClampNeg < h_n x b := Nat.not_le.mp fun q => h_in hi (Or.inr q)
  exact W.bald (v := .int (h_ai x b i.toNatClampNeg)) C.1 C.2.1 h1 h2 h3 (fun q => q.elim (fun q => h_in hi (Or.inl q)) (fun q => by omega)) (h6 _ hlt) rfl rfl hdg k2
theorem G_alenO {r : Option Nat} {kk : Int32 → Option (α × Hp)} (hdg : decode M.1 pc = .ok (.arraylength, 1)) (k0 : ∀ v, G l z M okv en (pc + 1) lv (.int v :: st) x (kk v)) : G l z M okv en pc lv (va_rf r :: st) x (alen r x 301 kk) := by
  refine G_obj fun b hr hkb => ?_
  subst hr
  refine G_rd (fun C hR hS k2 => ?_) (k0 (Int32.ofNat (h_n x b)))
  obtain ⟨cell, h1, h2, h3, h4, h5, h6, -⟩ := ((hR.2.2 b).2 (by omega)).2.2.2 hkb
  exact W.alen C.1 C.2.1 h1 h2 h5 rfl rfl hdg k2
/-- a division of doubles that isn't NaN -/
def nnan {β : Type} (v : UInt64) (k : Option β) : Option β := if v &&& 0x7fffffffffffffff ≤ 0x7ff0000000000000 then k else none
theorem G_ddiv {a b : UInt64} {E : Option (α × Hp)} (hdg : decode M.1 pc = .ok (.ddiv, 1)) (k : G l z M okv en (pc + 1) lv (.double (FP.ddiv a b) :: st) x E) : G l z M okv en pc lv (.double b :: .double a :: st) x (nnan (FP.ddiv a b) E) :=
  G_if (fun hne => G_st (fun C _ k => lv_ddiv C.1 C.2.1 hdg hne k) k) (fun _ => G_none)
theorem G_mmin {i : Nat} {a b : Int32} {E : Option (α × Hp)} (w1 : Cond.methodLink M.2.1 i Lib.Math.min.name ∈ gT) (w2 : Cond.static Lib.Math.min.name ∈ gT) (w3 : Cond.initialized "java/lang/Math" ∈ gT) (w4 : Cond.code Lib.Math.min.name Lib.Math.min.code 2 (some .int) ∈ gT) (hd : 1 ≤ M.2.2.2.2.2) (hW : (st.map fun v => v.category).sum ≤ 8) (hdg : decode M.1 pc = .ok (.invokestatic i, 3)) (k : G l z M okv en (pc + 3) lv (.int (if b < a then b else a) :: st) x E) : G l z M okv en pc lv (.int b :: .int a :: st) x E := by
  intro v xe hE
  obtain ⟨h0, k⟩ := k v xe hE
  refine ⟨h0, fun D cA b0 p e R s m args below meth c z0 s0 Q C h1 h2 hF H locs ls h3 h4 hR hS hl => ?_⟩
  have k1 := k D cA b0 p e R s m args below meth c z0 s0 Q C h1 h2 hF H locs ls h3 h4 hR hS hl
  obtain ⟨hx, hb, hml, hown, hts, hnm, hE, hf1, hf2⟩ := C
  exact va_mmin hx hb (hml.trans hl.1.symm) hown (hts _ w1) (hts _ w2) (hts _ w3) (hts _ w4) (Nat.le_trans hd hf1) (by omega) (by omega) (by omega) hdg k1
theorem G_mmax {i : Nat} {a b : Int32} {E : Option (α × Hp)} (w1 : Cond.methodLink M.2.1 i Lib.Math.max.name ∈ gT) (w2 : Cond.static Lib.Math.max.name ∈ gT) (w3 : Cond.initialized "java/lang/Math" ∈ gT) (w4 : Cond.code Lib.Math.max.name Lib.Math.max.code 2 (some .int) ∈ gT) (hd : 1 ≤ M.2.2.2.2.2) (hW : (st.map fun v => v.category).sum ≤ 8) (hdg : decode M.1 pc = .ok (.invokestatic i, 3)) (k : G l z M okv en (pc + 3) lv (.int (if a < b then b else a) :: st) x E) : G l z M okv en pc lv (.int b :: .int a :: st) x E := by
  intro v xe hE
  obtain ⟨h0, k⟩ := k v xe hE
  refine ⟨h0, fun D cA b0 p e R s m args below meth c z0 s0 Q C h1 h2 hF H locs ls h3 h4 hR hS hl => ?_⟩
  have k1 := k D cA b0 p e R s m args below meth c z0 s0 Q C h1 h2 hF H locs ls h3 h4 hR hS hl
  obtain ⟨hx, hb, hml, hown, hts, hnm, hE, hf1, hf2⟩ := C
  exact va_mmax hx hb (hml.trans hl.1.symm) hown (hts _ w1) (hts _ w2) (hts _ w3) (hts _ w4) (Nat.le_trans hd hf1) (by omega) (by omega) (by omega) hdg k1
end ROWSE
end
section
/-! ===== STRINGS AND THEIR BUILDERS: the rows that their code needs ===== -/
section JCOMB
variable {β : Type}
/-- a String, made or from before -/
def objS (r : Option Nat) (x : Hp) (k : Nat → Option β) : Option β := match r with
  | none => none
  | some b => if h_k x b = 1 ∨ h_k x b = 201 then k b else none
def gsr (r : Option Nat) (x : Hp) (k : Option Nat → Option β) : Option β := objS r x fun b => k (h_r x 0 b)
def gsi (r : Option Nat) (x : Hp) (k : Int32 → Option β) : Option β := objS r x fun b => k (h_i x 1 b)
/-- bytes, made or from before -/
def objB (r : Option Nat) (x : Hp) (k : Nat → Option β) : Option β := match r with
  | none => none
  | some b => if h_k x b = 100 ∨ h_k x b = 300 then k b else none
def alenB (r : Option Nat) (x : Hp) (k : Int32 → Option β) : Option β := objB r x fun b => k (Int32.ofNat (h_n x b))
def aldb (r : Option Nat) (x : Hp) (i : Int32) (k : Int32 → Option β) : Option β := objB r x fun b => if 0 ≤ i.toInt ∧ i.toInt < h_n x b then k (h_ai x b i.toNatClampNeg) else none
/-- System.arraycopy of bytes, of one row into another -/
def acpy (r : Option Nat) (x : Hp) (sp : Int32) (q : Option Nat) (dp n : Int32) (k : Hp → Option β) : Option β := objB r x fun a => obj q x 100 fun b =>
  if a ≠ b ∧ 0 ≤ sp.toInt ∧ 0 ≤ dp.toInt ∧ 0 ≤ n.toInt ∧ sp.toNatClampNeg + n.toNatClampNeg ≤ h_n x a ∧ dp.toNatClampNeg + n.toNatClampNeg ≤ h_n x b ∧ (∀ i, i < n.toNatClampNeg → fits .byte (.int (h_ai x a (sp.toNatClampNeg + i))) = true) then k (p_aw x b (va_cpy (h_ai x a) (h_ai x b) sp.toNatClampNeg dp.toNatClampNeg n.toNatClampNeg)) else none
/-- a copy of a row of bytes -/
def clonb (r : Option Nat) (x : Hp) (k : Option Nat → Hp → Option β) : Option β := obj r x 100 fun b => if (∀ i, i < h_n x b → fits .byte (.int (h_ai x b i)) = true) then k (some (h_sz x)) (p_aw (p_n x 100 (h_n x b) (h_n x b)) (h_sz x) (h_ai x b)) else none
def castb (r : Option Nat) (x : Hp) (k : Option β) : Option β := obj r x 100 fun _ => k
def byt (v : Int32) (k : Option β) : Option β := if v = 0 ∨ v = 1 then k else none
def chr (v : Int32) (k : Option β) : Option β := if 0 ≤ v.toInt ∧ v.toInt < 65536 then k else none
end JCOMB
abbrev okB : Int32 → Prop := fun v => v = 0 ∨ v = 1
abbrev okC : Int32 → Prop := fun v => 0 ≤ v.toInt ∧ v.toInt < 65536
theorem nar_byt {v : Int32} (h : v = 0 ∨ v = 1) : narrow .byte (.int v) = .int v ∧ fits .byte (.int v) = true := by rcases h with rfl | rfl <;> exact ⟨rfl, rfl⟩
theorem nar_chr {v : Int32} (h : 0 ≤ v.toInt ∧ v.toInt < 65536) : narrow .char (.int v) = .int v := by
  have h1 : v = nI v.toInt.toNat := Int32.toInt_inj.mp (by rw [nI_toInt (by omega)]; omega)
  rw [h1]
  exact (pk_charN (by omega)).1
theorem Ct_b {l : Launch} {z : Nat → Nat} {y : MethodName} {b : ByteArray} {n d : Nat} {av : List Value} {f : Hp → Option (Int32 × Hp)} (hG : ∀ x, G l z (b, y.cls, y.name, n, .ireturn, d) (fun v => v = 0 ∨ v = 1) (fun v => some (.int v)) 0 (lv_args 0 av) [] x (f x)) (hy : plainName y.cls = true) (hs : (lg_sl av).length ≤ n) : Ct l z y b n (some .byte) d (fun v : Int32 => some (.int v)) av f :=
  ct_of hG hy hs (fun ok hx hb hr hlk hq hf hdg => W.zret hx hb hr (nar_byt ok).1 hq hf hdg hlk)
theorem Ct_c {l : Launch} {z : Nat → Nat} {y : MethodName} {b : ByteArray} {n d : Nat} {av : List Value} {f : Hp → Option (Int32 × Hp)} (hG : ∀ x, G l z (b, y.cls, y.name, n, .ireturn, d) okC (fun v => some (.int v)) 0 (lv_args 0 av) [] x (f x)) (hy : plainName y.cls = true) (hs : (lg_sl av).length ≤ n) : Ct l z y b n (some .char) d (fun v : Int32 => some (.int v)) av f :=
  ct_of hG hy hs (fun ok hx hb hr hlk hq hf hdg => W.zret hx hb hr (nar_chr ok) hq hf hdg hlk)
section PRIV
variable {p : Program} {l : Launch} {e : Env} {R : Room} {s : State} {m : MethodId} {args : Array Value} {below : List Frame} {meth : Method} {c : Code} {T : State} {locs : List Loc} {cells slots : Nat} {H : Heap} {Q : State → Prop}
/-- a private method of a superclass, called on an object of a subclass -/
theorem w_callVP (X : Stand p l e R s m args below meth c T locs cells slots) (hexec : p.tables.exec = Jvm.exec) {own : String} {index : Nat} {y : MethodName} {bytes : ByteArray} {maxL : Nat} {ret : Option FieldType}
    (hown : s.vm.findClass own = some m.cls) (hlink : (Cond.methodLink own index y).before args s = true) (hinst : (Cond.instanceMethod y).before args s = true) (hpriv : (Cond.privateMethod y).before args s = true)
    (hni : ∀ mk, s.methodNamed? y = some mk → ∃ kP : Class, s.vm.classes[mk.cls]? = some kP ∧ kP.isInterface = false)
    (hcode : (Cond.code y bytes maxL ret).before args s = true) (hy : y.cls ≠ "java/lang/invoke/MethodHandle" ∧ y.cls ≠ "java/lang/invoke/VarHandle")
    {W : Nat} {Pre : Pt → Array Value → Prop} {Post : Pt → Array Value → Option Value → Pt → Prop} (hK : Back l R p e below s args y 3 W Pre Post)
    {b : Addr} {cellB : Cell} (hcell : T.heap[b]? = some cellB) (hobj : cellB.vm.isStatics = false)
    {g : JFrame} (hg : g.method = m) (hsize : g.locals.size = c.maxLocals) {argsL rest : List Value} (hlen : ∀ sig, parseMethodDescriptor y.desc = some sig → argsL.length = sig.parameters.length)
    (hstack : g.stack = argsL.reverse ++ .ref b :: rest) (hW : 2 * g.monitorRoom + (rest.map fun v => v.category).sum ≤ W) (hdg : decode c.code g.pc = .ok (.invokevirtual index, 3))
    (hpre : ∀ vm₁, s.WarmedH vm₁ → Pre ⟨T.setVm vm₁, locs, cells, slots⟩ (Value.ref b :: argsL).toArray) :
    ∃ (v : Option Value) (vm₁ : Vm) (B : Pt), s.WarmedH vm₁ ∧ Stand p l e R s m args below meth c B.U B.locs B.cells B.slots ∧ Post ⟨T.setVm vm₁, locs, cells, slots⟩ (Value.ref b :: argsL).toArray v B ∧
      ∀ target, Steps p.tables e below (B.U.setTop { g with pc := g.pc + 3, stack := v.toList ++ rest }) target → Steps p.tables e below (T.setTop g) target := by
  obtain ⟨mk, methM, hnamed, hmethM, hstM, habM⟩ := Cond.instanceMethod_spec hinst
  obtain ⟨methM', cM, hmethM', -, -, -, -, -, -, hsigM⟩ := Cond.code_spec hnamed hcode
  cases hmethM.symm.trans hmethM'
  obtain ⟨kP, hkP, hkPi⟩ := hni mk hnamed
  have hselP : selectMethod e.platform s.vm cellB.cls mk = .method mk := by rw [Launch.admits_selectMethod X.admits]; exact selectMethod_private hmethM (Cond.privateMethod_at hpriv mk methM hnamed hmethM)
  obtain ⟨vm₁, X₁, hstep₁⟩ := X.invokevirtual hexec hown hlink hnamed hmethM hstM hkP hkPi hy (a := b) (cell := cellB) hcell
    (fun z h => by rw [h] at hobj; cases hobj) hselP hmethM habM hkP hkPi (g := g) hg (argsL := argsL) (rest := rest) (hlen _ hsigM) hstack hdg
  obtain ⟨v, B, X', hpost, hsteps⟩ := hK m meth c ⟨T.setVm vm₁, locs, cells, slots⟩ { g with stack := rest } (.invokevirtual index) mk (Value.ref b :: argsL).toArray X₁ hg hsize hdg hW (X₁.named hnamed) (hpre vm₁ X₁.warmed)
  exact ⟨v, vm₁, B, X₁.warmed, X', hpost, fun target h => hstep₁ _ fun acts => by rw [doInvoke_state]; exact hsteps.trans h⟩
variable {y : MethodName} {bytes cc : ByteArray} {maxL nL mc ms n index : Nat} {ret : Option FieldType} {ws : List Cond} {rm : Room} {Pc : Array Value → State → Prop} {Qc : Array Value → State → Outcome → State → Prop} {free : Addr → Prop} {Ts : List Cond} {own C : String} {b : Addr} {As rest : List Value} {g : JFrame}
theorem w_runVP (S : CallFix p m c cc nL s args Ts own) (hM : Met l y ws rm Pc Qc mc ms free) (cw : CallB R s args own index y bytes maxL ret ws rm mc ms n ∧ (Cond.instanceMethod y).before args s = true ∧ (Cond.privateMethod y).before args s = true ∧ (∀ mk, s.methodNamed? y = some mk → ∃ kP : Class, s.vm.classes[mk.cls]? = some kP ∧ kP.isInterface = false)) (hp : PreV s H C b Pc As)
    (hg : g.method = m) (hn : As.length = n) (hsize : g.locals.size = nL) (hstack : g.stack = As.reverse ++ .ref b :: rest) (hW : 2 * g.monitorRoom + (rest.map fun v => v.category).sum ≤ 8) (hdg : decode cc g.pc = .ok (.invokevirtual index, 3)) (hf : cells + mc ≤ R.cells ∧ slots + ms ≤ R.slots) :
    va_Run p l e R s m args below meth c H locs cells slots mc ms g rest (Qc (Value.ref b :: As).toArray) (free) := by
  have hK : Back l R p e below s args y 3 8 (PreOf R mc ms Pc) (PostOf Qc mc ms free) := callBack cw.1 hM hp.1
  obtain ⟨⟨-, -, -, -, -, -, hcode, -, hy, hlen, hl⟩, hin, hpr, hni⟩ := cw
  obtain ⟨hx, hb, hml, ho, -⟩ := S
  obtain ⟨-, ⟨cellB, hcB, hoB, hclB⟩, hPc⟩ := hp
  intro T hT X
  obtain ⟨v, vm₁, ⟨U', l2, c2, s2⟩, hW₁, X', ⟨g', mk, t, L, e1, e2, hq, h1, hL, h2, h3⟩, st⟩ := w_callVP X hx (bytes := bytes) (maxL := maxL) (ret := ret) ho hl hin hpr hni hcode hy hK (by rw [hT]; exact hcB) hoB hg (hsize.trans hml.symm) (argsL := As) (rest := rest) (fun sig h => hn.trans (hlen sig h)) hstack hW (by rw [hb]; exact hdg)
    (fun vm₁ hW₁ => ⟨hf.1, hf.2, hPc (T.setVm vm₁) hT hW₁⟩)
  dsimp only [Pt.U, Pt.locs, Pt.cells, Pt.slots] at X' e1 e2 h1 h2 h3 st
  subst h1; subst h2; subst h3
  exact ⟨v, (T.setVm vm₁).calling g' mk (Value.ref b :: As).toArray, t, U', L, hT, X', hL, e1, e2, hq, st⟩
variable {pc : Nat} {ls : Array Slot} {a a0 : Nat}
theorem w_copy (hexec : p.tables.exec = Jvm.exec) (hb : c.code = cc) (hml : c.maxLocals = ls.size) (hown : s.vm.findClass own = some m.cls) (hlink : (Cond.methodLink own index arraycopyName).before args s = true) (hnat : (Cond.native arraycopyName).before args s = true) (hstat : (Cond.static arraycopyName).before args s = true) (hini : (Cond.initialized "java/lang/System").before args s = true)
    {scr : Cell} {n0 n1 : Nat} {f g : Nat → Int32} {c1 : ClassId} (hc0 : H[a0]? = some scr) (hs2 : s.isArrayOf scr .byte) (hs3 : scr.vm ≠ .unknown) (hs4 : n0 ≤ scr.slots.size) (hs5 : ∀ j : Nat, j < n0 → scr.slots[j]? = some (.int (f j))) (hc1 : H[a]? = some (vp_cell c1 (n1, .inl g))) (hA1 : ArrOfT s c1 .byte)
    {sp dp n : Int32} (h1 : 0 ≤ sp.toInt) (h2 : 0 ≤ dp.toInt) (h3 : 0 ≤ n.toInt) (h4 : sp.toNatClampNeg + n.toNatClampNeg ≤ n0) (h5 : dp.toNatClampNeg + n.toNatClampNeg ≤ n1) (hfit : ∀ i : Nat, i < n.toNatClampNeg → fits .byte (.int (f (sp.toNatClampNeg + i))) = true)
    (hframes : 1 ≤ R.frames) (hlocals : (rest.map fun v => v.category).sum + (nativeFrameWords "java/lang/System" "arraycopy" 5 + 11) ≤ R.locals) (hdg : decode cc pc = .ok (.invokestatic index, 3))
    (kk : ∀ (H1 : Heap) (L : List Loc), H1[a]? = some (vp_cell c1 (n1, .inl (va_cpy f g sp.toNatClampNeg dp.toNatClampNeg n.toNatClampNeg))) → H1.size = H.size → (∀ q : Nat, q ≠ a → H1[q]? = H[q]?) → (∀ z ∈ L, z.base = a) → W p l e R s m args below meth c H1 (locs ++ L) cells slots Q (F0 m (pc + 3) ls rest)) : W p l e R s m args below meth c H locs cells slots Q (F0 m pc ls (.int n :: .int dp :: .ref a :: .int sp :: .ref a0 :: rest)) := by
  have nn : ∀ z : Int32, 0 ≤ z.toInt → z.toInt = (z.toNatClampNeg : Int) := by
    intro z hz0
    show z.toInt = ((z.toInt.toNat : Nat) : Int)
    omega
  intro T hT X
  obtain ⟨hs6, k0, hk0, cm0, hkk0⟩ := hs2
  obtain ⟨-, k1, hk1, cm1, hkk1⟩ := hA1 n1 (fun j => .int (g j))
  obtain ⟨vm', X', step⟩ := X.arraycopy hexec hown hlink hnat hstat hini (src := a0) (dst := a) (cs := scr) (cd := vp_cell c1 (n1, .inl g)) (srcPos := sp) (destPos := dp) (n := n) (by rw [hT]; exact hc0) (by rw [hT]; exact hc1)
    hs6 (fun _ h => by cases h) hs3 (fun h => by cases h) hk0 hk1 hkk0 hkk1 (by simp [refKind]) (Int32_nneg h1) (Int32_nneg h2) (Int32_nneg h3)
    (by rw [nn sp h1, nn n h3]; omega)
    (by rw [nn dp h2, nn n h3]; show ¬ _ > ((arrV c1 n1 (fun j => .int (g j))).slots.size : Int); rw [arrV_size]; omega)
    (fun vm₁ _ i hi => by
      have e : scr.slots.getD (sp.toNatClampNeg + i) .null = .int (f (sp.toNatClampNeg + i)) := by
        rw [Array.getD_eq_getD_getElem?, hs5 _ (by omega)]
        rfl
      refine ⟨?_, ?_⟩
      · rw [e]
        exact hfit i hi
      · rw [e]
        exact trivial)
    (g := F0 m pc ls (.int n :: .int dp :: .ref a :: .int sp :: .ref a0 :: rest)) rfl (by rw [hml]) (rest := rest) rfl (by rw [hb]; exact hdg) hframes (by show 2 * 0 + _ + _ ≤ _; omega)
  have e1 : copied scr (vp_cell c1 (n1, .inl g)) sp dp n = vp_cell c1 (n1, .inl (va_cpy f g sp.toNatClampNeg dp.toNatClampNeg n.toNatClampNeg)) := va_copiedX (fun z => .int z) scr c1 f g hs5 h4
  rw [e1] at X' step
  have hl : a < H.size := (Array.getElem?_eq_some_iff.mp hc1).1
  have hheap : ((T.setVm vm').setCell a (vp_cell c1 (n1, .inl (va_cpy f g sp.toNatClampNeg dp.toNatClampNeg n.toNatClampNeg)))).heap = H.setIfInBounds a (vp_cell c1 (n1, .inl (va_cpy f g sp.toNatClampNeg dp.toNatClampNeg n.toNatClampNeg))) := by rw [← hT]; rfl
  obtain ⟨t, a1, b1⟩ := kk _ _ (show (H.setIfInBounds a _)[a]? = some _ by simp [Array.getElem?_setIfInBounds, hl]) (by simp) (fun q hq => by simp [Array.getElem?_setIfInBounds, Ne.symm hq]) (fun q hq => by
      obtain ⟨z, -, hz⟩ := List.mem_map.mp hq
      rw [← hz]) _ hheap X'
  exact ⟨t, step t a1, b1⟩
theorem w_clone (hexec : p.tables.exec = Jvm.exec) (hb : c.code = cc) (hml : c.maxLocals = ls.size) {ad : String} (hown : s.vm.findClass own = some m.cls)
    (hlink : (Cond.methodLink own index ⟨ad, "clone", "()Ljava/lang/Object;"⟩).before args s = true) (hsame : (Cond.sameMethod ad "java/lang/Object" "clone" "()Ljava/lang/Object;").before args s = true)
    (hnat : (Cond.native ⟨"java/lang/Object", "clone", "()Ljava/lang/Object;"⟩).before args s = true) (hinst : (Cond.instanceMethod ⟨"java/lang/Object", "clone", "()Ljava/lang/Object;"⟩).before args s = true)
    (hsel : (Cond.selects ad ⟨ad, "clone", "()Ljava/lang/Object;"⟩ ⟨"java/lang/Object", "clone", "()Ljava/lang/Object;"⟩).before args s = true) (hcl : va_Nw (.castable ad "java/lang/Cloneable") s)
    {cB : ClassId} {v : vp_A} {ty : FieldType} (hc1 : H[a]? = some (vp_cell cB v)) (hA : ArrOfT s cB ty)
    (hnm : s.vm.findClass ad = some cB) (hfit : ∀ (i : Nat) (w : Value), (vp_cell cB v).slots[i]? = some w → fits ty w = true)
    (hframes : 1 ≤ R.frames) (hlocals : (rest.map fun v => v.category).sum + 14 ≤ R.locals) (hcells : cells + 1 ≤ R.cells) (hslots : slots + v.1 ≤ R.slots) (hdg : decode cc pc = .ok (.invokevirtual index, 3))
    (kk : ∀ (H1 : Heap), H1[H.size]? = some (vp_cell cB v) → H1.size = H.size + 1 → (∀ q : Nat, q < H.size → H1[q]? = H[q]?) →
      W p l e R s m args below meth c H1 locs (cells + 1) (slots + v.1) Q (F0 m (pc + 3) ls (.ref H.size :: rest))) : W p l e R s m args below meth c H locs cells slots Q (F0 m pc ls (.ref a :: rest)) := by
  have hsz : (vp_cell cB v).slots.size = v.1 := by
    obtain ⟨n, f | f | f | f | f⟩ := v <;> exact arrV_size _ _ _
  have hvm0 : (vp_cell cB v).vm = .none := by
    obtain ⟨n, f | f | f | f | f⟩ := v <;> rfl
  have hcl0 : (vp_cell cB v).cls = cB := by
    obtain ⟨n, f | f | f | f | f⟩ := v <;> rfl
  have hcellE : ({ cls := (vp_cell cB v).cls, slots := (vp_cell cB v).slots } : Cell) = vp_cell cB v := by
    obtain ⟨n, f | f | f | f | f⟩ := v <;> rfl
  obtain ⟨c0, t0', f1, f2, f3⟩ := Cond.castable_spec (va_Nw.use (A := args) rfl hcl)
  cases hnm.symm.trans f1
  intro T hT X
  have hcellT : T.heap[a]? = some (vp_cell cB v) := by rw [hT]; exact hc1
  obtain ⟨-, kA, hkA, comp, hkind⟩ := State.isArrayOf_alike X.warmed.alike (hA 0 (fun _ => .null))
  obtain ⟨-, kS, hkS, compS, hkindS⟩ := hA 0 (fun _ => .null)
  obtain ⟨vm', X', st⟩ := X.cloneArray hexec hown hlink hsame hnat hinst hsel (a := a) (cell := vp_cell cB v) hcellT (fun k h => by rw [hvm0] at h; cases h) (by rw [hvm0]; exact fun h => by cases h) (by rw [hcl0]; exact hnm) f2 (by rw [hcl0]; exact f3)
    (fun i w hw => by
      rw [hcl0]
      have hk' : T.vm.classes[cB]? = some kA := hkA
      simpa [State.fitsSlot, State.slotType?, hk', hkind] using hfit i w hw)
    (g := F0 m pc ls (.ref a :: rest)) rfl (by rw [hml]) rfl (by rw [hb]; exact hdg) hframes (by show 2 * 0 + _ + 14 ≤ _; omega) hcells (by rw [hsz]; exact hslots) (hloader := by rw [hcl0]; exact Vm.clonesLoader_of_array hkS hkindS)
  rw [hcellE, hsz] at X'
  generalize hH1 : H.push (vp_cell cB v) = H1
  have z1 : H1.size = H.size + 1 := by rw [← hH1, Array.size_push]
  have e1 : H1[H.size]? = some (vp_cell cB v) := by rw [← hH1, Array.getElem?_push_size]
  have o1 : ∀ q : Nat, q < H.size → H1[q]? = H[q]? := fun q hq => by rw [← hH1, Array.getElem?_push, if_neg (Nat.ne_of_lt hq)]
  obtain ⟨t, b1, b2⟩ := kk H1 e1 z1 o1 ((T.setVm vm').pushCell (vp_cell cB v)) (by rw [← hH1, ← hT]; rfl) X'
  refine ⟨t, st t ?_, b2⟩
  rw [hcellE, hT]
  exact b1
end PRIV
section ROWSJ
variable {α γ : Type} {l : Launch} {z : Nat → Nat} {M : Mt} {okv : α → Prop} {en : α → Option Value} {pc : Nat} {lv : List (Nat × Value)} {st : List Value} {x : Hp}
theorem G_objS {r : Option Nat} {k : Nat → Option (α × Hp)} (h : ∀ b, r = some b → (h_k x b = 1 ∨ h_k x b = 201) → G l z M okv en pc lv st x (k b)) : G l z M okv en pc lv st x (objS r x k) := by
  cases r with
  | none => exact G_none
  | some b => exact G_if (fun hk => h b rfl hk) (fun _ => G_none)
theorem G_objB {r : Option Nat} {k : Nat → Option (α × Hp)} (h : ∀ b, r = some b → (h_k x b = 100 ∨ h_k x b = 300) → G l z M okv en pc lv st x (k b)) : G l z M okv en pc lv st x (objB r x k) := by
  cases r with
  | none => exact G_none
  | some b => exact G_if (fun hk => h b rfl hk) (fun _ => G_none)
theorem G_byt {v : Int32} {E : Option (α × Hp)} (h : v = 0 ∨ v = 1 → G l z M okv en pc lv st x E) : G l z M okv en pc lv st x (byt v E) := G_if h (fun _ => G_none)
theorem G_chr {v : Int32} {E : Option (α × Hp)} (h : 0 ≤ v.toInt ∧ v.toInt < 65536 → G l z M okv en pc lv st x E) : G l z M okv en pc lv st x (chr v E) := G_if h (fun _ => G_none)
theorem G_ldcS {i q : Nat} {own tx : String} {E : Option (α × Hp)} (hs : (own, i, tx, q) ∈ gStr) (hown : M.2.1 = own) (hdg : decode M.1 pc = .ok (.ldc i, 2)) (k : G l z M okv en (pc + 2) lv (va_rf (some (z q)) :: st) x E) : G l z M okv en pc lv st x E :=
  G_st (fun C _ k => va_ldcS C.1 C.2.1 (own := own) (tx := tx) (hown ▸ C.2.2.2.1) (C.2.2.2.2.2.2.1.2.2.1 _ hs) hdg k) k
theorem G_ldcwS {i q : Nat} {own tx : String} {E : Option (α × Hp)} (hs : (own, i, tx, q) ∈ gStr) (hown : M.2.1 = own) (hdg : decode M.1 pc = .ok (.ldc_w i, 3)) (k : G l z M okv en (pc + 3) lv (va_rf (some (z q)) :: st) x E) : G l z M okv en pc lv st x E :=
  G_st (fun {D cA b0 p e R s m args below meth c H locs cells slots Q ls} C _ k => by
    have hR := C.2.2.2.2.2.2.1.2.2.1 _ hs
    intro T hT X
    obtain ⟨t, a1, b1⟩ := k T hT X
    exact ⟨t, X.ldcStringW C.1 (own := own) (text := tx) (a := z q) (hown ▸ C.2.2.2.1) hR.1 hR.2 (g := F0 m pc ls st) rfl (by rw [C.2.1]; exact hdg) t a1, b1⟩) k
theorem G_gsr {r : Option Nat} {i : Nat} {kk : Option Nat → Option (α × Hp)} (hw : Cond.fieldLink M.2.1 i RJ0 "value" "[B" ∈ gT) (hc : Cl 0 RJ0 TJ0 4 tyJ0) (hdg : decode M.1 pc = .ok (.getfield i, 3)) (k0 : ∀ v, G l z M okv en (pc + 3) lv (va_rf v :: st) x (kk v)) : G l z M okv en pc lv (va_rf r :: st) x (gsr r x kk) := by
  refine G_objS fun b hr hkb => ?_
  subst hr
  refine G_rd (fun C hR hS k2 => ?_) (k0 (h_r x 0 b))
  obtain ⟨hx, hb, -, hown, hts, -, ⟨hK, -⟩, -⟩ := C
  rcases hkb with hkb | hkb
  · obtain ⟨hcl, hci, hin, -⟩ := hc
    exact va_get hx hb hts hin hown hK (hR.at_obj hkb hci) 0 rfl hcl 0 (by decide) (hts _ hw) (fun _ h => h) (fsv_get (x := x) (ci := 0) (a := b) (gR 0) 0 0 true rfl) hdg k2
  · obtain ⟨cf, k, fi, f, cell, h1, h2, h3, h4, h5, h6⟩ := (((hR.2.2 b).2 (by omega)).2.1 hkb).2.2
    exact W.getf hx hb hown (hts _ hw) h1 h2 h3 h4 (v := va_rf (h_r x 0 b)) h5 rfl rfl hdg k2
theorem G_gsi {r : Option Nat} {i : Nat} {kk : Int32 → Option (α × Hp)} (hw : Cond.fieldLink M.2.1 i RJ0 "coder" "B" ∈ gT) (hc : Cl 0 RJ0 TJ0 4 tyJ0) (hdg : decode M.1 pc = .ok (.getfield i, 3)) (k0 : ∀ v, G l z M okv en (pc + 3) lv (.int v :: st) x (kk v)) : G l z M okv en pc lv (va_rf r :: st) x (gsi r x kk) := by
  refine G_objS fun b hr hkb => ?_
  subst hr
  refine G_rd (fun C hR hS k2 => ?_) (k0 (h_i x 1 b))
  obtain ⟨hx, hb, -, hown, hts, -, ⟨hK, -⟩, -⟩ := C
  rcases hkb with hkb | hkb
  · obtain ⟨hcl, hci, hin, -⟩ := hc
    exact va_get hx hb hts hin hown hK (hR.at_obj hkb hci) 0 rfl hcl 1 (by decide) (hts _ hw) (fun _ h => h) (fsv_get (x := x) (ci := 0) (a := b) (gR 0) 0 1 false rfl) hdg k2
  · obtain ⟨cf, k, fi, f, cell, h1, h2, h3, h4, h5, h6⟩ := (((hR.2.2 b).2 (by omega)).2.1 hkb).2.1
    exact W.getf hx hb hown (hts _ hw) h1 h2 h3 h4 (v := .int (h_i x 1 b)) h5 rfl rfl hdg k2
theorem G_alenB {r : Option Nat} {kk : Int32 → Option (α × Hp)} (hdg : decode M.1 pc = .ok (.arraylength, 1)) (k0 : ∀ v, G l z M okv en (pc + 1) lv (.int v :: st) x (kk v)) : G l z M okv en pc lv (va_rf r :: st) x (alenB r x kk) := by
  refine G_objB fun b hr hkb => ?_
  subst hr
  refine G_rd (fun C hR hS k2 => ?_) (k0 (Int32.ofNat (h_n x b)))
  obtain ⟨hx, hb, -, hown, hts, -, ⟨hK, -⟩, -⟩ := C
  rcases hkb with hkb | hkb
  · have h1 := hR.at_arr (t := 0) hkb (by omega)
    exact va_alen (ty := .byte) (ws := [(b, .inl (_, (h_n x b, apay x 0 b)))]) hx hb hK (fun k q hq => by
      have hz : k < 1 := (List.getElem?_eq_some_iff.mp hq).1
      rw [show k = 0 by omega] at hq
      cases hq
      exact h1) 0 0 rfl rfl rfl hdg k2
  · obtain ⟨cell, h1, h2, h3, h4, h5, h6, -⟩ := ((hR.2.2 b).2 (by omega)).2.2.1 hkb
    exact W.alen hx hb h1 h2 h5 rfl rfl hdg k2
theorem G_aldb {r : Option Nat} {i : Int32} {kk : Int32 → Option (α × Hp)} (hdg : decode M.1 pc = .ok (.baload, 1)) (k0 : ∀ v, G l z M okv en (pc + 1) lv (.int v :: st) x (kk v)) : G l z M okv en pc lv (.int i :: va_rf r :: st) x (aldb r x i kk) := by
  refine G_objB fun b hr hkb => ?_
  rcases hkb with hkb | hkb
  · refine G_if (fun hi => ?_) (fun _ => G_none)
    have := G_bald (l := l) (z := z) (okv := okv) (en := en) (lv := lv) (st := st) (x := x) (r := r) (i := i) hdg k0
    rw [hr] at this ⊢
    simpa only [aldi, idx, obj, if_pos hkb, if_pos hi] using this
  · refine G_if (fun hi => ?_) (fun _ => G_none)
    have := G_baldO (l := l) (z := z) (okv := okv) (en := en) (lv := lv) (st := st) (x := x) (r := r) (i := i) hdg k0
    rw [hr] at this ⊢
    simpa only [aldi, idx, obj, if_pos hkb, if_pos hi] using this
/-- a static of the JDK's: an int, a reference -/
theorem G_getsi {i : Nat} {E : Option (α × Hp)} {C n d ref : String} {v : Int32} (k : Nat) (hz : ∀ z, (gZs z)[k]? = some (C, n, d, .int v)) (hw : Cond.fieldLink M.2.1 i ref n d ∈ gT) (href : ref = C) (hdg : decode M.1 pc = .ok (.getstatic i, 3)) (k0 : G l z M okv en (pc + 3) lv (.int v :: st) x E) : G l z M okv en pc lv st x E := by
  refine G_rd (fun C0 hR hS k2 => ?_) k0
  obtain ⟨hx, hb, -, hown, hts, -, hE, -⟩ := C0
  subst href
  exact va_gets hx hb (hE.2.2.2.1 _ (List.mem_of_getElem? (hz z))) hS hown (hts _ hw) (fun _ h => h) hdg k2
theorem G_getsr {i : Nat} {E : Option (α × Hp)} {C n d ref : String} {v : Option Nat} (k : Nat) (hz : (gZs z)[k]? = some (C, n, d, va_rf v)) (hw : Cond.fieldLink M.2.1 i ref n d ∈ gT) (href : ref = C) (hdg : decode M.1 pc = .ok (.getstatic i, 3)) (k0 : G l z M okv en (pc + 3) lv (va_rf v :: st) x E) : G l z M okv en pc lv st x E := by
  refine G_rd (fun C0 hR hS k2 => ?_) k0
  obtain ⟨hx, hb, -, hown, hts, -, hE, -⟩ := C0
  subst href
  exact va_gets hx hb (hE.2.2.2.1 _ (List.mem_of_getElem? hz)) hS hown (hts _ hw) (fun _ h => h) hdg k2
/-! calls on a String, made or from before -/
theorem G_callVS {eg : γ → Option Value} {y : MethodName} {b : ByteArray} {n' d' i : Nat} {ret : Option FieldType} {av : List Value} {r : Option Nat} {f : Nat → Hp → Option (γ × Hp)} {kk : γ → Hp → Option (α × Hp)} (rest : List Value) (hC : ∀ q, Ct l z y b n' ret d' eg (.ref q :: av) (f q)) (hcl : Cl 0 RJ0 TJ0 4 tyJ0)
    (hy : Yn y av.length) (hd : d' + 1 ≤ M.2.2.2.2.2) (hn : n' ≤ 45) (w1 : Cond.methodLink M.2.1 i y ∈ gT) (w2 : Cond.instanceMethod y ∈ gT) (w5 : Cond.selects RJ0 y y ∈ gT) (w3 : Cond.initialized y.cls ∈ gT) (w4 : Cond.code y b n' ret ∈ gT) (hst : st = av.reverse ++ va_rf r :: rest) (hW : (rest.map fun v => v.category).sum ≤ 8) (hdg : decode M.1 pc = .ok (.invokevirtual i, 3))
    (k0 : ∀ v y, G l z M okv en (pc + 3) lv ((eg v).toList ++ rest) y (kk v y)) : G l z M okv en pc lv st x (objS r x fun q => bnd (f q x) kk) := by
  refine G_objS fun q hr hkb => ?_
  subst hr
  refine G_call (rest := rest) (hC q) (fun C hR hS hl hc hs hM => ?_) k0
  obtain ⟨hx, hb, hml, hown, hts, hnm, hE, hf1, hf2⟩ := C
  exact va_runV (own := M.2.1) (Ts := gT) (b := q) (As := av) ⟨hx, hb, hml, hown, hts⟩ hM ⟨callB_of av.length hts (gT_ws w4) rfl rfl rfl (hts _ w3) (hts _ w1) hy ⟨Nat.le_trans hd hf1, Nat.le_trans (show 8 + (n' + 11) + 64 * d' ≤ 64 * M.2.2.2.2.2 by omega) hf2⟩, hts _ w2, hts _ w5⟩ ⟨gPc_blind, by
    rcases hkb with hkb | hkb
    · exact va_recv (q0 := 0) hE.1 (hR.at_obj hkb hcl.2.1) hcl.1 rfl
    · obtain ⟨cell, h1, h2, h3, -⟩ := (((hR.2.2 q).2 (by omega)).2.1 hkb).1
      exact ⟨cell, h1, h2, h3⟩, gPc_pre hR hS hE⟩ rfl rfl hl.1 hst (lv_room hW) hdg ⟨hc, hs⟩
/-- an inherited method, or one that overrides the one named -/
theorem G_callU {eg : γ → Option Value} {C owner : String} {w y : MethodName} {b : ByteArray} {n' d' i : Nat} {ret : Option FieldType} {av : List Value} {r : Option Nat} {f : Nat → Hp → Option (γ × Hp)} {kk : γ → Hp → Option (α × Hp)} {kd ci N : Nat} {T : u_T} {ty : Nat → FieldType} (rest : List Value) (hC : ∀ q, Ct l z y b n' ret d' eg (.ref q :: av) (f q)) (hcl : Cl ci C T N ty) (hkd : kd = ci + 1)
    (hy : owner ≠ "java/lang/invoke/MethodHandle" ∧ owner ≠ "java/lang/invoke/VarHandle" ∧ (parseMethodDescriptor w.desc).map (fun d => d.parameters.length) = some av.length) (hd : d' + 1 ≤ M.2.2.2.2.2) (hn : n' ≤ 45) (w1 : Cond.methodLink M.2.1 i w ∈ gT) (w6 : Cond.sameMethod w.cls owner w.name w.desc ∈ gT) (w7 : Cond.instanceMethod ⟨owner, w.name, w.desc⟩ ∈ gT) (w5 : Cond.selects C w y ∈ gT) (w2 : Cond.instanceMethod y ∈ gT) (w3 : Cond.initialized y.cls ∈ gT) (w4 : Cond.code y b n' ret ∈ gT) {bq : ByteArray} {m0 : Nat} {r0 : Option FieldType} (w8 : Cond.code ⟨owner, w.name, w.desc⟩ bq m0 r0 ∈ gT) (hst : st = av.reverse ++ va_rf r :: rest) (hW : (rest.map fun v => v.category).sum ≤ 8) (hdg : decode M.1 pc = .ok (.invokevirtual i, 3))
    (k0 : ∀ v y, G l z M okv en (pc + 3) lv ((eg v).toList ++ rest) y (kk v y)) : G l z M okv en pc lv st x (obj r x kd fun q => bnd (f q x) kk) := by
  refine G_obj fun q hr hkb => ?_
  subst hr; subst hkd
  refine G_call (rest := rest) (hC q) (fun C0 hR hS hl hc hs hM => ?_) k0
  obtain ⟨hx, hb, hml, hown, hts, hnm, hE, hf1, hf2⟩ := C0
  have hG : GoodIn gT (va_wsO M.2.1 i C owner w y (.code y b n' ret :: gT)) := gT_goodIn _ (fun v hv => by
    unfold va_wsO at hv
    rcases List.mem_append.mp hv with hv | hv
    · simp only [List.mem_cons, List.not_mem_nil, or_false] at hv
      rcases hv with rfl | rfl | rfl | rfl | rfl | rfl
      · exact w1
      · exact w6
      · exact w7
      · exact w5
      · exact w2
      · exact w3
    · exact (gT_ws w4 v hv).1)
  exact va_runU (own := M.2.1) (Ts := gT) (b := q) (As := av) ⟨hx, hb, hml, hown, hts⟩ hM (va_cwO av.length hts hG rfl rfl rfl w8 hy ⟨Nat.le_trans hd hf1, Nat.le_trans (show 8 + (n' + 11) + 64 * d' ≤ 64 * M.2.2.2.2.2 by omega) hf2⟩) ⟨gPc_blind, va_recv (q0 := 0) hE.1 (hR.at_obj hkb hcl.2.1) hcl.1 rfl, gPc_pre hR hS hE⟩ rfl rfl hl.1 hst (lv_room hW) hdg ⟨hc, hs⟩
/-- super.m(..) -/
theorem G_callSU {eg : γ → Option Value} {C : String} {y : MethodName} {b : ByteArray} {n' d' i : Nat} {ret : Option FieldType} {av : List Value} {r : Option Nat} {f : Nat → Hp → Option (γ × Hp)} {kk : γ → Hp → Option (α × Hp)} {kd ci N : Nat} {T : u_T} {ty : Nat → FieldType} (rest : List Value) (hC : ∀ q, Ct l z y b n' ret d' eg (.ref q :: av) (f q)) (hcl : Cl ci C T N ty) (hkd : kd = ci + 1)
    (hy : y.name ≠ "<init>" ∧ (parseMethodDescriptor y.desc).map (fun d => d.parameters.length) = some av.length) (hd : d' + 1 ≤ M.2.2.2.2.2) (hn : n' ≤ 45) (w1 : Cond.methodLink M.2.1 i y ∈ gT) (w6 : Cond.sameMethod y.cls y.cls y.name y.desc ∈ gT) (w7 : Cond.superclass M.2.1 y.cls ∈ gT) (w2 : Cond.instanceMethod y ∈ gT) (w3 : Cond.initialized y.cls ∈ gT) (w4 : Cond.code y b n' ret ∈ gT) (hst : st = av.reverse ++ va_rf r :: rest) (hW : (rest.map fun v => v.category).sum ≤ 8) (hdg : decode M.1 pc = .ok (.invokespecial i, 3))
    (k0 : ∀ v y, G l z M okv en (pc + 3) lv ((eg v).toList ++ rest) y (kk v y)) : G l z M okv en pc lv st x (obj r x kd fun q => bnd (f q x) kk) := by
  refine G_obj fun q hr hkb => ?_
  subst hr; subst hkd
  refine G_call (rest := rest) (hC q) (fun C0 hR hS hl hc hs hM => ?_) k0
  obtain ⟨hx, hb, hml, hown, hts, hnm, hE, hf1, hf2⟩ := C0
  have hG : GoodIn gT (va_wsSU M.2.1 i y (.code y b n' ret :: gT)) := gT_goodIn _ (fun v hv => by
    unfold va_wsSU at hv
    rcases List.mem_append.mp hv with hv | hv
    · simp only [List.mem_cons, List.not_mem_nil, or_false] at hv
      rcases hv with rfl | rfl | rfl | rfl | rfl
      · exact w1
      · exact w6
      · exact w7
      · exact w2
      · exact w3
    · exact (gT_ws w4 v hv).1)
  exact va_runSU (own := M.2.1) (Ts := gT) (C := C) (b := q) (As := av) (hE.1.1 ci _ hcl.1).2 ⟨hx, hb, hml, hown, hts⟩ hM (va_cwSU av.length hts hG rfl rfl rfl hy ⟨Nat.le_trans hd hf1, Nat.le_trans (show 8 + (n' + 11) + 64 * d' ≤ 64 * M.2.2.2.2.2 by omega) hf2⟩) ⟨gPc_blind, va_recv (q0 := 0) hE.1 (hR.at_obj hkb hcl.2.1) hcl.1 rfl, gPc_pre hR hS hE⟩ rfl rfl hl.1 hst (lv_room hW) hdg ⟨hc, hs⟩
/-- a private method of the superclass -/
theorem G_callP {eg : γ → Option Value} {C : String} {y w : MethodName} {b : ByteArray} {n' d' i : Nat} {ret : Option FieldType} {av : List Value} {r : Option Nat} {f : Nat → Hp → Option (γ × Hp)} {kk : γ → Hp → Option (α × Hp)} {kd ci N : Nat} {T : u_T} {ty : Nat → FieldType} (rest : List Value) (hC : ∀ q, Ct l z y b n' ret d' eg (.ref q :: av) (f q)) (hcl : Cl ci C T N ty) (hkd : kd = ci + 1)
    (hy : Yn y av.length) (hd : d' + 1 ≤ M.2.2.2.2.2) (hn : n' ≤ 45) (w1 : Cond.methodLink M.2.1 i y ∈ gT) (w2 : Cond.instanceMethod y ∈ gT) (w5 : Cond.privateMethod y ∈ gT) (w3 : Cond.initialized y.cls ∈ gT) (w4 : Cond.code y b n' ret ∈ gT) (w6 : Cond.selects C w w ∈ gT) (hyw : w.cls = y.cls) (hst : st = av.reverse ++ va_rf r :: rest) (hW : (rest.map fun v => v.category).sum ≤ 8) (hdg : decode M.1 pc = .ok (.invokevirtual i, 3))
    (k0 : ∀ v y, G l z M okv en (pc + 3) lv ((eg v).toList ++ rest) y (kk v y)) : G l z M okv en pc lv st x (obj r x kd fun q => bnd (f q x) kk) := by
  refine G_obj fun q hr hkb => ?_
  subst hr; subst hkd
  refine G_call (rest := rest) (hC q) (fun C0 hR hS hl hc hs hM => ?_) k0
  obtain ⟨hx, hb, hml, hown, hts, hnm, hE, hf1, hf2⟩ := C0
  exact w_runVP (own := M.2.1) (Ts := gT) (C := C) (b := q) (As := av) ⟨hx, hb, hml, hown, hts⟩ hM ⟨callB_of av.length hts (gT_ws w4) rfl rfl rfl (hts _ w3) (hts _ w1) hy ⟨Nat.le_trans hd hf1, Nat.le_trans (show 8 + (n' + 11) + 64 * d' ≤ 64 * M.2.2.2.2.2 by omega) hf2⟩, hts _ w2, hts _ w5, fun mk hmk => by
    obtain ⟨c2, r2, m2, q1, q2, q3, q4, kP, hkP, hkPi⟩ := Cond.selects_spec (hts _ w6)
    have e1 := findClass_of_methodNamed hmk
    have e2 := findClass_of_methodNamed q3
    rw [hyw] at e2
    have e3 : m2.cls = mk.cls := Option.some.inj (e2.symm.trans e1)
    exact ⟨kP, by rw [← e3]; exact hkP, hkPi⟩⟩ ⟨gPc_blind, va_recv (q0 := 0) hE.1 (hR.at_obj hkb hcl.2.1) hcl.1 rfl, gPc_pre hR hS hE⟩ rfl rfl hl.1 hst (lv_room hW) hdg ⟨hc, hs⟩
theorem Sm_paw {x : Hp} {a q : Nat} {g : Nat → Int32} (h : q ≠ a) : Sm (p_aw x a g) x q := ⟨rfl, rfl, fun _ => rfl, fun _ => rfl, by simp [h_ai, p_aw, h], rfl, rfl⟩
theorem nfw : nativeFrameWords "java/lang/System" "arraycopy" 5 ≤ 30 := by decide +kernel
theorem G_acpy {r q : Option Nat} {sp dp n : Int32} {i : Nat} {kk : Hp → Option (α × Hp)} (w1 : Cond.methodLink M.2.1 i arraycopyName ∈ gT) (w2 : Cond.native arraycopyName ∈ gT) (w3 : Cond.static arraycopyName ∈ gT) (w4 : Cond.initialized "java/lang/System" ∈ gT) (hd : 1 ≤ M.2.2.2.2.2) (hW : (st.map fun v => v.category).sum ≤ 8) (hdg : decode M.1 pc = .ok (.invokestatic i, 3))
    (k0 : ∀ y, G l z M okv en (pc + 3) lv st y (kk y)) : G l z M okv en pc lv (.int n :: .int dp :: va_rf q :: .int sp :: va_rf r :: st) x (acpy r x sp q dp n kk) := by
  refine G_objB fun a hr hka => ?_
  refine G_obj fun b hq hkb => ?_
  subst hr; subst hq
  refine G_if (fun hh => ?_) (fun _ => G_none)
  obtain ⟨hab, h1, h2, h3, h4, h5, hfit⟩ := hh
  intro v xe hE
  obtain ⟨h0, k⟩ := k0 (p_aw x b (va_cpy (h_ai x a) (h_ai x b) sp.toNatClampNeg dp.toNatClampNeg n.toNatClampNeg)) v xe hE
  refine ⟨h0, fun D cA b0 p e R s m args below meth c z0 s0 Q C g1 g2 hF H locs ls g3 g4 hR hS hl => ?_⟩
  have C' := C
  obtain ⟨hx, hb, hml, hown, hts, hnm, hE', hf1, hf2⟩ := C
  have hc1 := hR.at_arr (t := 0) hkb (by omega)
  rw [apay_0] at hc1
  have hA1 : ArrOfT s (cA 0) .byte := (hE'.1.2 0 _ rfl).1
  obtain ⟨scr, hc0, hs2, hs3, hs4, hs5⟩ : ∃ scr : Cell, H[a]? = some scr ∧ s.isArrayOf scr .byte ∧ scr.vm ≠ .unknown ∧ h_n x a ≤ scr.slots.size ∧ ∀ j : Nat, j < h_n x a → scr.slots[j]? = some (.int (h_ai x a j)) := by
    rcases hka with hka | hka
    · have h6 := hR.at_arr (t := 0) hka (by omega)
      rw [apay_0] at h6
      have h7 : H[a]? = some (arrV (cA 0) (h_n x a) (fun j => .int (h_ai x a j))) := h6
      refine ⟨arrV (cA 0) (h_n x a) (fun j => .int (h_ai x a j)), h7, hA1 _ _, fun h => ?_, ?_, fun j hj => ?_⟩
      · cases h
      · rw [arrV_size]
        exact Nat.le_refl _
      · rw [arrV_read _ _ hj]
    · obtain ⟨cell, e1, e2, e3, e4, e5, e6, -⟩ := ((hR.2.2 a).2 (by omega)).2.2.1 hka
      exact ⟨cell, e1, e2, e3, e4, e6⟩
  have hnf := nfw
  refine w_copy (rest := st) hx hb (hml.trans hl.1.symm) hown (hts _ w1) (hts _ w2) (hts _ w3) (hts _ w4) hc0 hs2 hs3 hs4 hs5 hc1 hA1 h1 h2 h3 h4 h5 hfit (Nat.le_trans hd hf1) (by omega) hdg fun H1 L e1 e2 e3 e4 => ?_
  have hba : b0 ≤ b := ((hR.2.2 b).1 (by omega) (by omega)).2
  refine k D cA b0 p e R s m args below meth c z0 s0 Q C' g1 g2 hF H1 (locs ++ L) ls g3 g4 (hR.put e2 e3 (by omega) (by omega) rfl rfl (fun q hq => Sm_paw hq) ?_) ⟨by rw [e2]; exact hS.1, fun q f1 f2 => (e3 q (fun z => f2 (by rw [z]; exact hba))).trans (hS.2.1 q f1 f2), fun q hq => by
    rcases List.mem_append.mp hq with h | h
    · exact hS.2.2 q h
    · rw [e4 q h]
      exact hba⟩ hl
  rw [ent_arr (t := 0) (show h_k (p_aw x b _) b = 100 + 0 from hkb), apay_0]
  have : h_ai (p_aw x b (va_cpy (h_ai x a) (h_ai x b) sp.toNatClampNeg dp.toNatClampNeg n.toNatClampNeg)) b = va_cpy (h_ai x a) (h_ai x b) sp.toNatClampNeg dp.toNatClampNeg n.toNatClampNeg := by simp [h_ai, p_aw]
  rw [this]
  exact e1
theorem G_clonb {r : Option Nat} {i : Nat} {kk : Option Nat → Hp → Option (α × Hp)} (w1 : Cond.methodLink M.2.1 i ⟨"[B", "clone", "()Ljava/lang/Object;"⟩ ∈ gT) (w2 : Cond.sameMethod "[B" "java/lang/Object" "clone" "()Ljava/lang/Object;" ∈ gT) (w3 : Cond.native ⟨"java/lang/Object", "clone", "()Ljava/lang/Object;"⟩ ∈ gT) (w4 : Cond.instanceMethod ⟨"java/lang/Object", "clone", "()Ljava/lang/Object;"⟩ ∈ gT) (w5 : Cond.selects "[B" ⟨"[B", "clone", "()Ljava/lang/Object;"⟩ ⟨"java/lang/Object", "clone", "()Ljava/lang/Object;"⟩ ∈ gT) (hd : 1 ≤ M.2.2.2.2.2) (hW : (st.map fun v => v.category).sum ≤ 8) (hdg : decode M.1 pc = .ok (.invokevirtual i, 3))
    (k0 : ∀ r y, G l z M okv en (pc + 3) lv (va_rf r :: st) y (kk r y)) : G l z M okv en pc lv (va_rf r :: st) x (clonb r x kk) := by
  refine G_obj fun b hr hkb => ?_
  subst hr
  refine G_if (fun hfit => ?_) (fun _ => G_none)
  intro v xe hE
  obtain ⟨h0, k⟩ := k0 (some (h_sz x)) (p_aw (p_n x 100 (h_n x b) (h_n x b)) (h_sz x) (h_ai x b)) v xe hE
  have z1 : h_sz (p_aw (p_n x 100 (h_n x b) (h_n x b)) (h_sz x) (h_ai x b)) = h_sz x + 1 := rfl
  have z2 : h_sl (p_aw (p_n x 100 (h_n x b) (h_n x b)) (h_sz x) (h_ai x b)) = h_sl x + h_n x b := rfl
  rw [z1, z2] at h0
  refine ⟨⟨by omega, by omega⟩, fun D cA b0 p e R s m args below meth c z0 s0 Q C g1 g2 hF H locs ls g3 g4 hR hS hl => ?_⟩
  have C' := C
  obtain ⟨hx, hb, hml, hown, hts, hnm, hE', hf1, hf2⟩ := C
  have hc1 := hR.at_arr (t := 0) hkb (by omega)
  rw [apay_0] at hc1
  have hA1 : ArrOfT s (cA 0) .byte := (hE'.1.2 0 _ rfl).1
  have hnm0 : s.vm.findClass "[B" = some (cA 0) := (hE'.1.2 0 _ rfl).2
  refine w_clone (rest := st) hx hb (hml.trans hl.1.symm) hown (hts _ w1) (hts _ w2) (hts _ w3) (hts _ w4) (hts _ w5) hE'.2.2.2.2.2.2 hc1 hA1 hnm0 (fun j w hw => ?_) (Nat.le_trans hd hf1) (by omega) (by omega) (by show _ + h_n x b ≤ _; omega) hdg fun H1 e1 e2 e3 => ?_
  · have hj : j < h_n x b := by
      have := (Array.getElem?_eq_some_iff.mp hw).1
      have e5 : (vp_cell (cA 0) (h_n x b, .inl (h_ai x b))).slots.size = h_n x b := arrV_size _ _ _
      omega
    have e6 : (vp_cell (cA 0) (h_n x b, .inl (h_ai x b))).slots[j]? = some (.int (h_ai x b j)) := arrV_read _ _ hj
    cases e6.symm.trans hw
    exact hfit j hj
  · rw [hR.1] at e1 e2 ⊢
    have hk9 : h_k (p_n x 100 (h_n x b) (h_n x b)) (h_sz x) = 100 + 0 := by simp [h_k, p_n]
    have hR1 : Rep D cA b0 s (p_aw (p_n x 100 (h_n x b) (h_n x b)) (h_sz x) (h_ai x b)) H1 := by
      refine ⟨e2, ?_, fun q => ?_⟩
      · have := hR.2.1
        show b0 ≤ h_sz x + 1
        omega
      · by_cases hqa : q = h_sz x
        · subst hqa
          refine ⟨fun _ _ => ⟨?_, hR.2.1⟩, fun h2 => ?_⟩
          · rw [ent_arr (t := 0) (show h_k (p_aw (p_n x 100 (h_n x b) (h_n x b)) (h_sz x) (h_ai x b)) (h_sz x) = 100 + 0 from hk9), apay_0]
            have e7 : h_ai (p_aw (p_n x 100 (h_n x b) (h_n x b)) (h_sz x) (h_ai x b)) (h_sz x) = h_ai x b := by simp [h_ai, p_aw]
            have e8 : h_n (p_aw (p_n x 100 (h_n x b) (h_n x b)) (h_sz x) (h_ai x b)) (h_sz x) = h_n x b := by simp [h_n, p_aw, p_n]
            rw [e7, e8]
            exact e1
          · have : h_k (p_aw (p_n x 100 (h_n x b) (h_n x b)) (h_sz x) (h_ai x b)) (h_sz x) = 100 + 0 := hk9
            omega
        · have hs1 : Sm (p_n x 100 (h_n x b) (h_n x b)) x q := Sm_pn hqa
          have hs2 : Sm (p_aw (p_n x 100 (h_n x b) (h_n x b)) (h_sz x) (h_ai x b)) (p_n x 100 (h_n x b) (h_n x b)) q := Sm_paw hqa
          have hs : Sm (p_aw (p_n x 100 (h_n x b) (h_n x b)) (h_sz x) (h_ai x b)) x q := ⟨hs2.1.trans hs1.1, hs2.2.1.trans hs1.2.1, fun f => (hs2.2.2.1 f).trans (hs1.2.2.1 f), fun f => (hs2.2.2.2.1 f).trans (hs1.2.2.2.1 f), hs2.2.2.2.2.1.trans hs1.2.2.2.2.1, hs2.2.2.2.2.2.1.trans hs1.2.2.2.2.2.1, hs2.2.2.2.2.2.2.trans hs1.2.2.2.2.2.2⟩
          refine ⟨fun h1 h2 => ?_, fun h2 => ?_⟩
          · rw [hs.1] at h1 h2
            have h3 := (hR.2.2 q).1 h1 h2
            rw [ent_congr hs]
            exact ⟨h3.1.kept (e3 q (by rw [hR.1]; exact hR.lt h1)), h3.2⟩
          · rw [hs.1] at h2
            have h3 := (hR.2.2 q).2 h2
            exact ⟨h3.1, (h3.2.kept (fun q' hq _ => e3 q' hq)).same hs⟩
    have := k D cA b0 p e R s m args below meth c z0 s0 Q C' g1 g2 hF H1 locs ls (by rw [z1]; omega) (by rw [z2]; omega) hR1 ⟨Nat.le_trans hS.1 (by rw [e2, hR.1]; omega), fun q f1 f2 => (e3 q (Nat.lt_of_lt_of_le f1 hS.1)).trans (hS.2.1 q f1 f2), hS.2.2⟩ hl
    rw [z1, z2, show h_sz x + 1 - z0 = h_sz x - z0 + 1 by omega, show h_sl x + h_n x b - s0 = h_sl x - s0 + h_n x b by omega] at this
    exact this
theorem G_castb {r : Option Nat} {i : Nat} {E : Option (α × Hp)} (w1 : Cond.classLink M.2.1 i "[B" ∈ gT) (hdg : decode M.1 pc = .ok (.checkcast i, 3)) (k0 : G l z M okv en (pc + 3) lv (va_rf r :: st) x E) : G l z M okv en pc lv (va_rf r :: st) x (castb r x E) := by
  refine G_obj fun b hr hkb => ?_
  subst hr
  refine G_rd (fun C hR hS k2 => ?_) k0
  obtain ⟨hx, hb, -, hown, hts, -, ⟨hK, -⟩, -⟩ := C
  have h1 := hR.at_arr (t := 0) hkb (by omega)
  exact va_castA (ws := [(b, .inl (_, (h_n x b, apay x 0 b)))]) (D := (fun _ => 0, fun _ _ => 0)) (cl := vwCl) hx hb hown (hts _ w1) (fun k q hq => by
      have hz : k < 1 := (List.getElem?_eq_some_iff.mp hq).1
      rw [show k = 0 by omega] at hq
      cases hq
      exact h1) 0 rfl (hK.2 0 _ rfl).2 hdg k2
end ROWSJ
end
