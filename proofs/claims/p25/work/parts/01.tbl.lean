-- ===== PART A: goes FIRST, ahead of the names: the tables' words, and 'selects' of the private methods out of them =====
/-- a private method of a class that the tables say can be made, by its rows of tables_1 -/
def lw_okq (q : MethodName × Nat) : Prop := (q.1.cls ≠ "java/lang/invoke/MethodHandle" ∧ q.1.cls ≠ "java/lang/invoke/VarHandle") ∧ Cond.instantiable q.1.cls q.2 ∈ tables_1 ∧ Cond.privateMethod q.1 ∈ tables_1 ∧ Cond.instanceMethod q.1 ∈ tables_1
theorem lw_p0 : lw_okq (⟨"java/lang/Throwable", "fillInStackTrace", "(I)Ljava/lang/Throwable;"⟩, 6) := ⟨⟨by decide +kernel, by decide +kernel⟩, List.mem_of_getElem? (i := 475) (by decide +kernel), List.mem_of_getElem? (i := 473) (by decide +kernel), List.mem_of_getElem? (i := 474) (by decide +kernel)⟩
theorem lw_p1 : lw_okq (⟨"BucketBrigade", "countNow", "(I)I"⟩, 5) := ⟨⟨by decide +kernel, by decide +kernel⟩, List.mem_of_getElem? (i := 32) (by decide +kernel), List.mem_of_getElem? (i := 504) (by decide +kernel), List.mem_of_getElem? (i := 505) (by decide +kernel)⟩
theorem lw_p2 : lw_okq (⟨"BucketBrigade$Site", "sumOverLanes", "(I)I"⟩, 11) := ⟨⟨by decide +kernel, by decide +kernel⟩, List.mem_of_getElem? (i := 62) (by decide +kernel), List.mem_of_getElem? (i := 512) (by decide +kernel), List.mem_of_getElem? (i := 513) (by decide +kernel)⟩
theorem lw_p3 : lw_okq (⟨"BucketBrigade$Queue", "slotOf", "(I)I"⟩, 3) := ⟨⟨by decide +kernel, by decide +kernel⟩, List.mem_of_getElem? (i := 151) (by decide +kernel), List.mem_of_getElem? (i := 542) (by decide +kernel), List.mem_of_getElem? (i := 543) (by decide +kernel)⟩
theorem lw_p4 : lw_okq (⟨"BucketBrigade$Site", "obey", "(LBucketBrigade$Order;)V"⟩, 11) := ⟨⟨by decide +kernel, by decide +kernel⟩, List.mem_of_getElem? (i := 62) (by decide +kernel), List.mem_of_getElem? (i := 594) (by decide +kernel), List.mem_of_getElem? (i := 595) (by decide +kernel)⟩
theorem lw_p5 : lw_okq (⟨"BucketBrigade$Site", "reckon", "(II)I"⟩, 11) := ⟨⟨by decide +kernel, by decide +kernel⟩, List.mem_of_getElem? (i := 62) (by decide +kernel), List.mem_of_getElem? (i := 598) (by decide +kernel), List.mem_of_getElem? (i := 599) (by decide +kernel)⟩
theorem lw_p6 : lw_okq (⟨"BucketBrigade$Site", "step", "(II)V"⟩, 11) := ⟨⟨by decide +kernel, by decide +kernel⟩, List.mem_of_getElem? (i := 62) (by decide +kernel), List.mem_of_getElem? (i := 609) (by decide +kernel), List.mem_of_getElem? (i := 610) (by decide +kernel)⟩
theorem lw_p7 : lw_okq (⟨"BucketBrigade$Site", "letFolkCome", "()V"⟩, 11) := ⟨⟨by decide +kernel, by decide +kernel⟩, List.mem_of_getElem? (i := 62) (by decide +kernel), List.mem_of_getElem? (i := 635) (by decide +kernel), List.mem_of_getElem? (i := 636) (by decide +kernel)⟩
theorem lw_p8 : lw_okq (⟨"BucketBrigade$Site", "sendPails", "()I"⟩, 11) := ⟨⟨by decide +kernel, by decide +kernel⟩, List.mem_of_getElem? (i := 62) (by decide +kernel), List.mem_of_getElem? (i := 668) (by decide +kernel), List.mem_of_getElem? (i := 669) (by decide +kernel)⟩
theorem lw_p9 : lw_okq (⟨"BucketBrigade$Site", "whoSends", "()LBucketBrigade$Lane;"⟩, 11) := ⟨⟨by decide +kernel, by decide +kernel⟩, List.mem_of_getElem? (i := 62) (by decide +kernel), List.mem_of_getElem? (i := 672) (by decide +kernel), List.mem_of_getElem? (i := 673) (by decide +kernel)⟩
theorem lw_p10 : lw_okq (⟨"BucketBrigade$Lane", "isLetSend", "()Z"⟩, 18) := ⟨⟨by decide +kernel, by decide +kernel⟩, List.mem_of_getElem? (i := 145) (by decide +kernel), List.mem_of_getElem? (i := 680) (by decide +kernel), List.mem_of_getElem? (i := 681) (by decide +kernel)⟩
theorem lw_p11 : lw_okq (⟨"BucketBrigadeLaw$Sim", "holds", "(III)Z"⟩, 8) := ⟨⟨by decide +kernel, by decide +kernel⟩, List.mem_of_getElem? (i := 754) (by decide +kernel), List.mem_of_getElem? (i := 752) (by decide +kernel), List.mem_of_getElem? (i := 753) (by decide +kernel)⟩
theorem lw_p12 : lw_okq (⟨"BucketBrigadeLaw$Sim", "value", "(ILBucketBrigadeLaw$Lane;I)I"⟩, 8) := ⟨⟨by decide +kernel, by decide +kernel⟩, List.mem_of_getElem? (i := 754) (by decide +kernel), List.mem_of_getElem? (i := 757) (by decide +kernel), List.mem_of_getElem? (i := 758) (by decide +kernel)⟩
theorem lw_p13 : lw_okq (⟨"BucketBrigade$Tokens", "scanToken", "(LBucketBrigade$Tape;I)I"⟩, 5) := ⟨⟨by decide +kernel, by decide +kernel⟩, List.mem_of_getElem? (i := 310) (by decide +kernel), List.mem_of_getElem? (i := 1134) (by decide +kernel), List.mem_of_getElem? (i := 1135) (by decide +kernel)⟩
theorem lw_p14 : lw_okq (⟨"BucketBrigade$Tokens", "add", "(IIJ)V"⟩, 5) := ⟨⟨by decide +kernel, by decide +kernel⟩, List.mem_of_getElem? (i := 310) (by decide +kernel), List.mem_of_getElem? (i := 1138) (by decide +kernel), List.mem_of_getElem? (i := 1139) (by decide +kernel)⟩
theorem lw_p15 : lw_okq (⟨"BucketBrigade$Tokens", "scanWord", "(LBucketBrigade$Tape;I)I"⟩, 5) := ⟨⟨by decide +kernel, by decide +kernel⟩, List.mem_of_getElem? (i := 310) (by decide +kernel), List.mem_of_getElem? (i := 1145) (by decide +kernel), List.mem_of_getElem? (i := 1146) (by decide +kernel)⟩
def lw_privs_1 : List (MethodName × Nat) := [(⟨"java/lang/Throwable", "fillInStackTrace", "(I)Ljava/lang/Throwable;"⟩, 6), (⟨"BucketBrigade", "countNow", "(I)I"⟩, 5), (⟨"BucketBrigade$Site", "sumOverLanes", "(I)I"⟩, 11), (⟨"BucketBrigade$Queue", "slotOf", "(I)I"⟩, 3), (⟨"BucketBrigade$Site", "obey", "(LBucketBrigade$Order;)V"⟩, 11), (⟨"BucketBrigade$Site", "reckon", "(II)I"⟩, 11), (⟨"BucketBrigade$Site", "step", "(II)V"⟩, 11), (⟨"BucketBrigade$Site", "letFolkCome", "()V"⟩, 11), (⟨"BucketBrigade$Site", "sendPails", "()I"⟩, 11), (⟨"BucketBrigade$Site", "whoSends", "()LBucketBrigade$Lane;"⟩, 11), (⟨"BucketBrigade$Lane", "isLetSend", "()Z"⟩, 18), (⟨"BucketBrigadeLaw$Sim", "holds", "(III)Z"⟩, 8), (⟨"BucketBrigadeLaw$Sim", "value", "(ILBucketBrigadeLaw$Lane;I)I"⟩, 8), (⟨"BucketBrigade$Tokens", "scanToken", "(LBucketBrigade$Tape;I)I"⟩, 5), (⟨"BucketBrigade$Tokens", "add", "(IIJ)V"⟩, 5), (⟨"BucketBrigade$Tokens", "scanWord", "(LBucketBrigade$Tape;I)I"⟩, 5)]
theorem lw_r1 : ∀ q ∈ lw_privs_1, lw_okq q := List.forall_mem_cons.mpr ⟨lw_p0, List.forall_mem_cons.mpr ⟨lw_p1, List.forall_mem_cons.mpr ⟨lw_p2, List.forall_mem_cons.mpr ⟨lw_p3, List.forall_mem_cons.mpr ⟨lw_p4, List.forall_mem_cons.mpr ⟨lw_p5, List.forall_mem_cons.mpr ⟨lw_p6, List.forall_mem_cons.mpr ⟨lw_p7, List.forall_mem_cons.mpr ⟨lw_p8, List.forall_mem_cons.mpr ⟨lw_p9, List.forall_mem_cons.mpr ⟨lw_p10, List.forall_mem_cons.mpr ⟨lw_p11, List.forall_mem_cons.mpr ⟨lw_p12, List.forall_mem_cons.mpr ⟨lw_p13, List.forall_mem_cons.mpr ⟨lw_p14, List.forall_mem_cons.mpr ⟨lw_p15, fun _ h => absurd h List.not_mem_nil⟩⟩⟩⟩⟩⟩⟩⟩⟩⟩⟩⟩⟩⟩⟩⟩
theorem lw_p16 : lw_okq (⟨"BucketBrigade$Tokens", "kindOfWord", "(J)I"⟩, 5) := ⟨⟨by decide +kernel, by decide +kernel⟩, List.mem_of_getElem? (i := 310) (by decide +kernel), List.mem_of_getElem? (i := 1149) (by decide +kernel), List.mem_of_getElem? (i := 1150) (by decide +kernel)⟩
theorem lw_p17 : lw_okq (⟨"BucketBrigade$Tokens", "scanNumber", "(LBucketBrigade$Tape;I)I"⟩, 5) := ⟨⟨by decide +kernel, by decide +kernel⟩, List.mem_of_getElem? (i := 310) (by decide +kernel), List.mem_of_getElem? (i := 1153) (by decide +kernel), List.mem_of_getElem? (i := 1154) (by decide +kernel)⟩
theorem lw_p18 : lw_okq (⟨"BucketBrigade$Tokens", "scanSymbol", "(LBucketBrigade$Tape;I)I"⟩, 5) := ⟨⟨by decide +kernel, by decide +kernel⟩, List.mem_of_getElem? (i := 310) (by decide +kernel), List.mem_of_getElem? (i := 1158) (by decide +kernel), List.mem_of_getElem? (i := 1159) (by decide +kernel)⟩
theorem lw_p19 : lw_okq (⟨"BucketBrigade$Reader", "kind", "()I"⟩, 7) := ⟨⟨by decide +kernel, by decide +kernel⟩, List.mem_of_getElem? (i := 56) (by decide +kernel), List.mem_of_getElem? (i := 1174) (by decide +kernel), List.mem_of_getElem? (i := 1175) (by decide +kernel)⟩
theorem lw_p20 : lw_okq (⟨"BucketBrigade$Reader", "number", "(II)I"⟩, 7) := ⟨⟨by decide +kernel, by decide +kernel⟩, List.mem_of_getElem? (i := 56) (by decide +kernel), List.mem_of_getElem? (i := 1179) (by decide +kernel), List.mem_of_getElem? (i := 1180) (by decide +kernel)⟩
theorem lw_p21 : lw_okq (⟨"BucketBrigade$Reader", "fail", "()V"⟩, 7) := ⟨⟨by decide +kernel, by decide +kernel⟩, List.mem_of_getElem? (i := 56) (by decide +kernel), List.mem_of_getElem? (i := 1183) (by decide +kernel), List.mem_of_getElem? (i := 1184) (by decide +kernel)⟩
theorem lw_p22 : lw_okq (⟨"BucketBrigade$Reader", "blame", "(I)V"⟩, 7) := ⟨⟨by decide +kernel, by decide +kernel⟩, List.mem_of_getElem? (i := 56) (by decide +kernel), List.mem_of_getElem? (i := 1195) (by decide +kernel), List.mem_of_getElem? (i := 1196) (by decide +kernel)⟩
theorem lw_p23 : lw_okq (⟨"BucketBrigade$Reader", "readLane", "()V"⟩, 7) := ⟨⟨by decide +kernel, by decide +kernel⟩, List.mem_of_getElem? (i := 56) (by decide +kernel), List.mem_of_getElem? (i := 1199) (by decide +kernel), List.mem_of_getElem? (i := 1200) (by decide +kernel)⟩
theorem lw_p24 : lw_okq (⟨"BucketBrigade$Reader", "newName", "([JI)J"⟩, 7) := ⟨⟨by decide +kernel, by decide +kernel⟩, List.mem_of_getElem? (i := 56) (by decide +kernel), List.mem_of_getElem? (i := 1203) (by decide +kernel), List.mem_of_getElem? (i := 1204) (by decide +kernel)⟩
theorem lw_p25 : lw_okq (⟨"BucketBrigade$Reader", "takes", "(I)Z"⟩, 7) := ⟨⟨by decide +kernel, by decide +kernel⟩, List.mem_of_getElem? (i := 56) (by decide +kernel), List.mem_of_getElem? (i := 1210) (by decide +kernel), List.mem_of_getElem? (i := 1211) (by decide +kernel)⟩
theorem lw_p26 : lw_okq (⟨"BucketBrigade$Reader", "toldLane", "()I"⟩, 7) := ⟨⟨by decide +kernel, by decide +kernel⟩, List.mem_of_getElem? (i := 56) (by decide +kernel), List.mem_of_getElem? (i := 1214) (by decide +kernel), List.mem_of_getElem? (i := 1215) (by decide +kernel)⟩
theorem lw_p27 : lw_okq (⟨"BucketBrigade$Reader", "need", "(I)V"⟩, 7) := ⟨⟨by decide +kernel, by decide +kernel⟩, List.mem_of_getElem? (i := 56) (by decide +kernel), List.mem_of_getElem? (i := 1218) (by decide +kernel), List.mem_of_getElem? (i := 1219) (by decide +kernel)⟩
theorem lw_p28 : lw_okq (⟨"BucketBrigade$Reader", "readFolk", "()V"⟩, 7) := ⟨⟨by decide +kernel, by decide +kernel⟩, List.mem_of_getElem? (i := 56) (by decide +kernel), List.mem_of_getElem? (i := 1228) (by decide +kernel), List.mem_of_getElem? (i := 1229) (by decide +kernel)⟩
theorem lw_p29 : lw_okq (⟨"BucketBrigade$Reader", "readOrder", "(I)V"⟩, 7) := ⟨⟨by decide +kernel, by decide +kernel⟩, List.mem_of_getElem? (i := 56) (by decide +kernel), List.mem_of_getElem? (i := 1234) (by decide +kernel), List.mem_of_getElem? (i := 1235) (by decide +kernel)⟩
theorem lw_p30 : lw_okq (⟨"BucketBrigade$Reader", "sum", "(I)V"⟩, 7) := ⟨⟨by decide +kernel, by decide +kernel⟩, List.mem_of_getElem? (i := 56) (by decide +kernel), List.mem_of_getElem? (i := 1238) (by decide +kernel), List.mem_of_getElem? (i := 1239) (by decide +kernel)⟩
theorem lw_p31 : lw_okq (⟨"BucketBrigade$Reader", "product", "(I)V"⟩, 7) := ⟨⟨by decide +kernel, by decide +kernel⟩, List.mem_of_getElem? (i := 56) (by decide +kernel), List.mem_of_getElem? (i := 1242) (by decide +kernel), List.mem_of_getElem? (i := 1243) (by decide +kernel)⟩
def lw_privs_2 : List (MethodName × Nat) := [(⟨"BucketBrigade$Tokens", "kindOfWord", "(J)I"⟩, 5), (⟨"BucketBrigade$Tokens", "scanNumber", "(LBucketBrigade$Tape;I)I"⟩, 5), (⟨"BucketBrigade$Tokens", "scanSymbol", "(LBucketBrigade$Tape;I)I"⟩, 5), (⟨"BucketBrigade$Reader", "kind", "()I"⟩, 7), (⟨"BucketBrigade$Reader", "number", "(II)I"⟩, 7), (⟨"BucketBrigade$Reader", "fail", "()V"⟩, 7), (⟨"BucketBrigade$Reader", "blame", "(I)V"⟩, 7), (⟨"BucketBrigade$Reader", "readLane", "()V"⟩, 7), (⟨"BucketBrigade$Reader", "newName", "([JI)J"⟩, 7), (⟨"BucketBrigade$Reader", "takes", "(I)Z"⟩, 7), (⟨"BucketBrigade$Reader", "toldLane", "()I"⟩, 7), (⟨"BucketBrigade$Reader", "need", "(I)V"⟩, 7), (⟨"BucketBrigade$Reader", "readFolk", "()V"⟩, 7), (⟨"BucketBrigade$Reader", "readOrder", "(I)V"⟩, 7), (⟨"BucketBrigade$Reader", "sum", "(I)V"⟩, 7), (⟨"BucketBrigade$Reader", "product", "(I)V"⟩, 7)]
theorem lw_r2 : ∀ q ∈ lw_privs_2, lw_okq q := List.forall_mem_cons.mpr ⟨lw_p16, List.forall_mem_cons.mpr ⟨lw_p17, List.forall_mem_cons.mpr ⟨lw_p18, List.forall_mem_cons.mpr ⟨lw_p19, List.forall_mem_cons.mpr ⟨lw_p20, List.forall_mem_cons.mpr ⟨lw_p21, List.forall_mem_cons.mpr ⟨lw_p22, List.forall_mem_cons.mpr ⟨lw_p23, List.forall_mem_cons.mpr ⟨lw_p24, List.forall_mem_cons.mpr ⟨lw_p25, List.forall_mem_cons.mpr ⟨lw_p26, List.forall_mem_cons.mpr ⟨lw_p27, List.forall_mem_cons.mpr ⟨lw_p28, List.forall_mem_cons.mpr ⟨lw_p29, List.forall_mem_cons.mpr ⟨lw_p30, List.forall_mem_cons.mpr ⟨lw_p31, fun _ h => absurd h List.not_mem_nil⟩⟩⟩⟩⟩⟩⟩⟩⟩⟩⟩⟩⟩⟩⟩⟩
theorem lw_p32 : lw_okq (⟨"BucketBrigade$Reader", "value", "(I)V"⟩, 7) := ⟨⟨by decide +kernel, by decide +kernel⟩, List.mem_of_getElem? (i := 56) (by decide +kernel), List.mem_of_getElem? (i := 1246) (by decide +kernel), List.mem_of_getElem? (i := 1247) (by decide +kernel)⟩
theorem lw_p33 : lw_okq (⟨"BucketBrigade$Reader", "enters", "(I)Z"⟩, 7) := ⟨⟨by decide +kernel, by decide +kernel⟩, List.mem_of_getElem? (i := 56) (by decide +kernel), List.mem_of_getElem? (i := 1254) (by decide +kernel), List.mem_of_getElem? (i := 1255) (by decide +kernel)⟩
theorem lw_p34 : lw_okq (⟨"BucketBrigade$Reader", "pair", "(II)V"⟩, 7) := ⟨⟨by decide +kernel, by decide +kernel⟩, List.mem_of_getElem? (i := 56) (by decide +kernel), List.mem_of_getElem? (i := 1258) (by decide +kernel), List.mem_of_getElem? (i := 1259) (by decide +kernel)⟩
theorem lw_p35 : lw_okq (⟨"BucketBrigade$Reader", "test", "(I)V"⟩, 7) := ⟨⟨by decide +kernel, by decide +kernel⟩, List.mem_of_getElem? (i := 56) (by decide +kernel), List.mem_of_getElem? (i := 1262) (by decide +kernel), List.mem_of_getElem? (i := 1263) (by decide +kernel)⟩
theorem lw_p36 : lw_okq (⟨"BucketBrigade$Reader", "both", "(I)V"⟩, 7) := ⟨⟨by decide +kernel, by decide +kernel⟩, List.mem_of_getElem? (i := 56) (by decide +kernel), List.mem_of_getElem? (i := 1266) (by decide +kernel), List.mem_of_getElem? (i := 1267) (by decide +kernel)⟩
theorem lw_p37 : lw_okq (⟨"BucketBrigade$Reader", "single", "(I)V"⟩, 7) := ⟨⟨by decide +kernel, by decide +kernel⟩, List.mem_of_getElem? (i := 56) (by decide +kernel), List.mem_of_getElem? (i := 1270) (by decide +kernel), List.mem_of_getElem? (i := 1271) (by decide +kernel)⟩
def lw_privs_3 : List (MethodName × Nat) := [(⟨"BucketBrigade$Reader", "value", "(I)V"⟩, 7), (⟨"BucketBrigade$Reader", "enters", "(I)Z"⟩, 7), (⟨"BucketBrigade$Reader", "pair", "(II)V"⟩, 7), (⟨"BucketBrigade$Reader", "test", "(I)V"⟩, 7), (⟨"BucketBrigade$Reader", "both", "(I)V"⟩, 7), (⟨"BucketBrigade$Reader", "single", "(I)V"⟩, 7)]
theorem lw_r3 : ∀ q ∈ lw_privs_3, lw_okq q := List.forall_mem_cons.mpr ⟨lw_p32, List.forall_mem_cons.mpr ⟨lw_p33, List.forall_mem_cons.mpr ⟨lw_p34, List.forall_mem_cons.mpr ⟨lw_p35, List.forall_mem_cons.mpr ⟨lw_p36, List.forall_mem_cons.mpr ⟨lw_p37, fun _ h => absurd h List.not_mem_nil⟩⟩⟩⟩⟩⟩
def lw_privs : List (MethodName × Nat) := lw_privs_1 ++ (lw_privs_2 ++ (lw_privs_3))
def lw_tbl : List Cond := k2_sels lw_privs ++ tables_1
theorem lw_privs_ok : ∀ q ∈ lw_privs, lw_okq q := by
  show ∀ q ∈ lw_privs_1 ++ (lw_privs_2 ++ (lw_privs_3)), lw_okq q
  exact List.forall_mem_append.mpr ⟨lw_r1, List.forall_mem_append.mpr ⟨lw_r2, lw_r3⟩⟩
/-- the streams that the claim lets the run draw from -/
abbrev lw_cs : List Choice := [Jvm.Choice.named "NaN.bits"]
theorem lw_bits : nanBits ∈ lw_cs := by first | decide | exact List.mem_cons_self | simp [lw_cs, nanBits]
-- ===== end of PART A; then your names; then what follows =====
def RX0 : String := "BucketBrigade$Book"
def TX0 : u_T := fun k => match k with
  | 0 => ("BucketBrigade$Book", "signs", "[I", true)
  | 1 => ("BucketBrigade$Book", "details", "[I", true)
  | 2 => ("BucketBrigade$Book", "length", "I", false)
  | 3 => ("BucketBrigade$Book", "orderCount", "I", false)
  | _ => ("BucketBrigade$Book", "orders", "[LBucketBrigade$Order;", true)
def tyX0 : Nat → FieldType := fun k => match k with
  | 0 => .array .int
  | 1 => .array .int
  | 2 => .int
  | 3 => .int
  | _ => .array (.object "BucketBrigade$Order")
abbrev wsX00 : List Cond := u_ws RX0 TX0 5
theorem nmX0 : ∀ a, a < 5 → ∀ b, b < 5 → a ≠ b → (TX0 a).2.1 ≠ (TX0 b).2.1 := by decide +kernel
theorem tyX0_ok : ∀ k, k < 5 → parseFieldDescriptor (TX0 k).2.2.1 = some (tyX0 k) := by decide +kernel
abbrev cX0_init : ByteArray := prog_2_method_1_code
def yX0_init : MethodName := ⟨RX0, "<init>", "()V"⟩
abbrev cX0_clear : ByteArray := prog_2_method_2_code
def yX0_clear : MethodName := ⟨RX0, "clear", "()V"⟩
abbrev cX0_add : ByteArray := prog_2_method_3_code
def yX0_add : MethodName := ⟨RX0, "add", "(II)V"⟩
abbrev cX0_addOrder : ByteArray := prog_2_method_4_code
def yX0_addOrder : MethodName := ⟨RX0, "addOrder", "()LBucketBrigade$Order;"⟩
abbrev cX0_orderAt : ByteArray := prog_2_method_5_code
def yX0_orderAt : MethodName := ⟨RX0, "orderAt", "(I)LBucketBrigade$Order;"⟩
abbrev cX0_copyFrom : ByteArray := prog_2_method_6_code
def yX0_copyFrom : MethodName := ⟨RX0, "copyFrom", "(LBucketBrigade$Book;)V"⟩
def RX1 : String := "BucketBrigade$Folk"
def TX1 : u_T := fun k => match k with
  | 0 => ("BucketBrigade$Folk", "lane", "I", false)
  | 1 => ("BucketBrigade$Folk", "many", "I", false)
  | 2 => ("BucketBrigade$Folk", "brought", "I", false)
  | 3 => ("BucketBrigade$Folk", "every", "I", false)
  | _ => ("BucketBrigade$Folk", "from", "I", false)
def tyX1 : Nat → FieldType := fun k => match k with
  | 0 => .int
  | 1 => .int
  | 2 => .int
  | 3 => .int
  | _ => .int
abbrev wsX10 : List Cond := u_ws RX1 TX1 5
theorem nmX1 : ∀ a, a < 5 → ∀ b, b < 5 → a ≠ b → (TX1 a).2.1 ≠ (TX1 b).2.1 := by decide +kernel
theorem tyX1_ok : ∀ k, k < 5 → parseFieldDescriptor (TX1 k).2.2.1 = some (tyX1 k) := by decide +kernel
abbrev cX1_init : ByteArray := prog_3_method_1_code
def yX1_init : MethodName := ⟨RX1, "<init>", "()V"⟩
abbrev cX1_tell : ByteArray := prog_3_method_2_code
def yX1_tell : MethodName := ⟨RX1, "tell", "(IIII)V"⟩
abbrev cX1_copyFrom : ByteArray := prog_3_method_3_code
def yX1_copyFrom : MethodName := ⟨RX1, "copyFrom", "(LBucketBrigade$Folk;)V"⟩
abbrev cX1_comeIn : ByteArray := prog_3_method_4_code
def yX1_comeIn : MethodName := ⟨RX1, "comeIn", "(I)Z"⟩
abbrev cX1_fact : ByteArray := prog_3_method_5_code
def yX1_fact : MethodName := ⟨RX1, "fact", "(I)I"⟩
def RX2 : String := "BucketBrigade$Lane"
def TX2 : u_T := fun k => match k with
  | 0 => ("BucketBrigade$Lane", "number", "I", true)
  | 1 => ("BucketBrigade$Lane", "queue", "LBucketBrigade$Queue;", true)
  | 2 => ("BucketBrigade$Lane", "over", "LBucketBrigade$Lane;", false)
  | 3 => ("BucketBrigade$Lane", "rate", "I", false)
  | 4 => ("BucketBrigade$Lane", "most", "I", false)
  | 5 => ("BucketBrigade$Lane", "tokens", "I", false)
  | 6 => ("BucketBrigade$Lane", "sent", "I", false)
  | 7 => ("BucketBrigade$Lane", "lost", "I", false)
  | 8 => ("BucketBrigade$Lane", "borrowed", "I", false)
  | 9 => ("BucketBrigade$Lane", "waited", "I", false)
  | 10 => ("BucketBrigade$Lane", "shut", "Z", false)
  | 11 => ("BucketBrigade$Lane", "burst", "I", false)
  | 12 => ("BucketBrigade$Lane", "rank", "I", false)
  | 13 => ("BucketBrigade$Lane", "holds", "I", false)
  | 14 => ("BucketBrigade$Lane", "dropsOld", "Z", false)
  | 15 => ("BucketBrigade$Lane", "lent", "I", false)
  | 16 => ("BucketBrigade$Lane", "ownInMinute", "I", false)
  | _ => ("BucketBrigade$Lane", "allInMinute", "I", false)
def tyX2 : Nat → FieldType := fun k => match k with
  | 0 => .int
  | 1 => .object "BucketBrigade$Queue"
  | 2 => .object "BucketBrigade$Lane"
  | 3 => .int
  | 4 => .int
  | 5 => .int
  | 6 => .int
  | 7 => .int
  | 8 => .int
  | 9 => .int
  | 10 => .boolean
  | 11 => .int
  | 12 => .int
  | 13 => .int
  | 14 => .boolean
  | 15 => .int
  | 16 => .int
  | _ => .int
abbrev wsX20 : List Cond := u_ws RX2 TX2 18
theorem nmX2 : ∀ a, a < 18 → ∀ b, b < 18 → a ≠ b → (TX2 a).2.1 ≠ (TX2 b).2.1 := by decide +kernel
theorem tyX2_ok : ∀ k, k < 18 → parseFieldDescriptor (TX2 k).2.2.1 = some (tyX2 k) := by decide +kernel
abbrev cX2_init : ByteArray := prog_4_method_1_code
def yX2_init : MethodName := ⟨RX2, "<init>", "(I)V"⟩
abbrev cX2_tell : ByteArray := prog_4_method_2_code
def yX2_tell : MethodName := ⟨RX2, "tell", "(LBucketBrigade$Lane;IIIIIZ)V"⟩
abbrev cX2_copyFrom : ByteArray := prog_4_method_3_code
def yX2_copyFrom : MethodName := ⟨RX2, "copyFrom", "(LBucketBrigade$Lane;LBucketBrigade$Lane;)V"⟩
abbrev cX2_beginMinute : ByteArray := prog_4_method_4_code
def yX2_beginMinute : MethodName := ⟨RX2, "beginMinute", "()V"⟩
abbrev cX2_isFull : ByteArray := prog_4_method_5_code
def yX2_isFull : MethodName := ⟨RX2, "isFull", "()Z"⟩
abbrev cX2_takePail : ByteArray := prog_4_method_6_code
def yX2_takePail : MethodName := ⟨RX2, "takePail", "(I)V"⟩
abbrev cX2_getTokens : ByteArray := prog_4_method_7_code
def yX2_getTokens : MethodName := ⟨RX2, "getTokens", "(I)V"⟩
abbrev cX2_isOrIsUnder : ByteArray := prog_4_method_8_code
def yX2_isOrIsUnder : MethodName := ⟨RX2, "isOrIsUnder", "(LBucketBrigade$Lane;)Z"⟩
abbrev cX2_whoLends : ByteArray := prog_4_method_9_code
def yX2_whoLends : MethodName := ⟨RX2, "whoLends", "()LBucketBrigade$Lane;"⟩
abbrev cX2_canSend : ByteArray := prog_4_method_10_code
def yX2_canSend : MethodName := ⟨RX2, "canSend", "()Z"⟩
abbrev cX2_isLetSend : ByteArray := prog_4_method_11_code
def yX2_isLetSend : MethodName := ⟨RX2, "isLetSend", "()Z"⟩
abbrev cX2_goesAheadOf : ByteArray := prog_4_method_12_code
def yX2_goesAheadOf : MethodName := ⟨RX2, "goesAheadOf", "(LBucketBrigade$Lane;)Z"⟩
abbrev cX2_sendPail : ByteArray := prog_4_method_13_code
def yX2_sendPail : MethodName := ⟨RX2, "sendPail", "(I)V"⟩
abbrev cX2_fact : ByteArray := prog_4_method_14_code
def yX2_fact : MethodName := ⟨RX2, "fact", "(I)I"⟩
abbrev cX2_known : ByteArray := prog_4_method_15_code
def yX2_known : MethodName := ⟨RX2, "known", "(I)I"⟩
def RX3 : String := "BucketBrigade$Order"
def TX3 : u_T := fun k => match k with
  | 0 => ("BucketBrigade$Order", "kind", "I", false)
  | 1 => ("BucketBrigade$Order", "lane", "I", false)
  | 2 => ("BucketBrigade$Order", "sumFrom", "I", false)
  | 3 => ("BucketBrigade$Order", "testFrom", "I", false)
  | _ => ("BucketBrigade$Order", "end", "I", false)
def tyX3 : Nat → FieldType := fun k => match k with
  | 0 => .int
  | 1 => .int
  | 2 => .int
  | 3 => .int
  | _ => .int
abbrev wsX30 : List Cond := u_ws RX3 TX3 5
theorem nmX3 : ∀ a, a < 5 → ∀ b, b < 5 → a ≠ b → (TX3 a).2.1 ≠ (TX3 b).2.1 := by decide +kernel
theorem tyX3_ok : ∀ k, k < 5 → parseFieldDescriptor (TX3 k).2.2.1 = some (tyX3 k) := by decide +kernel
abbrev cX3_init : ByteArray := prog_5_method_1_code
def yX3_init : MethodName := ⟨RX3, "<init>", "()V"⟩
abbrev cX3_tell : ByteArray := prog_5_method_2_code
def yX3_tell : MethodName := ⟨RX3, "tell", "(IIIII)V"⟩
def RX4 : String := "BucketBrigade$Queue"
def TX4 : u_T := fun k => match k with
  | 0 => ("BucketBrigade$Queue", "size", "I", false)
  | 1 => ("BucketBrigade$Queue", "minutes", "[I", true)
  | _ => ("BucketBrigade$Queue", "front", "I", false)
def tyX4 : Nat → FieldType := fun k => match k with
  | 0 => .int
  | 1 => .array .int
  | _ => .int
abbrev wsX40 : List Cond := u_ws RX4 TX4 3
theorem nmX4 : ∀ a, a < 3 → ∀ b, b < 3 → a ≠ b → (TX4 a).2.1 ≠ (TX4 b).2.1 := by decide +kernel
theorem tyX4_ok : ∀ k, k < 3 → parseFieldDescriptor (TX4 k).2.2.1 = some (tyX4 k) := by decide +kernel
abbrev cX4_init : ByteArray := prog_6_method_1_code
def yX4_init : MethodName := ⟨RX4, "<init>", "()V"⟩
abbrev cX4_clear : ByteArray := prog_6_method_2_code
def yX4_clear : MethodName := ⟨RX4, "clear", "()V"⟩
abbrev cX4_add : ByteArray := prog_6_method_3_code
def yX4_add : MethodName := ⟨RX4, "add", "(I)V"⟩
abbrev cX4_at : ByteArray := prog_6_method_4_code
def yX4_at : MethodName := ⟨RX4, "at", "(I)I"⟩
abbrev cX4_dropFront : ByteArray := prog_6_method_5_code
def yX4_dropFront : MethodName := ⟨RX4, "dropFront", "()V"⟩
abbrev cX4_copyFrom : ByteArray := prog_6_method_6_code
def yX4_copyFrom : MethodName := ⟨RX4, "copyFrom", "(LBucketBrigade$Queue;)V"⟩
abbrev cX4_slotOf : ByteArray := prog_6_method_7_code
def yX4_slotOf : MethodName := ⟨RX4, "slotOf", "(I)I"⟩
def RX5 : String := "BucketBrigade$Reader"
def TX5 : u_T := fun k => match k with
  | 0 => ("BucketBrigade$Reader", "draft", "LBucketBrigade$Site;", true)
  | 1 => ("BucketBrigade$Reader", "errorPlace", "I", false)
  | 2 => ("BucketBrigade$Reader", "tokens", "LBucketBrigade$Tokens;", true)
  | 3 => ("BucketBrigade$Reader", "laneNames", "[J", true)
  | 4 => ("BucketBrigade$Reader", "folkNames", "[J", true)
  | 5 => ("BucketBrigade$Reader", "next", "I", false)
  | _ => ("BucketBrigade$Reader", "error", "I", false)
def tyX5 : Nat → FieldType := fun k => match k with
  | 0 => .object "BucketBrigade$Site"
  | 1 => .int
  | 2 => .object "BucketBrigade$Tokens"
  | 3 => .array .long
  | 4 => .array .long
  | 5 => .int
  | _ => .int
abbrev wsX50 : List Cond := u_ws RX5 TX5 7
theorem nmX5 : ∀ a, a < 7 → ∀ b, b < 7 → a ≠ b → (TX5 a).2.1 ≠ (TX5 b).2.1 := by decide +kernel
theorem tyX5_ok : ∀ k, k < 7 → parseFieldDescriptor (TX5 k).2.2.1 = some (tyX5 k) := by decide +kernel
abbrev cX5_init : ByteArray := prog_7_method_1_code
def yX5_init : MethodName := ⟨RX5, "<init>", "()V"⟩
abbrev cX5_read : ByteArray := prog_7_method_2_code
def yX5_read : MethodName := ⟨RX5, "read", "(LBucketBrigade$Tape;I)I"⟩
abbrev cX5_readLane : ByteArray := prog_7_method_3_code
def yX5_readLane : MethodName := ⟨RX5, "readLane", "()V"⟩
abbrev cX5_readFolk : ByteArray := prog_7_method_4_code
def yX5_readFolk : MethodName := ⟨RX5, "readFolk", "()V"⟩
abbrev cX5_readOrder : ByteArray := prog_7_method_5_code
def yX5_readOrder : MethodName := ⟨RX5, "readOrder", "(I)V"⟩
abbrev cX5_test : ByteArray := prog_7_method_6_code
def yX5_test : MethodName := ⟨RX5, "test", "(I)V"⟩
abbrev cX5_both : ByteArray := prog_7_method_7_code
def yX5_both : MethodName := ⟨RX5, "both", "(I)V"⟩
abbrev cX5_single : ByteArray := prog_7_method_8_code
def yX5_single : MethodName := ⟨RX5, "single", "(I)V"⟩
abbrev cX5_compares : ByteArray := prog_7_method_9_code
def yX5_compares : MethodName := ⟨RX5, "compares", "(I)Z"⟩
abbrev cX5_sum : ByteArray := prog_7_method_10_code
def yX5_sum : MethodName := ⟨RX5, "sum", "(I)V"⟩
abbrev cX5_product : ByteArray := prog_7_method_11_code
def yX5_product : MethodName := ⟨RX5, "product", "(I)V"⟩
abbrev cX5_value : ByteArray := prog_7_method_12_code
def yX5_value : MethodName := ⟨RX5, "value", "(I)V"⟩
abbrev cX5_pair : ByteArray := prog_7_method_13_code
def yX5_pair : MethodName := ⟨RX5, "pair", "(II)V"⟩
abbrev cX5_kind : ByteArray := prog_7_method_14_code
def yX5_kind : MethodName := ⟨RX5, "kind", "()I"⟩
abbrev cX5_takes : ByteArray := prog_7_method_15_code
def yX5_takes : MethodName := ⟨RX5, "takes", "(I)Z"⟩
abbrev cX5_need : ByteArray := prog_7_method_16_code
def yX5_need : MethodName := ⟨RX5, "need", "(I)V"⟩
abbrev cX5_enters : ByteArray := prog_7_method_17_code
def yX5_enters : MethodName := ⟨RX5, "enters", "(I)Z"⟩
abbrev cX5_number : ByteArray := prog_7_method_18_code
def yX5_number : MethodName := ⟨RX5, "number", "(II)I"⟩
abbrev cX5_newName : ByteArray := prog_7_method_19_code
def yX5_newName : MethodName := ⟨RX5, "newName", "([JI)J"⟩
abbrev cX5_toldLane : ByteArray := prog_7_method_20_code
def yX5_toldLane : MethodName := ⟨RX5, "toldLane", "()I"⟩
abbrev cX5_placeOf : ByteArray := prog_7_method_21_code
def yX5_placeOf : MethodName := ⟨RX5, "placeOf", "(J[JI)I"⟩
abbrev cX5_keepName : ByteArray := prog_7_method_22_code
def yX5_keepName : MethodName := ⟨RX5, "keepName", "([JIJ)V"⟩
abbrev cX5_fail : ByteArray := prog_7_method_23_code
def yX5_fail : MethodName := ⟨RX5, "fail", "()V"⟩
abbrev cX5_blame : ByteArray := prog_7_method_24_code
def yX5_blame : MethodName := ⟨RX5, "blame", "(I)V"⟩
def RX6 : String := "BucketBrigade$Site"
def TX6 : u_T := fun k => match k with
  | 0 => ("BucketBrigade$Site", "book", "LBucketBrigade$Book;", true)
  | 1 => ("BucketBrigade$Site", "minute", "I", false)
  | 2 => ("BucketBrigade$Site", "well", "I", false)
  | 3 => ("BucketBrigade$Site", "laneCount", "I", false)
  | 4 => ("BucketBrigade$Site", "folkCount", "I", false)
  | 5 => ("BucketBrigade$Site", "lanes", "[LBucketBrigade$Lane;", true)
  | 6 => ("BucketBrigade$Site", "folks", "[LBucketBrigade$Folk;", true)
  | 7 => ("BucketBrigade$Site", "stack", "LBucketBrigade$Stack;", true)
  | 8 => ("BucketBrigade$Site", "spare", "I", false)
  | 9 => ("BucketBrigade$Site", "came", "I", false)
  | _ => ("BucketBrigade$Site", "carriedOut", "I", false)
def tyX6 : Nat → FieldType := fun k => match k with
  | 0 => .object "BucketBrigade$Book"
  | 1 => .int
  | 2 => .int
  | 3 => .int
  | 4 => .int
  | 5 => .array (.object "BucketBrigade$Lane")
  | 6 => .array (.object "BucketBrigade$Folk")
  | 7 => .object "BucketBrigade$Stack"
  | 8 => .int
  | 9 => .int
  | _ => .int
abbrev wsX60 : List Cond := u_ws RX6 TX6 11
theorem nmX6 : ∀ a, a < 11 → ∀ b, b < 11 → a ≠ b → (TX6 a).2.1 ≠ (TX6 b).2.1 := by decide +kernel
theorem tyX6_ok : ∀ k, k < 11 → parseFieldDescriptor (TX6 k).2.2.1 = some (tyX6 k) := by decide +kernel
abbrev cX6_init : ByteArray := prog_8_method_1_code
def yX6_init : MethodName := ⟨RX6, "<init>", "(LBucketBrigade$Book;)V"⟩
abbrev cX6_begin : ByteArray := prog_8_method_2_code
def yX6_begin : MethodName := ⟨RX6, "begin", "(I)V"⟩
abbrev cX6_copyFrom : ByteArray := prog_8_method_3_code
def yX6_copyFrom : MethodName := ⟨RX6, "copyFrom", "(LBucketBrigade$Site;)V"⟩
abbrev cX6_addLane : ByteArray := prog_8_method_4_code
def yX6_addLane : MethodName := ⟨RX6, "addLane", "()LBucketBrigade$Lane;"⟩
abbrev cX6_laneAt : ByteArray := prog_8_method_5_code
def yX6_laneAt : MethodName := ⟨RX6, "laneAt", "(I)LBucketBrigade$Lane;"⟩
abbrev cX6_addFolk : ByteArray := prog_8_method_6_code
def yX6_addFolk : MethodName := ⟨RX6, "addFolk", "()LBucketBrigade$Folk;"⟩
abbrev cX6_folkAt : ByteArray := prog_8_method_7_code
def yX6_folkAt : MethodName := ⟨RX6, "folkAt", "(I)LBucketBrigade$Folk;"⟩
abbrev cX6_takeIn : ByteArray := prog_8_method_8_code
def yX6_takeIn : MethodName := ⟨RX6, "takeIn", "(LBucketBrigade$Lane;I)V"⟩
abbrev cX6_goOneMinute : ByteArray := prog_8_method_9_code
def yX6_goOneMinute : MethodName := ⟨RX6, "goOneMinute", "()I"⟩
abbrev cX6_obey : ByteArray := prog_8_method_10_code
def yX6_obey : MethodName := ⟨RX6, "obey", "(LBucketBrigade$Order;)V"⟩
abbrev cX6_reckon : ByteArray := prog_8_method_11_code
def yX6_reckon : MethodName := ⟨RX6, "reckon", "(II)I"⟩
abbrev cX6_step : ByteArray := prog_8_method_12_code
def yX6_step : MethodName := ⟨RX6, "step", "(II)V"⟩
abbrev cX6_combined : ByteArray := prog_8_method_13_code
def yX6_combined : MethodName := ⟨RX6, "combined", "(III)I"⟩
abbrev cX6_letFolkCome : ByteArray := prog_8_method_14_code
def yX6_letFolkCome : MethodName := ⟨RX6, "letFolkCome", "()V"⟩
abbrev cX6_sendPails : ByteArray := prog_8_method_15_code
def yX6_sendPails : MethodName := ⟨RX6, "sendPails", "()I"⟩
abbrev cX6_whoSends : ByteArray := prog_8_method_16_code
def yX6_whoSends : MethodName := ⟨RX6, "whoSends", "()LBucketBrigade$Lane;"⟩
abbrev cX6_tally : ByteArray := prog_8_method_17_code
def yX6_tally : MethodName := ⟨RX6, "tally", "(I)I"⟩
abbrev cX6_sumOverLanes : ByteArray := prog_8_method_18_code
def yX6_sumOverLanes : MethodName := ⟨RX6, "sumOverLanes", "(I)I"⟩
abbrev cX6_shareOf : ByteArray := prog_8_method_19_code
def yX6_shareOf : MethodName := ⟨RX6, "shareOf", "(LBucketBrigade$Lane;I)I"⟩
def RX7 : String := "BucketBrigade$Stack"
def TX7 : u_T := fun k => match k with
  | 0 => ("BucketBrigade$Stack", "numbers", "[I", true)
  | _ => ("BucketBrigade$Stack", "height", "I", false)
def tyX7 : Nat → FieldType := fun k => match k with
  | 0 => .array .int
  | _ => .int
abbrev wsX70 : List Cond := u_ws RX7 TX7 2
theorem nmX7 : ∀ a, a < 2 → ∀ b, b < 2 → a ≠ b → (TX7 a).2.1 ≠ (TX7 b).2.1 := by decide +kernel
theorem tyX7_ok : ∀ k, k < 2 → parseFieldDescriptor (TX7 k).2.2.1 = some (tyX7 k) := by decide +kernel
abbrev cX7_init : ByteArray := prog_9_method_1_code
def yX7_init : MethodName := ⟨RX7, "<init>", "()V"⟩
abbrev cX7_clear : ByteArray := prog_9_method_2_code
def yX7_clear : MethodName := ⟨RX7, "clear", "()V"⟩
abbrev cX7_push : ByteArray := prog_9_method_3_code
def yX7_push : MethodName := ⟨RX7, "push", "(I)V"⟩
abbrev cX7_pop : ByteArray := prog_9_method_4_code
def yX7_pop : MethodName := ⟨RX7, "pop", "()I"⟩
def RX8 : String := "BucketBrigade$Tape"
def TX8 : u_T := fun k => match k with
  | 0 => ("BucketBrigade$Tape", "bytes", "[B", true)
  | _ => ("BucketBrigade$Tape", "length", "I", false)
def tyX8 : Nat → FieldType := fun k => match k with
  | 0 => .array .byte
  | _ => .int
abbrev wsX80 : List Cond := u_ws RX8 TX8 2
theorem nmX8 : ∀ a, a < 2 → ∀ b, b < 2 → a ≠ b → (TX8 a).2.1 ≠ (TX8 b).2.1 := by decide +kernel
theorem tyX8_ok : ∀ k, k < 2 → parseFieldDescriptor (TX8 k).2.2.1 = some (tyX8 k) := by decide +kernel
abbrev cX8_init : ByteArray := prog_10_method_1_code
def yX8_init : MethodName := ⟨RX8, "<init>", "()V"⟩
abbrev cX8_append : ByteArray := prog_10_method_2_code
def yX8_append : MethodName := ⟨RX8, "append", "(I)V"⟩
abbrev cX8_at : ByteArray := prog_10_method_3_code
def yX8_at : MethodName := ⟨RX8, "at", "(I)I"⟩
def RX9 : String := "BucketBrigade$Tokens"
def TX9 : u_T := fun k => match k with
  | 0 => ("BucketBrigade$Tokens", "keywords", "[J", true)
  | 1 => ("BucketBrigade$Tokens", "kinds", "[I", true)
  | 2 => ("BucketBrigade$Tokens", "starts", "[I", true)
  | 3 => ("BucketBrigade$Tokens", "values", "[J", true)
  | _ => ("BucketBrigade$Tokens", "size", "I", false)
def tyX9 : Nat → FieldType := fun k => match k with
  | 0 => .array .long
  | 1 => .array .int
  | 2 => .array .int
  | 3 => .array .long
  | _ => .int
abbrev wsX90 : List Cond := u_ws RX9 TX9 5
theorem nmX9 : ∀ a, a < 5 → ∀ b, b < 5 → a ≠ b → (TX9 a).2.1 ≠ (TX9 b).2.1 := by decide +kernel
theorem tyX9_ok : ∀ k, k < 5 → parseFieldDescriptor (TX9 k).2.2.1 = some (tyX9 k) := by decide +kernel
abbrev cX9_init : ByteArray := prog_11_method_1_code
def yX9_init : MethodName := ⟨RX9, "<init>", "()V"⟩
abbrev cX9_kindOf : ByteArray := prog_11_method_2_code
def yX9_kindOf : MethodName := ⟨RX9, "kindOf", "(I)I"⟩
abbrev cX9_startOf : ByteArray := prog_11_method_3_code
def yX9_startOf : MethodName := ⟨RX9, "startOf", "(I)I"⟩
abbrev cX9_valueOf : ByteArray := prog_11_method_4_code
def yX9_valueOf : MethodName := ⟨RX9, "valueOf", "(I)J"⟩
abbrev cX9_scan : ByteArray := prog_11_method_5_code
def yX9_scan : MethodName := ⟨RX9, "scan", "(LBucketBrigade$Tape;)V"⟩
abbrev cX9_behindBlanks : ByteArray := prog_11_method_6_code
def yX9_behindBlanks : MethodName := ⟨RX9, "behindBlanks", "(LBucketBrigade$Tape;I)I"⟩
abbrev cX9_scanToken : ByteArray := prog_11_method_7_code
def yX9_scanToken : MethodName := ⟨RX9, "scanToken", "(LBucketBrigade$Tape;I)I"⟩
abbrev cX9_scanWord : ByteArray := prog_11_method_8_code
def yX9_scanWord : MethodName := ⟨RX9, "scanWord", "(LBucketBrigade$Tape;I)I"⟩
abbrev cX9_scanNumber : ByteArray := prog_11_method_9_code
def yX9_scanNumber : MethodName := ⟨RX9, "scanNumber", "(LBucketBrigade$Tape;I)I"⟩
abbrev cX9_scanSymbol : ByteArray := prog_11_method_10_code
def yX9_scanSymbol : MethodName := ⟨RX9, "scanSymbol", "(LBucketBrigade$Tape;I)I"⟩
abbrev cX9_add : ByteArray := prog_11_method_11_code
def yX9_add : MethodName := ⟨RX9, "add", "(IIJ)V"⟩
abbrev cX9_kindOfWord : ByteArray := prog_11_method_12_code
def yX9_kindOfWord : MethodName := ⟨RX9, "kindOfWord", "(J)I"⟩
abbrev cX9_longer : ByteArray := prog_11_method_13_code
def yX9_longer : MethodName := ⟨RX9, "longer", "(JI)J"⟩
abbrev cX9_isLetter : ByteArray := prog_11_method_14_code
def yX9_isLetter : MethodName := ⟨RX9, "isLetter", "(I)Z"⟩
abbrev cX9_isDigit : ByteArray := prog_11_method_15_code
def yX9_isDigit : MethodName := ⟨RX9, "isDigit", "(I)Z"⟩
abbrev cX9_isSymbol : ByteArray := prog_11_method_16_code
def yX9_isSymbol : MethodName := ⟨RX9, "isSymbol", "(I)Z"⟩
def RX10 : String := "BucketBrigade"
def TX10 : u_T := fun k => match k with
  | 0 => ("BucketBrigade", "tape", "LBucketBrigade$Tape;", true)
  | 1 => ("BucketBrigade", "reader", "LBucketBrigade$Reader;", true)
  | 2 => ("BucketBrigade", "now", "LBucketBrigade$Site;", true)
  | 3 => ("BucketBrigade", "ahead", "LBucketBrigade$Site;", true)
  | _ => ("BucketBrigade", "errorPlace", "I", false)
def tyX10 : Nat → FieldType := fun k => match k with
  | 0 => .object "BucketBrigade$Tape"
  | 1 => .object "BucketBrigade$Reader"
  | 2 => .object "BucketBrigade$Site"
  | 3 => .object "BucketBrigade$Site"
  | _ => .int
abbrev wsX100 : List Cond := u_ws RX10 TX10 5
theorem nmX10 : ∀ a, a < 5 → ∀ b, b < 5 → a ≠ b → (TX10 a).2.1 ≠ (TX10 b).2.1 := by decide +kernel
theorem tyX10_ok : ∀ k, k < 5 → parseFieldDescriptor (TX10 k).2.2.1 = some (tyX10 k) := by decide +kernel
abbrev cX10_init : ByteArray := prog_1_method_1_code
def yX10_init : MethodName := ⟨RX10, "<init>", "()V"⟩
abbrev cX10_feed : ByteArray := prog_1_method_2_code
def yX10_feed : MethodName := ⟨RX10, "feed", "(IIIII)I"⟩
abbrev cX10_trim : ByteArray := prog_1_method_3_code
def yX10_trim : MethodName := ⟨RX10, "trim", "(I)I"⟩
abbrev cX10_teach : ByteArray := prog_1_method_4_code
def yX10_teach : MethodName := ⟨RX10, "teach", "()I"⟩
abbrev cX10_count : ByteArray := prog_1_method_6_code
def yX10_count : MethodName := ⟨RX10, "count", "(I)I"⟩
abbrev cX10_lane : ByteArray := prog_1_method_7_code
def yX10_lane : MethodName := ⟨RX10, "lane", "(II)I"⟩
abbrev cX10_pail : ByteArray := prog_1_method_8_code
def yX10_pail : MethodName := ⟨RX10, "pail", "(II)I"⟩
abbrev cX10_folk : ByteArray := prog_1_method_9_code
def yX10_folk : MethodName := ⟨RX10, "folk", "(II)I"⟩
abbrev cX10_lender : ByteArray := prog_1_method_10_code
def yX10_lender : MethodName := ⟨RX10, "lender", "(I)I"⟩
abbrev cX10_common : ByteArray := prog_1_method_11_code
def yX10_common : MethodName := ⟨RX10, "common", "(II)I"⟩
abbrev cX10_eldest : ByteArray := prog_1_method_12_code
def yX10_eldest : MethodName := ⟨RX10, "eldest", "()I"⟩
abbrev cX10_bring : ByteArray := prog_1_method_13_code
def yX10_bring : MethodName := ⟨RX10, "bring", "(II)I"⟩
abbrev cX10_give : ByteArray := prog_1_method_14_code
def yX10_give : MethodName := ⟨RX10, "give", "(II)I"⟩
abbrev cX10_setRate : ByteArray := prog_1_method_15_code
def yX10_setRate : MethodName := ⟨RX10, "setRate", "(II)I"⟩
abbrev cX10_setMost : ByteArray := prog_1_method_16_code
def yX10_setMost : MethodName := ⟨RX10, "setMost", "(II)I"⟩
abbrev cX10_setWell : ByteArray := prog_1_method_17_code
def yX10_setWell : MethodName := ⟨RX10, "setWell", "(I)I"⟩
abbrev cX10_pass : ByteArray := prog_1_method_18_code
def yX10_pass : MethodName := ⟨RX10, "pass", "(I)I"⟩
abbrev cX10_foresee : ByteArray := prog_1_method_20_code
def yX10_foresee : MethodName := ⟨RX10, "foresee", "(II)I"⟩
abbrev cX10_mean : ByteArray := prog_1_method_22_code
def yX10_mean : MethodName := ⟨RX10, "mean", "()D"⟩
abbrev cX10_countNow : ByteArray := prog_1_method_25_code
def yX10_countNow : MethodName := ⟨RX10, "countNow", "(I)I"⟩
abbrev cX10_numberOf : ByteArray := prog_1_method_27_code
def yX10_numberOf : MethodName := ⟨RX10, "numberOf", "(LBucketBrigade$Lane;)I"⟩
def RX11 : String := "BucketBrigadeLaw$Lane"
def TX11 : u_T := fun k => match k with
  | 0 => ("BucketBrigadeLaw$Lane", "over", "LBucketBrigadeLaw$Lane;", false)
  | 1 => ("BucketBrigadeLaw$Lane", "number", "I", false)
  | 2 => ("BucketBrigadeLaw$Lane", "rate", "I", false)
  | 3 => ("BucketBrigadeLaw$Lane", "most", "I", false)
  | 4 => ("BucketBrigadeLaw$Lane", "burst", "I", false)
  | 5 => ("BucketBrigadeLaw$Lane", "rank", "I", false)
  | 6 => ("BucketBrigadeLaw$Lane", "tokens", "I", false)
  | 7 => ("BucketBrigadeLaw$Lane", "holds", "I", false)
  | 8 => ("BucketBrigadeLaw$Lane", "isOld", "Z", false)
  | 9 => ("BucketBrigadeLaw$Lane", "pails", "[I", true)
  | 10 => ("BucketBrigadeLaw$Lane", "waits", "I", false)
  | 11 => ("BucketBrigadeLaw$Lane", "sent", "I", false)
  | 12 => ("BucketBrigadeLaw$Lane", "lost", "I", false)
  | 13 => ("BucketBrigadeLaw$Lane", "lent", "I", false)
  | 14 => ("BucketBrigadeLaw$Lane", "borrowed", "I", false)
  | 15 => ("BucketBrigadeLaw$Lane", "waited", "I", false)
  | 16 => ("BucketBrigadeLaw$Lane", "isShut", "Z", false)
  | 17 => ("BucketBrigadeLaw$Lane", "own", "I", false)
  | _ => ("BucketBrigadeLaw$Lane", "all", "I", false)
def tyX11 : Nat → FieldType := fun k => match k with
  | 0 => .object "BucketBrigadeLaw$Lane"
  | 1 => .int
  | 2 => .int
  | 3 => .int
  | 4 => .int
  | 5 => .int
  | 6 => .int
  | 7 => .int
  | 8 => .boolean
  | 9 => .array .int
  | 10 => .int
  | 11 => .int
  | 12 => .int
  | 13 => .int
  | 14 => .int
  | 15 => .int
  | 16 => .boolean
  | 17 => .int
  | _ => .int
abbrev wsX110 : List Cond := u_ws RX11 TX11 19
theorem nmX11 : ∀ a, a < 19 → ∀ b, b < 19 → a ≠ b → (TX11 a).2.1 ≠ (TX11 b).2.1 := by decide +kernel
theorem tyX11_ok : ∀ k, k < 19 → parseFieldDescriptor (TX11 k).2.2.1 = some (tyX11 k) := by decide +kernel
abbrev cX11_init : ByteArray := prog_13_method_1_code
def yX11_init : MethodName := ⟨RX11, "<init>", "()V"⟩
abbrev cX11_can : ByteArray := prog_13_method_2_code
def yX11_can : MethodName := ⟨RX11, "can", "()Z"⟩
abbrev cX11_lender : ByteArray := prog_13_method_3_code
def yX11_lender : MethodName := ⟨RX11, "lender", "()LBucketBrigadeLaw$Lane;"⟩
abbrev cX11_order : ByteArray := prog_13_method_4_code
def yX11_order : MethodName := ⟨RX11, "order", "()I"⟩
abbrev cX11_pop : ByteArray := prog_13_method_5_code
def yX11_pop : MethodName := ⟨RX11, "pop", "()V"⟩
def RX12 : String := "BucketBrigadeLaw$Sim"
def TX12 : u_T := fun k => match k with
  | 0 => ("BucketBrigadeLaw$Sim", "minute", "I", false)
  | 1 => ("BucketBrigadeLaw$Sim", "well", "I", false)
  | 2 => ("BucketBrigadeLaw$Sim", "came", "I", false)
  | 3 => ("BucketBrigadeLaw$Sim", "done", "I", false)
  | 4 => ("BucketBrigadeLaw$Sim", "spare", "I", false)
  | 5 => ("BucketBrigadeLaw$Sim", "lanes", "[LBucketBrigadeLaw$Lane;", false)
  | 6 => ("BucketBrigadeLaw$Sim", "folk", "[[I", false)
  | _ => ("BucketBrigadeLaw$Sim", "orders", "[[I", false)
def tyX12 : Nat → FieldType := fun k => match k with
  | 0 => .int
  | 1 => .int
  | 2 => .int
  | 3 => .int
  | 4 => .int
  | 5 => .array (.object "BucketBrigadeLaw$Lane")
  | 6 => .array (.array .int)
  | _ => .array (.array .int)
abbrev wsX120 : List Cond := u_ws RX12 TX12 8
theorem nmX12 : ∀ a, a < 8 → ∀ b, b < 8 → a ≠ b → (TX12 a).2.1 ≠ (TX12 b).2.1 := by decide +kernel
theorem tyX12_ok : ∀ k, k < 8 → parseFieldDescriptor (TX12 k).2.2.1 = some (tyX12 k) := by decide +kernel
abbrev cX12_init : ByteArray := prog_14_method_1_code
def yX12_init : MethodName := ⟨RX12, "<init>", "()V"⟩
abbrev cX12_bring : ByteArray := prog_14_method_3_code
def yX12_bring : MethodName := ⟨RX12, "bring", "(LBucketBrigadeLaw$Lane;I)I"⟩
abbrev cX12_value : ByteArray := prog_14_method_4_code
def yX12_value : MethodName := ⟨RX12, "value", "(ILBucketBrigadeLaw$Lane;I)I"⟩
abbrev cX12_told : ByteArray := prog_14_method_5_code
def yX12_told : MethodName := ⟨RX12, "told", "(III)Ljava/lang/String;"⟩
abbrev cX12_holds : ByteArray := prog_14_method_6_code
def yX12_holds : MethodName := ⟨RX12, "holds", "(III)Z"⟩
abbrev cX12_test : ByteArray := prog_14_method_7_code
def yX12_test : MethodName := ⟨RX12, "test", "(III)Ljava/lang/String;"⟩
abbrev cX12_pass : ByteArray := prog_14_method_8_code
def yX12_pass : MethodName := ⟨RX12, "pass", "()V"⟩
abbrev cX12_behind : ByteArray := prog_14_method_9_code
def yX12_behind : MethodName := ⟨RX12, "behind", "(I)LBucketBrigadeLaw$Sim;"⟩
abbrev cX12_counted : ByteArray := prog_14_method_10_code
def yX12_counted : MethodName := ⟨RX12, "counted", "(I)I"⟩
abbrev cX12_isSame : ByteArray := prog_14_method_11_code
def yX12_isSame : MethodName := ⟨RX12, "isSame", "(LBucketBrigade;)Z"⟩
abbrev cX12_text : ByteArray := prog_14_method_12_code
def yX12_text : MethodName := ⟨RX12, "text", "()Ljava/lang/String;"⟩
def RX13 : String := "BucketBrigadeModel$Reader"
def TX13 : u_T := fun k => match k with
  | _ => ("", "", "", false)
def tyX13 : Nat → FieldType := fun k => match k with
  | _ => .int
abbrev wsX130 : List Cond := u_ws RX13 TX13 0
theorem nmX13 : ∀ a, a < 0 → ∀ b, b < 0 → a ≠ b → (TX13 a).2.1 ≠ (TX13 b).2.1 := by decide +kernel
theorem tyX13_ok : ∀ k, k < 0 → parseFieldDescriptor (TX13 k).2.2.1 = some (tyX13 k) := by decide +kernel
def RX14 : String := "BucketBrigadeModel$Told"
def TX14 : u_T := fun k => match k with
  | _ => ("", "", "", false)
def tyX14 : Nat → FieldType := fun k => match k with
  | _ => .int
abbrev wsX140 : List Cond := u_ws RX14 TX14 0
theorem nmX14 : ∀ a, a < 0 → ∀ b, b < 0 → a ≠ b → (TX14 a).2.1 ≠ (TX14 b).2.1 := by decide +kernel
theorem tyX14_ok : ∀ k, k < 0 → parseFieldDescriptor (TX14 k).2.2.1 = some (tyX14 k) := by decide +kernel
def RX15 : String := "BucketBrigadeModel"
def TX15 : u_T := fun k => match k with
  | _ => ("", "", "", false)
def tyX15 : Nat → FieldType := fun k => match k with
  | _ => .int
abbrev wsX150 : List Cond := u_ws RX15 TX15 0
theorem nmX15 : ∀ a, a < 0 → ∀ b, b < 0 → a ≠ b → (TX15 a).2.1 ≠ (TX15 b).2.1 := by decide +kernel
theorem tyX15_ok : ∀ k, k < 0 → parseFieldDescriptor (TX15 k).2.2.1 = some (tyX15 k) := by decide +kernel
def RJ5 : String := "java/lang/AbstractStringBuilder"
def TJ5 : u_T := fun k => match k with
  | _ => ("", "", "", false)
def tyJ5 : Nat → FieldType := fun k => match k with
  | _ => .int
abbrev wsJ50 : List Cond := u_ws RJ5 TJ5 0
theorem nmJ5 : ∀ a, a < 0 → ∀ b, b < 0 → a ≠ b → (TJ5 a).2.1 ≠ (TJ5 b).2.1 := by decide +kernel
theorem tyJ5_ok : ∀ k, k < 0 → parseFieldDescriptor (TJ5 k).2.2.1 = some (tyJ5 k) := by decide +kernel
abbrev cJ5_init_d00df : ByteArray := prog_18_method_2_code
def yJ5_init_d00df : MethodName := ⟨RJ5, "<init>", "(I)V"⟩
abbrev cJ5_length_8abf5 : ByteArray := prog_18_method_6_code
def yJ5_length_8abf5 : MethodName := ⟨RJ5, "length", "()I"⟩
abbrev cJ5_ensureCapacityInternal_d00df : ByteArray := prog_18_method_9_code
def yJ5_ensureCapacityInternal_d00df : MethodName := ⟨RJ5, "ensureCapacityInternal", "(I)V"⟩
abbrev cJ5_newCapacity_0f7a4 : ByteArray := prog_18_method_10_code
def yJ5_newCapacity_0f7a4 : MethodName := ⟨RJ5, "newCapacity", "(I)I"⟩
abbrev cJ5_inflate_da8c8 : ByteArray := prog_18_method_11_code
def yJ5_inflate_da8c8 : MethodName := ⟨RJ5, "inflate", "()V"⟩
abbrev cJ5_append_cf1ce : ByteArray := prog_18_method_22_code
def yJ5_append_cf1ce : MethodName := ⟨RJ5, "append", "(Ljava/lang/String;)Ljava/lang/AbstractStringBuilder;"⟩
abbrev cJ5_appendNull_278bc : ByteArray := prog_18_method_26_code
def yJ5_appendNull_278bc : MethodName := ⟨RJ5, "appendNull", "()Ljava/lang/AbstractStringBuilder;"⟩
abbrev cJ5_append_c97b9 : ByteArray := prog_18_method_32_code
def yJ5_append_c97b9 : MethodName := ⟨RJ5, "append", "(I)Ljava/lang/AbstractStringBuilder;"⟩
abbrev cJ5_getValue_6d5f1 : ByteArray := prog_18_method_64_code
def yJ5_getValue_6d5f1 : MethodName := ⟨RJ5, "getValue", "()[B"⟩
abbrev cJ5_isLatin1_aae02 : ByteArray := prog_18_method_68_code
def yJ5_isLatin1_aae02 : MethodName := ⟨RJ5, "isLatin1", "()Z"⟩
abbrev cJ5_inflateIfNeededFor_a7421 : ByteArray := prog_18_method_71_code
def yJ5_inflateIfNeededFor_a7421 : MethodName := ⟨RJ5, "inflateIfNeededFor", "(Ljava/lang/String;)V"⟩
abbrev cJ5_putStringAt_47b60 : ByteArray := prog_18_method_73_code
def yJ5_putStringAt_47b60 : MethodName := ⟨RJ5, "putStringAt", "(ILjava/lang/String;)V"⟩
def RJ6 : String := "java/lang/Integer"
def TJ6 : u_T := fun k => match k with
  | _ => ("", "", "", false)
def tyJ6 : Nat → FieldType := fun k => match k with
  | _ => .int
abbrev wsJ60 : List Cond := u_ws RJ6 TJ6 0
theorem nmJ6 : ∀ a, a < 0 → ∀ b, b < 0 → a ≠ b → (TJ6 a).2.1 ≠ (TJ6 b).2.1 := by decide +kernel
theorem tyJ6_ok : ∀ k, k < 0 → parseFieldDescriptor (TJ6 k).2.2.1 = some (tyJ6 k) := by decide +kernel
abbrev cJ6_getChars_ba4f3 : ByteArray := prog_24_method_12_code
def yJ6_getChars_ba4f3 : MethodName := ⟨RJ6, "getChars", "(II[B)I"⟩
abbrev cJ6_stringSize_0f7a4 : ByteArray := prog_24_method_13_code
def yJ6_stringSize_0f7a4 : MethodName := ⟨RJ6, "stringSize", "(I)I"⟩
def RJ9 : String := "java/lang/Math"
def TJ9 : u_T := fun k => match k with
  | _ => ("", "", "", false)
def tyJ9 : Nat → FieldType := fun k => match k with
  | _ => .int
abbrev wsJ90 : List Cond := u_ws RJ9 TJ9 0
theorem nmJ9 : ∀ a, a < 0 → ∀ b, b < 0 → a ≠ b → (TJ9 a).2.1 ≠ (TJ9 b).2.1 := by decide +kernel
theorem tyJ9_ok : ∀ k, k < 0 → parseFieldDescriptor (TJ9 k).2.2.1 = some (tyJ9 k) := by decide +kernel
abbrev cJ9_max_7cf53 : ByteArray := prog_25_method_65_code
def yJ9_max_7cf53 : MethodName := ⟨RJ9, "max", "(II)I"⟩
abbrev cJ9_min_7cf53 : ByteArray := prog_25_method_69_code
def yJ9_min_7cf53 : MethodName := ⟨RJ9, "min", "(II)I"⟩
def RJ0 : String := "java/lang/String"
def TJ0 : u_T := fun k => match k with
  | 0 => ("java/lang/String", "value", "[B", true)
  | 1 => ("java/lang/String", "coder", "B", true)
  | 2 => ("java/lang/String", "hash", "I", false)
  | _ => ("java/lang/String", "hashIsZero", "Z", false)
def tyJ0 : Nat → FieldType := fun k => match k with
  | 0 => .array .byte
  | 1 => .byte
  | 2 => .int
  | _ => .boolean
abbrev wsJ00 : List Cond := u_ws RJ0 TJ0 4
theorem nmJ0 : ∀ a, a < 4 → ∀ b, b < 4 → a ≠ b → (TJ0 a).2.1 ≠ (TJ0 b).2.1 := by decide +kernel
theorem tyJ0_ok : ∀ k, k < 4 → parseFieldDescriptor (TJ0 k).2.2.1 = some (tyJ0 k) := by decide +kernel
abbrev cJ0_init_81219 : ByteArray := prog_27_method_53_code
def yJ0_init_81219 : MethodName := ⟨RJ0, "<init>", "(Ljava/lang/StringBuilder;)V"⟩
abbrev cJ0_length_8abf5 : ByteArray := prog_27_method_54_code
def yJ0_length_8abf5 : MethodName := ⟨RJ0, "length", "()I"⟩
abbrev cJ0_charAt_5068e : ByteArray := prog_27_method_56_code
def yJ0_charAt_5068e : MethodName := ⟨RJ0, "charAt", "(I)C"⟩
abbrev cJ0_getBytes_840e7 : ByteArray := prog_27_method_147_code
def yJ0_getBytes_840e7 : MethodName := ⟨RJ0, "getBytes", "([BIB)V"⟩
abbrev cJ0_init_db425 : ByteArray := prog_27_method_150_code
def yJ0_init_db425 : MethodName := ⟨RJ0, "<init>", "(Ljava/lang/AbstractStringBuilder;Ljava/lang/Void;)V"⟩
abbrev cJ0_coder_7d493 : ByteArray := prog_27_method_152_code
def yJ0_coder_7d493 : MethodName := ⟨RJ0, "coder", "()B"⟩
abbrev cJ0_isLatin1_aae02 : ByteArray := prog_27_method_154_code
def yJ0_isLatin1_aae02 : MethodName := ⟨RJ0, "isLatin1", "()Z"⟩
abbrev cJ0_checkIndex_df160 : ByteArray := prog_27_method_155_code
def yJ0_checkIndex_df160 : MethodName := ⟨RJ0, "checkIndex", "(II)V"⟩
abbrev cJ0_checkBoundsOffCount_cabcc : ByteArray := prog_27_method_157_code
def yJ0_checkBoundsOffCount_cabcc : MethodName := ⟨RJ0, "checkBoundsOffCount", "(III)I"⟩
abbrev cJ0_checkBoundsBeginEnd_23922 : ByteArray := prog_27_method_158_code
def yJ0_checkBoundsBeginEnd_23922 : MethodName := ⟨RJ0, "checkBoundsBeginEnd", "(III)V"⟩
def RJ4 : String := "java/lang/StringBuilder"
def TJ4 : u_T := fun k => match k with
  | 0 => ("java/lang/AbstractStringBuilder", "value", "[B", false)
  | 1 => ("java/lang/AbstractStringBuilder", "coder", "B", false)
  | 2 => ("java/lang/AbstractStringBuilder", "maybeLatin1", "Z", false)
  | _ => ("java/lang/AbstractStringBuilder", "count", "I", false)
def tyJ4 : Nat → FieldType := fun k => match k with
  | 0 => .array .byte
  | 1 => .byte
  | 2 => .boolean
  | _ => .int
abbrev wsJ40 : List Cond := u_ws RJ4 TJ4 4
theorem nmJ4 : ∀ a, a < 4 → ∀ b, b < 4 → a ≠ b → (TJ4 a).2.1 ≠ (TJ4 b).2.1 := by decide +kernel
theorem tyJ4_ok : ∀ k, k < 4 → parseFieldDescriptor (TJ4 k).2.2.1 = some (tyJ4 k) := by decide +kernel
abbrev cJ4_init_da8c8 : ByteArray := prog_28_method_1_code
def yJ4_init_da8c8 : MethodName := ⟨RJ4, "<init>", "()V"⟩
abbrev cJ4_append_15ec4 : ByteArray := prog_28_method_7_code
def yJ4_append_15ec4 : MethodName := ⟨RJ4, "append", "(Ljava/lang/String;)Ljava/lang/StringBuilder;"⟩
abbrev cJ4_append_bf812 : ByteArray := prog_28_method_15_code
def yJ4_append_bf812 : MethodName := ⟨RJ4, "append", "(I)Ljava/lang/StringBuilder;"⟩
abbrev cJ4_toString_0e30d : ByteArray := prog_28_method_42_code
def yJ4_toString_0e30d : MethodName := ⟨RJ4, "toString", "()Ljava/lang/String;"⟩
abbrev cJ4_length_8abf5 : ByteArray := prog_28_method_93_code
def yJ4_length_8abf5 : MethodName := ⟨RJ4, "length", "()I"⟩
def RJ1 : String := "java/lang/StringLatin1"
def TJ1 : u_T := fun k => match k with
  | _ => ("", "", "", false)
def tyJ1 : Nat → FieldType := fun k => match k with
  | _ => .int
abbrev wsJ10 : List Cond := u_ws RJ1 TJ1 0
theorem nmJ1 : ∀ a, a < 0 → ∀ b, b < 0 → a ≠ b → (TJ1 a).2.1 ≠ (TJ1 b).2.1 := by decide +kernel
theorem tyJ1_ok : ∀ k, k < 0 → parseFieldDescriptor (TJ1 k).2.2.1 = some (tyJ1 k) := by decide +kernel
abbrev cJ1_charAt_3b067 : ByteArray := prog_29_method_2_code
def yJ1_charAt_3b067 : MethodName := ⟨RJ1, "charAt", "([BI)C"⟩
abbrev cJ1_inflate_0e8fd : ByteArray := prog_29_method_50_code
def yJ1_inflate_0e8fd : MethodName := ⟨RJ1, "inflate", "([BI[BII)V"⟩
def RJ2 : String := "java/lang/StringUTF16"
def TJ2 : u_T := fun k => match k with
  | _ => ("", "", "", false)
def tyJ2 : Nat → FieldType := fun k => match k with
  | _ => .int
abbrev wsJ20 : List Cond := u_ws RJ2 TJ2 0
theorem nmJ2 : ∀ a, a < 0 → ∀ b, b < 0 → a ≠ b → (TJ2 a).2.1 ≠ (TJ2 b).2.1 := by decide +kernel
theorem tyJ2_ok : ∀ k, k < 0 → parseFieldDescriptor (TJ2 k).2.2.1 = some (tyJ2 k) := by decide +kernel
abbrev cJ2_newBytesFor_77867 : ByteArray := prog_30_method_2_code
def yJ2_newBytesFor_77867 : MethodName := ⟨RJ2, "newBytesFor", "(I)[B"⟩
abbrev cJ2_newBytesLength_0f7a4 : ByteArray := prog_30_method_3_code
def yJ2_newBytesLength_0f7a4 : MethodName := ⟨RJ2, "newBytesLength", "(I)I"⟩
abbrev cJ2_putChar_b72d1 : ByteArray := prog_30_method_4_code
def yJ2_putChar_b72d1 : MethodName := ⟨RJ2, "putChar", "([BII)V"⟩
abbrev cJ2_getChar_3b067 : ByteArray := prog_30_method_5_code
def yJ2_getChar_3b067 : MethodName := ⟨RJ2, "getChar", "([BI)C"⟩
abbrev cJ2_length_9d52b : ByteArray := prog_30_method_6_code
def yJ2_length_9d52b : MethodName := ⟨RJ2, "length", "([B)I"⟩
abbrev cJ2_coderFromArrayLen_85cad : ByteArray := prog_30_method_15_code
def yJ2_coderFromArrayLen_85cad : MethodName := ⟨RJ2, "coderFromArrayLen", "([BI)B"⟩
abbrev cJ2_compress_39247 : ByteArray := prog_30_method_17_code
def yJ2_compress_39247 : MethodName := ⟨RJ2, "compress", "([BII)[B"⟩
abbrev cJ2_compress_5af95 : ByteArray := prog_30_method_22_code
def yJ2_compress_5af95 : MethodName := ⟨RJ2, "compress", "([BI[BII)I"⟩
abbrev cJ2_getChars_46870 : ByteArray := prog_30_method_77_code
def yJ2_getChars_46870 : MethodName := ⟨RJ2, "getChars", "(III[B)I"⟩
abbrev cJ2_putCharsAt_cd4e5 : ByteArray := prog_30_method_81_code
def yJ2_putCharsAt_cd4e5 : MethodName := ⟨RJ2, "putCharsAt", "([BICCCC)I"⟩
abbrev cJ2_charAt_3b067 : ByteArray := prog_30_method_83_code
def yJ2_charAt_3b067 : MethodName := ⟨RJ2, "charAt", "([BI)C"⟩
abbrev cJ2_inflate_0e8fd : ByteArray := prog_30_method_86_code
def yJ2_inflate_0e8fd : MethodName := ⟨RJ2, "inflate", "([BI[BII)V"⟩
abbrev cJ2_getChars_ba4f3 : ByteArray := prog_30_method_89_code
def yJ2_getChars_ba4f3 : MethodName := ⟨RJ2, "getChars", "(II[B)I"⟩
abbrev cJ2_checkIndex_2214a : ByteArray := prog_30_method_91_code
def yJ2_checkIndex_2214a : MethodName := ⟨RJ2, "checkIndex", "(I[B)V"⟩
abbrev cJ2_checkBoundsBeginEnd_d044e : ByteArray := prog_30_method_93_code
def yJ2_checkBoundsBeginEnd_d044e : MethodName := ⟨RJ2, "checkBoundsBeginEnd", "(II[B)V"⟩
abbrev cJ2_checkBoundsOffCount_d044e : ByteArray := prog_30_method_94_code
def yJ2_checkBoundsOffCount_d044e : MethodName := ⟨RJ2, "checkBoundsOffCount", "(II[B)V"⟩
def RJ10 : String := "java/lang/System"
def TJ10 : u_T := fun k => match k with
  | _ => ("", "", "", false)
def tyJ10 : Nat → FieldType := fun k => match k with
  | _ => .int
abbrev wsJ100 : List Cond := u_ws RJ10 TJ10 0
theorem nmJ10 : ∀ a, a < 0 → ∀ b, b < 0 → a ≠ b → (TJ10 a).2.1 ≠ (TJ10 b).2.1 := by decide +kernel
theorem tyJ10_ok : ∀ k, k < 0 → parseFieldDescriptor (TJ10 k).2.2.1 = some (tyJ10 k) := by decide +kernel
def RJ7 : String := "java/util/Arrays"
def TJ7 : u_T := fun k => match k with
  | _ => ("", "", "", false)
def tyJ7 : Nat → FieldType := fun k => match k with
  | _ => .int
abbrev wsJ70 : List Cond := u_ws RJ7 TJ7 0
theorem nmJ7 : ∀ a, a < 0 → ∀ b, b < 0 → a ≠ b → (TJ7 a).2.1 ≠ (TJ7 b).2.1 := by decide +kernel
theorem tyJ7_ok : ∀ k, k < 0 → parseFieldDescriptor (TJ7 k).2.2.1 = some (tyJ7 k) := by decide +kernel
abbrev cJ7_copyOf_9075b : ByteArray := prog_33_method_121_code
def yJ7_copyOf_9075b : MethodName := ⟨RJ7, "copyOf", "([BI)[B"⟩
abbrev cJ7_checkLength_df160 : ByteArray := prog_33_method_131_code
def yJ7_checkLength_df160 : MethodName := ⟨RJ7, "checkLength", "(II)V"⟩
abbrev cJ7_copyOfRange_39247 : ByteArray := prog_33_method_132_code
def yJ7_copyOfRange_39247 : MethodName := ⟨RJ7, "copyOfRange", "([BII)[B"⟩
abbrev cJ7_copyOfRangeByte_39247 : ByteArray := prog_33_method_133_code
def yJ7_copyOfRangeByte_39247 : MethodName := ⟨RJ7, "copyOfRangeByte", "([BII)[B"⟩
def RJ8 : String := "jdk/internal/util/ArraysSupport"
def TJ8 : u_T := fun k => match k with
  | _ => ("", "", "", false)
def tyJ8 : Nat → FieldType := fun k => match k with
  | _ => .int
abbrev wsJ80 : List Cond := u_ws RJ8 TJ8 0
theorem nmJ8 : ∀ a, a < 0 → ∀ b, b < 0 → a ≠ b → (TJ8 a).2.1 ≠ (TJ8 b).2.1 := by decide +kernel
theorem tyJ8_ok : ∀ k, k < 0 → parseFieldDescriptor (TJ8 k).2.2.1 = some (tyJ8 k) := by decide +kernel
abbrev cJ8_newLength_cabcc : ByteArray := prog_34_method_27_code
def yJ8_newLength_cabcc : MethodName := ⟨RJ8, "newLength", "(III)I"⟩
abbrev cJ8_hugeLength_7cf53 : ByteArray := prog_34_method_28_code
def yJ8_hugeLength_7cf53 : MethodName := ⟨RJ8, "hugeLength", "(II)I"⟩
def RJ3 : String := "jdk/internal/util/Preconditions"
def TJ3 : u_T := fun k => match k with
  | _ => ("", "", "", false)
def tyJ3 : Nat → FieldType := fun k => match k with
  | _ => .int
abbrev wsJ30 : List Cond := u_ws RJ3 TJ3 0
theorem nmJ3 : ∀ a, a < 0 → ∀ b, b < 0 → a ≠ b → (TJ3 a).2.1 ≠ (TJ3 b).2.1 := by decide +kernel
theorem tyJ3_ok : ∀ k, k < 0 → parseFieldDescriptor (TJ3 k).2.2.1 = some (tyJ3 k) := by decide +kernel
abbrev cJ3_checkIndex_8e157 : ByteArray := prog_35_method_11_code
def yJ3_checkIndex_8e157 : MethodName := ⟨RJ3, "checkIndex", "(IILjava/util/function/BiFunction;)I"⟩
abbrev cJ3_checkFromToIndex_8c36e : ByteArray := prog_35_method_12_code
def yJ3_checkFromToIndex_8c36e : MethodName := ⟨RJ3, "checkFromToIndex", "(IIILjava/util/function/BiFunction;)I"⟩
abbrev cJ3_checkFromIndexSize_8c36e : ByteArray := prog_35_method_13_code
def yJ3_checkFromIndexSize_8c36e : MethodName := ⟨RJ3, "checkFromIndexSize", "(IIILjava/util/function/BiFunction;)I"⟩
def RL : String := "BucketBrigadeLaw"
abbrev cL_below : ByteArray := method_2_code
def yL_below : MethodName := ⟨RL, "below", "(II)I"⟩
abbrev cL_cell : ByteArray := method_3_code
def yL_cell : MethodName := ⟨RL, "cell", "([II)I"⟩
abbrev cL_say : ByteArray := method_4_code
def yL_say : MethodName := ⟨RL, "say", "(LBucketBrigade;Ljava/lang/String;)I"⟩
abbrev cL_chosen : ByteArray := method_5_code
def yL_chosen : MethodName := ⟨RL, "chosen", "([I)LBucketBrigadeLaw$Sim;"⟩
abbrev cL_act : ByteArray := method_6_code
def yL_act : MethodName := ⟨RL, "act", "(LBucketBrigade;LBucketBrigadeLaw$Sim;I)Z"⟩
abbrev cL_law : ByteArray := code
def yL_law : MethodName := ⟨RL, "law", "([I)Z"⟩
abbrev cL_hasShut : ByteArray := method_8_code
def yL_hasShut : MethodName := ⟨RL, "hasShut", "(LBucketBrigadeLaw$Sim;I)Z"⟩
abbrev vwCl : List vw_C := [(RJ0, TJ0, 4), (RJ4, TJ4, 4), (RX0, TX0, 5), (RX1, TX1, 5), (RX2, TX2, 18), (RX3, TX3, 5), (RX4, TX4, 3), (RX5, TX5, 7), (RX6, TX6, 11), (RX7, TX7, 2), (RX8, TX8, 2), (RX9, TX9, 5), (RX10, TX10, 5), (RX11, TX11, 19), (RX12, TX12, 8)]
