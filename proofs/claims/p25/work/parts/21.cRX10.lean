theorem dX10_init_0 : decode cX10_init 0 = .ok (.aload_n 0, 1) := by decide +kernel
theorem dX10_init_1 : decode cX10_init 1 = .ok (.invokespecial 1, 3) := by decide +kernel
theorem dX10_init_4 : decode cX10_init 4 = .ok (.aload_n 0, 1) := by decide +kernel
theorem dX10_init_5 : decode cX10_init 5 = .ok (.new 7, 3) := by decide +kernel
theorem dX10_init_8 : decode cX10_init 8 = .ok (.dup, 1) := by decide +kernel
theorem dX10_init_9 : decode cX10_init 9 = .ok (.invokespecial 9, 3) := by decide +kernel
theorem dX10_init_12 : decode cX10_init 12 = .ok (.putfield 10, 3) := by decide +kernel
theorem dX10_init_15 : decode cX10_init 15 = .ok (.aload_n 0, 1) := by decide +kernel
theorem dX10_init_16 : decode cX10_init 16 = .ok (.new 16, 3) := by decide +kernel
theorem dX10_init_19 : decode cX10_init 19 = .ok (.dup, 1) := by decide +kernel
theorem dX10_init_20 : decode cX10_init 20 = .ok (.invokespecial 18, 3) := by decide +kernel
theorem dX10_init_23 : decode cX10_init 23 = .ok (.putfield 19, 3) := by decide +kernel
theorem dX10_init_26 : decode cX10_init 26 = .ok (.new 23, 3) := by decide +kernel
theorem dX10_init_29 : decode cX10_init 29 = .ok (.dup, 1) := by decide +kernel
theorem dX10_init_30 : decode cX10_init 30 = .ok (.invokespecial 25, 3) := by decide +kernel
theorem dX10_init_33 : decode cX10_init 33 = .ok (.astore_n 1, 1) := by decide +kernel
theorem dX10_init_34 : decode cX10_init 34 = .ok (.aload_n 0, 1) := by decide +kernel
theorem dX10_init_35 : decode cX10_init 35 = .ok (.new 26, 3) := by decide +kernel
theorem dX10_init_38 : decode cX10_init 38 = .ok (.dup, 1) := by decide +kernel
theorem dX10_init_39 : decode cX10_init 39 = .ok (.aload_n 1, 1) := by decide +kernel
theorem dX10_init_40 : decode cX10_init 40 = .ok (.invokespecial 28, 3) := by decide +kernel
theorem dX10_init_43 : decode cX10_init 43 = .ok (.putfield 31, 3) := by decide +kernel
theorem dX10_init_46 : decode cX10_init 46 = .ok (.aload_n 0, 1) := by decide +kernel
theorem dX10_init_47 : decode cX10_init 47 = .ok (.new 26, 3) := by decide +kernel
theorem dX10_init_50 : decode cX10_init 50 = .ok (.dup, 1) := by decide +kernel
theorem dX10_init_51 : decode cX10_init 51 = .ok (.aload_n 1, 1) := by decide +kernel
theorem dX10_init_52 : decode cX10_init 52 = .ok (.invokespecial 28, 3) := by decide +kernel
theorem dX10_init_55 : decode cX10_init 55 = .ok (.putfield 35, 3) := by decide +kernel
theorem dX10_init_58 : decode cX10_init 58 = .ok (.aload_n 0, 1) := by decide +kernel
theorem dX10_init_59 : decode cX10_init 59 = .ok (.iconst (-1), 1) := by decide +kernel
theorem dX10_init_60 : decode cX10_init 60 = .ok (.putfield 38, 3) := by decide +kernel
theorem dX10_init_63 : decode cX10_init 63 = .ok (.return_, 1) := by decide +kernel
abbrev m_X10_init : Mt := (cX10_init, RX10, "<init>", 2, .return_, 7)
def f_X10_init (N : Nat) (z : Nat → Nat) (o : Nat) (x0 : Hp) : Option (Unit × Hp) :=
  nn (some o) fun _ =>
  newo x0 11 2 fun r2 x3 =>
  obj r2 x3 11 fun q5 => bnd (f_X8_init N z q5 x3) fun _ x4 =>
  putr (some o) x4 13 240 r2 fun x6 =>
  newo x6 8 7 fun r7 x8 =>
  obj r7 x8 8 fun q10 => bnd (f_X5_init N z q10 x8) fun _ x9 =>
  putr (some o) x9 13 241 r7 fun x11 =>
  newo x11 3 5 fun r12 x13 =>
  obj r12 x13 3 fun q15 => bnd (f_X0_init N z q15 x13) fun _ x14 =>
  newo x14 9 11 fun r16 x17 =>
  obj r16 x17 9 fun q19 => bnd (f_X6_init N z q19 r12 x17) fun _ x18 =>
  putr (some o) x18 13 242 r16 fun x20 =>
  newo x20 9 11 fun r21 x22 =>
  obj r21 x22 9 fun q24 => bnd (f_X6_init N z q24 r12 x22) fun _ x23 =>
  putr (some o) x23 13 243 r21 fun x25 =>
  puti (some o) x25 13 244 (-1 : Int32) fun x26 =>
  some ((), x26)
set_option maxRecDepth 100000 in
set_option maxHeartbeats 4000000 in
theorem g_X10_init (l : Launch) (N : Nat) (z : Nat → Nat) (o : Nat) (x0 : Hp) : G l z m_X10_init okT enV 0 [(0, va_rf (some o))] [] x0 (f_X10_init N z o x0) := by
  unfold f_X10_init
  refine G_aload_n 0 dX10_init_0 rfl rfl ?_
  refine G_objInit (st := []) gw_74 gw_75 gw_76 (by decide) (by decide) dX10_init_1 (fun _ => ?_)
  refine G_aload_n 0 dX10_init_4 rfl rfl ?_
  refine G_new K_10 rfl gw_77 gw_78 gw_40 dX10_init_5 (fun r2 x3 => ?_)
  refine G_dup dX10_init_8 (rf_cat _) ?_
  refine G_callN (av := []) [va_rf r2, va_rf (some o)] (fun q5 => ct_X8_init l N z q5) rfl yn_X8_init (Nat.le_of_ble_eq_true rfl) (by decide) gn_79 gw_80 gw_40 gw_81 rfl (by simp only [hw_n, hw_i, hw_r, hw_j, hw_d]; decide) dX10_init_9 (fun x4 => ?_)
  refine G_putr (k := 0) K_12 (by decide) rfl rfl rfl gw_454 rfl (Or.inr ⟨rfl, rfl, rfl⟩) nar_obj.1 nar_obj.2 dX10_init_12 (fun x6 => ?_)
  refine G_aload_n 0 dX10_init_15 rfl rfl ?_
  refine G_new K_7 rfl gw_93 gw_94 gw_41 dX10_init_16 (fun r7 x8 => ?_)
  refine G_dup dX10_init_19 (rf_cat _) ?_
  refine G_callN (av := []) [va_rf r7, va_rf (some o)] (fun q10 => ct_X5_init l N z q10) rfl yn_X5_init (Nat.le_of_ble_eq_true rfl) (by decide) gn_95 gw_96 gw_41 gw_97 rfl (by simp only [hw_n, hw_i, hw_r, hw_j, hw_d]; decide) dX10_init_20 (fun x9 => ?_)
  refine G_putr (k := 1) K_12 (by decide) rfl rfl rfl gw_455 rfl (Or.inr ⟨rfl, rfl, rfl⟩) nar_obj.1 nar_obj.2 dX10_init_23 (fun x11 => ?_)
  refine G_new K_2 rfl gw_450 gw_102 gw_43 dX10_init_26 (fun r12 x13 => ?_)
  refine G_dup dX10_init_29 (rf_cat _) ?_
  refine G_callI (av := []) [va_rf r12] (fun q15 => ct_X0_init l N z q15) rfl yn_X0_init (Nat.le_of_ble_eq_true rfl) (by decide) gw_451 gw_104 gw_43 gw_105 rfl (by simp only [hw_n, hw_i, hw_r, hw_j, hw_d]; decide) dX10_init_30 (fun x14 => ?_)
  refine G_astore_n (i := 1) (l2 := [(0, va_rf (some o))]) [0] dX10_init_33 rfl (Nat.le_of_ble_eq_true rfl) rfl (sok_b (by decide) (rf_cat _) trivial) ?_
  refine G_aload_n 1 dX10_init_34 rfl rfl ?_
  refine G_new K_8 rfl gw_452 gw_100 gw_42 dX10_init_35 (fun r16 x17 => ?_)
  refine G_dup dX10_init_38 (rf_cat _) ?_
  refine G_aload_n 0 dX10_init_39 rfl rfl ?_
  refine G_callI (av := [va_rf r12]) [va_rf r16, va_rf (some o)] (fun q19 => ct_X6_init l N z q19 r12) rfl yn_X6_init (Nat.le_of_ble_eq_true rfl) (by decide) gw_453 gw_163 gw_42 gw_164 rfl (by simp only [hw_n, hw_i, hw_r, hw_j, hw_d]; decide) dX10_init_40 (fun x18 => ?_)
  refine G_putr (k := 2) K_12 (by decide) rfl rfl rfl gw_456 rfl (Or.inr ⟨rfl, rfl, rfl⟩) nar_obj.1 nar_obj.2 dX10_init_43 (fun x20 => ?_)
  refine G_aload_n 1 dX10_init_46 rfl rfl ?_
  refine G_new K_8 rfl gw_452 gw_100 gw_42 dX10_init_47 (fun r21 x22 => ?_)
  refine G_dup dX10_init_50 (rf_cat _) ?_
  refine G_aload_n 0 dX10_init_51 rfl rfl ?_
  refine G_callI (av := [va_rf r12]) [va_rf r21, va_rf (some o)] (fun q24 => ct_X6_init l N z q24 r12) rfl yn_X6_init (Nat.le_of_ble_eq_true rfl) (by decide) gw_453 gw_163 gw_42 gw_164 rfl (by simp only [hw_n, hw_i, hw_r, hw_j, hw_d]; decide) dX10_init_52 (fun x23 => ?_)
  refine G_putr (k := 3) K_12 (by decide) rfl rfl rfl gw_457 rfl (Or.inr ⟨rfl, rfl, rfl⟩) nar_obj.1 nar_obj.2 dX10_init_55 (fun x25 => ?_)
  refine G_aload_n 1 dX10_init_58 rfl rfl ?_
  refine G_iconst (v := (-1 : Int32)) dX10_init_59 rfl ?_
  refine G_puti (k := 4) K_12 (by decide) rfl rfl rfl gw_458 rfl (Or.inl rfl) nar_int.1 nar_int.2 dX10_init_60 (fun x26 => ?_)
  exact G_ret trivial dX10_init_63 rfl

theorem yn_X10_init : Yn yX10_init 0 := ⟨by decide +kernel, by decide +kernel, by decide +kernel⟩
theorem ct_X10_init (l : Launch) (N : Nat) (z : Nat → Nat) (o : Nat) : Ct l z yX10_init cX10_init 2 none 7 enV [.ref o] (f_X10_init N z o) :=
  Ct_v (fun x => G_lv0 (by simp only [lva_n, lva_i, lva_o, lva_r, lva_j]) (g_X10_init l N z o x)) (by decide +kernel) (by simp only [lgl_n, lgl_i, lgl_o, lgl_r, lgl_j]; decide)

theorem dX10_feed_0 : decode cX10_feed 0 = .ok (.aload_n 0, 1) := by decide +kernel
theorem dX10_feed_1 : decode cX10_feed 1 = .ok (.getfield 10, 3) := by decide +kernel
theorem dX10_feed_4 : decode cX10_feed 4 = .ok (.getfield 42, 3) := by decide +kernel
theorem dX10_feed_7 : decode cX10_feed 7 = .ok (.sipush 1980, 3) := by decide +kernel
theorem dX10_feed_10 : decode cX10_feed 10 = .ok (.if_icmp .le 13, 3) := by decide +kernel
theorem dX10_feed_13 : decode cX10_feed 13 = .ok (.new 45, 3) := by decide +kernel
theorem dX10_feed_23 : decode cX10_feed 23 = .ok (.aload_n 0, 1) := by decide +kernel
theorem dX10_feed_24 : decode cX10_feed 24 = .ok (.getfield 10, 3) := by decide +kernel
theorem dX10_feed_27 : decode cX10_feed 27 = .ok (.iload_n 1, 1) := by decide +kernel
theorem dX10_feed_28 : decode cX10_feed 28 = .ok (.invokevirtual 52, 3) := by decide +kernel
theorem dX10_feed_31 : decode cX10_feed 31 = .ok (.aload_n 0, 1) := by decide +kernel
theorem dX10_feed_32 : decode cX10_feed 32 = .ok (.getfield 10, 3) := by decide +kernel
theorem dX10_feed_35 : decode cX10_feed 35 = .ok (.iload_n 2, 1) := by decide +kernel
theorem dX10_feed_36 : decode cX10_feed 36 = .ok (.invokevirtual 52, 3) := by decide +kernel
theorem dX10_feed_39 : decode cX10_feed 39 = .ok (.aload_n 0, 1) := by decide +kernel
theorem dX10_feed_40 : decode cX10_feed 40 = .ok (.getfield 10, 3) := by decide +kernel
theorem dX10_feed_43 : decode cX10_feed 43 = .ok (.iload_n 3, 1) := by decide +kernel
theorem dX10_feed_44 : decode cX10_feed 44 = .ok (.invokevirtual 52, 3) := by decide +kernel
theorem dX10_feed_47 : decode cX10_feed 47 = .ok (.aload_n 0, 1) := by decide +kernel
theorem dX10_feed_48 : decode cX10_feed 48 = .ok (.getfield 10, 3) := by decide +kernel
theorem dX10_feed_51 : decode cX10_feed 51 = .ok (.iload 4, 2) := by decide +kernel
theorem dX10_feed_53 : decode cX10_feed 53 = .ok (.invokevirtual 52, 3) := by decide +kernel
theorem dX10_feed_56 : decode cX10_feed 56 = .ok (.aload_n 0, 1) := by decide +kernel
theorem dX10_feed_57 : decode cX10_feed 57 = .ok (.getfield 10, 3) := by decide +kernel
theorem dX10_feed_60 : decode cX10_feed 60 = .ok (.iload 5, 2) := by decide +kernel
theorem dX10_feed_62 : decode cX10_feed 62 = .ok (.invokevirtual 52, 3) := by decide +kernel
theorem dX10_feed_65 : decode cX10_feed 65 = .ok (.aload_n 0, 1) := by decide +kernel
theorem dX10_feed_66 : decode cX10_feed 66 = .ok (.getfield 10, 3) := by decide +kernel
theorem dX10_feed_69 : decode cX10_feed 69 = .ok (.getfield 42, 3) := by decide +kernel
theorem dX10_feed_72 : decode cX10_feed 72 = .ok (.ireturn, 1) := by decide +kernel
abbrev m_X10_feed : Mt := (cX10_feed, RX10, "feed", 6, .ireturn, 2)
def f_X10_feed (N : Nat) (z : Nat → Nat) (o : Nat) (v1 : Int32) (v2 : Int32) (v3 : Int32) (v4 : Int32) (v5 : Int32) (x0 : Hp) : Option (Int32 × Hp) :=
  getr (some o) x0 13 240 fun r1 =>
  geti r1 x0 11 201 fun i2 =>
  if i2 ≤ (1980 : Int32) then (getr (some o) x0 13 240 fun r3 =>
  obj r3 x0 11 fun q5 => bnd (f_X8_append N z q5 v1 x0) fun _ x4 =>
  getr (some o) x4 13 240 fun r6 =>
  obj r6 x4 11 fun q8 => bnd (f_X8_append N z q8 v2 x4) fun _ x7 =>
  getr (some o) x7 13 240 fun r9 =>
  obj r9 x7 11 fun q11 => bnd (f_X8_append N z q11 v3 x7) fun _ x10 =>
  getr (some o) x10 13 240 fun r12 =>
  obj r12 x10 11 fun q14 => bnd (f_X8_append N z q14 v4 x10) fun _ x13 =>
  getr (some o) x13 13 240 fun r15 =>
  obj r15 x13 11 fun q17 => bnd (f_X8_append N z q17 v5 x13) fun _ x16 =>
  getr (some o) x16 13 240 fun r18 =>
  geti r18 x16 11 201 fun i19 =>
  some (i19, x16)) else (none)
set_option maxRecDepth 100000 in
set_option maxHeartbeats 4000000 in
theorem g_X10_feed (l : Launch) (N : Nat) (z : Nat → Nat) (o : Nat) (v1 : Int32) (v2 : Int32) (v3 : Int32) (v4 : Int32) (v5 : Int32) (x0 : Hp) : G l z m_X10_feed okT enI 0 [(0, va_rf (some o)), (1, .int v1), (2, .int v2), (3, .int v3), (4, .int v4), (5, .int v5)] [] x0 (f_X10_feed N z o v1 v2 v3 v4 v5 x0) := by
  unfold f_X10_feed
  refine G_aload_n 0 dX10_feed_0 rfl rfl ?_
  refine G_getr (k := 0) K_12 (by decide) rfl rfl rfl gw_454 rfl dX10_feed_1 (fun r1 => ?_)
  refine G_geti (k := 1) K_10 (by decide) rfl rfl rfl gw_84 rfl dX10_feed_4 (fun i2 => ?_)
  refine G_sipush (v := (1980 : Int32)) dX10_feed_7 (by decide) ?_
  refine G_icmp_le (tgt := 23) dX10_feed_10 (by decide) (fun _ => ?_) (fun _ => ?_)
  · refine G_aload_n 0 dX10_feed_23 rfl rfl ?_
    refine G_getr (k := 0) K_12 (by decide) rfl rfl rfl gw_454 rfl dX10_feed_24 (fun r3 => ?_)
    refine G_iload_n 1 dX10_feed_27 rfl rfl ?_
    refine G_callV (av := [.int v1]) [] (fun q5 => ct_X8_append l N z q5 v1) K_10 rfl yn_X8_append (Nat.le_of_ble_eq_true rfl) (by decide) gw_1143 gw_1144 gw_1145 gw_40 gw_1146 rfl (by decide) dX10_feed_28 (fun _ x4 => ?_)
    refine G_aload_n 0 dX10_feed_31 rfl rfl ?_
    refine G_getr (k := 0) K_12 (by decide) rfl rfl rfl gw_454 rfl dX10_feed_32 (fun r6 => ?_)
    refine G_iload_n 2 dX10_feed_35 rfl rfl ?_
    refine G_callV (av := [.int v2]) [] (fun q8 => ct_X8_append l N z q8 v2) K_10 rfl yn_X8_append (Nat.le_of_ble_eq_true rfl) (by decide) gw_1143 gw_1144 gw_1145 gw_40 gw_1146 rfl (by decide) dX10_feed_36 (fun _ x7 => ?_)
    refine G_aload_n 0 dX10_feed_39 rfl rfl ?_
    refine G_getr (k := 0) K_12 (by decide) rfl rfl rfl gw_454 rfl dX10_feed_40 (fun r9 => ?_)
    refine G_iload_n 3 dX10_feed_43 rfl rfl ?_
    refine G_callV (av := [.int v3]) [] (fun q11 => ct_X8_append l N z q11 v3) K_10 rfl yn_X8_append (Nat.le_of_ble_eq_true rfl) (by decide) gw_1143 gw_1144 gw_1145 gw_40 gw_1146 rfl (by decide) dX10_feed_44 (fun _ x10 => ?_)
    refine G_aload_n 0 dX10_feed_47 rfl rfl ?_
    refine G_getr (k := 0) K_12 (by decide) rfl rfl rfl gw_454 rfl dX10_feed_48 (fun r12 => ?_)
    refine G_iload 4 dX10_feed_51 rfl ?_
    refine G_callV (av := [.int v4]) [] (fun q14 => ct_X8_append l N z q14 v4) K_10 rfl yn_X8_append (Nat.le_of_ble_eq_true rfl) (by decide) gw_1143 gw_1144 gw_1145 gw_40 gw_1146 rfl (by decide) dX10_feed_53 (fun _ x13 => ?_)
    refine G_aload_n 0 dX10_feed_56 rfl rfl ?_
    refine G_getr (k := 0) K_12 (by decide) rfl rfl rfl gw_454 rfl dX10_feed_57 (fun r15 => ?_)
    refine G_iload 5 dX10_feed_60 rfl ?_
    refine G_callV (av := [.int v5]) [] (fun q17 => ct_X8_append l N z q17 v5) K_10 rfl yn_X8_append (Nat.le_of_ble_eq_true rfl) (by decide) gw_1143 gw_1144 gw_1145 gw_40 gw_1146 rfl (by decide) dX10_feed_62 (fun _ x16 => ?_)
    refine G_aload_n 0 dX10_feed_65 rfl rfl ?_
    refine G_getr (k := 0) K_12 (by decide) rfl rfl rfl gw_454 rfl dX10_feed_66 (fun r18 => ?_)
    refine G_geti (k := 1) K_10 (by decide) rfl rfl rfl gw_84 rfl dX10_feed_69 (fun i19 => ?_)
    exact G_ret trivial dX10_feed_72 rfl
  · exact G_none

theorem yn_X10_feed : Yn yX10_feed 5 := ⟨by decide +kernel, by decide +kernel, by decide +kernel⟩
theorem ct_X10_feed (l : Launch) (N : Nat) (z : Nat → Nat) (o : Nat) (v1 : Int32) (v2 : Int32) (v3 : Int32) (v4 : Int32) (v5 : Int32) : Ct l z yX10_feed cX10_feed 6 (some .int) 2 enI [.ref o, .int v1, .int v2, .int v3, .int v4, .int v5] (f_X10_feed N z o v1 v2 v3 v4 v5) :=
  Ct_i (fun x => G_lv0 (by simp only [lva_n, lva_i, lva_o, lva_r, lva_j]) (g_X10_feed l N z o v1 v2 v3 v4 v5 x)) (by decide +kernel) (by simp only [lgl_n, lgl_i, lgl_o, lgl_r, lgl_j]; decide)

theorem dX10_trim_0 : decode cX10_trim 0 = .ok (.iload_n 1, 1) := by decide +kernel
theorem dX10_trim_1 : decode cX10_trim 1 = .ok (.ifCond .lt 14, 3) := by decide +kernel
theorem dX10_trim_4 : decode cX10_trim 4 = .ok (.iload_n 1, 1) := by decide +kernel
theorem dX10_trim_5 : decode cX10_trim 5 = .ok (.aload_n 0, 1) := by decide +kernel
theorem dX10_trim_6 : decode cX10_trim 6 = .ok (.getfield 10, 3) := by decide +kernel
theorem dX10_trim_9 : decode cX10_trim 9 = .ok (.getfield 42, 3) := by decide +kernel
theorem dX10_trim_12 : decode cX10_trim 12 = .ok (.if_icmp .le 13, 3) := by decide +kernel
theorem dX10_trim_15 : decode cX10_trim 15 = .ok (.new 56, 3) := by decide +kernel
theorem dX10_trim_25 : decode cX10_trim 25 = .ok (.aload_n 0, 1) := by decide +kernel
theorem dX10_trim_26 : decode cX10_trim 26 = .ok (.getfield 10, 3) := by decide +kernel
theorem dX10_trim_29 : decode cX10_trim 29 = .ok (.iload_n 1, 1) := by decide +kernel
theorem dX10_trim_30 : decode cX10_trim 30 = .ok (.putfield 42, 3) := by decide +kernel
theorem dX10_trim_33 : decode cX10_trim 33 = .ok (.iload_n 1, 1) := by decide +kernel
theorem dX10_trim_34 : decode cX10_trim 34 = .ok (.ireturn, 1) := by decide +kernel
abbrev m_X10_trim : Mt := (cX10_trim, RX10, "trim", 2, .ireturn, 1)
def f_X10_trim (N : Nat) (z : Nat → Nat) (o : Nat) (v1 : Int32) (x0 : Hp) : Option (Int32 × Hp) :=
  if v1 < 0 then (none) else (getr (some o) x0 13 240 fun r1 =>
  geti r1 x0 11 201 fun i2 =>
  if v1 ≤ i2 then (getr (some o) x0 13 240 fun r3 =>
  puti r3 x0 11 201 v1 fun x4 =>
  some (v1, x4)) else (none))
set_option maxRecDepth 100000 in
set_option maxHeartbeats 4000000 in
theorem g_X10_trim (l : Launch) (N : Nat) (z : Nat → Nat) (o : Nat) (v1 : Int32) (x0 : Hp) : G l z m_X10_trim okT enI 0 [(0, va_rf (some o)), (1, .int v1)] [] x0 (f_X10_trim N z o v1 x0) := by
  unfold f_X10_trim
  refine G_iload_n 1 dX10_trim_0 rfl rfl ?_
  refine G_if_lt (tgt := 15) dX10_trim_1 (by decide) (fun _ => ?_) (fun _ => ?_)
  · exact G_none
  · refine G_iload_n 1 dX10_trim_4 rfl rfl ?_
    refine G_aload_n 0 dX10_trim_5 rfl rfl ?_
    refine G_getr (k := 0) K_12 (by decide) rfl rfl rfl gw_454 rfl dX10_trim_6 (fun r1 => ?_)
    refine G_geti (k := 1) K_10 (by decide) rfl rfl rfl gw_84 rfl dX10_trim_9 (fun i2 => ?_)
    refine G_icmp_le (tgt := 25) dX10_trim_12 (by decide) (fun _ => ?_) (fun _ => ?_)
    · refine G_aload_n 0 dX10_trim_25 rfl rfl ?_
      refine G_getr (k := 0) K_12 (by decide) rfl rfl rfl gw_454 rfl dX10_trim_26 (fun r3 => ?_)
      refine G_iload_n 1 dX10_trim_29 rfl rfl ?_
      refine G_puti (k := 1) K_10 (by decide) rfl rfl rfl gw_84 rfl (Or.inl rfl) nar_int.1 nar_int.2 dX10_trim_30 (fun x4 => ?_)
      refine G_iload_n 1 dX10_trim_33 rfl rfl ?_
      exact G_ret trivial dX10_trim_34 rfl
    · exact G_none

theorem yn_X10_trim : Yn yX10_trim 1 := ⟨by decide +kernel, by decide +kernel, by decide +kernel⟩
theorem ct_X10_trim (l : Launch) (N : Nat) (z : Nat → Nat) (o : Nat) (v1 : Int32) : Ct l z yX10_trim cX10_trim 2 (some .int) 1 enI [.ref o, .int v1] (f_X10_trim N z o v1) :=
  Ct_i (fun x => G_lv0 (by simp only [lva_n, lva_i, lva_o, lva_r, lva_j]) (g_X10_trim l N z o v1 x)) (by decide +kernel) (by simp only [lgl_n, lgl_i, lgl_o, lgl_r, lgl_j]; decide)

theorem dX10_teach_0 : decode cX10_teach 0 = .ok (.aload_n 0, 1) := by decide +kernel
theorem dX10_teach_1 : decode cX10_teach 1 = .ok (.getfield 19, 3) := by decide +kernel
theorem dX10_teach_4 : decode cX10_teach 4 = .ok (.aload_n 0, 1) := by decide +kernel
theorem dX10_teach_5 : decode cX10_teach 5 = .ok (.getfield 10, 3) := by decide +kernel
theorem dX10_teach_8 : decode cX10_teach 8 = .ok (.aload_n 0, 1) := by decide +kernel
theorem dX10_teach_9 : decode cX10_teach 9 = .ok (.getfield 31, 3) := by decide +kernel
theorem dX10_teach_12 : decode cX10_teach 12 = .ok (.getfield 61, 3) := by decide +kernel
theorem dX10_teach_15 : decode cX10_teach 15 = .ok (.invokevirtual 64, 3) := by decide +kernel
theorem dX10_teach_18 : decode cX10_teach 18 = .ok (.istore_n 1, 1) := by decide +kernel
theorem dX10_teach_19 : decode cX10_teach 19 = .ok (.aload_n 0, 1) := by decide +kernel
theorem dX10_teach_20 : decode cX10_teach 20 = .ok (.aload_n 0, 1) := by decide +kernel
theorem dX10_teach_21 : decode cX10_teach 21 = .ok (.getfield 19, 3) := by decide +kernel
theorem dX10_teach_24 : decode cX10_teach 24 = .ok (.getfield 68, 3) := by decide +kernel
theorem dX10_teach_27 : decode cX10_teach 27 = .ok (.putfield 38, 3) := by decide +kernel
theorem dX10_teach_30 : decode cX10_teach 30 = .ok (.aload_n 0, 1) := by decide +kernel
theorem dX10_teach_31 : decode cX10_teach 31 = .ok (.getfield 10, 3) := by decide +kernel
theorem dX10_teach_34 : decode cX10_teach 34 = .ok (.iconst 0, 1) := by decide +kernel
theorem dX10_teach_35 : decode cX10_teach 35 = .ok (.putfield 42, 3) := by decide +kernel
theorem dX10_teach_38 : decode cX10_teach 38 = .ok (.iload_n 1, 1) := by decide +kernel
theorem dX10_teach_39 : decode cX10_teach 39 = .ok (.ifCond .ne 37, 3) := by decide +kernel
theorem dX10_teach_42 : decode cX10_teach 42 = .ok (.aload_n 0, 1) := by decide +kernel
theorem dX10_teach_43 : decode cX10_teach 43 = .ok (.getfield 31, 3) := by decide +kernel
theorem dX10_teach_46 : decode cX10_teach 46 = .ok (.aload_n 0, 1) := by decide +kernel
theorem dX10_teach_47 : decode cX10_teach 47 = .ok (.getfield 19, 3) := by decide +kernel
theorem dX10_teach_50 : decode cX10_teach 50 = .ok (.getfield 69, 3) := by decide +kernel
theorem dX10_teach_53 : decode cX10_teach 53 = .ok (.invokevirtual 72, 3) := by decide +kernel
theorem dX10_teach_56 : decode cX10_teach 56 = .ok (.aload_n 0, 1) := by decide +kernel
theorem dX10_teach_57 : decode cX10_teach 57 = .ok (.getfield 31, 3) := by decide +kernel
theorem dX10_teach_60 : decode cX10_teach 60 = .ok (.getfield 76, 3) := by decide +kernel
theorem dX10_teach_63 : decode cX10_teach 63 = .ok (.aload_n 0, 1) := by decide +kernel
theorem dX10_teach_64 : decode cX10_teach 64 = .ok (.getfield 19, 3) := by decide +kernel
theorem dX10_teach_67 : decode cX10_teach 67 = .ok (.getfield 69, 3) := by decide +kernel
theorem dX10_teach_70 : decode cX10_teach 70 = .ok (.getfield 76, 3) := by decide +kernel
theorem dX10_teach_73 : decode cX10_teach 73 = .ok (.invokevirtual 80, 3) := by decide +kernel
theorem dX10_teach_76 : decode cX10_teach 76 = .ok (.iload_n 1, 1) := by decide +kernel
theorem dX10_teach_77 : decode cX10_teach 77 = .ok (.ireturn, 1) := by decide +kernel
abbrev m_X10_teach : Mt := (cX10_teach, RX10, "teach", 2, .ireturn, 30)
def f_X10_teach (N : Nat) (z : Nat → Nat) (o : Nat) (x0 : Hp) : Option (Int32 × Hp) :=
  getr (some o) x0 13 241 fun r1 =>
  getr (some o) x0 13 240 fun r2 =>
  getr (some o) x0 13 242 fun r3 =>
  geti r3 x0 9 161 fun i4 =>
  obj r1 x0 8 fun q7 => bnd (f_X5_read N z q7 r2 i4 x0) fun i6 x5 =>
  getr (some o) x5 13 241 fun r8 =>
  geti r8 x5 8 141 fun i9 =>
  puti (some o) x5 13 244 i9 fun x10 =>
  getr (some o) x10 13 240 fun r11 =>
  puti r11 x10 11 201 (0 : Int32) fun x12 =>
  if i6 = 0 then (getr (some o) x12 13 242 fun r13 =>
  getr (some o) x12 13 241 fun r14 =>
  getr r14 x12 8 140 fun r15 =>
  obj r13 x12 9 fun q17 => bnd (f_X6_copyFrom N z q17 r15 x12) fun _ x16 =>
  getr (some o) x16 13 242 fun r18 =>
  getr r18 x16 9 160 fun r19 =>
  getr (some o) x16 13 241 fun r20 =>
  getr r20 x16 8 140 fun r21 =>
  getr r21 x16 9 160 fun r22 =>
  obj r19 x16 3 fun q24 => bnd (f_X0_copyFrom N z q24 r22 x16) fun _ x23 =>
  some (i6, x23)) else (some (i6, x12))
set_option maxRecDepth 100000 in
set_option maxHeartbeats 4000000 in
theorem g_X10_teach (l : Launch) (N : Nat) (z : Nat → Nat) (o : Nat) (x0 : Hp) : G l z m_X10_teach okT enI 0 [(0, va_rf (some o))] [] x0 (f_X10_teach N z o x0) := by
  unfold f_X10_teach
  refine G_aload_n 0 dX10_teach_0 rfl rfl ?_
  refine G_getr (k := 1) K_12 (by decide) rfl rfl rfl gw_455 rfl dX10_teach_1 (fun r1 => ?_)
  refine G_aload_n 0 dX10_teach_4 rfl rfl ?_
  refine G_getr (k := 0) K_12 (by decide) rfl rfl rfl gw_454 rfl dX10_teach_5 (fun r2 => ?_)
  refine G_aload_n 0 dX10_teach_8 rfl rfl ?_
  refine G_getr (k := 2) K_12 (by decide) rfl rfl rfl gw_456 rfl dX10_teach_9 (fun r3 => ?_)
  refine G_geti (k := 1) K_8 (by decide) rfl rfl rfl gw_309 rfl dX10_teach_12 (fun i4 => ?_)
  refine G_callV (av := [va_rf r2, .int i4]) [] (fun q7 => ct_X5_read l N z q7 r2 i4) K_7 rfl yn_X5_read (Nat.le_of_ble_eq_true rfl) (by decide) gw_1156 gw_1157 gw_1158 gw_41 gw_1159 rfl (by decide) dX10_teach_15 (fun i6 x5 => ?_)
  refine G_istore_n (i := 1) (l2 := [(0, va_rf (some o))]) [0] dX10_teach_18 rfl (Nat.le_of_ble_eq_true rfl) rfl (sok_b (by decide) (rf_cat _) trivial) ?_
  refine G_aload_n 1 dX10_teach_19 rfl rfl ?_
  refine G_aload_n 1 dX10_teach_20 rfl rfl ?_
  refine G_getr (k := 1) K_12 (by decide) rfl rfl rfl gw_455 rfl dX10_teach_21 (fun r8 => ?_)
  refine G_geti (k := 1) K_7 (by decide) rfl rfl rfl gw_429 rfl dX10_teach_24 (fun i9 => ?_)
  refine G_puti (k := 4) K_12 (by decide) rfl rfl rfl gw_458 rfl (Or.inl rfl) nar_int.1 nar_int.2 dX10_teach_27 (fun x10 => ?_)
  refine G_aload_n 1 dX10_teach_30 rfl rfl ?_
  refine G_getr (k := 0) K_12 (by decide) rfl rfl rfl gw_454 rfl dX10_teach_31 (fun r11 => ?_)
  refine G_iconst (v := (0 : Int32)) dX10_teach_34 rfl ?_
  refine G_puti (k := 1) K_10 (by decide) rfl rfl rfl gw_84 rfl (Or.inl rfl) nar_int.1 nar_int.2 dX10_teach_35 (fun x12 => ?_)
  refine G_iload_n 0 dX10_teach_38 rfl rfl ?_
  refine G_if_ne (tgt := 76) dX10_teach_39 (by decide) (fun _ => ?_) (fun _ => ?_)
  · refine G_aload_n 1 dX10_teach_42 rfl rfl ?_
    refine G_getr (k := 2) K_12 (by decide) rfl rfl rfl gw_456 rfl dX10_teach_43 (fun r13 => ?_)
    refine G_aload_n 1 dX10_teach_46 rfl rfl ?_
    refine G_getr (k := 1) K_12 (by decide) rfl rfl rfl gw_455 rfl dX10_teach_47 (fun r14 => ?_)
    refine G_getr (k := 0) K_7 (by decide) rfl rfl rfl gw_427 rfl dX10_teach_50 (fun r15 => ?_)
    refine G_callV (av := [va_rf r15]) [] (fun q17 => ct_X6_copyFrom l N z q17 r15) K_8 rfl yn_X6_copyFrom (Nat.le_of_ble_eq_true rfl) (by decide) gw_741 gw_742 gw_743 gw_42 gw_744 rfl (by decide) dX10_teach_53 (fun _ x16 => ?_)
    refine G_aload_n 1 dX10_teach_56 rfl rfl ?_
    refine G_getr (k := 2) K_12 (by decide) rfl rfl rfl gw_456 rfl dX10_teach_57 (fun r18 => ?_)
    refine G_getr (k := 0) K_8 (by decide) rfl rfl rfl gw_307 rfl dX10_teach_60 (fun r19 => ?_)
    refine G_aload_n 1 dX10_teach_63 rfl rfl ?_
    refine G_getr (k := 1) K_12 (by decide) rfl rfl rfl gw_455 rfl dX10_teach_64 (fun r20 => ?_)
    refine G_getr (k := 0) K_7 (by decide) rfl rfl rfl gw_427 rfl dX10_teach_67 (fun r21 => ?_)
    refine G_getr (k := 0) K_8 (by decide) rfl rfl rfl gw_307 rfl dX10_teach_70 (fun r22 => ?_)
    refine G_callV (av := [va_rf r22]) [] (fun q24 => ct_X0_copyFrom l N z q24 r22) K_2 rfl yn_X0_copyFrom (Nat.le_of_ble_eq_true rfl) (by decide) gw_1323 gw_1324 gw_1325 gw_43 gw_1326 rfl (by decide) dX10_teach_73 (fun _ x23 => ?_)
    refine G_iload_n 0 dX10_teach_76 rfl rfl ?_
    exact G_ret trivial dX10_teach_77 rfl
  · refine G_iload_n 0 dX10_teach_76 rfl rfl ?_
    exact G_ret trivial dX10_teach_77 rfl

theorem yn_X10_teach : Yn yX10_teach 0 := ⟨by decide +kernel, by decide +kernel, by decide +kernel⟩
theorem ct_X10_teach (l : Launch) (N : Nat) (z : Nat → Nat) (o : Nat) : Ct l z yX10_teach cX10_teach 2 (some .int) 30 enI [.ref o] (f_X10_teach N z o) :=
  Ct_i (fun x => G_lv0 (by simp only [lva_n, lva_i, lva_o, lva_r, lva_j]) (g_X10_teach l N z o x)) (by decide +kernel) (by simp only [lgl_n, lgl_i, lgl_o, lgl_r, lgl_j]; decide)

theorem dX10_countNow_0 : decode cX10_countNow 0 = .ok (.iload_n 1, 1) := by decide +kernel
theorem dX10_countNow_1 : decode cX10_countNow 1 = .ok (.bipush 12, 2) := by decide +kernel
theorem dX10_countNow_3 : decode cX10_countNow 3 = .ok (.if_icmp .ne 13, 3) := by decide +kernel
theorem dX10_countNow_6 : decode cX10_countNow 6 = .ok (.aload_n 0, 1) := by decide +kernel
theorem dX10_countNow_7 : decode cX10_countNow 7 = .ok (.getfield 10, 3) := by decide +kernel
theorem dX10_countNow_10 : decode cX10_countNow 10 = .ok (.getfield 42, 3) := by decide +kernel
theorem dX10_countNow_13 : decode cX10_countNow 13 = .ok (.goto 11, 3) := by decide +kernel
theorem dX10_countNow_16 : decode cX10_countNow 16 = .ok (.aload_n 0, 1) := by decide +kernel
theorem dX10_countNow_17 : decode cX10_countNow 17 = .ok (.getfield 31, 3) := by decide +kernel
theorem dX10_countNow_20 : decode cX10_countNow 20 = .ok (.iload_n 1, 1) := by decide +kernel
theorem dX10_countNow_21 : decode cX10_countNow 21 = .ok (.invokevirtual 191, 3) := by decide +kernel
theorem dX10_countNow_24 : decode cX10_countNow 24 = .ok (.ireturn, 1) := by decide +kernel
abbrev m_X10_countNow : Mt := (cX10_countNow, RX10, "countNow", 2, .ireturn, 4)
def f_X10_countNow (N : Nat) (z : Nat → Nat) (o : Nat) (v1 : Int32) (x0 : Hp) : Option (Int32 × Hp) :=
  if v1 = (12 : Int32) then (getr (some o) x0 13 240 fun r5 =>
  geti r5 x0 11 201 fun i6 =>
  some (i6, x0)) else (getr (some o) x0 13 242 fun r1 =>
  obj r1 x0 9 fun q4 => bnd (f_X6_tally N z q4 v1 x0) fun i3 x2 =>
  some (i3, x2))
set_option maxRecDepth 100000 in
set_option maxHeartbeats 4000000 in
theorem g_X10_countNow (l : Launch) (N : Nat) (z : Nat → Nat) (o : Nat) (v1 : Int32) (x0 : Hp) : G l z m_X10_countNow okT enI 0 [(0, va_rf (some o)), (1, .int v1)] [] x0 (f_X10_countNow N z o v1 x0) := by
  unfold f_X10_countNow
  refine G_iload_n 1 dX10_countNow_0 rfl rfl ?_
  refine G_bipush (v := (12 : Int32)) dX10_countNow_1 (by decide) ?_
  refine G_icmp_ne (tgt := 16) dX10_countNow_3 (by decide) (fun _ => ?_) (fun _ => ?_)
  · refine G_aload_n 0 dX10_countNow_6 rfl rfl ?_
    refine G_getr (k := 0) K_12 (by decide) rfl rfl rfl gw_454 rfl dX10_countNow_7 (fun r5 => ?_)
    refine G_geti (k := 1) K_10 (by decide) rfl rfl rfl gw_84 rfl dX10_countNow_10 (fun i6 => ?_)
    refine G_goto (tgt := 24) dX10_countNow_13 (by decide) ?_
    exact G_ret trivial dX10_countNow_24 rfl
  · refine G_aload_n 0 dX10_countNow_16 rfl rfl ?_
    refine G_getr (k := 2) K_12 (by decide) rfl rfl rfl gw_456 rfl dX10_countNow_17 (fun r1 => ?_)
    refine G_iload_n 1 dX10_countNow_20 rfl rfl ?_
    refine G_callV (av := [.int v1]) [] (fun q4 => ct_X6_tally l N z q4 v1) K_8 rfl yn_X6_tally (Nat.le_of_ble_eq_true rfl) (by decide) gw_545 gw_546 gw_547 gw_42 gw_548 rfl (by decide) dX10_countNow_21 (fun i3 x2 => ?_)
    exact G_ret trivial dX10_countNow_24 rfl

theorem yn_X10_countNow : Yn yX10_countNow 1 := ⟨by decide +kernel, by decide +kernel, by decide +kernel⟩
theorem ct_X10_countNow (l : Launch) (N : Nat) (z : Nat → Nat) (o : Nat) (v1 : Int32) : Ct l z yX10_countNow cX10_countNow 2 (some .int) 4 enI [.ref o, .int v1] (f_X10_countNow N z o v1) :=
  Ct_i (fun x => G_lv0 (by simp only [lva_n, lva_i, lva_o, lva_r, lva_j]) (g_X10_countNow l N z o v1 x)) (by decide +kernel) (by simp only [lgl_n, lgl_i, lgl_o, lgl_r, lgl_j]; decide)

theorem dX10_count_0 : decode cX10_count 0 = .ok (.iload_n 1, 1) := by decide +kernel
theorem dX10_count_1 : decode cX10_count 1 = .ok (.ifCond .lt 9, 3) := by decide +kernel
theorem dX10_count_4 : decode cX10_count 4 = .ok (.iload_n 1, 1) := by decide +kernel
theorem dX10_count_5 : decode cX10_count 5 = .ok (.bipush 13, 2) := by decide +kernel
theorem dX10_count_7 : decode cX10_count 7 = .ok (.if_icmp .lt 13, 3) := by decide +kernel
theorem dX10_count_10 : decode cX10_count 10 = .ok (.new 82, 3) := by decide +kernel
theorem dX10_count_20 : decode cX10_count 20 = .ok (.aload_n 0, 1) := by decide +kernel
theorem dX10_count_21 : decode cX10_count 21 = .ok (.iload_n 1, 1) := by decide +kernel
theorem dX10_count_22 : decode cX10_count 22 = .ok (.invokevirtual 87, 3) := by decide +kernel
theorem dX10_count_25 : decode cX10_count 25 = .ok (.ireturn, 1) := by decide +kernel
abbrev m_X10_count : Mt := (cX10_count, RX10, "count", 2, .ireturn, 5)
def f_X10_count (N : Nat) (z : Nat → Nat) (o : Nat) (v1 : Int32) (x0 : Hp) : Option (Int32 × Hp) :=
  if v1 < 0 then (none) else (if v1 < (13 : Int32) then (obj (some o) x0 13 fun q3 => bnd (f_X10_countNow N z q3 v1 x0) fun i2 x1 =>
  some (i2, x1)) else (none))
set_option maxRecDepth 100000 in
set_option maxHeartbeats 4000000 in
theorem g_X10_count (l : Launch) (N : Nat) (z : Nat → Nat) (o : Nat) (v1 : Int32) (x0 : Hp) : G l z m_X10_count okT enI 0 [(0, va_rf (some o)), (1, .int v1)] [] x0 (f_X10_count N z o v1 x0) := by
  unfold f_X10_count
  refine G_iload_n 1 dX10_count_0 rfl rfl ?_
  refine G_if_lt (tgt := 10) dX10_count_1 (by decide) (fun _ => ?_) (fun _ => ?_)
  · exact G_none
  · refine G_iload_n 1 dX10_count_4 rfl rfl ?_
    refine G_bipush (v := (13 : Int32)) dX10_count_5 (by decide) ?_
    refine G_icmp_lt (tgt := 20) dX10_count_7 (by decide) (fun _ => ?_) (fun _ => ?_)
    · refine G_aload_n 0 dX10_count_20 rfl rfl ?_
      refine G_iload_n 1 dX10_count_21 rfl rfl ?_
      refine G_callV (av := [.int v1]) [] (fun q3 => ct_X10_countNow l N z q3 v1) K_12 rfl yn_X10_countNow (Nat.le_of_ble_eq_true rfl) (by decide) gw_541 gw_543 gw_s1 gw_39 gw_544 rfl (by decide) dX10_count_22 (fun i2 x1 => ?_)
      exact G_ret trivial dX10_count_25 rfl
    · exact G_none

theorem yn_X10_count : Yn yX10_count 1 := ⟨by decide +kernel, by decide +kernel, by decide +kernel⟩
theorem ct_X10_count (l : Launch) (N : Nat) (z : Nat → Nat) (o : Nat) (v1 : Int32) : Ct l z yX10_count cX10_count 2 (some .int) 5 enI [.ref o, .int v1] (f_X10_count N z o v1) :=
  Ct_i (fun x => G_lv0 (by simp only [lva_n, lva_i, lva_o, lva_r, lva_j]) (g_X10_count l N z o v1 x)) (by decide +kernel) (by simp only [lgl_n, lgl_i, lgl_o, lgl_r, lgl_j]; decide)

theorem dX10_lane_0 : decode cX10_lane 0 = .ok (.aload_n 0, 1) := by decide +kernel
theorem dX10_lane_1 : decode cX10_lane 1 = .ok (.getfield 31, 3) := by decide +kernel
theorem dX10_lane_4 : decode cX10_lane 4 = .ok (.iload_n 1, 1) := by decide +kernel
theorem dX10_lane_5 : decode cX10_lane 5 = .ok (.invokevirtual 91, 3) := by decide +kernel
theorem dX10_lane_8 : decode cX10_lane 8 = .ok (.astore_n 3, 1) := by decide +kernel
theorem dX10_lane_9 : decode cX10_lane 9 = .ok (.aload_n 3, 1) := by decide +kernel
theorem dX10_lane_10 : decode cX10_lane 10 = .ok (.ifnull 13, 3) := by decide +kernel
theorem dX10_lane_13 : decode cX10_lane 13 = .ok (.iload_n 2, 1) := by decide +kernel
theorem dX10_lane_14 : decode cX10_lane 14 = .ok (.ifCond .lt 9, 3) := by decide +kernel
theorem dX10_lane_17 : decode cX10_lane 17 = .ok (.iload_n 2, 1) := by decide +kernel
theorem dX10_lane_18 : decode cX10_lane 18 = .ok (.bipush 13, 2) := by decide +kernel
theorem dX10_lane_20 : decode cX10_lane 20 = .ok (.if_icmp .lt 13, 3) := by decide +kernel
theorem dX10_lane_23 : decode cX10_lane 23 = .ok (.new 82, 3) := by decide +kernel
theorem dX10_lane_33 : decode cX10_lane 33 = .ok (.aload_n 3, 1) := by decide +kernel
theorem dX10_lane_34 : decode cX10_lane 34 = .ok (.iload_n 2, 1) := by decide +kernel
theorem dX10_lane_35 : decode cX10_lane 35 = .ok (.invokevirtual 97, 3) := by decide +kernel
theorem dX10_lane_38 : decode cX10_lane 38 = .ok (.ireturn, 1) := by decide +kernel
abbrev m_X10_lane : Mt := (cX10_lane, RX10, "lane", 4, .ireturn, 2)
def f_X10_lane (N : Nat) (z : Nat → Nat) (o : Nat) (v1 : Int32) (v2 : Int32) (x0 : Hp) : Option (Int32 × Hp) :=
  getr (some o) x0 13 242 fun r1 =>
  obj r1 x0 9 fun q4 => bnd (f_X6_laneAt N z q4 v1 x0) fun r3 x2 =>
  if r3 = none then (none) else (if v2 < 0 then (none) else (if v2 < (13 : Int32) then (obj r3 x2 5 fun q7 => bnd (f_X2_fact N z q7 v2 x2) fun i6 x5 =>
  some (i6, x5)) else (none)))
set_option maxRecDepth 100000 in
set_option maxHeartbeats 4000000 in
theorem g_X10_lane (l : Launch) (N : Nat) (z : Nat → Nat) (o : Nat) (v1 : Int32) (v2 : Int32) (x0 : Hp) : G l z m_X10_lane okT enI 0 [(0, va_rf (some o)), (1, .int v1), (2, .int v2)] [] x0 (f_X10_lane N z o v1 v2 x0) := by
  unfold f_X10_lane
  refine G_aload_n 0 dX10_lane_0 rfl rfl ?_
  refine G_getr (k := 2) K_12 (by decide) rfl rfl rfl gw_456 rfl dX10_lane_1 (fun r1 => ?_)
  refine G_iload_n 1 dX10_lane_4 rfl rfl ?_
  refine G_callV (av := [.int v1]) [] (fun q4 => ct_X6_laneAt l N z q4 v1) K_8 rfl yn_X6_laneAt (Nat.le_of_ble_eq_true rfl) (by decide) gw_564 gw_554 gw_555 gw_42 gw_556 rfl (by decide) dX10_lane_5 (fun r3 x2 => ?_)
  refine G_astore_n (i := 3) (l2 := [(0, va_rf (some o)), (1, .int v1), (2, .int v2)]) [0, 1, 2] dX10_lane_8 rfl (Nat.le_of_ble_eq_true rfl) rfl (sok_a (by decide) (by decide) (sok_a (by decide) (by decide) (sok_b (by decide) rfl trivial))) ?_
  refine G_aload_n 0 dX10_lane_9 rfl rfl ?_
  refine G_ifnull (tgt := 23) dX10_lane_10 (by decide) (fun _ => ?_) (fun _ => ?_)
  · exact G_none
  · refine G_iload_n 3 dX10_lane_13 rfl rfl ?_
    refine G_if_lt (tgt := 23) dX10_lane_14 (by decide) (fun _ => ?_) (fun _ => ?_)
    · exact G_none
    · refine G_iload_n 3 dX10_lane_17 rfl rfl ?_
      refine G_bipush (v := (13 : Int32)) dX10_lane_18 (by decide) ?_
      refine G_icmp_lt (tgt := 33) dX10_lane_20 (by decide) (fun _ => ?_) (fun _ => ?_)
      · refine G_aload_n 0 dX10_lane_33 rfl rfl ?_
        refine G_iload_n 3 dX10_lane_34 rfl rfl ?_
        refine G_callV (av := [.int v2]) [] (fun q7 => ct_X2_fact l N z q7 v2) K_4 rfl yn_X2_fact (Nat.le_of_ble_eq_true rfl) (by decide) gw_566 gw_567 gw_568 gw_46 gw_569 rfl (by decide) dX10_lane_35 (fun i6 x5 => ?_)
        exact G_ret trivial dX10_lane_38 rfl
      · exact G_none

theorem yn_X10_lane : Yn yX10_lane 2 := ⟨by decide +kernel, by decide +kernel, by decide +kernel⟩
theorem ct_X10_lane (l : Launch) (N : Nat) (z : Nat → Nat) (o : Nat) (v1 : Int32) (v2 : Int32) : Ct l z yX10_lane cX10_lane 4 (some .int) 2 enI [.ref o, .int v1, .int v2] (f_X10_lane N z o v1 v2) :=
  Ct_i (fun x => G_lv0 (by simp only [lva_n, lva_i, lva_o, lva_r, lva_j]) (g_X10_lane l N z o v1 v2 x)) (by decide +kernel) (by simp only [lgl_n, lgl_i, lgl_o, lgl_r, lgl_j]; decide)

theorem dX10_pail_0 : decode cX10_pail 0 = .ok (.aload_n 0, 1) := by decide +kernel
theorem dX10_pail_1 : decode cX10_pail 1 = .ok (.getfield 31, 3) := by decide +kernel
theorem dX10_pail_4 : decode cX10_pail 4 = .ok (.iload_n 1, 1) := by decide +kernel
theorem dX10_pail_5 : decode cX10_pail 5 = .ok (.invokevirtual 91, 3) := by decide +kernel
theorem dX10_pail_8 : decode cX10_pail 8 = .ok (.astore_n 3, 1) := by decide +kernel
theorem dX10_pail_9 : decode cX10_pail 9 = .ok (.aload_n 3, 1) := by decide +kernel
theorem dX10_pail_10 : decode cX10_pail 10 = .ok (.ifnull 18, 3) := by decide +kernel
theorem dX10_pail_13 : decode cX10_pail 13 = .ok (.iload_n 2, 1) := by decide +kernel
theorem dX10_pail_14 : decode cX10_pail 14 = .ok (.ifCond .lt 14, 3) := by decide +kernel
theorem dX10_pail_17 : decode cX10_pail 17 = .ok (.iload_n 2, 1) := by decide +kernel
theorem dX10_pail_18 : decode cX10_pail 18 = .ok (.aload_n 3, 1) := by decide +kernel
theorem dX10_pail_19 : decode cX10_pail 19 = .ok (.getfield 102, 3) := by decide +kernel
theorem dX10_pail_22 : decode cX10_pail 22 = .ok (.getfield 106, 3) := by decide +kernel
theorem dX10_pail_25 : decode cX10_pail 25 = .ok (.if_icmp .lt 13, 3) := by decide +kernel
theorem dX10_pail_28 : decode cX10_pail 28 = .ok (.new 82, 3) := by decide +kernel
theorem dX10_pail_38 : decode cX10_pail 38 = .ok (.aload_n 3, 1) := by decide +kernel
theorem dX10_pail_39 : decode cX10_pail 39 = .ok (.getfield 102, 3) := by decide +kernel
theorem dX10_pail_42 : decode cX10_pail 42 = .ok (.iload_n 2, 1) := by decide +kernel
theorem dX10_pail_43 : decode cX10_pail 43 = .ok (.invokevirtual 113, 3) := by decide +kernel
theorem dX10_pail_46 : decode cX10_pail 46 = .ok (.ireturn, 1) := by decide +kernel
abbrev m_X10_pail : Mt := (cX10_pail, RX10, "pail", 4, .ireturn, 3)
def f_X10_pail (N : Nat) (z : Nat → Nat) (o : Nat) (v1 : Int32) (v2 : Int32) (x0 : Hp) : Option (Int32 × Hp) :=
  getr (some o) x0 13 242 fun r1 =>
  obj r1 x0 9 fun q4 => bnd (f_X6_laneAt N z q4 v1 x0) fun r3 x2 =>
  if r3 = none then (none) else (if v2 < 0 then (none) else (getr r3 x2 5 81 fun r5 =>
  geti r5 x2 7 120 fun i6 =>
  if v2 < i6 then (getr r3 x2 5 81 fun r7 =>
  obj r7 x2 7 fun q10 => bnd (f_X4_at N z q10 v2 x2) fun i9 x8 =>
  some (i9, x8)) else (none)))
set_option maxRecDepth 100000 in
set_option maxHeartbeats 4000000 in
theorem g_X10_pail (l : Launch) (N : Nat) (z : Nat → Nat) (o : Nat) (v1 : Int32) (v2 : Int32) (x0 : Hp) : G l z m_X10_pail okT enI 0 [(0, va_rf (some o)), (1, .int v1), (2, .int v2)] [] x0 (f_X10_pail N z o v1 v2 x0) := by
  unfold f_X10_pail
  refine G_aload_n 0 dX10_pail_0 rfl rfl ?_
  refine G_getr (k := 2) K_12 (by decide) rfl rfl rfl gw_456 rfl dX10_pail_1 (fun r1 => ?_)
  refine G_iload_n 1 dX10_pail_4 rfl rfl ?_
  refine G_callV (av := [.int v1]) [] (fun q4 => ct_X6_laneAt l N z q4 v1) K_8 rfl yn_X6_laneAt (Nat.le_of_ble_eq_true rfl) (by decide) gw_564 gw_554 gw_555 gw_42 gw_556 rfl (by decide) dX10_pail_5 (fun r3 x2 => ?_)
  refine G_astore_n (i := 3) (l2 := [(0, va_rf (some o)), (1, .int v1), (2, .int v2)]) [0, 1, 2] dX10_pail_8 rfl (Nat.le_of_ble_eq_true rfl) rfl (sok_a (by decide) (by decide) (sok_a (by decide) (by decide) (sok_b (by decide) rfl trivial))) ?_
  refine G_aload_n 0 dX10_pail_9 rfl rfl ?_
  refine G_ifnull (tgt := 28) dX10_pail_10 (by decide) (fun _ => ?_) (fun _ => ?_)
  · exact G_none
  · refine G_iload_n 3 dX10_pail_13 rfl rfl ?_
    refine G_if_lt (tgt := 28) dX10_pail_14 (by decide) (fun _ => ?_) (fun _ => ?_)
    · exact G_none
    · refine G_iload_n 3 dX10_pail_17 rfl rfl ?_
      refine G_aload_n 0 dX10_pail_18 rfl rfl ?_
      refine G_getr (k := 1) K_4 (by decide) rfl rfl rfl gw_212 rfl dX10_pail_19 (fun r5 => ?_)
      refine G_geti (k := 0) K_6 (by decide) rfl rfl rfl gw_196 rfl dX10_pail_22 (fun i6 => ?_)
      refine G_icmp_lt (tgt := 38) dX10_pail_25 (by decide) (fun _ => ?_) (fun _ => ?_)
      · refine G_aload_n 0 dX10_pail_38 rfl rfl ?_
        refine G_getr (k := 1) K_4 (by decide) rfl rfl rfl gw_212 rfl dX10_pail_39 (fun r7 => ?_)
        refine G_iload_n 3 dX10_pail_42 rfl rfl ?_
        refine G_callV (av := [.int v2]) [] (fun q10 => ct_X4_at l N z q10 v2) K_6 rfl yn_X4_at (Nat.le_of_ble_eq_true rfl) (by decide) gw_575 gw_576 gw_577 gw_47 gw_578 rfl (by decide) dX10_pail_43 (fun i9 x8 => ?_)
        exact G_ret trivial dX10_pail_46 rfl
      · exact G_none

theorem yn_X10_pail : Yn yX10_pail 2 := ⟨by decide +kernel, by decide +kernel, by decide +kernel⟩
theorem ct_X10_pail (l : Launch) (N : Nat) (z : Nat → Nat) (o : Nat) (v1 : Int32) (v2 : Int32) : Ct l z yX10_pail cX10_pail 4 (some .int) 3 enI [.ref o, .int v1, .int v2] (f_X10_pail N z o v1 v2) :=
  Ct_i (fun x => G_lv0 (by simp only [lva_n, lva_i, lva_o, lva_r, lva_j]) (g_X10_pail l N z o v1 v2 x)) (by decide +kernel) (by simp only [lgl_n, lgl_i, lgl_o, lgl_r, lgl_j]; decide)

theorem dX10_folk_0 : decode cX10_folk 0 = .ok (.aload_n 0, 1) := by decide +kernel
theorem dX10_folk_1 : decode cX10_folk 1 = .ok (.getfield 31, 3) := by decide +kernel
theorem dX10_folk_4 : decode cX10_folk 4 = .ok (.iload_n 1, 1) := by decide +kernel
theorem dX10_folk_5 : decode cX10_folk 5 = .ok (.invokevirtual 116, 3) := by decide +kernel
theorem dX10_folk_8 : decode cX10_folk 8 = .ok (.astore_n 3, 1) := by decide +kernel
theorem dX10_folk_9 : decode cX10_folk 9 = .ok (.aload_n 3, 1) := by decide +kernel
theorem dX10_folk_10 : decode cX10_folk 10 = .ok (.ifnull 12, 3) := by decide +kernel
theorem dX10_folk_13 : decode cX10_folk 13 = .ok (.iload_n 2, 1) := by decide +kernel
theorem dX10_folk_14 : decode cX10_folk 14 = .ok (.ifCond .lt 8, 3) := by decide +kernel
theorem dX10_folk_17 : decode cX10_folk 17 = .ok (.iload_n 2, 1) := by decide +kernel
theorem dX10_folk_18 : decode cX10_folk 18 = .ok (.iconst 5, 1) := by decide +kernel
theorem dX10_folk_19 : decode cX10_folk 19 = .ok (.if_icmp .lt 13, 3) := by decide +kernel
theorem dX10_folk_22 : decode cX10_folk 22 = .ok (.new 82, 3) := by decide +kernel
theorem dX10_folk_32 : decode cX10_folk 32 = .ok (.aload_n 3, 1) := by decide +kernel
theorem dX10_folk_33 : decode cX10_folk 33 = .ok (.iload_n 2, 1) := by decide +kernel
theorem dX10_folk_34 : decode cX10_folk 34 = .ok (.invokevirtual 122, 3) := by decide +kernel
theorem dX10_folk_37 : decode cX10_folk 37 = .ok (.ireturn, 1) := by decide +kernel
abbrev m_X10_folk : Mt := (cX10_folk, RX10, "folk", 4, .ireturn, 2)
def f_X10_folk (N : Nat) (z : Nat → Nat) (o : Nat) (v1 : Int32) (v2 : Int32) (x0 : Hp) : Option (Int32 × Hp) :=
  getr (some o) x0 13 242 fun r1 =>
  obj r1 x0 9 fun q4 => bnd (f_X6_folkAt N z q4 v1 x0) fun r3 x2 =>
  if r3 = none then (none) else (if v2 < 0 then (none) else (if v2 < (5 : Int32) then (obj r3 x2 4 fun q7 => bnd (f_X1_fact N z q7 v2 x2) fun i6 x5 =>
  some (i6, x5)) else (none)))
set_option maxRecDepth 100000 in
set_option maxHeartbeats 4000000 in
theorem g_X10_folk (l : Launch) (N : Nat) (z : Nat → Nat) (o : Nat) (v1 : Int32) (v2 : Int32) (x0 : Hp) : G l z m_X10_folk okT enI 0 [(0, va_rf (some o)), (1, .int v1), (2, .int v2)] [] x0 (f_X10_folk N z o v1 v2 x0) := by
  unfold f_X10_folk
  refine G_aload_n 0 dX10_folk_0 rfl rfl ?_
  refine G_getr (k := 2) K_12 (by decide) rfl rfl rfl gw_456 rfl dX10_folk_1 (fun r1 => ?_)
  refine G_iload_n 1 dX10_folk_4 rfl rfl ?_
  refine G_callV (av := [.int v1]) [] (fun q4 => ct_X6_folkAt l N z q4 v1) K_8 rfl yn_X6_folkAt (Nat.le_of_ble_eq_true rfl) (by decide) gw_836 gw_677 gw_678 gw_42 gw_679 rfl (by decide) dX10_folk_5 (fun r3 x2 => ?_)
  refine G_astore_n (i := 3) (l2 := [(0, va_rf (some o)), (1, .int v1), (2, .int v2)]) [0, 1, 2] dX10_folk_8 rfl (Nat.le_of_ble_eq_true rfl) rfl (sok_a (by decide) (by decide) (sok_a (by decide) (by decide) (sok_b (by decide) rfl trivial))) ?_
  refine G_aload_n 0 dX10_folk_9 rfl rfl ?_
  refine G_ifnull (tgt := 22) dX10_folk_10 (by decide) (fun _ => ?_) (fun _ => ?_)
  · exact G_none
  · refine G_iload_n 3 dX10_folk_13 rfl rfl ?_
    refine G_if_lt (tgt := 22) dX10_folk_14 (by decide) (fun _ => ?_) (fun _ => ?_)
    · exact G_none
    · refine G_iload_n 3 dX10_folk_17 rfl rfl ?_
      refine G_iconst (v := (5 : Int32)) dX10_folk_18 rfl ?_
      refine G_icmp_lt (tgt := 32) dX10_folk_19 (by decide) (fun _ => ?_) (fun _ => ?_)
      · refine G_aload_n 0 dX10_folk_32 rfl rfl ?_
        refine G_iload_n 3 dX10_folk_33 rfl rfl ?_
        refine G_callV (av := [.int v2]) [] (fun q7 => ct_X1_fact l N z q7 v2) K_3 rfl yn_X1_fact (Nat.le_of_ble_eq_true rfl) (by decide) gw_838 gw_839 gw_840 gw_48 gw_841 rfl (by decide) dX10_folk_34 (fun i6 x5 => ?_)
        exact G_ret trivial dX10_folk_37 rfl
      · exact G_none

theorem yn_X10_folk : Yn yX10_folk 2 := ⟨by decide +kernel, by decide +kernel, by decide +kernel⟩
theorem ct_X10_folk (l : Launch) (N : Nat) (z : Nat → Nat) (o : Nat) (v1 : Int32) (v2 : Int32) : Ct l z yX10_folk cX10_folk 4 (some .int) 2 enI [.ref o, .int v1, .int v2] (f_X10_folk N z o v1 v2) :=
  Ct_i (fun x => G_lv0 (by simp only [lva_n, lva_i, lva_o, lva_r, lva_j]) (g_X10_folk l N z o v1 v2 x)) (by decide +kernel) (by simp only [lgl_n, lgl_i, lgl_o, lgl_r, lgl_j]; decide)

theorem dX10_numberOf_0 : decode cX10_numberOf 0 = .ok (.aload_n 0, 1) := by decide +kernel
theorem dX10_numberOf_1 : decode cX10_numberOf 1 = .ok (.ifnonnull 7, 3) := by decide +kernel
theorem dX10_numberOf_4 : decode cX10_numberOf 4 = .ok (.iconst (-1), 1) := by decide +kernel
theorem dX10_numberOf_5 : decode cX10_numberOf 5 = .ok (.goto 7, 3) := by decide +kernel
theorem dX10_numberOf_8 : decode cX10_numberOf 8 = .ok (.aload_n 0, 1) := by decide +kernel
theorem dX10_numberOf_9 : decode cX10_numberOf 9 = .ok (.getfield 139, 3) := by decide +kernel
theorem dX10_numberOf_12 : decode cX10_numberOf 12 = .ok (.ireturn, 1) := by decide +kernel
abbrev m_X10_numberOf : Mt := (cX10_numberOf, RX10, "numberOf", 1, .ireturn, 1)
def f_X10_numberOf (N : Nat) (z : Nat → Nat) (v0 : Option Nat) (x0 : Hp) : Option (Int32 × Hp) :=
  if v0 = none then (some ((-1 : Int32), x0)) else (geti v0 x0 5 80 fun i1 =>
  some (i1, x0))
set_option maxRecDepth 100000 in
set_option maxHeartbeats 4000000 in
theorem g_X10_numberOf (l : Launch) (N : Nat) (z : Nat → Nat) (v0 : Option Nat) (x0 : Hp) : G l z m_X10_numberOf okT enI 0 [(0, va_rf v0)] [] x0 (f_X10_numberOf N z v0 x0) := by
  unfold f_X10_numberOf
  refine G_aload_n 0 dX10_numberOf_0 rfl rfl ?_
  refine G_ifnonnull (tgt := 8) dX10_numberOf_1 (by decide) (fun _ => ?_) (fun _ => ?_)
  · refine G_iconst (v := (-1 : Int32)) dX10_numberOf_4 rfl ?_
    refine G_goto (tgt := 12) dX10_numberOf_5 (by decide) ?_
    exact G_ret trivial dX10_numberOf_12 rfl
  · refine G_aload_n 0 dX10_numberOf_8 rfl rfl ?_
    refine G_geti (k := 0) K_4 (by decide) rfl rfl rfl gw_210 rfl dX10_numberOf_9 (fun i1 => ?_)
    exact G_ret trivial dX10_numberOf_12 rfl

theorem yn_X10_numberOf : Yn yX10_numberOf 1 := ⟨by decide +kernel, by decide +kernel, by decide +kernel⟩
theorem ct_X10_numberOf (l : Launch) (N : Nat) (z : Nat → Nat) (v0 : Option Nat) : Ct l z yX10_numberOf cX10_numberOf 1 (some .int) 1 enI [va_rf v0] (f_X10_numberOf N z v0) :=
  Ct_i (fun x => G_lv0 (by simp only [lva_n, lva_i, lva_o, lva_r, lva_j]) (g_X10_numberOf l N z v0 x)) (by decide +kernel) (by simp only [lgl_n, lgl_i, lgl_o, lgl_r, lgl_j]; decide)

theorem dX10_lender_0 : decode cX10_lender 0 = .ok (.aload_n 0, 1) := by decide +kernel
theorem dX10_lender_1 : decode cX10_lender 1 = .ok (.getfield 31, 3) := by decide +kernel
theorem dX10_lender_4 : decode cX10_lender 4 = .ok (.iload_n 1, 1) := by decide +kernel
theorem dX10_lender_5 : decode cX10_lender 5 = .ok (.invokevirtual 91, 3) := by decide +kernel
theorem dX10_lender_8 : decode cX10_lender 8 = .ok (.astore_n 2, 1) := by decide +kernel
theorem dX10_lender_9 : decode cX10_lender 9 = .ok (.aload_n 2, 1) := by decide +kernel
theorem dX10_lender_10 : decode cX10_lender 10 = .ok (.ifnonnull 13, 3) := by decide +kernel
theorem dX10_lender_13 : decode cX10_lender 13 = .ok (.new 82, 3) := by decide +kernel
theorem dX10_lender_23 : decode cX10_lender 23 = .ok (.aload_n 2, 1) := by decide +kernel
theorem dX10_lender_24 : decode cX10_lender 24 = .ok (.invokevirtual 127, 3) := by decide +kernel
theorem dX10_lender_27 : decode cX10_lender 27 = .ok (.invokestatic 131, 3) := by decide +kernel
theorem dX10_lender_30 : decode cX10_lender 30 = .ok (.ireturn, 1) := by decide +kernel
abbrev m_X10_lender : Mt := (cX10_lender, RX10, "lender", 3, .ireturn, 2)
def f_X10_lender (N : Nat) (z : Nat → Nat) (o : Nat) (v1 : Int32) (x0 : Hp) : Option (Int32 × Hp) :=
  getr (some o) x0 13 242 fun r1 =>
  obj r1 x0 9 fun q4 => bnd (f_X6_laneAt N z q4 v1 x0) fun r3 x2 =>
  if r3 = none then (none) else (obj r3 x2 5 fun q7 => bnd (f_X2_whoLends N z q7 x2) fun r6 x5 =>
  bnd (f_X10_numberOf N z r6 x5) fun i9 x8 =>
  some (i9, x8))
set_option maxRecDepth 100000 in
set_option maxHeartbeats 4000000 in
theorem g_X10_lender (l : Launch) (N : Nat) (z : Nat → Nat) (o : Nat) (v1 : Int32) (x0 : Hp) : G l z m_X10_lender okT enI 0 [(0, va_rf (some o)), (1, .int v1)] [] x0 (f_X10_lender N z o v1 x0) := by
  unfold f_X10_lender
  refine G_aload_n 0 dX10_lender_0 rfl rfl ?_
  refine G_getr (k := 2) K_12 (by decide) rfl rfl rfl gw_456 rfl dX10_lender_1 (fun r1 => ?_)
  refine G_iload_n 1 dX10_lender_4 rfl rfl ?_
  refine G_callV (av := [.int v1]) [] (fun q4 => ct_X6_laneAt l N z q4 v1) K_8 rfl yn_X6_laneAt (Nat.le_of_ble_eq_true rfl) (by decide) gw_564 gw_554 gw_555 gw_42 gw_556 rfl (by decide) dX10_lender_5 (fun r3 x2 => ?_)
  refine G_astore_n (i := 2) (l2 := [(0, va_rf (some o)), (1, .int v1)]) [0, 1] dX10_lender_8 rfl (Nat.le_of_ble_eq_true rfl) rfl (sok_a (by decide) (by decide) (sok_b (by decide) rfl trivial)) ?_
  refine G_aload_n 0 dX10_lender_9 rfl rfl ?_
  refine G_ifnonnull (tgt := 23) dX10_lender_10 (by decide) (fun _ => ?_) (fun _ => ?_)
  · exact G_none
  · refine G_aload_n 0 dX10_lender_23 rfl rfl ?_
    refine G_callV (av := []) [] (fun q7 => ct_X2_whoLends l N z q7) K_4 rfl yn_X2_whoLends (Nat.le_of_ble_eq_true rfl) (by decide) gw_588 gw_589 gw_590 gw_46 gw_591 rfl (by decide) dX10_lender_24 (fun r6 x5 => ?_)
    refine G_callS (av := [va_rf r6]) [] (ct_X10_numberOf l N z r6) yn_X10_numberOf (Nat.le_of_ble_eq_true rfl) (by decide) gw_592 gw_593 gw_39 gw_594 rfl (by decide) dX10_lender_27 (fun i9 x8 => ?_)
    exact G_ret trivial dX10_lender_30 rfl

theorem yn_X10_lender : Yn yX10_lender 1 := ⟨by decide +kernel, by decide +kernel, by decide +kernel⟩
theorem ct_X10_lender (l : Launch) (N : Nat) (z : Nat → Nat) (o : Nat) (v1 : Int32) : Ct l z yX10_lender cX10_lender 3 (some .int) 2 enI [.ref o, .int v1] (f_X10_lender N z o v1) :=
  Ct_i (fun x => G_lv0 (by simp only [lva_n, lva_i, lva_o, lva_r, lva_j]) (g_X10_lender l N z o v1 x)) (by decide +kernel) (by simp only [lgl_n, lgl_i, lgl_o, lgl_r, lgl_j]; decide)

theorem dX10_common_0 : decode cX10_common 0 = .ok (.aload_n 0, 1) := by decide +kernel
theorem dX10_common_1 : decode cX10_common 1 = .ok (.getfield 31, 3) := by decide +kernel
theorem dX10_common_4 : decode cX10_common 4 = .ok (.iload_n 1, 1) := by decide +kernel
theorem dX10_common_5 : decode cX10_common 5 = .ok (.invokevirtual 91, 3) := by decide +kernel
theorem dX10_common_8 : decode cX10_common 8 = .ok (.astore_n 3, 1) := by decide +kernel
theorem dX10_common_9 : decode cX10_common 9 = .ok (.aload_n 0, 1) := by decide +kernel
theorem dX10_common_10 : decode cX10_common 10 = .ok (.getfield 31, 3) := by decide +kernel
theorem dX10_common_13 : decode cX10_common 13 = .ok (.iload_n 2, 1) := by decide +kernel
theorem dX10_common_14 : decode cX10_common 14 = .ok (.invokevirtual 91, 3) := by decide +kernel
theorem dX10_common_17 : decode cX10_common 17 = .ok (.astore 4, 2) := by decide +kernel
theorem dX10_common_19 : decode cX10_common 19 = .ok (.aload_n 3, 1) := by decide +kernel
theorem dX10_common_20 : decode cX10_common 20 = .ok (.ifnull 8, 3) := by decide +kernel
theorem dX10_common_23 : decode cX10_common 23 = .ok (.aload 4, 2) := by decide +kernel
theorem dX10_common_25 : decode cX10_common 25 = .ok (.ifnonnull 13, 3) := by decide +kernel
theorem dX10_common_28 : decode cX10_common 28 = .ok (.new 82, 3) := by decide +kernel
theorem dX10_common_38 : decode cX10_common 38 = .ok (.aload_n 3, 1) := by decide +kernel
theorem dX10_common_39 : decode cX10_common 39 = .ok (.astore 5, 2) := by decide +kernel
theorem dX10_common_41 : decode cX10_common 41 = .ok (.aload 5, 2) := by decide +kernel
theorem dX10_common_43 : decode cX10_common 43 = .ok (.ifnull 29, 3) := by decide +kernel
theorem dX10_common_46 : decode cX10_common 46 = .ok (.aload 4, 2) := by decide +kernel
theorem dX10_common_48 : decode cX10_common 48 = .ok (.aload 5, 2) := by decide +kernel
theorem dX10_common_50 : decode cX10_common 50 = .ok (.invokevirtual 135, 3) := by decide +kernel
theorem dX10_common_53 : decode cX10_common 53 = .ok (.ifCond .eq 9, 3) := by decide +kernel
theorem dX10_common_56 : decode cX10_common 56 = .ok (.aload 5, 2) := by decide +kernel
theorem dX10_common_58 : decode cX10_common 58 = .ok (.getfield 139, 3) := by decide +kernel
theorem dX10_common_61 : decode cX10_common 61 = .ok (.ireturn, 1) := by decide +kernel
theorem dX10_common_62 : decode cX10_common 62 = .ok (.aload 5, 2) := by decide +kernel
theorem dX10_common_64 : decode cX10_common 64 = .ok (.getfield 142, 3) := by decide +kernel
theorem dX10_common_67 : decode cX10_common 67 = .ok (.astore 5, 2) := by decide +kernel
theorem dX10_common_69 : decode cX10_common 69 = .ok (.goto (-28), 3) := by decide +kernel
theorem dX10_common_72 : decode cX10_common 72 = .ok (.iconst (-1), 1) := by decide +kernel
theorem dX10_common_73 : decode cX10_common 73 = .ok (.ireturn, 1) := by decide +kernel
abbrev m_X10_common : Mt := (cX10_common, RX10, "common", 6, .ireturn, 2)
def f_X10_common_b41 (N : Nat) (z : Nat → Nat) : Nat → Option Nat → Option Nat → Hp → Option (Int32 × Hp)
  | 0, _, _, _ => none
  | n + 1, v4, v5, x0 => if v5 = none then (some ((-1 : Int32), x0)) else (obj v4 x0 5 fun q3 => bnd (f_X2_isOrIsUnder N z q3 v5 x0) fun i2 x1 =>
  if i2 = 0 then (getr v5 x1 5 82 fun r4 =>
  f_X10_common_b41 N z n v4 r4 x1) else (geti v5 x1 5 80 fun i5 =>
  some (i5, x1)))
def f_X10_common (N : Nat) (z : Nat → Nat) (o : Nat) (v1 : Int32) (v2 : Int32) (x0 : Hp) : Option (Int32 × Hp) :=
  getr (some o) x0 13 242 fun r6 =>
  obj r6 x0 9 fun q9 => bnd (f_X6_laneAt N z q9 v1 x0) fun r8 x7 =>
  getr (some o) x7 13 242 fun r10 =>
  obj r10 x7 9 fun q13 => bnd (f_X6_laneAt N z q13 v2 x7) fun r12 x11 =>
  if r8 = none then (none) else (if r12 = none then (none) else (f_X10_common_b41 N z N r12 r8 x11))
set_option maxRecDepth 100000 in
set_option maxHeartbeats 4000000 in
theorem g_X10_common_b41 (l : Launch) (N : Nat) (z : Nat → Nat) : ∀ (n : Nat) (v4 : Option Nat) (v5 : Option Nat) (x0 : Hp), G l z m_X10_common okT enI 41 [(4, va_rf v4), (5, va_rf v5)] [] x0 (f_X10_common_b41 N z n v4 v5 x0) := by
  intro n
  induction n with
  | zero => intro v4 v5 x0; exact G_none
  | succ n ih =>
  intro v4 v5 x0
  rw [f_X10_common_b41]
  refine G_aload 1 dX10_common_41 rfl ?_
  refine G_ifnull (tgt := 72) dX10_common_43 (by decide) (fun _ => ?_) (fun _ => ?_)
  · refine G_iconst (v := (-1 : Int32)) dX10_common_72 rfl ?_
    exact G_ret trivial dX10_common_73 rfl
  · refine G_aload 0 dX10_common_46 rfl ?_
    refine G_aload 1 dX10_common_48 rfl ?_
    refine G_callV (av := [va_rf v5]) [] (fun q3 => ct_X2_isOrIsUnder l N z q3 v5) K_4 rfl yn_X2_isOrIsUnder (Nat.le_of_ble_eq_true rfl) (by decide) gw_599 gw_600 gw_601 gw_46 gw_602 rfl (by decide) dX10_common_50 (fun i2 x1 => ?_)
    refine G_if_eq (tgt := 62) dX10_common_53 (by decide) (fun _ => ?_) (fun _ => ?_)
    · refine G_aload 1 dX10_common_62 rfl ?_
      refine G_getr (k := 2) K_4 (by decide) rfl rfl rfl gw_216 rfl dX10_common_64 (fun r4 => ?_)
      refine G_astore (i := 5) (l2 := [(4, va_rf v4)]) [0] dX10_common_67 (Nat.le_of_ble_eq_true rfl) rfl (sok_b (by decide) (rf_cat _) trivial) ?_
      refine G_goto (tgt := 41) dX10_common_69 (by decide) ?_
      refine G_lv [1, 0] rfl ?_
      exact ih v4 r4 x1
    · refine G_aload 1 dX10_common_56 rfl ?_
      refine G_geti (k := 0) K_4 (by decide) rfl rfl rfl gw_210 rfl dX10_common_58 (fun i5 => ?_)
      exact G_ret trivial dX10_common_61 rfl

set_option maxRecDepth 100000 in
set_option maxHeartbeats 4000000 in
theorem g_X10_common (l : Launch) (N : Nat) (z : Nat → Nat) (o : Nat) (v1 : Int32) (v2 : Int32) (x0 : Hp) : G l z m_X10_common okT enI 0 [(0, va_rf (some o)), (1, .int v1), (2, .int v2)] [] x0 (f_X10_common N z o v1 v2 x0) := by
  unfold f_X10_common
  refine G_aload_n 0 dX10_common_0 rfl rfl ?_
  refine G_getr (k := 2) K_12 (by decide) rfl rfl rfl gw_456 rfl dX10_common_1 (fun r6 => ?_)
  refine G_iload_n 1 dX10_common_4 rfl rfl ?_
  refine G_callV (av := [.int v1]) [] (fun q9 => ct_X6_laneAt l N z q9 v1) K_8 rfl yn_X6_laneAt (Nat.le_of_ble_eq_true rfl) (by decide) gw_564 gw_554 gw_555 gw_42 gw_556 rfl (by decide) dX10_common_5 (fun r8 x7 => ?_)
  refine G_astore_n (i := 3) (l2 := [(0, va_rf (some o)), (1, .int v1), (2, .int v2)]) [0, 1, 2] dX10_common_8 rfl (Nat.le_of_ble_eq_true rfl) rfl (sok_a (by decide) (by decide) (sok_a (by decide) (by decide) (sok_b (by decide) rfl trivial))) ?_
  refine G_aload_n 1 dX10_common_9 rfl rfl ?_
  refine G_getr (k := 2) K_12 (by decide) rfl rfl rfl gw_456 rfl dX10_common_10 (fun r10 => ?_)
  refine G_iload_n 3 dX10_common_13 rfl rfl ?_
  refine G_callV (av := [.int v2]) [] (fun q13 => ct_X6_laneAt l N z q13 v2) K_8 rfl yn_X6_laneAt (Nat.le_of_ble_eq_true rfl) (by decide) gw_564 gw_554 gw_555 gw_42 gw_556 rfl (by decide) dX10_common_14 (fun r12 x11 => ?_)
  refine G_astore (i := 4) (l2 := [(3, va_rf r8), (0, va_rf (some o)), (1, .int v1), (2, .int v2)]) [0, 1, 2, 3] dX10_common_17 (Nat.le_of_ble_eq_true rfl) rfl (sok_b (by decide) (rf_cat _) (sok_a (by decide) (by decide) (sok_a (by decide) (by decide) (sok_a (by decide) (by decide) trivial)))) ?_
  refine G_aload_n 1 dX10_common_19 rfl rfl ?_
  refine G_ifnull (tgt := 28) dX10_common_20 (by decide) (fun _ => ?_) (fun _ => ?_)
  · exact G_none
  · refine G_aload 0 dX10_common_23 rfl ?_
    refine G_ifnonnull (tgt := 38) dX10_common_25 (by decide) (fun _ => ?_) (fun _ => ?_)
    · exact G_none
    · refine G_aload_n 1 dX10_common_38 rfl rfl ?_
      refine G_astore (i := 5) (l2 := [(4, va_rf r12), (3, va_rf r8), (0, va_rf (some o)), (1, .int v1), (2, .int v2)]) [0, 1, 2, 3, 4] dX10_common_39 (Nat.le_of_ble_eq_true rfl) rfl (sok_b (by decide) (rf_cat _) (sok_a (by decide) (by decide) (sok_a (by decide) (by decide) (sok_a (by decide) (by decide) (sok_a (by decide) (by decide) trivial))))) ?_
      refine G_lv [1, 0] rfl ?_
      exact g_X10_common_b41 l N z N r12 r8 x11

theorem yn_X10_common : Yn yX10_common 2 := ⟨by decide +kernel, by decide +kernel, by decide +kernel⟩
theorem ct_X10_common (l : Launch) (N : Nat) (z : Nat → Nat) (o : Nat) (v1 : Int32) (v2 : Int32) : Ct l z yX10_common cX10_common 6 (some .int) 2 enI [.ref o, .int v1, .int v2] (f_X10_common N z o v1 v2) :=
  Ct_i (fun x => G_lv0 (by simp only [lva_n, lva_i, lva_o, lva_r, lva_j]) (g_X10_common l N z o v1 v2 x)) (by decide +kernel) (by simp only [lgl_n, lgl_i, lgl_o, lgl_r, lgl_j]; decide)

theorem dX10_eldest_0 : decode cX10_eldest 0 = .ok (.iconst (-1), 1) := by decide +kernel
theorem dX10_eldest_1 : decode cX10_eldest 1 = .ok (.istore_n 1, 1) := by decide +kernel
theorem dX10_eldest_2 : decode cX10_eldest 2 = .ok (.iconst 0, 1) := by decide +kernel
theorem dX10_eldest_3 : decode cX10_eldest 3 = .ok (.istore_n 2, 1) := by decide +kernel
theorem dX10_eldest_4 : decode cX10_eldest 4 = .ok (.iconst 0, 1) := by decide +kernel
theorem dX10_eldest_5 : decode cX10_eldest 5 = .ok (.istore_n 3, 1) := by decide +kernel
theorem dX10_eldest_6 : decode cX10_eldest 6 = .ok (.iload_n 3, 1) := by decide +kernel
theorem dX10_eldest_7 : decode cX10_eldest 7 = .ok (.aload_n 0, 1) := by decide +kernel
theorem dX10_eldest_8 : decode cX10_eldest 8 = .ok (.getfield 31, 3) := by decide +kernel
theorem dX10_eldest_11 : decode cX10_eldest 11 = .ok (.getfield 146, 3) := by decide +kernel
theorem dX10_eldest_14 : decode cX10_eldest 14 = .ok (.if_icmp .ge 62, 3) := by decide +kernel
theorem dX10_eldest_17 : decode cX10_eldest 17 = .ok (.aload_n 0, 1) := by decide +kernel
theorem dX10_eldest_18 : decode cX10_eldest 18 = .ok (.getfield 31, 3) := by decide +kernel
theorem dX10_eldest_21 : decode cX10_eldest 21 = .ok (.iload_n 3, 1) := by decide +kernel
theorem dX10_eldest_22 : decode cX10_eldest 22 = .ok (.invokevirtual 91, 3) := by decide +kernel
theorem dX10_eldest_25 : decode cX10_eldest 25 = .ok (.astore 4, 2) := by decide +kernel
theorem dX10_eldest_27 : decode cX10_eldest 27 = .ok (.aload 4, 2) := by decide +kernel
theorem dX10_eldest_29 : decode cX10_eldest 29 = .ok (.ifnull 41, 3) := by decide +kernel
theorem dX10_eldest_32 : decode cX10_eldest 32 = .ok (.aload 4, 2) := by decide +kernel
theorem dX10_eldest_34 : decode cX10_eldest 34 = .ok (.getfield 102, 3) := by decide +kernel
theorem dX10_eldest_37 : decode cX10_eldest 37 = .ok (.getfield 106, 3) := by decide +kernel
theorem dX10_eldest_40 : decode cX10_eldest 40 = .ok (.ifCond .le 30, 3) := by decide +kernel
theorem dX10_eldest_43 : decode cX10_eldest 43 = .ok (.aload 4, 2) := by decide +kernel
theorem dX10_eldest_45 : decode cX10_eldest 45 = .ok (.getfield 102, 3) := by decide +kernel
theorem dX10_eldest_48 : decode cX10_eldest 48 = .ok (.iconst 0, 1) := by decide +kernel
theorem dX10_eldest_49 : decode cX10_eldest 49 = .ok (.invokevirtual 113, 3) := by decide +kernel
theorem dX10_eldest_52 : decode cX10_eldest 52 = .ok (.istore 5, 2) := by decide +kernel
theorem dX10_eldest_54 : decode cX10_eldest 54 = .ok (.iload_n 1, 1) := by decide +kernel
theorem dX10_eldest_55 : decode cX10_eldest 55 = .ok (.iconst (-1), 1) := by decide +kernel
theorem dX10_eldest_56 : decode cX10_eldest 56 = .ok (.if_icmp .eq 9, 3) := by decide +kernel
theorem dX10_eldest_59 : decode cX10_eldest 59 = .ok (.iload 5, 2) := by decide +kernel
theorem dX10_eldest_61 : decode cX10_eldest 61 = .ok (.iload_n 2, 1) := by decide +kernel
theorem dX10_eldest_62 : decode cX10_eldest 62 = .ok (.if_icmp .ge 8, 3) := by decide +kernel
theorem dX10_eldest_65 : decode cX10_eldest 65 = .ok (.iload_n 3, 1) := by decide +kernel
theorem dX10_eldest_66 : decode cX10_eldest 66 = .ok (.istore_n 1, 1) := by decide +kernel
theorem dX10_eldest_67 : decode cX10_eldest 67 = .ok (.iload 5, 2) := by decide +kernel
theorem dX10_eldest_69 : decode cX10_eldest 69 = .ok (.istore_n 2, 1) := by decide +kernel
theorem dX10_eldest_70 : decode cX10_eldest 70 = .ok (.iinc 3 1, 3) := by decide +kernel
theorem dX10_eldest_73 : decode cX10_eldest 73 = .ok (.goto (-67), 3) := by decide +kernel
theorem dX10_eldest_76 : decode cX10_eldest 76 = .ok (.iload_n 1, 1) := by decide +kernel
theorem dX10_eldest_77 : decode cX10_eldest 77 = .ok (.ireturn, 1) := by decide +kernel
abbrev m_X10_eldest : Mt := (cX10_eldest, RX10, "eldest", 6, .ireturn, 3)
def f_X10_eldest_b70 (N : Nat) (z : Nat → Nat) (k6 : Nat → Int32 → Int32 → Int32 → Hp → Option (Int32 × Hp)) (o : Nat) (v1 : Int32) (v2 : Int32) (v3 : Int32) (x0 : Hp) : Option (Int32 × Hp) :=
  k6 o v1 v2 (v3 + (1 : Int32)) x0
def f_X10_eldest_b65 (N : Nat) (z : Nat → Nat) (k6 : Nat → Int32 → Int32 → Int32 → Hp → Option (Int32 × Hp)) (o : Nat) (v3 : Int32) (v5 : Int32) (x0 : Hp) : Option (Int32 × Hp) :=
  f_X10_eldest_b70 N z k6 o v3 v5 v3 x0
def f_X10_eldest_b6 (N : Nat) (z : Nat → Nat) : Nat → Nat → Int32 → Int32 → Int32 → Hp → Option (Int32 × Hp)
  | 0, _, _, _, _, _ => none
  | n + 1, o, v1, v2, v3, x0 => getr (some o) x0 13 242 fun r1 =>
  geti r1 x0 9 163 fun i2 =>
  if i2 ≤ v3 then (some (v1, x0)) else (getr (some o) x0 13 242 fun r3 =>
  obj r3 x0 9 fun q6 => bnd (f_X6_laneAt N z q6 v3 x0) fun r5 x4 =>
  if r5 = none then (f_X10_eldest_b70 N z (f_X10_eldest_b6 N z n) o v1 v2 v3 x4) else (getr r5 x4 5 81 fun r7 =>
  geti r7 x4 7 120 fun i8 =>
  if i8 ≤ 0 then (f_X10_eldest_b70 N z (f_X10_eldest_b6 N z n) o v1 v2 v3 x4) else (getr r5 x4 5 81 fun r9 =>
  obj r9 x4 7 fun q12 => bnd (f_X4_at N z q12 (0 : Int32) x4) fun i11 x10 =>
  if v1 = (-1 : Int32) then (f_X10_eldest_b65 N z (f_X10_eldest_b6 N z n) o v3 i11 x10) else (if v2 ≤ i11 then (f_X10_eldest_b70 N z (f_X10_eldest_b6 N z n) o v1 v2 v3 x10) else (f_X10_eldest_b65 N z (f_X10_eldest_b6 N z n) o v3 i11 x10)))))
def f_X10_eldest (N : Nat) (z : Nat → Nat) (o : Nat) (x0 : Hp) : Option (Int32 × Hp) :=
  f_X10_eldest_b6 N z N o (-1 : Int32) (0 : Int32) (0 : Int32) x0
set_option maxRecDepth 100000 in
set_option maxHeartbeats 4000000 in
theorem g_X10_eldest_b70 (l : Launch) (N : Nat) (z : Nat → Nat) {k6 : Nat → Int32 → Int32 → Int32 → Hp → Option (Int32 × Hp)} (hk6 : ∀ o v1 v2 v3 x, G l z m_X10_eldest okT enI 6 [(0, va_rf (some o)), (1, .int v1), (2, .int v2), (3, .int v3)] [] x (k6 o v1 v2 v3 x)) (o : Nat) (v1 : Int32) (v2 : Int32) (v3 : Int32) (x0 : Hp) : G l z m_X10_eldest okT enI 70 [(0, va_rf (some o)), (1, .int v1), (2, .int v2), (3, .int v3)] [] x0 (f_X10_eldest_b70 N z k6 o v1 v2 v3 x0) := by
  unfold f_X10_eldest_b70
  refine G_iinc (i := 3) (l2 := [(0, va_rf (some o)), (1, .int v1), (2, .int v2)]) 3 [0, 1, 2] dX10_eldest_70 rfl rfl (Nat.le_of_ble_eq_true rfl) rfl (sok_a (by decide) (by decide) (sok_a (by decide) (by decide) (sok_b (by decide) rfl trivial))) ?_
  refine G_goto (tgt := 6) dX10_eldest_73 (by decide) ?_
  refine G_lv [1, 2, 3, 0] rfl ?_
  exact hk6 o v1 v2 (v3 + (1 : Int32)) x0

set_option maxRecDepth 100000 in
set_option maxHeartbeats 4000000 in
theorem g_X10_eldest_b65 (l : Launch) (N : Nat) (z : Nat → Nat) {k6 : Nat → Int32 → Int32 → Int32 → Hp → Option (Int32 × Hp)} (hk6 : ∀ o v1 v2 v3 x, G l z m_X10_eldest okT enI 6 [(0, va_rf (some o)), (1, .int v1), (2, .int v2), (3, .int v3)] [] x (k6 o v1 v2 v3 x)) (o : Nat) (v3 : Int32) (v5 : Int32) (x0 : Hp) : G l z m_X10_eldest okT enI 65 [(0, va_rf (some o)), (3, .int v3), (5, .int v5)] [] x0 (f_X10_eldest_b65 N z k6 o v3 v5 x0) := by
  unfold f_X10_eldest_b65
  refine G_iload_n 1 dX10_eldest_65 rfl rfl ?_
  refine G_istore_n (i := 1) (l2 := [(0, va_rf (some o)), (3, .int v3), (5, .int v5)]) [0, 1, 2] dX10_eldest_66 rfl (Nat.le_of_ble_eq_true rfl) rfl (sok_b (by decide) (rf_cat _) (sok_a (by decide) (by decide) (sok_a (by decide) (by decide) trivial))) ?_
  refine G_iload 3 dX10_eldest_67 rfl ?_
  refine G_istore_n (i := 2) (l2 := [(1, .int v3), (0, va_rf (some o)), (3, .int v3), (5, .int v5)]) [0, 1, 2, 3] dX10_eldest_69 rfl (Nat.le_of_ble_eq_true rfl) rfl (sok_b (by decide) rfl (sok_a (by decide) (by decide) (sok_a (by decide) (by decide) (sok_a (by decide) (by decide) trivial)))) ?_
  refine G_lv [2, 1, 0, 3] rfl ?_
  exact g_X10_eldest_b70 l N z hk6 o v3 v5 v3 x0

set_option maxRecDepth 100000 in
set_option maxHeartbeats 4000000 in
theorem g_X10_eldest_b6 (l : Launch) (N : Nat) (z : Nat → Nat) : ∀ (n : Nat) (o : Nat) (v1 : Int32) (v2 : Int32) (v3 : Int32) (x0 : Hp), G l z m_X10_eldest okT enI 6 [(0, va_rf (some o)), (1, .int v1), (2, .int v2), (3, .int v3)] [] x0 (f_X10_eldest_b6 N z n o v1 v2 v3 x0) := by
  intro n
  induction n with
  | zero => intro o v1 v2 v3 x0; exact G_none
  | succ n ih =>
  intro o v1 v2 v3 x0
  rw [f_X10_eldest_b6]
  refine G_iload_n 3 dX10_eldest_6 rfl rfl ?_
  refine G_aload_n 0 dX10_eldest_7 rfl rfl ?_
  refine G_getr (k := 2) K_12 (by decide) rfl rfl rfl gw_456 rfl dX10_eldest_8 (fun r1 => ?_)
  refine G_geti (k := 3) K_8 (by decide) rfl rfl rfl gw_315 rfl dX10_eldest_11 (fun i2 => ?_)
  refine G_icmp_ge (tgt := 76) dX10_eldest_14 (by decide) (fun _ => ?_) (fun _ => ?_)
  · refine G_iload_n 1 dX10_eldest_76 rfl rfl ?_
    exact G_ret trivial dX10_eldest_77 rfl
  · refine G_aload_n 0 dX10_eldest_17 rfl rfl ?_
    refine G_getr (k := 2) K_12 (by decide) rfl rfl rfl gw_456 rfl dX10_eldest_18 (fun r3 => ?_)
    refine G_iload_n 3 dX10_eldest_21 rfl rfl ?_
    refine G_callV (av := [.int v3]) [] (fun q6 => ct_X6_laneAt l N z q6 v3) K_8 rfl yn_X6_laneAt (Nat.le_of_ble_eq_true rfl) (by decide) gw_564 gw_554 gw_555 gw_42 gw_556 rfl (by decide) dX10_eldest_22 (fun r5 x4 => ?_)
    refine G_astore (i := 4) (l2 := [(0, va_rf (some o)), (1, .int v1), (2, .int v2), (3, .int v3)]) [0, 1, 2, 3] dX10_eldest_25 (Nat.le_of_ble_eq_true rfl) rfl (sok_a (by decide) (by decide) (sok_a (by decide) (by decide) (sok_a (by decide) (by decide) (sok_b (by decide) rfl trivial)))) ?_
    refine G_aload 0 dX10_eldest_27 rfl ?_
    refine G_ifnull (tgt := 70) dX10_eldest_29 (by decide) (fun _ => ?_) (fun _ => ?_)
    · refine G_lv [1, 2, 3, 4] rfl ?_
      exact g_X10_eldest_b70 l N z ih o v1 v2 v3 x4
    · refine G_aload 0 dX10_eldest_32 rfl ?_
      refine G_getr (k := 1) K_4 (by decide) rfl rfl rfl gw_212 rfl dX10_eldest_34 (fun r7 => ?_)
      refine G_geti (k := 0) K_6 (by decide) rfl rfl rfl gw_196 rfl dX10_eldest_37 (fun i8 => ?_)
      refine G_if_le (tgt := 70) dX10_eldest_40 (by decide) (fun _ => ?_) (fun _ => ?_)
      · refine G_lv [1, 2, 3, 4] rfl ?_
        exact g_X10_eldest_b70 l N z ih o v1 v2 v3 x4
      · refine G_aload 0 dX10_eldest_43 rfl ?_
        refine G_getr (k := 1) K_4 (by decide) rfl rfl rfl gw_212 rfl dX10_eldest_45 (fun r9 => ?_)
        refine G_iconst (v := (0 : Int32)) dX10_eldest_48 rfl ?_
        refine G_callV (av := [.int (0 : Int32)]) [] (fun q12 => ct_X4_at l N z q12 (0 : Int32)) K_6 rfl yn_X4_at (Nat.le_of_ble_eq_true rfl) (by decide) gw_575 gw_576 gw_577 gw_47 gw_578 rfl (by decide) dX10_eldest_49 (fun i11 x10 => ?_)
        refine G_istore (i := 5) (l2 := [(4, va_rf r5), (0, va_rf (some o)), (1, .int v1), (2, .int v2), (3, .int v3)]) [0, 1, 2, 3, 4] dX10_eldest_52 (Nat.le_of_ble_eq_true rfl) rfl (sok_b (by decide) (rf_cat _) (sok_a (by decide) (by decide) (sok_a (by decide) (by decide) (sok_a (by decide) (by decide) (sok_a (by decide) (by decide) trivial))))) ?_
        refine G_iload_n 3 dX10_eldest_54 rfl rfl ?_
        refine G_iconst (v := (-1 : Int32)) dX10_eldest_55 rfl ?_
        refine G_icmp_eq (tgt := 65) dX10_eldest_56 (by decide) (fun _ => ?_) (fun _ => ?_)
        · refine G_lv [2, 5, 0] rfl ?_
          exact g_X10_eldest_b65 l N z ih o v3 i11 x10
        · refine G_iload 0 dX10_eldest_59 rfl ?_
          refine G_iload_n 4 dX10_eldest_61 rfl rfl ?_
          refine G_icmp_ge (tgt := 70) dX10_eldest_62 (by decide) (fun _ => ?_) (fun _ => ?_)
          · refine G_lv [2, 3, 4, 5] rfl ?_
            exact g_X10_eldest_b70 l N z ih o v1 v2 v3 x10
          · refine G_lv [2, 5, 0] rfl ?_
            exact g_X10_eldest_b65 l N z ih o v3 i11 x10

set_option maxRecDepth 100000 in
set_option maxHeartbeats 4000000 in
theorem g_X10_eldest (l : Launch) (N : Nat) (z : Nat → Nat) (o : Nat) (x0 : Hp) : G l z m_X10_eldest okT enI 0 [(0, va_rf (some o))] [] x0 (f_X10_eldest N z o x0) := by
  unfold f_X10_eldest
  refine G_iconst (v := (-1 : Int32)) dX10_eldest_0 rfl ?_
  refine G_istore_n (i := 1) (l2 := [(0, va_rf (some o))]) [0] dX10_eldest_1 rfl (Nat.le_of_ble_eq_true rfl) rfl (sok_b (by decide) (rf_cat _) trivial) ?_
  refine G_iconst (v := (0 : Int32)) dX10_eldest_2 rfl ?_
  refine G_istore_n (i := 2) (l2 := [(1, .int (-1 : Int32)), (0, va_rf (some o))]) [0, 1] dX10_eldest_3 rfl (Nat.le_of_ble_eq_true rfl) rfl (sok_b (by decide) rfl (sok_a (by decide) (by decide) trivial)) ?_
  refine G_iconst (v := (0 : Int32)) dX10_eldest_4 rfl ?_
  refine G_istore_n (i := 3) (l2 := [(2, .int (0 : Int32)), (1, .int (-1 : Int32)), (0, va_rf (some o))]) [0, 1, 2] dX10_eldest_5 rfl (Nat.le_of_ble_eq_true rfl) rfl (sok_b (by decide) rfl (sok_a (by decide) (by decide) (sok_a (by decide) (by decide) trivial))) ?_
  refine G_lv [3, 2, 1, 0] rfl ?_
  exact g_X10_eldest_b6 l N z N o (-1 : Int32) (0 : Int32) (0 : Int32) x0

theorem yn_X10_eldest : Yn yX10_eldest 0 := ⟨by decide +kernel, by decide +kernel, by decide +kernel⟩
theorem ct_X10_eldest (l : Launch) (N : Nat) (z : Nat → Nat) (o : Nat) : Ct l z yX10_eldest cX10_eldest 6 (some .int) 3 enI [.ref o] (f_X10_eldest N z o) :=
  Ct_i (fun x => G_lv0 (by simp only [lva_n, lva_i, lva_o, lva_r, lva_j]) (g_X10_eldest l N z o x)) (by decide +kernel) (by simp only [lgl_n, lgl_i, lgl_o, lgl_r, lgl_j]; decide)

theorem dX10_bring_0 : decode cX10_bring 0 = .ok (.aload_n 0, 1) := by decide +kernel
theorem dX10_bring_1 : decode cX10_bring 1 = .ok (.getfield 31, 3) := by decide +kernel
theorem dX10_bring_4 : decode cX10_bring 4 = .ok (.iload_n 1, 1) := by decide +kernel
theorem dX10_bring_5 : decode cX10_bring 5 = .ok (.invokevirtual 91, 3) := by decide +kernel
theorem dX10_bring_8 : decode cX10_bring 8 = .ok (.astore_n 3, 1) := by decide +kernel
theorem dX10_bring_9 : decode cX10_bring 9 = .ok (.aload_n 3, 1) := by decide +kernel
theorem dX10_bring_10 : decode cX10_bring 10 = .ok (.ifnonnull 13, 3) := by decide +kernel
theorem dX10_bring_13 : decode cX10_bring 13 = .ok (.new 82, 3) := by decide +kernel
theorem dX10_bring_23 : decode cX10_bring 23 = .ok (.iload_n 2, 1) := by decide +kernel
theorem dX10_bring_24 : decode cX10_bring 24 = .ok (.iconst 1, 1) := by decide +kernel
theorem dX10_bring_25 : decode cX10_bring 25 = .ok (.if_icmp .lt 9, 3) := by decide +kernel
theorem dX10_bring_28 : decode cX10_bring 28 = .ok (.iload_n 2, 1) := by decide +kernel
theorem dX10_bring_29 : decode cX10_bring 29 = .ok (.bipush 30, 2) := by decide +kernel
theorem dX10_bring_31 : decode cX10_bring 31 = .ok (.if_icmp .le 13, 3) := by decide +kernel
theorem dX10_bring_34 : decode cX10_bring 34 = .ok (.new 56, 3) := by decide +kernel
theorem dX10_bring_44 : decode cX10_bring 44 = .ok (.aload_n 3, 1) := by decide +kernel
theorem dX10_bring_45 : decode cX10_bring 45 = .ok (.getfield 151, 3) := by decide +kernel
theorem dX10_bring_48 : decode cX10_bring 48 = .ok (.istore 4, 2) := by decide +kernel
theorem dX10_bring_50 : decode cX10_bring 50 = .ok (.aload_n 0, 1) := by decide +kernel
theorem dX10_bring_51 : decode cX10_bring 51 = .ok (.getfield 31, 3) := by decide +kernel
theorem dX10_bring_54 : decode cX10_bring 54 = .ok (.aload_n 3, 1) := by decide +kernel
theorem dX10_bring_55 : decode cX10_bring 55 = .ok (.iload_n 2, 1) := by decide +kernel
theorem dX10_bring_56 : decode cX10_bring 56 = .ok (.invokevirtual 154, 3) := by decide +kernel
theorem dX10_bring_59 : decode cX10_bring 59 = .ok (.aload_n 3, 1) := by decide +kernel
theorem dX10_bring_60 : decode cX10_bring 60 = .ok (.getfield 151, 3) := by decide +kernel
theorem dX10_bring_63 : decode cX10_bring 63 = .ok (.iload 4, 2) := by decide +kernel
theorem dX10_bring_65 : decode cX10_bring 65 = .ok (.isub, 1) := by decide +kernel
theorem dX10_bring_66 : decode cX10_bring 66 = .ok (.ireturn, 1) := by decide +kernel
abbrev m_X10_bring : Mt := (cX10_bring, RX10, "bring", 5, .ireturn, 5)
def f_X10_bring (N : Nat) (z : Nat → Nat) (o : Nat) (v1 : Int32) (v2 : Int32) (x0 : Hp) : Option (Int32 × Hp) :=
  getr (some o) x0 13 242 fun r1 =>
  obj r1 x0 9 fun q4 => bnd (f_X6_laneAt N z q4 v1 x0) fun r3 x2 =>
  if r3 = none then (none) else (if v2 < (1 : Int32) then (none) else (if v2 ≤ (30 : Int32) then (geti r3 x2 5 87 fun i5 =>
  getr (some o) x2 13 242 fun r6 =>
  obj r6 x2 9 fun q8 => bnd (f_X6_takeIn N z q8 r3 v2 x2) fun _ x7 =>
  geti r3 x7 5 87 fun i9 =>
  some (i9 - i5, x7)) else (none)))
set_option maxRecDepth 100000 in
set_option maxHeartbeats 4000000 in
theorem g_X10_bring (l : Launch) (N : Nat) (z : Nat → Nat) (o : Nat) (v1 : Int32) (v2 : Int32) (x0 : Hp) : G l z m_X10_bring okT enI 0 [(0, va_rf (some o)), (1, .int v1), (2, .int v2)] [] x0 (f_X10_bring N z o v1 v2 x0) := by
  unfold f_X10_bring
  refine G_aload_n 0 dX10_bring_0 rfl rfl ?_
  refine G_getr (k := 2) K_12 (by decide) rfl rfl rfl gw_456 rfl dX10_bring_1 (fun r1 => ?_)
  refine G_iload_n 1 dX10_bring_4 rfl rfl ?_
  refine G_callV (av := [.int v1]) [] (fun q4 => ct_X6_laneAt l N z q4 v1) K_8 rfl yn_X6_laneAt (Nat.le_of_ble_eq_true rfl) (by decide) gw_564 gw_554 gw_555 gw_42 gw_556 rfl (by decide) dX10_bring_5 (fun r3 x2 => ?_)
  refine G_astore_n (i := 3) (l2 := [(0, va_rf (some o)), (1, .int v1), (2, .int v2)]) [0, 1, 2] dX10_bring_8 rfl (Nat.le_of_ble_eq_true rfl) rfl (sok_a (by decide) (by decide) (sok_a (by decide) (by decide) (sok_b (by decide) rfl trivial))) ?_
  refine G_aload_n 0 dX10_bring_9 rfl rfl ?_
  refine G_ifnonnull (tgt := 23) dX10_bring_10 (by decide) (fun _ => ?_) (fun _ => ?_)
  · exact G_none
  · refine G_iload_n 3 dX10_bring_23 rfl rfl ?_
    refine G_iconst (v := (1 : Int32)) dX10_bring_24 rfl ?_
    refine G_icmp_lt (tgt := 34) dX10_bring_25 (by decide) (fun _ => ?_) (fun _ => ?_)
    · exact G_none
    · refine G_iload_n 3 dX10_bring_28 rfl rfl ?_
      refine G_bipush (v := (30 : Int32)) dX10_bring_29 (by decide) ?_
      refine G_icmp_le (tgt := 44) dX10_bring_31 (by decide) (fun _ => ?_) (fun _ => ?_)
      · refine G_aload_n 0 dX10_bring_44 rfl rfl ?_
        refine G_geti (k := 7) K_4 (by decide) rfl rfl rfl gw_229 rfl dX10_bring_45 (fun i5 => ?_)
        refine G_istore (i := 4) (l2 := [(3, va_rf r3), (0, va_rf (some o)), (1, .int v1), (2, .int v2)]) [0, 1, 2, 3] dX10_bring_48 (Nat.le_of_ble_eq_true rfl) rfl (sok_b (by decide) (rf_cat _) (sok_a (by decide) (by decide) (sok_a (by decide) (by decide) (sok_a (by decide) (by decide) trivial)))) ?_
        refine G_aload_n 2 dX10_bring_50 rfl rfl ?_
        refine G_getr (k := 2) K_12 (by decide) rfl rfl rfl gw_456 rfl dX10_bring_51 (fun r6 => ?_)
        refine G_aload_n 1 dX10_bring_54 rfl rfl ?_
        refine G_iload_n 4 dX10_bring_55 rfl rfl ?_
        refine G_callV (av := [va_rf r3, .int v2]) [] (fun q8 => ct_X6_takeIn l N z q8 r3 v2) K_8 rfl yn_X6_takeIn (Nat.le_of_ble_eq_true rfl) (by decide) gw_1467 gw_685 gw_686 gw_42 gw_687 rfl (by decide) dX10_bring_56 (fun _ x7 => ?_)
        refine G_aload_n 1 dX10_bring_59 rfl rfl ?_
        refine G_geti (k := 7) K_4 (by decide) rfl rfl rfl gw_229 rfl dX10_bring_60 (fun i9 => ?_)
        refine G_iload 0 dX10_bring_63 rfl ?_
        refine G_isub dX10_bring_65 ?_
        exact G_ret trivial dX10_bring_66 rfl
      · exact G_none

theorem yn_X10_bring : Yn yX10_bring 2 := ⟨by decide +kernel, by decide +kernel, by decide +kernel⟩
theorem ct_X10_bring (l : Launch) (N : Nat) (z : Nat → Nat) (o : Nat) (v1 : Int32) (v2 : Int32) : Ct l z yX10_bring cX10_bring 5 (some .int) 5 enI [.ref o, .int v1, .int v2] (f_X10_bring N z o v1 v2) :=
  Ct_i (fun x => G_lv0 (by simp only [lva_n, lva_i, lva_o, lva_r, lva_j]) (g_X10_bring l N z o v1 v2 x)) (by decide +kernel) (by simp only [lgl_n, lgl_i, lgl_o, lgl_r, lgl_j]; decide)

theorem dX10_give_0 : decode cX10_give 0 = .ok (.aload_n 0, 1) := by decide +kernel
theorem dX10_give_1 : decode cX10_give 1 = .ok (.getfield 31, 3) := by decide +kernel
theorem dX10_give_4 : decode cX10_give 4 = .ok (.iload_n 1, 1) := by decide +kernel
theorem dX10_give_5 : decode cX10_give 5 = .ok (.invokevirtual 91, 3) := by decide +kernel
theorem dX10_give_8 : decode cX10_give 8 = .ok (.astore_n 3, 1) := by decide +kernel
theorem dX10_give_9 : decode cX10_give 9 = .ok (.aload_n 3, 1) := by decide +kernel
theorem dX10_give_10 : decode cX10_give 10 = .ok (.ifnonnull 13, 3) := by decide +kernel
theorem dX10_give_13 : decode cX10_give 13 = .ok (.new 82, 3) := by decide +kernel
theorem dX10_give_23 : decode cX10_give 23 = .ok (.iload_n 2, 1) := by decide +kernel
theorem dX10_give_24 : decode cX10_give 24 = .ok (.iconst 1, 1) := by decide +kernel
theorem dX10_give_25 : decode cX10_give 25 = .ok (.if_icmp .lt 9, 3) := by decide +kernel
theorem dX10_give_28 : decode cX10_give 28 = .ok (.iload_n 2, 1) := by decide +kernel
theorem dX10_give_29 : decode cX10_give 29 = .ok (.bipush 99, 2) := by decide +kernel
theorem dX10_give_31 : decode cX10_give 31 = .ok (.if_icmp .le 13, 3) := by decide +kernel
theorem dX10_give_34 : decode cX10_give 34 = .ok (.new 56, 3) := by decide +kernel
theorem dX10_give_44 : decode cX10_give 44 = .ok (.aload_n 3, 1) := by decide +kernel
theorem dX10_give_45 : decode cX10_give 45 = .ok (.iload_n 2, 1) := by decide +kernel
theorem dX10_give_46 : decode cX10_give 46 = .ok (.invokevirtual 160, 3) := by decide +kernel
theorem dX10_give_49 : decode cX10_give 49 = .ok (.aload_n 3, 1) := by decide +kernel
theorem dX10_give_50 : decode cX10_give 50 = .ok (.getfield 163, 3) := by decide +kernel
theorem dX10_give_53 : decode cX10_give 53 = .ok (.ireturn, 1) := by decide +kernel
abbrev m_X10_give : Mt := (cX10_give, RX10, "give", 4, .ireturn, 3)
def f_X10_give (N : Nat) (z : Nat → Nat) (o : Nat) (v1 : Int32) (v2 : Int32) (x0 : Hp) : Option (Int32 × Hp) :=
  getr (some o) x0 13 242 fun r1 =>
  obj r1 x0 9 fun q4 => bnd (f_X6_laneAt N z q4 v1 x0) fun r3 x2 =>
  if r3 = none then (none) else (if v2 < (1 : Int32) then (none) else (if v2 ≤ (99 : Int32) then (obj r3 x2 5 fun q6 => bnd (f_X2_getTokens N z q6 v2 x2) fun _ x5 =>
  geti r3 x5 5 85 fun i7 =>
  some (i7, x5)) else (none)))
set_option maxRecDepth 100000 in
set_option maxHeartbeats 4000000 in
theorem g_X10_give (l : Launch) (N : Nat) (z : Nat → Nat) (o : Nat) (v1 : Int32) (v2 : Int32) (x0 : Hp) : G l z m_X10_give okT enI 0 [(0, va_rf (some o)), (1, .int v1), (2, .int v2)] [] x0 (f_X10_give N z o v1 v2 x0) := by
  unfold f_X10_give
  refine G_aload_n 0 dX10_give_0 rfl rfl ?_
  refine G_getr (k := 2) K_12 (by decide) rfl rfl rfl gw_456 rfl dX10_give_1 (fun r1 => ?_)
  refine G_iload_n 1 dX10_give_4 rfl rfl ?_
  refine G_callV (av := [.int v1]) [] (fun q4 => ct_X6_laneAt l N z q4 v1) K_8 rfl yn_X6_laneAt (Nat.le_of_ble_eq_true rfl) (by decide) gw_564 gw_554 gw_555 gw_42 gw_556 rfl (by decide) dX10_give_5 (fun r3 x2 => ?_)
  refine G_astore_n (i := 3) (l2 := [(0, va_rf (some o)), (1, .int v1), (2, .int v2)]) [0, 1, 2] dX10_give_8 rfl (Nat.le_of_ble_eq_true rfl) rfl (sok_a (by decide) (by decide) (sok_a (by decide) (by decide) (sok_b (by decide) rfl trivial))) ?_
  refine G_aload_n 0 dX10_give_9 rfl rfl ?_
  refine G_ifnonnull (tgt := 23) dX10_give_10 (by decide) (fun _ => ?_) (fun _ => ?_)
  · exact G_none
  · refine G_iload_n 3 dX10_give_23 rfl rfl ?_
    refine G_iconst (v := (1 : Int32)) dX10_give_24 rfl ?_
    refine G_icmp_lt (tgt := 34) dX10_give_25 (by decide) (fun _ => ?_) (fun _ => ?_)
    · exact G_none
    · refine G_iload_n 3 dX10_give_28 rfl rfl ?_
      refine G_bipush (v := (99 : Int32)) dX10_give_29 (by decide) ?_
      refine G_icmp_le (tgt := 44) dX10_give_31 (by decide) (fun _ => ?_) (fun _ => ?_)
      · refine G_aload_n 0 dX10_give_44 rfl rfl ?_
        refine G_iload_n 3 dX10_give_45 rfl rfl ?_
        refine G_callV (av := [.int v2]) [] (fun q6 => ct_X2_getTokens l N z q6 v2) K_4 rfl yn_X2_getTokens (Nat.le_of_ble_eq_true rfl) (by decide) gw_1475 gw_701 gw_702 gw_46 gw_703 rfl (by decide) dX10_give_46 (fun _ x5 => ?_)
        refine G_aload_n 0 dX10_give_49 rfl rfl ?_
        refine G_geti (k := 5) K_4 (by decide) rfl rfl rfl gw_224 rfl dX10_give_50 (fun i7 => ?_)
        exact G_ret trivial dX10_give_53 rfl
      · exact G_none

theorem yn_X10_give : Yn yX10_give 2 := ⟨by decide +kernel, by decide +kernel, by decide +kernel⟩
theorem ct_X10_give (l : Launch) (N : Nat) (z : Nat → Nat) (o : Nat) (v1 : Int32) (v2 : Int32) : Ct l z yX10_give cX10_give 4 (some .int) 3 enI [.ref o, .int v1, .int v2] (f_X10_give N z o v1 v2) :=
  Ct_i (fun x => G_lv0 (by simp only [lva_n, lva_i, lva_o, lva_r, lva_j]) (g_X10_give l N z o v1 v2 x)) (by decide +kernel) (by simp only [lgl_n, lgl_i, lgl_o, lgl_r, lgl_j]; decide)

theorem dX10_setRate_0 : decode cX10_setRate 0 = .ok (.aload_n 0, 1) := by decide +kernel
theorem dX10_setRate_1 : decode cX10_setRate 1 = .ok (.getfield 31, 3) := by decide +kernel
theorem dX10_setRate_4 : decode cX10_setRate 4 = .ok (.iload_n 1, 1) := by decide +kernel
theorem dX10_setRate_5 : decode cX10_setRate 5 = .ok (.invokevirtual 91, 3) := by decide +kernel
theorem dX10_setRate_8 : decode cX10_setRate 8 = .ok (.astore_n 3, 1) := by decide +kernel
theorem dX10_setRate_9 : decode cX10_setRate 9 = .ok (.aload_n 3, 1) := by decide +kernel
theorem dX10_setRate_10 : decode cX10_setRate 10 = .ok (.ifnonnull 13, 3) := by decide +kernel
theorem dX10_setRate_13 : decode cX10_setRate 13 = .ok (.new 82, 3) := by decide +kernel
theorem dX10_setRate_23 : decode cX10_setRate 23 = .ok (.iload_n 2, 1) := by decide +kernel
theorem dX10_setRate_24 : decode cX10_setRate 24 = .ok (.ifCond .lt 9, 3) := by decide +kernel
theorem dX10_setRate_27 : decode cX10_setRate 27 = .ok (.iload_n 2, 1) := by decide +kernel
theorem dX10_setRate_28 : decode cX10_setRate 28 = .ok (.bipush 30, 2) := by decide +kernel
theorem dX10_setRate_30 : decode cX10_setRate 30 = .ok (.if_icmp .le 13, 3) := by decide +kernel
theorem dX10_setRate_33 : decode cX10_setRate 33 = .ok (.new 56, 3) := by decide +kernel
theorem dX10_setRate_43 : decode cX10_setRate 43 = .ok (.aload_n 3, 1) := by decide +kernel
theorem dX10_setRate_44 : decode cX10_setRate 44 = .ok (.getfield 168, 3) := by decide +kernel
theorem dX10_setRate_47 : decode cX10_setRate 47 = .ok (.istore 4, 2) := by decide +kernel
theorem dX10_setRate_49 : decode cX10_setRate 49 = .ok (.aload_n 3, 1) := by decide +kernel
theorem dX10_setRate_50 : decode cX10_setRate 50 = .ok (.iload_n 2, 1) := by decide +kernel
theorem dX10_setRate_51 : decode cX10_setRate 51 = .ok (.putfield 168, 3) := by decide +kernel
theorem dX10_setRate_54 : decode cX10_setRate 54 = .ok (.iload 4, 2) := by decide +kernel
theorem dX10_setRate_56 : decode cX10_setRate 56 = .ok (.ireturn, 1) := by decide +kernel
abbrev m_X10_setRate : Mt := (cX10_setRate, RX10, "setRate", 5, .ireturn, 2)
def f_X10_setRate (N : Nat) (z : Nat → Nat) (o : Nat) (v1 : Int32) (v2 : Int32) (x0 : Hp) : Option (Int32 × Hp) :=
  getr (some o) x0 13 242 fun r1 =>
  obj r1 x0 9 fun q4 => bnd (f_X6_laneAt N z q4 v1 x0) fun r3 x2 =>
  if r3 = none then (none) else (if v2 < 0 then (none) else (if v2 ≤ (30 : Int32) then (geti r3 x2 5 83 fun i5 =>
  puti r3 x2 5 83 v2 fun x6 =>
  some (i5, x6)) else (none)))
set_option maxRecDepth 100000 in
set_option maxHeartbeats 4000000 in
theorem g_X10_setRate (l : Launch) (N : Nat) (z : Nat → Nat) (o : Nat) (v1 : Int32) (v2 : Int32) (x0 : Hp) : G l z m_X10_setRate okT enI 0 [(0, va_rf (some o)), (1, .int v1), (2, .int v2)] [] x0 (f_X10_setRate N z o v1 v2 x0) := by
  unfold f_X10_setRate
  refine G_aload_n 0 dX10_setRate_0 rfl rfl ?_
  refine G_getr (k := 2) K_12 (by decide) rfl rfl rfl gw_456 rfl dX10_setRate_1 (fun r1 => ?_)
  refine G_iload_n 1 dX10_setRate_4 rfl rfl ?_
  refine G_callV (av := [.int v1]) [] (fun q4 => ct_X6_laneAt l N z q4 v1) K_8 rfl yn_X6_laneAt (Nat.le_of_ble_eq_true rfl) (by decide) gw_564 gw_554 gw_555 gw_42 gw_556 rfl (by decide) dX10_setRate_5 (fun r3 x2 => ?_)
  refine G_astore_n (i := 3) (l2 := [(0, va_rf (some o)), (1, .int v1), (2, .int v2)]) [0, 1, 2] dX10_setRate_8 rfl (Nat.le_of_ble_eq_true rfl) rfl (sok_a (by decide) (by decide) (sok_a (by decide) (by decide) (sok_b (by decide) rfl trivial))) ?_
  refine G_aload_n 0 dX10_setRate_9 rfl rfl ?_
  refine G_ifnonnull (tgt := 23) dX10_setRate_10 (by decide) (fun _ => ?_) (fun _ => ?_)
  · exact G_none
  · refine G_iload_n 3 dX10_setRate_23 rfl rfl ?_
    refine G_if_lt (tgt := 33) dX10_setRate_24 (by decide) (fun _ => ?_) (fun _ => ?_)
    · exact G_none
    · refine G_iload_n 3 dX10_setRate_27 rfl rfl ?_
      refine G_bipush (v := (30 : Int32)) dX10_setRate_28 (by decide) ?_
      refine G_icmp_le (tgt := 43) dX10_setRate_30 (by decide) (fun _ => ?_) (fun _ => ?_)
      · refine G_aload_n 0 dX10_setRate_43 rfl rfl ?_
        refine G_geti (k := 3) K_4 (by decide) rfl rfl rfl gw_219 rfl dX10_setRate_44 (fun i5 => ?_)
        refine G_istore (i := 4) (l2 := [(3, va_rf r3), (0, va_rf (some o)), (1, .int v1), (2, .int v2)]) [0, 1, 2, 3] dX10_setRate_47 (Nat.le_of_ble_eq_true rfl) rfl (sok_b (by decide) (rf_cat _) (sok_a (by decide) (by decide) (sok_a (by decide) (by decide) (sok_a (by decide) (by decide) trivial)))) ?_
        refine G_aload_n 1 dX10_setRate_49 rfl rfl ?_
        refine G_iload_n 4 dX10_setRate_50 rfl rfl ?_
        refine G_puti (k := 3) K_4 (by decide) rfl rfl rfl gw_219 rfl (Or.inl rfl) nar_int.1 nar_int.2 dX10_setRate_51 (fun x6 => ?_)
        refine G_iload 0 dX10_setRate_54 rfl ?_
        exact G_ret trivial dX10_setRate_56 rfl
      · exact G_none

theorem yn_X10_setRate : Yn yX10_setRate 2 := ⟨by decide +kernel, by decide +kernel, by decide +kernel⟩
theorem ct_X10_setRate (l : Launch) (N : Nat) (z : Nat → Nat) (o : Nat) (v1 : Int32) (v2 : Int32) : Ct l z yX10_setRate cX10_setRate 5 (some .int) 2 enI [.ref o, .int v1, .int v2] (f_X10_setRate N z o v1 v2) :=
  Ct_i (fun x => G_lv0 (by simp only [lva_n, lva_i, lva_o, lva_r, lva_j]) (g_X10_setRate l N z o v1 v2 x)) (by decide +kernel) (by simp only [lgl_n, lgl_i, lgl_o, lgl_r, lgl_j]; decide)

theorem dX10_setMost_0 : decode cX10_setMost 0 = .ok (.aload_n 0, 1) := by decide +kernel
theorem dX10_setMost_1 : decode cX10_setMost 1 = .ok (.getfield 31, 3) := by decide +kernel
theorem dX10_setMost_4 : decode cX10_setMost 4 = .ok (.iload_n 1, 1) := by decide +kernel
theorem dX10_setMost_5 : decode cX10_setMost 5 = .ok (.invokevirtual 91, 3) := by decide +kernel
theorem dX10_setMost_8 : decode cX10_setMost 8 = .ok (.astore_n 3, 1) := by decide +kernel
theorem dX10_setMost_9 : decode cX10_setMost 9 = .ok (.aload_n 3, 1) := by decide +kernel
theorem dX10_setMost_10 : decode cX10_setMost 10 = .ok (.ifnonnull 13, 3) := by decide +kernel
theorem dX10_setMost_13 : decode cX10_setMost 13 = .ok (.new 82, 3) := by decide +kernel
theorem dX10_setMost_23 : decode cX10_setMost 23 = .ok (.iload_n 2, 1) := by decide +kernel
theorem dX10_setMost_24 : decode cX10_setMost 24 = .ok (.ifCond .lt 9, 3) := by decide +kernel
theorem dX10_setMost_27 : decode cX10_setMost 27 = .ok (.iload_n 2, 1) := by decide +kernel
theorem dX10_setMost_28 : decode cX10_setMost 28 = .ok (.bipush 30, 2) := by decide +kernel
theorem dX10_setMost_30 : decode cX10_setMost 30 = .ok (.if_icmp .le 13, 3) := by decide +kernel
theorem dX10_setMost_33 : decode cX10_setMost 33 = .ok (.new 56, 3) := by decide +kernel
theorem dX10_setMost_43 : decode cX10_setMost 43 = .ok (.aload_n 3, 1) := by decide +kernel
theorem dX10_setMost_44 : decode cX10_setMost 44 = .ok (.getfield 173, 3) := by decide +kernel
theorem dX10_setMost_47 : decode cX10_setMost 47 = .ok (.istore 4, 2) := by decide +kernel
theorem dX10_setMost_49 : decode cX10_setMost 49 = .ok (.aload_n 3, 1) := by decide +kernel
theorem dX10_setMost_50 : decode cX10_setMost 50 = .ok (.iload_n 2, 1) := by decide +kernel
theorem dX10_setMost_51 : decode cX10_setMost 51 = .ok (.putfield 173, 3) := by decide +kernel
theorem dX10_setMost_54 : decode cX10_setMost 54 = .ok (.iload 4, 2) := by decide +kernel
theorem dX10_setMost_56 : decode cX10_setMost 56 = .ok (.ireturn, 1) := by decide +kernel
abbrev m_X10_setMost : Mt := (cX10_setMost, RX10, "setMost", 5, .ireturn, 2)
def f_X10_setMost (N : Nat) (z : Nat → Nat) (o : Nat) (v1 : Int32) (v2 : Int32) (x0 : Hp) : Option (Int32 × Hp) :=
  getr (some o) x0 13 242 fun r1 =>
  obj r1 x0 9 fun q4 => bnd (f_X6_laneAt N z q4 v1 x0) fun r3 x2 =>
  if r3 = none then (none) else (if v2 < 0 then (none) else (if v2 ≤ (30 : Int32) then (geti r3 x2 5 84 fun i5 =>
  puti r3 x2 5 84 v2 fun x6 =>
  some (i5, x6)) else (none)))
set_option maxRecDepth 100000 in
set_option maxHeartbeats 4000000 in
theorem g_X10_setMost (l : Launch) (N : Nat) (z : Nat → Nat) (o : Nat) (v1 : Int32) (v2 : Int32) (x0 : Hp) : G l z m_X10_setMost okT enI 0 [(0, va_rf (some o)), (1, .int v1), (2, .int v2)] [] x0 (f_X10_setMost N z o v1 v2 x0) := by
  unfold f_X10_setMost
  refine G_aload_n 0 dX10_setMost_0 rfl rfl ?_
  refine G_getr (k := 2) K_12 (by decide) rfl rfl rfl gw_456 rfl dX10_setMost_1 (fun r1 => ?_)
  refine G_iload_n 1 dX10_setMost_4 rfl rfl ?_
  refine G_callV (av := [.int v1]) [] (fun q4 => ct_X6_laneAt l N z q4 v1) K_8 rfl yn_X6_laneAt (Nat.le_of_ble_eq_true rfl) (by decide) gw_564 gw_554 gw_555 gw_42 gw_556 rfl (by decide) dX10_setMost_5 (fun r3 x2 => ?_)
  refine G_astore_n (i := 3) (l2 := [(0, va_rf (some o)), (1, .int v1), (2, .int v2)]) [0, 1, 2] dX10_setMost_8 rfl (Nat.le_of_ble_eq_true rfl) rfl (sok_a (by decide) (by decide) (sok_a (by decide) (by decide) (sok_b (by decide) rfl trivial))) ?_
  refine G_aload_n 0 dX10_setMost_9 rfl rfl ?_
  refine G_ifnonnull (tgt := 23) dX10_setMost_10 (by decide) (fun _ => ?_) (fun _ => ?_)
  · exact G_none
  · refine G_iload_n 3 dX10_setMost_23 rfl rfl ?_
    refine G_if_lt (tgt := 33) dX10_setMost_24 (by decide) (fun _ => ?_) (fun _ => ?_)
    · exact G_none
    · refine G_iload_n 3 dX10_setMost_27 rfl rfl ?_
      refine G_bipush (v := (30 : Int32)) dX10_setMost_28 (by decide) ?_
      refine G_icmp_le (tgt := 43) dX10_setMost_30 (by decide) (fun _ => ?_) (fun _ => ?_)
      · refine G_aload_n 0 dX10_setMost_43 rfl rfl ?_
        refine G_geti (k := 4) K_4 (by decide) rfl rfl rfl gw_222 rfl dX10_setMost_44 (fun i5 => ?_)
        refine G_istore (i := 4) (l2 := [(3, va_rf r3), (0, va_rf (some o)), (1, .int v1), (2, .int v2)]) [0, 1, 2, 3] dX10_setMost_47 (Nat.le_of_ble_eq_true rfl) rfl (sok_b (by decide) (rf_cat _) (sok_a (by decide) (by decide) (sok_a (by decide) (by decide) (sok_a (by decide) (by decide) trivial)))) ?_
        refine G_aload_n 1 dX10_setMost_49 rfl rfl ?_
        refine G_iload_n 4 dX10_setMost_50 rfl rfl ?_
        refine G_puti (k := 4) K_4 (by decide) rfl rfl rfl gw_222 rfl (Or.inl rfl) nar_int.1 nar_int.2 dX10_setMost_51 (fun x6 => ?_)
        refine G_iload 0 dX10_setMost_54 rfl ?_
        exact G_ret trivial dX10_setMost_56 rfl
      · exact G_none

theorem yn_X10_setMost : Yn yX10_setMost 2 := ⟨by decide +kernel, by decide +kernel, by decide +kernel⟩
theorem ct_X10_setMost (l : Launch) (N : Nat) (z : Nat → Nat) (o : Nat) (v1 : Int32) (v2 : Int32) : Ct l z yX10_setMost cX10_setMost 5 (some .int) 2 enI [.ref o, .int v1, .int v2] (f_X10_setMost N z o v1 v2) :=
  Ct_i (fun x => G_lv0 (by simp only [lva_n, lva_i, lva_o, lva_r, lva_j]) (g_X10_setMost l N z o v1 v2 x)) (by decide +kernel) (by simp only [lgl_n, lgl_i, lgl_o, lgl_r, lgl_j]; decide)

theorem dX10_setWell_0 : decode cX10_setWell 0 = .ok (.iload_n 1, 1) := by decide +kernel
theorem dX10_setWell_1 : decode cX10_setWell 1 = .ok (.ifCond .lt 9, 3) := by decide +kernel
theorem dX10_setWell_4 : decode cX10_setWell 4 = .ok (.iload_n 1, 1) := by decide +kernel
theorem dX10_setWell_5 : decode cX10_setWell 5 = .ok (.bipush 30, 2) := by decide +kernel
theorem dX10_setWell_7 : decode cX10_setWell 7 = .ok (.if_icmp .le 13, 3) := by decide +kernel
theorem dX10_setWell_10 : decode cX10_setWell 10 = .ok (.new 56, 3) := by decide +kernel
theorem dX10_setWell_20 : decode cX10_setWell 20 = .ok (.aload_n 0, 1) := by decide +kernel
theorem dX10_setWell_21 : decode cX10_setWell 21 = .ok (.getfield 31, 3) := by decide +kernel
theorem dX10_setWell_24 : decode cX10_setWell 24 = .ok (.getfield 178, 3) := by decide +kernel
theorem dX10_setWell_27 : decode cX10_setWell 27 = .ok (.istore_n 2, 1) := by decide +kernel
theorem dX10_setWell_28 : decode cX10_setWell 28 = .ok (.aload_n 0, 1) := by decide +kernel
theorem dX10_setWell_29 : decode cX10_setWell 29 = .ok (.getfield 31, 3) := by decide +kernel
theorem dX10_setWell_32 : decode cX10_setWell 32 = .ok (.iload_n 1, 1) := by decide +kernel
theorem dX10_setWell_33 : decode cX10_setWell 33 = .ok (.putfield 178, 3) := by decide +kernel
theorem dX10_setWell_36 : decode cX10_setWell 36 = .ok (.iload_n 2, 1) := by decide +kernel
theorem dX10_setWell_37 : decode cX10_setWell 37 = .ok (.ireturn, 1) := by decide +kernel
abbrev m_X10_setWell : Mt := (cX10_setWell, RX10, "setWell", 3, .ireturn, 1)
def f_X10_setWell (N : Nat) (z : Nat → Nat) (o : Nat) (v1 : Int32) (x0 : Hp) : Option (Int32 × Hp) :=
  if v1 < 0 then (none) else (if v1 ≤ (30 : Int32) then (getr (some o) x0 13 242 fun r1 =>
  geti r1 x0 9 162 fun i2 =>
  getr (some o) x0 13 242 fun r3 =>
  puti r3 x0 9 162 v1 fun x4 =>
  some (i2, x4)) else (none))
set_option maxRecDepth 100000 in
set_option maxHeartbeats 4000000 in
theorem g_X10_setWell (l : Launch) (N : Nat) (z : Nat → Nat) (o : Nat) (v1 : Int32) (x0 : Hp) : G l z m_X10_setWell okT enI 0 [(0, va_rf (some o)), (1, .int v1)] [] x0 (f_X10_setWell N z o v1 x0) := by
  unfold f_X10_setWell
  refine G_iload_n 1 dX10_setWell_0 rfl rfl ?_
  refine G_if_lt (tgt := 10) dX10_setWell_1 (by decide) (fun _ => ?_) (fun _ => ?_)
  · exact G_none
  · refine G_iload_n 1 dX10_setWell_4 rfl rfl ?_
    refine G_bipush (v := (30 : Int32)) dX10_setWell_5 (by decide) ?_
    refine G_icmp_le (tgt := 20) dX10_setWell_7 (by decide) (fun _ => ?_) (fun _ => ?_)
    · refine G_aload_n 0 dX10_setWell_20 rfl rfl ?_
      refine G_getr (k := 2) K_12 (by decide) rfl rfl rfl gw_456 rfl dX10_setWell_21 (fun r1 => ?_)
      refine G_geti (k := 2) K_8 (by decide) rfl rfl rfl gw_312 rfl dX10_setWell_24 (fun i2 => ?_)
      refine G_istore_n (i := 2) (l2 := [(0, va_rf (some o)), (1, .int v1)]) [0, 1] dX10_setWell_27 rfl (Nat.le_of_ble_eq_true rfl) rfl (sok_a (by decide) (by decide) (sok_b (by decide) rfl trivial)) ?_
      refine G_aload_n 1 dX10_setWell_28 rfl rfl ?_
      refine G_getr (k := 2) K_12 (by decide) rfl rfl rfl gw_456 rfl dX10_setWell_29 (fun r3 => ?_)
      refine G_iload_n 2 dX10_setWell_32 rfl rfl ?_
      refine G_puti (k := 2) K_8 (by decide) rfl rfl rfl gw_312 rfl (Or.inl rfl) nar_int.1 nar_int.2 dX10_setWell_33 (fun x4 => ?_)
      refine G_iload_n 0 dX10_setWell_36 rfl rfl ?_
      exact G_ret trivial dX10_setWell_37 rfl
    · exact G_none

theorem yn_X10_setWell : Yn yX10_setWell 1 := ⟨by decide +kernel, by decide +kernel, by decide +kernel⟩
theorem ct_X10_setWell (l : Launch) (N : Nat) (z : Nat → Nat) (o : Nat) (v1 : Int32) : Ct l z yX10_setWell cX10_setWell 3 (some .int) 1 enI [.ref o, .int v1] (f_X10_setWell N z o v1) :=
  Ct_i (fun x => G_lv0 (by simp only [lva_n, lva_i, lva_o, lva_r, lva_j]) (g_X10_setWell l N z o v1 x)) (by decide +kernel) (by simp only [lgl_n, lgl_i, lgl_o, lgl_r, lgl_j]; decide)

theorem dX10_pass_0 : decode cX10_pass 0 = .ok (.iload_n 1, 1) := by decide +kernel
theorem dX10_pass_1 : decode cX10_pass 1 = .ok (.iconst 1, 1) := by decide +kernel
theorem dX10_pass_2 : decode cX10_pass 2 = .ok (.if_icmp .lt 9, 3) := by decide +kernel
theorem dX10_pass_5 : decode cX10_pass 5 = .ok (.iload_n 1, 1) := by decide +kernel
theorem dX10_pass_6 : decode cX10_pass 6 = .ok (.bipush 100, 2) := by decide +kernel
theorem dX10_pass_8 : decode cX10_pass 8 = .ok (.if_icmp .le 13, 3) := by decide +kernel
theorem dX10_pass_11 : decode cX10_pass 11 = .ok (.new 56, 3) := by decide +kernel
theorem dX10_pass_21 : decode cX10_pass 21 = .ok (.iconst 0, 1) := by decide +kernel
theorem dX10_pass_22 : decode cX10_pass 22 = .ok (.istore_n 2, 1) := by decide +kernel
theorem dX10_pass_23 : decode cX10_pass 23 = .ok (.iconst 0, 1) := by decide +kernel
theorem dX10_pass_24 : decode cX10_pass 24 = .ok (.istore_n 3, 1) := by decide +kernel
theorem dX10_pass_25 : decode cX10_pass 25 = .ok (.iload_n 3, 1) := by decide +kernel
theorem dX10_pass_26 : decode cX10_pass 26 = .ok (.iload_n 1, 1) := by decide +kernel
theorem dX10_pass_27 : decode cX10_pass 27 = .ok (.if_icmp .ge 19, 3) := by decide +kernel
theorem dX10_pass_30 : decode cX10_pass 30 = .ok (.iload_n 2, 1) := by decide +kernel
theorem dX10_pass_31 : decode cX10_pass 31 = .ok (.aload_n 0, 1) := by decide +kernel
theorem dX10_pass_32 : decode cX10_pass 32 = .ok (.getfield 31, 3) := by decide +kernel
theorem dX10_pass_35 : decode cX10_pass 35 = .ok (.invokevirtual 183, 3) := by decide +kernel
theorem dX10_pass_38 : decode cX10_pass 38 = .ok (.iadd, 1) := by decide +kernel
theorem dX10_pass_39 : decode cX10_pass 39 = .ok (.istore_n 2, 1) := by decide +kernel
theorem dX10_pass_40 : decode cX10_pass 40 = .ok (.iinc 3 1, 3) := by decide +kernel
theorem dX10_pass_43 : decode cX10_pass 43 = .ok (.goto (-18), 3) := by decide +kernel
theorem dX10_pass_46 : decode cX10_pass 46 = .ok (.iload_n 2, 1) := by decide +kernel
theorem dX10_pass_47 : decode cX10_pass 47 = .ok (.ireturn, 1) := by decide +kernel
abbrev m_X10_pass : Mt := (cX10_pass, RX10, "pass", 4, .ireturn, 7)
def f_X10_pass_b25 (N : Nat) (z : Nat → Nat) : Nat → Nat → Int32 → Int32 → Int32 → Hp → Option (Int32 × Hp)
  | 0, _, _, _, _, _ => none
  | n + 1, o, v1, v2, v3, x0 => if v1 ≤ v3 then (some (v2, x0)) else (getr (some o) x0 13 242 fun r1 =>
  obj r1 x0 9 fun q4 => bnd (f_X6_goOneMinute N z q4 x0) fun i3 x2 =>
  f_X10_pass_b25 N z n o v1 (v2 + i3) (v3 + (1 : Int32)) x2)
def f_X10_pass (N : Nat) (z : Nat → Nat) (o : Nat) (v1 : Int32) (x0 : Hp) : Option (Int32 × Hp) :=
  if v1 < (1 : Int32) then (none) else (if v1 ≤ (100 : Int32) then (f_X10_pass_b25 N z N o v1 (0 : Int32) (0 : Int32) x0) else (none))
set_option maxRecDepth 100000 in
set_option maxHeartbeats 4000000 in
theorem g_X10_pass_b25 (l : Launch) (N : Nat) (z : Nat → Nat) : ∀ (n : Nat) (o : Nat) (v1 : Int32) (v2 : Int32) (v3 : Int32) (x0 : Hp), G l z m_X10_pass okT enI 25 [(0, va_rf (some o)), (1, .int v1), (2, .int v2), (3, .int v3)] [] x0 (f_X10_pass_b25 N z n o v1 v2 v3 x0) := by
  intro n
  induction n with
  | zero => intro o v1 v2 v3 x0; exact G_none
  | succ n ih =>
  intro o v1 v2 v3 x0
  rw [f_X10_pass_b25]
  refine G_iload_n 3 dX10_pass_25 rfl rfl ?_
  refine G_iload_n 1 dX10_pass_26 rfl rfl ?_
  refine G_icmp_ge (tgt := 46) dX10_pass_27 (by decide) (fun _ => ?_) (fun _ => ?_)
  · refine G_iload_n 2 dX10_pass_46 rfl rfl ?_
    exact G_ret trivial dX10_pass_47 rfl
  · refine G_iload_n 2 dX10_pass_30 rfl rfl ?_
    refine G_aload_n 0 dX10_pass_31 rfl rfl ?_
    refine G_getr (k := 2) K_12 (by decide) rfl rfl rfl gw_456 rfl dX10_pass_32 (fun r1 => ?_)
    refine G_callV (av := []) [.int v2] (fun q4 => ct_X6_goOneMinute l N z q4) K_8 rfl yn_X6_goOneMinute (Nat.le_of_ble_eq_true rfl) (by decide) gw_623 gw_624 gw_625 gw_42 gw_626 rfl (by simp only [hw_n, hw_i, hw_r, hw_j, hw_d]; decide) dX10_pass_35 (fun i3 x2 => ?_)
    refine G_iadd dX10_pass_38 ?_
    refine G_istore_n (i := 2) (l2 := [(0, va_rf (some o)), (1, .int v1), (3, .int v3)]) [0, 1, 3] dX10_pass_39 rfl (Nat.le_of_ble_eq_true rfl) rfl (sok_a (by decide) (by decide) (sok_b (by decide) rfl (sok_a (by decide) (by decide) trivial))) ?_
    refine G_iinc (i := 3) (l2 := [(2, .int (v2 + i3)), (0, va_rf (some o)), (1, .int v1)]) 3 [0, 1, 2] dX10_pass_40 rfl rfl (Nat.le_of_ble_eq_true rfl) rfl (sok_b (by decide) rfl (sok_a (by decide) (by decide) (sok_a (by decide) (by decide) trivial))) ?_
    refine G_goto (tgt := 25) dX10_pass_43 (by decide) ?_
    refine G_lv [2, 3, 1, 0] rfl ?_
    exact ih o v1 (v2 + i3) (v3 + (1 : Int32)) x2

set_option maxRecDepth 100000 in
set_option maxHeartbeats 4000000 in
theorem g_X10_pass (l : Launch) (N : Nat) (z : Nat → Nat) (o : Nat) (v1 : Int32) (x0 : Hp) : G l z m_X10_pass okT enI 0 [(0, va_rf (some o)), (1, .int v1)] [] x0 (f_X10_pass N z o v1 x0) := by
  unfold f_X10_pass
  refine G_iload_n 1 dX10_pass_0 rfl rfl ?_
  refine G_iconst (v := (1 : Int32)) dX10_pass_1 rfl ?_
  refine G_icmp_lt (tgt := 11) dX10_pass_2 (by decide) (fun _ => ?_) (fun _ => ?_)
  · exact G_none
  · refine G_iload_n 1 dX10_pass_5 rfl rfl ?_
    refine G_bipush (v := (100 : Int32)) dX10_pass_6 (by decide) ?_
    refine G_icmp_le (tgt := 21) dX10_pass_8 (by decide) (fun _ => ?_) (fun _ => ?_)
    · refine G_iconst (v := (0 : Int32)) dX10_pass_21 rfl ?_
      refine G_istore_n (i := 2) (l2 := [(0, va_rf (some o)), (1, .int v1)]) [0, 1] dX10_pass_22 rfl (Nat.le_of_ble_eq_true rfl) rfl (sok_a (by decide) (by decide) (sok_b (by decide) rfl trivial)) ?_
      refine G_iconst (v := (0 : Int32)) dX10_pass_23 rfl ?_
      refine G_istore_n (i := 3) (l2 := [(2, .int (0 : Int32)), (0, va_rf (some o)), (1, .int v1)]) [0, 1, 2] dX10_pass_24 rfl (Nat.le_of_ble_eq_true rfl) rfl (sok_b (by decide) rfl (sok_a (by decide) (by decide) (sok_a (by decide) (by decide) trivial))) ?_
      refine G_lv [2, 3, 1, 0] rfl ?_
      exact g_X10_pass_b25 l N z N o v1 (0 : Int32) (0 : Int32) x0
    · exact G_none

theorem yn_X10_pass : Yn yX10_pass 1 := ⟨by decide +kernel, by decide +kernel, by decide +kernel⟩
theorem ct_X10_pass (l : Launch) (N : Nat) (z : Nat → Nat) (o : Nat) (v1 : Int32) : Ct l z yX10_pass cX10_pass 4 (some .int) 7 enI [.ref o, .int v1] (f_X10_pass N z o v1) :=
  Ct_i (fun x => G_lv0 (by simp only [lva_n, lva_i, lva_o, lva_r, lva_j]) (g_X10_pass l N z o v1 x)) (by decide +kernel) (by simp only [lgl_n, lgl_i, lgl_o, lgl_r, lgl_j]; decide)

theorem dX10_foresee_0 : decode cX10_foresee 0 = .ok (.iload_n 1, 1) := by decide +kernel
theorem dX10_foresee_1 : decode cX10_foresee 1 = .ok (.iconst 1, 1) := by decide +kernel
theorem dX10_foresee_2 : decode cX10_foresee 2 = .ok (.if_icmp .lt 9, 3) := by decide +kernel
theorem dX10_foresee_5 : decode cX10_foresee 5 = .ok (.iload_n 1, 1) := by decide +kernel
theorem dX10_foresee_6 : decode cX10_foresee 6 = .ok (.bipush 100, 2) := by decide +kernel
theorem dX10_foresee_8 : decode cX10_foresee 8 = .ok (.if_icmp .le 13, 3) := by decide +kernel
theorem dX10_foresee_11 : decode cX10_foresee 11 = .ok (.new 56, 3) := by decide +kernel
theorem dX10_foresee_21 : decode cX10_foresee 21 = .ok (.iload_n 2, 1) := by decide +kernel
theorem dX10_foresee_22 : decode cX10_foresee 22 = .ok (.iconst 5, 1) := by decide +kernel
theorem dX10_foresee_23 : decode cX10_foresee 23 = .ok (.if_icmp .lt 9, 3) := by decide +kernel
theorem dX10_foresee_26 : decode cX10_foresee 26 = .ok (.iload_n 2, 1) := by decide +kernel
theorem dX10_foresee_27 : decode cX10_foresee 27 = .ok (.bipush 11, 2) := by decide +kernel
theorem dX10_foresee_29 : decode cX10_foresee 29 = .ok (.if_icmp .le 13, 3) := by decide +kernel
theorem dX10_foresee_32 : decode cX10_foresee 32 = .ok (.new 82, 3) := by decide +kernel
theorem dX10_foresee_42 : decode cX10_foresee 42 = .ok (.aload_n 0, 1) := by decide +kernel
theorem dX10_foresee_43 : decode cX10_foresee 43 = .ok (.getfield 35, 3) := by decide +kernel
theorem dX10_foresee_46 : decode cX10_foresee 46 = .ok (.aload_n 0, 1) := by decide +kernel
theorem dX10_foresee_47 : decode cX10_foresee 47 = .ok (.getfield 31, 3) := by decide +kernel
theorem dX10_foresee_50 : decode cX10_foresee 50 = .ok (.invokevirtual 72, 3) := by decide +kernel
theorem dX10_foresee_53 : decode cX10_foresee 53 = .ok (.iconst 0, 1) := by decide +kernel
theorem dX10_foresee_54 : decode cX10_foresee 54 = .ok (.istore_n 3, 1) := by decide +kernel
theorem dX10_foresee_55 : decode cX10_foresee 55 = .ok (.iload_n 3, 1) := by decide +kernel
theorem dX10_foresee_56 : decode cX10_foresee 56 = .ok (.iload_n 1, 1) := by decide +kernel
theorem dX10_foresee_57 : decode cX10_foresee 57 = .ok (.if_icmp .ge 17, 3) := by decide +kernel
theorem dX10_foresee_60 : decode cX10_foresee 60 = .ok (.aload_n 0, 1) := by decide +kernel
theorem dX10_foresee_61 : decode cX10_foresee 61 = .ok (.getfield 35, 3) := by decide +kernel
theorem dX10_foresee_64 : decode cX10_foresee 64 = .ok (.invokevirtual 183, 3) := by decide +kernel
theorem dX10_foresee_67 : decode cX10_foresee 67 = .ok (.pop, 1) := by decide +kernel
theorem dX10_foresee_68 : decode cX10_foresee 68 = .ok (.iinc 3 1, 3) := by decide +kernel
theorem dX10_foresee_71 : decode cX10_foresee 71 = .ok (.goto (-16), 3) := by decide +kernel
theorem dX10_foresee_74 : decode cX10_foresee 74 = .ok (.aload_n 0, 1) := by decide +kernel
theorem dX10_foresee_75 : decode cX10_foresee 75 = .ok (.getfield 35, 3) := by decide +kernel
theorem dX10_foresee_78 : decode cX10_foresee 78 = .ok (.iload_n 2, 1) := by decide +kernel
theorem dX10_foresee_79 : decode cX10_foresee 79 = .ok (.invokevirtual 191, 3) := by decide +kernel
theorem dX10_foresee_82 : decode cX10_foresee 82 = .ok (.ireturn, 1) := by decide +kernel
abbrev m_X10_foresee : Mt := (cX10_foresee, RX10, "foresee", 4, .ireturn, 7)
def f_X10_foresee_b55 (N : Nat) (z : Nat → Nat) : Nat → Nat → Int32 → Int32 → Int32 → Hp → Option (Int32 × Hp)
  | 0, _, _, _, _, _ => none
  | n + 1, o, v1, v2, v3, x0 => if v1 ≤ v3 then (getr (some o) x0 13 243 fun r1 =>
  obj r1 x0 9 fun q4 => bnd (f_X6_tally N z q4 v2 x0) fun i3 x2 =>
  some (i3, x2)) else (getr (some o) x0 13 243 fun r5 =>
  obj r5 x0 9 fun q8 => bnd (f_X6_goOneMinute N z q8 x0) fun i7 x6 =>
  f_X10_foresee_b55 N z n o v1 v2 (v3 + (1 : Int32)) x6)
def f_X10_foresee (N : Nat) (z : Nat → Nat) (o : Nat) (v1 : Int32) (v2 : Int32) (x0 : Hp) : Option (Int32 × Hp) :=
  if v1 < (1 : Int32) then (none) else (if v1 ≤ (100 : Int32) then (if v2 < (5 : Int32) then (none) else (if v2 ≤ (11 : Int32) then (getr (some o) x0 13 243 fun r9 =>
  getr (some o) x0 13 242 fun r10 =>
  obj r9 x0 9 fun q12 => bnd (f_X6_copyFrom N z q12 r10 x0) fun _ x11 =>
  f_X10_foresee_b55 N z N o v1 v2 (0 : Int32) x11) else (none))) else (none))
set_option maxRecDepth 100000 in
set_option maxHeartbeats 4000000 in
theorem g_X10_foresee_b55 (l : Launch) (N : Nat) (z : Nat → Nat) : ∀ (n : Nat) (o : Nat) (v1 : Int32) (v2 : Int32) (v3 : Int32) (x0 : Hp), G l z m_X10_foresee okT enI 55 [(0, va_rf (some o)), (1, .int v1), (2, .int v2), (3, .int v3)] [] x0 (f_X10_foresee_b55 N z n o v1 v2 v3 x0) := by
  intro n
  induction n with
  | zero => intro o v1 v2 v3 x0; exact G_none
  | succ n ih =>
  intro o v1 v2 v3 x0
  rw [f_X10_foresee_b55]
  refine G_iload_n 3 dX10_foresee_55 rfl rfl ?_
  refine G_iload_n 1 dX10_foresee_56 rfl rfl ?_
  refine G_icmp_ge (tgt := 74) dX10_foresee_57 (by decide) (fun _ => ?_) (fun _ => ?_)
  · refine G_aload_n 0 dX10_foresee_74 rfl rfl ?_
    refine G_getr (k := 3) K_12 (by decide) rfl rfl rfl gw_457 rfl dX10_foresee_75 (fun r1 => ?_)
    refine G_iload_n 2 dX10_foresee_78 rfl rfl ?_
    refine G_callV (av := [.int v2]) [] (fun q4 => ct_X6_tally l N z q4 v2) K_8 rfl yn_X6_tally (Nat.le_of_ble_eq_true rfl) (by decide) gw_545 gw_546 gw_547 gw_42 gw_548 rfl (by decide) dX10_foresee_79 (fun i3 x2 => ?_)
    exact G_ret trivial dX10_foresee_82 rfl
  · refine G_aload_n 0 dX10_foresee_60 rfl rfl ?_
    refine G_getr (k := 3) K_12 (by decide) rfl rfl rfl gw_457 rfl dX10_foresee_61 (fun r5 => ?_)
    refine G_callV (av := []) [] (fun q8 => ct_X6_goOneMinute l N z q8) K_8 rfl yn_X6_goOneMinute (Nat.le_of_ble_eq_true rfl) (by decide) gw_623 gw_624 gw_625 gw_42 gw_626 rfl (by decide) dX10_foresee_64 (fun i7 x6 => ?_)
    refine G_pop dX10_foresee_67 rfl ?_
    refine G_iinc (i := 3) (l2 := [(0, va_rf (some o)), (1, .int v1), (2, .int v2)]) 3 [0, 1, 2] dX10_foresee_68 rfl rfl (Nat.le_of_ble_eq_true rfl) rfl (sok_a (by decide) (by decide) (sok_a (by decide) (by decide) (sok_b (by decide) rfl trivial))) ?_
    refine G_goto (tgt := 55) dX10_foresee_71 (by decide) ?_
    refine G_lv [1, 2, 3, 0] rfl ?_
    exact ih o v1 v2 (v3 + (1 : Int32)) x6

set_option maxRecDepth 100000 in
set_option maxHeartbeats 4000000 in
theorem g_X10_foresee (l : Launch) (N : Nat) (z : Nat → Nat) (o : Nat) (v1 : Int32) (v2 : Int32) (x0 : Hp) : G l z m_X10_foresee okT enI 0 [(0, va_rf (some o)), (1, .int v1), (2, .int v2)] [] x0 (f_X10_foresee N z o v1 v2 x0) := by
  unfold f_X10_foresee
  refine G_iload_n 1 dX10_foresee_0 rfl rfl ?_
  refine G_iconst (v := (1 : Int32)) dX10_foresee_1 rfl ?_
  refine G_icmp_lt (tgt := 11) dX10_foresee_2 (by decide) (fun _ => ?_) (fun _ => ?_)
  · exact G_none
  · refine G_iload_n 1 dX10_foresee_5 rfl rfl ?_
    refine G_bipush (v := (100 : Int32)) dX10_foresee_6 (by decide) ?_
    refine G_icmp_le (tgt := 21) dX10_foresee_8 (by decide) (fun _ => ?_) (fun _ => ?_)
    · refine G_iload_n 2 dX10_foresee_21 rfl rfl ?_
      refine G_iconst (v := (5 : Int32)) dX10_foresee_22 rfl ?_
      refine G_icmp_lt (tgt := 32) dX10_foresee_23 (by decide) (fun _ => ?_) (fun _ => ?_)
      · exact G_none
      · refine G_iload_n 2 dX10_foresee_26 rfl rfl ?_
        refine G_bipush (v := (11 : Int32)) dX10_foresee_27 (by decide) ?_
        refine G_icmp_le (tgt := 42) dX10_foresee_29 (by decide) (fun _ => ?_) (fun _ => ?_)
        · refine G_aload_n 0 dX10_foresee_42 rfl rfl ?_
          refine G_getr (k := 3) K_12 (by decide) rfl rfl rfl gw_457 rfl dX10_foresee_43 (fun r9 => ?_)
          refine G_aload_n 0 dX10_foresee_46 rfl rfl ?_
          refine G_getr (k := 2) K_12 (by decide) rfl rfl rfl gw_456 rfl dX10_foresee_47 (fun r10 => ?_)
          refine G_callV (av := [va_rf r10]) [] (fun q12 => ct_X6_copyFrom l N z q12 r10) K_8 rfl yn_X6_copyFrom (Nat.le_of_ble_eq_true rfl) (by decide) gw_741 gw_742 gw_743 gw_42 gw_744 rfl (by decide) dX10_foresee_50 (fun _ x11 => ?_)
          refine G_iconst (v := (0 : Int32)) dX10_foresee_53 rfl ?_
          refine G_istore_n (i := 3) (l2 := [(0, va_rf (some o)), (1, .int v1), (2, .int v2)]) [0, 1, 2] dX10_foresee_54 rfl (Nat.le_of_ble_eq_true rfl) rfl (sok_a (by decide) (by decide) (sok_a (by decide) (by decide) (sok_b (by decide) rfl trivial))) ?_
          refine G_lv [1, 2, 3, 0] rfl ?_
          exact g_X10_foresee_b55 l N z N o v1 v2 (0 : Int32) x11
        · exact G_none
    · exact G_none

theorem yn_X10_foresee : Yn yX10_foresee 2 := ⟨by decide +kernel, by decide +kernel, by decide +kernel⟩
theorem ct_X10_foresee (l : Launch) (N : Nat) (z : Nat → Nat) (o : Nat) (v1 : Int32) (v2 : Int32) : Ct l z yX10_foresee cX10_foresee 4 (some .int) 7 enI [.ref o, .int v1, .int v2] (f_X10_foresee N z o v1 v2) :=
  Ct_i (fun x => G_lv0 (by simp only [lva_n, lva_i, lva_o, lva_r, lva_j]) (g_X10_foresee l N z o v1 v2 x)) (by decide +kernel) (by simp only [lgl_n, lgl_i, lgl_o, lgl_r, lgl_j]; decide)

theorem dX10_mean_0 : decode cX10_mean 0 = .ok (.iconst 0, 1) := by decide +kernel
theorem dX10_mean_1 : decode cX10_mean 1 = .ok (.istore_n 1, 1) := by decide +kernel
theorem dX10_mean_2 : decode cX10_mean 2 = .ok (.iconst 0, 1) := by decide +kernel
theorem dX10_mean_3 : decode cX10_mean 3 = .ok (.istore_n 2, 1) := by decide +kernel
theorem dX10_mean_4 : decode cX10_mean 4 = .ok (.iconst 0, 1) := by decide +kernel
theorem dX10_mean_5 : decode cX10_mean 5 = .ok (.istore_n 3, 1) := by decide +kernel
theorem dX10_mean_6 : decode cX10_mean 6 = .ok (.iload_n 3, 1) := by decide +kernel
theorem dX10_mean_7 : decode cX10_mean 7 = .ok (.aload_n 0, 1) := by decide +kernel
theorem dX10_mean_8 : decode cX10_mean 8 = .ok (.getfield 31, 3) := by decide +kernel
theorem dX10_mean_11 : decode cX10_mean 11 = .ok (.getfield 146, 3) := by decide +kernel
theorem dX10_mean_14 : decode cX10_mean 14 = .ok (.if_icmp .ge 40, 3) := by decide +kernel
theorem dX10_mean_17 : decode cX10_mean 17 = .ok (.aload_n 0, 1) := by decide +kernel
theorem dX10_mean_18 : decode cX10_mean 18 = .ok (.getfield 31, 3) := by decide +kernel
theorem dX10_mean_21 : decode cX10_mean 21 = .ok (.iload_n 3, 1) := by decide +kernel
theorem dX10_mean_22 : decode cX10_mean 22 = .ok (.invokevirtual 91, 3) := by decide +kernel
theorem dX10_mean_25 : decode cX10_mean 25 = .ok (.astore 4, 2) := by decide +kernel
theorem dX10_mean_27 : decode cX10_mean 27 = .ok (.aload 4, 2) := by decide +kernel
theorem dX10_mean_29 : decode cX10_mean 29 = .ok (.ifnull 19, 3) := by decide +kernel
theorem dX10_mean_32 : decode cX10_mean 32 = .ok (.iload_n 1, 1) := by decide +kernel
theorem dX10_mean_33 : decode cX10_mean 33 = .ok (.aload 4, 2) := by decide +kernel
theorem dX10_mean_35 : decode cX10_mean 35 = .ok (.getfield 200, 3) := by decide +kernel
theorem dX10_mean_38 : decode cX10_mean 38 = .ok (.iadd, 1) := by decide +kernel
theorem dX10_mean_39 : decode cX10_mean 39 = .ok (.istore_n 1, 1) := by decide +kernel
theorem dX10_mean_40 : decode cX10_mean 40 = .ok (.iload_n 2, 1) := by decide +kernel
theorem dX10_mean_41 : decode cX10_mean 41 = .ok (.aload 4, 2) := by decide +kernel
theorem dX10_mean_43 : decode cX10_mean 43 = .ok (.getfield 203, 3) := by decide +kernel
theorem dX10_mean_46 : decode cX10_mean 46 = .ok (.iadd, 1) := by decide +kernel
theorem dX10_mean_47 : decode cX10_mean 47 = .ok (.istore_n 2, 1) := by decide +kernel
theorem dX10_mean_48 : decode cX10_mean 48 = .ok (.iinc 3 1, 3) := by decide +kernel
theorem dX10_mean_51 : decode cX10_mean 51 = .ok (.goto (-45), 3) := by decide +kernel
theorem dX10_mean_54 : decode cX10_mean 54 = .ok (.iload_n 1, 1) := by decide +kernel
theorem dX10_mean_55 : decode cX10_mean 55 = .ok (.ifCond .ne 7, 3) := by decide +kernel
theorem dX10_mean_58 : decode cX10_mean 58 = .ok (.dconst 0, 1) := by decide +kernel
theorem dX10_mean_59 : decode cX10_mean 59 = .ok (.goto 8, 3) := by decide +kernel
theorem dX10_mean_62 : decode cX10_mean 62 = .ok (.iload_n 2, 1) := by decide +kernel
theorem dX10_mean_63 : decode cX10_mean 63 = .ok (.i2d, 1) := by decide +kernel
theorem dX10_mean_64 : decode cX10_mean 64 = .ok (.iload_n 1, 1) := by decide +kernel
theorem dX10_mean_65 : decode cX10_mean 65 = .ok (.i2d, 1) := by decide +kernel
theorem dX10_mean_66 : decode cX10_mean 66 = .ok (.ddiv, 1) := by decide +kernel
theorem dX10_mean_67 : decode cX10_mean 67 = .ok (.dreturn, 1) := by decide +kernel
abbrev m_X10_mean : Mt := (cX10_mean, RX10, "mean", 5, .dreturn, 2)
def f_X10_mean_b48 (N : Nat) (z : Nat → Nat) (k6 : Nat → Int32 → Int32 → Int32 → Hp → Option (UInt64 × Hp)) (o : Nat) (v1 : Int32) (v2 : Int32) (v3 : Int32) (x0 : Hp) : Option (UInt64 × Hp) :=
  k6 o v1 v2 (v3 + (1 : Int32)) x0
def f_X10_mean_b6 (N : Nat) (z : Nat → Nat) : Nat → Nat → Int32 → Int32 → Int32 → Hp → Option (UInt64 × Hp)
  | 0, _, _, _, _, _ => none
  | n + 1, o, v1, v2, v3, x0 => getr (some o) x0 13 242 fun r1 =>
  geti r1 x0 9 163 fun i2 =>
  if i2 ≤ v3 then (if v1 = 0 then (some (FP.dconst0, x0)) else (nnan (FP.ddiv (FP.i2d v2) (FP.i2d v1)) <|
  some (FP.ddiv (FP.i2d v2) (FP.i2d v1), x0))) else (getr (some o) x0 13 242 fun r3 =>
  obj r3 x0 9 fun q6 => bnd (f_X6_laneAt N z q6 v3 x0) fun r5 x4 =>
  if r5 = none then (f_X10_mean_b48 N z (f_X10_mean_b6 N z n) o v1 v2 v3 x4) else (geti r5 x4 5 86 fun i7 =>
  geti r5 x4 5 89 fun i8 =>
  f_X10_mean_b48 N z (f_X10_mean_b6 N z n) o (v1 + i7) (v2 + i8) v3 x4))
def f_X10_mean (N : Nat) (z : Nat → Nat) (o : Nat) (x0 : Hp) : Option (UInt64 × Hp) :=
  f_X10_mean_b6 N z N o (0 : Int32) (0 : Int32) (0 : Int32) x0
set_option maxRecDepth 100000 in
set_option maxHeartbeats 4000000 in
theorem g_X10_mean_b48 (l : Launch) (N : Nat) (z : Nat → Nat) {k6 : Nat → Int32 → Int32 → Int32 → Hp → Option (UInt64 × Hp)} (hk6 : ∀ o v1 v2 v3 x, G l z m_X10_mean okT enD 6 [(0, va_rf (some o)), (1, .int v1), (2, .int v2), (3, .int v3)] [] x (k6 o v1 v2 v3 x)) (o : Nat) (v1 : Int32) (v2 : Int32) (v3 : Int32) (x0 : Hp) : G l z m_X10_mean okT enD 48 [(0, va_rf (some o)), (1, .int v1), (2, .int v2), (3, .int v3)] [] x0 (f_X10_mean_b48 N z k6 o v1 v2 v3 x0) := by
  unfold f_X10_mean_b48
  refine G_iinc (i := 3) (l2 := [(0, va_rf (some o)), (1, .int v1), (2, .int v2)]) 3 [0, 1, 2] dX10_mean_48 rfl rfl (Nat.le_of_ble_eq_true rfl) rfl (sok_a (by decide) (by decide) (sok_a (by decide) (by decide) (sok_b (by decide) rfl trivial))) ?_
  refine G_goto (tgt := 6) dX10_mean_51 (by decide) ?_
  refine G_lv [1, 2, 3, 0] rfl ?_
  exact hk6 o v1 v2 (v3 + (1 : Int32)) x0

set_option maxRecDepth 100000 in
set_option maxHeartbeats 4000000 in
theorem g_X10_mean_b6 (l : Launch) (N : Nat) (z : Nat → Nat) : ∀ (n : Nat) (o : Nat) (v1 : Int32) (v2 : Int32) (v3 : Int32) (x0 : Hp), G l z m_X10_mean okT enD 6 [(0, va_rf (some o)), (1, .int v1), (2, .int v2), (3, .int v3)] [] x0 (f_X10_mean_b6 N z n o v1 v2 v3 x0) := by
  intro n
  induction n with
  | zero => intro o v1 v2 v3 x0; exact G_none
  | succ n ih =>
  intro o v1 v2 v3 x0
  rw [f_X10_mean_b6]
  refine G_iload_n 3 dX10_mean_6 rfl rfl ?_
  refine G_aload_n 0 dX10_mean_7 rfl rfl ?_
  refine G_getr (k := 2) K_12 (by decide) rfl rfl rfl gw_456 rfl dX10_mean_8 (fun r1 => ?_)
  refine G_geti (k := 3) K_8 (by decide) rfl rfl rfl gw_315 rfl dX10_mean_11 (fun i2 => ?_)
  refine G_icmp_ge (tgt := 54) dX10_mean_14 (by decide) (fun _ => ?_) (fun _ => ?_)
  · refine G_iload_n 1 dX10_mean_54 rfl rfl ?_
    refine G_if_ne (tgt := 62) dX10_mean_55 (by decide) (fun _ => ?_) (fun _ => ?_)
    · refine G_dconst0 dX10_mean_58 ?_
      refine G_goto (tgt := 67) dX10_mean_59 (by decide) ?_
      exact G_ret trivial dX10_mean_67 rfl
    · refine G_iload_n 2 dX10_mean_62 rfl rfl ?_
      refine G_i2d dX10_mean_63 ?_
      refine G_iload_n 1 dX10_mean_64 rfl rfl ?_
      refine G_i2d dX10_mean_65 ?_
      refine G_ddiv dX10_mean_66 ?_
      exact G_ret trivial dX10_mean_67 rfl
  · refine G_aload_n 0 dX10_mean_17 rfl rfl ?_
    refine G_getr (k := 2) K_12 (by decide) rfl rfl rfl gw_456 rfl dX10_mean_18 (fun r3 => ?_)
    refine G_iload_n 3 dX10_mean_21 rfl rfl ?_
    refine G_callV (av := [.int v3]) [] (fun q6 => ct_X6_laneAt l N z q6 v3) K_8 rfl yn_X6_laneAt (Nat.le_of_ble_eq_true rfl) (by decide) gw_564 gw_554 gw_555 gw_42 gw_556 rfl (by decide) dX10_mean_22 (fun r5 x4 => ?_)
    refine G_astore (i := 4) (l2 := [(0, va_rf (some o)), (1, .int v1), (2, .int v2), (3, .int v3)]) [0, 1, 2, 3] dX10_mean_25 (Nat.le_of_ble_eq_true rfl) rfl (sok_a (by decide) (by decide) (sok_a (by decide) (by decide) (sok_a (by decide) (by decide) (sok_b (by decide) rfl trivial)))) ?_
    refine G_aload 0 dX10_mean_27 rfl ?_
    refine G_ifnull (tgt := 48) dX10_mean_29 (by decide) (fun _ => ?_) (fun _ => ?_)
    · refine G_lv [1, 2, 3, 4] rfl ?_
      exact g_X10_mean_b48 l N z ih o v1 v2 v3 x4
    · refine G_iload_n 2 dX10_mean_32 rfl rfl ?_
      refine G_aload 0 dX10_mean_33 rfl ?_
      refine G_geti (k := 6) K_4 (by decide) rfl rfl rfl gw_227 rfl dX10_mean_35 (fun i7 => ?_)
      refine G_iadd dX10_mean_38 ?_
      refine G_istore_n (i := 1) (l2 := [(4, va_rf r5), (0, va_rf (some o)), (2, .int v2), (3, .int v3)]) [0, 1, 3, 4] dX10_mean_39 rfl (Nat.le_of_ble_eq_true rfl) rfl (sok_a (by decide) (by decide) (sok_b (by decide) (rf_cat _) (sok_a (by decide) (by decide) (sok_a (by decide) (by decide) trivial)))) ?_
      refine G_iload_n 3 dX10_mean_40 rfl rfl ?_
      refine G_aload 1 dX10_mean_41 rfl ?_
      refine G_geti (k := 9) K_4 (by decide) rfl rfl rfl gw_234 rfl dX10_mean_43 (fun i8 => ?_)
      refine G_iadd dX10_mean_46 ?_
      refine G_istore_n (i := 2) (l2 := [(1, .int (v1 + i7)), (4, va_rf r5), (0, va_rf (some o)), (3, .int v3)]) [0, 1, 2, 4] dX10_mean_47 rfl (Nat.le_of_ble_eq_true rfl) rfl (sok_b (by decide) rfl (sok_a (by decide) (by decide) (sok_a (by decide) (by decide) (sok_a (by decide) (by decide) trivial)))) ?_
      refine G_lv [3, 1, 0, 4] rfl ?_
      exact g_X10_mean_b48 l N z ih o (v1 + i7) (v2 + i8) v3 x4

set_option maxRecDepth 100000 in
set_option maxHeartbeats 4000000 in
theorem g_X10_mean (l : Launch) (N : Nat) (z : Nat → Nat) (o : Nat) (x0 : Hp) : G l z m_X10_mean okT enD 0 [(0, va_rf (some o))] [] x0 (f_X10_mean N z o x0) := by
  unfold f_X10_mean
  refine G_iconst (v := (0 : Int32)) dX10_mean_0 rfl ?_
  refine G_istore_n (i := 1) (l2 := [(0, va_rf (some o))]) [0] dX10_mean_1 rfl (Nat.le_of_ble_eq_true rfl) rfl (sok_b (by decide) (rf_cat _) trivial) ?_
  refine G_iconst (v := (0 : Int32)) dX10_mean_2 rfl ?_
  refine G_istore_n (i := 2) (l2 := [(1, .int (0 : Int32)), (0, va_rf (some o))]) [0, 1] dX10_mean_3 rfl (Nat.le_of_ble_eq_true rfl) rfl (sok_b (by decide) rfl (sok_a (by decide) (by decide) trivial)) ?_
  refine G_iconst (v := (0 : Int32)) dX10_mean_4 rfl ?_
  refine G_istore_n (i := 3) (l2 := [(2, .int (0 : Int32)), (1, .int (0 : Int32)), (0, va_rf (some o))]) [0, 1, 2] dX10_mean_5 rfl (Nat.le_of_ble_eq_true rfl) rfl (sok_b (by decide) rfl (sok_a (by decide) (by decide) (sok_a (by decide) (by decide) trivial))) ?_
  refine G_lv [3, 2, 1, 0] rfl ?_
  exact g_X10_mean_b6 l N z N o (0 : Int32) (0 : Int32) (0 : Int32) x0

theorem yn_X10_mean : Yn yX10_mean 0 := ⟨by decide +kernel, by decide +kernel, by decide +kernel⟩
theorem ct_X10_mean (l : Launch) (N : Nat) (z : Nat → Nat) (o : Nat) : Ct l z yX10_mean cX10_mean 5 (some .double) 2 enD [.ref o] (f_X10_mean N z o) :=
  Ct_d (fun x => G_lv0 (by simp only [lva_n, lva_i, lva_o, lva_r, lva_j]) (g_X10_mean l N z o x)) (by decide +kernel) (by simp only [lgl_n, lgl_i, lgl_o, lgl_r, lgl_j]; decide)
