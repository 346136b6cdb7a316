theorem dX5_init_0 : decode cX5_init 0 = .ok (.aload_n 0, 1) := by decide +kernel
theorem dX5_init_1 : decode cX5_init 1 = .ok (.invokespecial 3, 3) := by decide +kernel
theorem dX5_init_4 : decode cX5_init 4 = .ok (.aload_n 0, 1) := by decide +kernel
theorem dX5_init_5 : decode cX5_init 5 = .ok (.new 9, 3) := by decide +kernel
theorem dX5_init_8 : decode cX5_init 8 = .ok (.dup, 1) := by decide +kernel
theorem dX5_init_9 : decode cX5_init 9 = .ok (.new 11, 3) := by decide +kernel
theorem dX5_init_12 : decode cX5_init 12 = .ok (.dup, 1) := by decide +kernel
theorem dX5_init_13 : decode cX5_init 13 = .ok (.invokespecial 13, 3) := by decide +kernel
theorem dX5_init_16 : decode cX5_init 16 = .ok (.invokespecial 14, 3) := by decide +kernel
theorem dX5_init_19 : decode cX5_init 19 = .ok (.putfield 17, 3) := by decide +kernel
theorem dX5_init_22 : decode cX5_init 22 = .ok (.aload_n 0, 1) := by decide +kernel
theorem dX5_init_23 : decode cX5_init 23 = .ok (.new 23, 3) := by decide +kernel
theorem dX5_init_26 : decode cX5_init 26 = .ok (.dup, 1) := by decide +kernel
theorem dX5_init_27 : decode cX5_init 27 = .ok (.invokespecial 25, 3) := by decide +kernel
theorem dX5_init_30 : decode cX5_init 30 = .ok (.putfield 26, 3) := by decide +kernel
theorem dX5_init_33 : decode cX5_init 33 = .ok (.aload_n 0, 1) := by decide +kernel
theorem dX5_init_34 : decode cX5_init 34 = .ok (.bipush 6, 2) := by decide +kernel
theorem dX5_init_36 : decode cX5_init 36 = .ok (.newarray .long, 2) := by decide +kernel
theorem dX5_init_38 : decode cX5_init 38 = .ok (.putfield 30, 3) := by decide +kernel
theorem dX5_init_41 : decode cX5_init 41 = .ok (.aload_n 0, 1) := by decide +kernel
theorem dX5_init_42 : decode cX5_init 42 = .ok (.bipush 8, 2) := by decide +kernel
theorem dX5_init_44 : decode cX5_init 44 = .ok (.newarray .long, 2) := by decide +kernel
theorem dX5_init_46 : decode cX5_init 46 = .ok (.putfield 34, 3) := by decide +kernel
theorem dX5_init_49 : decode cX5_init 49 = .ok (.return_, 1) := by decide +kernel
abbrev m_X5_init : Mt := (cX5_init, RX5, "<init>", 1, .return_, 6)
def f_X5_init (N : Nat) (z : Nat → Nat) (o : Nat) (x0 : Hp) : Option (Unit × Hp) :=
  nn (some o) fun _ =>
  newo x0 9 11 fun r2 x3 =>
  newo x3 3 5 fun r4 x5 =>
  obj r4 x5 3 fun q7 => bnd (f_X0_init N z q7 x5) fun _ x6 =>
  obj r2 x6 9 fun q9 => bnd (f_X6_init N z q9 r4 x6) fun _ x8 =>
  putr (some o) x8 8 140 r2 fun x10 =>
  newo x10 12 5 fun r11 x12 =>
  obj r11 x12 12 fun q14 => bnd (f_X9_init N z q14 x12) fun _ x13 =>
  putr (some o) x13 8 142 r11 fun x15 =>
  newa x15 102 (6 : Int32) fun r16 x17 =>
  putr (some o) x17 8 143 r16 fun x18 =>
  newa x18 102 (8 : Int32) fun r19 x20 =>
  putr (some o) x20 8 144 r19 fun x21 =>
  some ((), x21)
set_option maxRecDepth 100000 in
set_option maxHeartbeats 4000000 in
theorem g_X5_init (l : Launch) (N : Nat) (z : Nat → Nat) (o : Nat) (x0 : Hp) : G l z m_X5_init okT enV 0 [(0, va_rf (some o))] [] x0 (f_X5_init N z o x0) := by
  unfold f_X5_init
  refine G_aload_n 0 dX5_init_0 rfl rfl ?_
  refine G_objInit (st := []) gw_98 gw_75 gw_76 (by decide) (by decide) dX5_init_1 (fun _ => ?_)
  refine G_aload_n 0 dX5_init_4 rfl rfl ?_
  refine G_new K_8 rfl gw_99 gw_100 gw_42 dX5_init_5 (fun r2 x3 => ?_)
  refine G_dup dX5_init_8 (rf_cat _) ?_
  refine G_new K_2 rfl gw_101 gw_102 gw_43 dX5_init_9 (fun r4 x5 => ?_)
  refine G_dup dX5_init_12 (rf_cat _) ?_
  refine G_callI (av := []) [va_rf r4, va_rf r2, va_rf r2, va_rf (some o)] (fun q7 => ct_X0_init l N z q7) rfl yn_X0_init (Nat.le_of_ble_eq_true rfl) (by decide) gw_103 gw_104 gw_43 gw_105 rfl (by simp only [hw_n, hw_i, hw_r, hw_j, hw_d]; decide) dX5_init_13 (fun x6 => ?_)
  refine G_callI (av := [va_rf r4]) [va_rf r2, va_rf (some o)] (fun q9 => ct_X6_init l N z q9 r4) rfl yn_X6_init (Nat.le_of_ble_eq_true rfl) (by decide) gw_162 gw_163 gw_42 gw_164 rfl (by simp only [hw_n, hw_i, hw_r, hw_j, hw_d]; decide) dX5_init_16 (fun x8 => ?_)
  refine G_putr (k := 0) K_7 (by decide) rfl rfl rfl gw_426 rfl (Or.inr ⟨rfl, rfl, rfl⟩) nar_obj.1 nar_obj.2 dX5_init_19 (fun x10 => ?_)
  refine G_aload_n 0 dX5_init_22 rfl rfl ?_
  refine G_new K_11 rfl gw_347 gw_348 gw_49 dX5_init_23 (fun r11 x12 => ?_)
  refine G_dup dX5_init_26 (rf_cat _) ?_
  refine G_callI (av := []) [va_rf r11, va_rf (some o)] (fun q14 => ct_X9_init l N z q14) rfl yn_X9_init (Nat.le_of_ble_eq_true rfl) (by decide) gw_349 gw_350 gw_49 gw_351 rfl (by simp only [hw_n, hw_i, hw_r, hw_j, hw_d]; decide) dX5_init_27 (fun x13 => ?_)
  refine G_putr (k := 2) K_7 (by decide) rfl rfl rfl gw_430 rfl (Or.inr ⟨rfl, rfl, rfl⟩) nar_obj.1 nar_obj.2 dX5_init_30 (fun x15 => ?_)
  refine G_aload_n 0 dX5_init_33 rfl rfl ?_
  refine G_bipush (v := (6 : Int32)) dX5_init_34 (by decide) ?_
  refine G_newa (t := 2) rfl (Or.inr (Or.inr ⟨rfl, rfl⟩)) gw_425 dX5_init_36 (fun r16 x17 => ?_)
  refine G_putr (k := 3) K_7 (by decide) rfl rfl rfl gw_431 rfl (Or.inr ⟨rfl, rfl, rfl⟩) nar_arr.1 nar_arr.2 dX5_init_38 (fun x18 => ?_)
  refine G_aload_n 0 dX5_init_41 rfl rfl ?_
  refine G_bipush (v := (8 : Int32)) dX5_init_42 (by decide) ?_
  refine G_newa (t := 2) rfl (Or.inr (Or.inr ⟨rfl, rfl⟩)) gw_425 dX5_init_44 (fun r19 x20 => ?_)
  refine G_putr (k := 4) K_7 (by decide) rfl rfl rfl gw_432 rfl (Or.inr ⟨rfl, rfl, rfl⟩) nar_arr.1 nar_arr.2 dX5_init_46 (fun x21 => ?_)
  exact G_ret trivial dX5_init_49 rfl

theorem yn_X5_init : Yn yX5_init 0 := ⟨by decide +kernel, by decide +kernel, by decide +kernel⟩
theorem ct_X5_init (l : Launch) (N : Nat) (z : Nat → Nat) (o : Nat) : Ct l z yX5_init cX5_init 1 none 6 enV [.ref o] (f_X5_init N z o) :=
  Ct_v (fun x => G_lv0 (by simp only [lva_n, lva_i, lva_o, lva_r, lva_j]) (g_X5_init l N z o x)) (by decide +kernel) (by simp only [lgl_n, lgl_i, lgl_o, lgl_r, lgl_j]; decide)

theorem dX5_kind_0 : decode cX5_kind 0 = .ok (.aload_n 0, 1) := by decide +kernel
theorem dX5_kind_1 : decode cX5_kind 1 = .ok (.getfield 56, 3) := by decide +kernel
theorem dX5_kind_4 : decode cX5_kind 4 = .ok (.iconst 1, 1) := by decide +kernel
theorem dX5_kind_5 : decode cX5_kind 5 = .ok (.if_icmp .ne 8, 3) := by decide +kernel
theorem dX5_kind_8 : decode cX5_kind 8 = .ok (.bipush 39, 2) := by decide +kernel
theorem dX5_kind_10 : decode cX5_kind 10 = .ok (.goto 14, 3) := by decide +kernel
theorem dX5_kind_13 : decode cX5_kind 13 = .ok (.aload_n 0, 1) := by decide +kernel
theorem dX5_kind_14 : decode cX5_kind 14 = .ok (.getfield 26, 3) := by decide +kernel
theorem dX5_kind_17 : decode cX5_kind 17 = .ok (.aload_n 0, 1) := by decide +kernel
theorem dX5_kind_18 : decode cX5_kind 18 = .ok (.getfield 52, 3) := by decide +kernel
theorem dX5_kind_21 : decode cX5_kind 21 = .ok (.invokevirtual 187, 3) := by decide +kernel
theorem dX5_kind_24 : decode cX5_kind 24 = .ok (.ireturn, 1) := by decide +kernel
abbrev m_X5_kind : Mt := (cX5_kind, RX5, "kind", 1, .ireturn, 2)
def f_X5_kind (N : Nat) (z : Nat → Nat) (o : Nat) (x0 : Hp) : Option (Int32 × Hp) :=
  geti (some o) x0 8 146 fun i1 =>
  if i1 = (1 : Int32) then (some ((39 : Int32), x0)) else (getr (some o) x0 8 142 fun r2 =>
  geti (some o) x0 8 145 fun i3 =>
  obj r2 x0 12 fun q6 => bnd (f_X9_kindOf N z q6 i3 x0) fun i5 x4 =>
  some (i5, x4))
set_option maxRecDepth 100000 in
set_option maxHeartbeats 4000000 in
theorem g_X5_kind (l : Launch) (N : Nat) (z : Nat → Nat) (o : Nat) (x0 : Hp) : G l z m_X5_kind okT enI 0 [(0, va_rf (some o))] [] x0 (f_X5_kind N z o x0) := by
  unfold f_X5_kind
  refine G_aload_n 0 dX5_kind_0 rfl rfl ?_
  refine G_geti (k := 6) K_7 (by decide) rfl rfl rfl gw_434 rfl dX5_kind_1 (fun i1 => ?_)
  refine G_iconst (v := (1 : Int32)) dX5_kind_4 rfl ?_
  refine G_icmp_ne (tgt := 13) dX5_kind_5 (by decide) (fun _ => ?_) (fun _ => ?_)
  · refine G_bipush (v := (39 : Int32)) dX5_kind_8 (by decide) ?_
    refine G_goto (tgt := 24) dX5_kind_10 (by decide) ?_
    exact G_ret trivial dX5_kind_24 rfl
  · refine G_aload_n 0 dX5_kind_13 rfl rfl ?_
    refine G_getr (k := 2) K_7 (by decide) rfl rfl rfl gw_430 rfl dX5_kind_14 (fun r2 => ?_)
    refine G_aload_n 0 dX5_kind_17 rfl rfl ?_
    refine G_geti (k := 5) K_7 (by decide) rfl rfl rfl gw_433 rfl dX5_kind_18 (fun i3 => ?_)
    refine G_callV (av := [.int i3]) [] (fun q6 => ct_X9_kindOf l N z q6 i3) K_11 rfl yn_X9_kindOf (Nat.le_of_ble_eq_true rfl) (by decide) gw_1215 gw_1203 gw_1204 gw_49 gw_1205 rfl (by decide) dX5_kind_21 (fun i5 x4 => ?_)
    exact G_ret trivial dX5_kind_24 rfl

theorem yn_X5_kind : Yn yX5_kind 0 := ⟨by decide +kernel, by decide +kernel, by decide +kernel⟩
theorem ct_X5_kind (l : Launch) (N : Nat) (z : Nat → Nat) (o : Nat) : Ct l z yX5_kind cX5_kind 1 (some .int) 2 enI [.ref o] (f_X5_kind N z o) :=
  Ct_i (fun x => G_lv0 (by simp only [lva_n, lva_i, lva_o, lva_r, lva_j]) (g_X5_kind l N z o x)) (by decide +kernel) (by simp only [lgl_n, lgl_i, lgl_o, lgl_r, lgl_j]; decide)

theorem dX5_fail_0 : decode cX5_fail 0 = .ok (.aload_n 0, 1) := by decide +kernel
theorem dX5_fail_1 : decode cX5_fail 1 = .ok (.getfield 56, 3) := by decide +kernel
theorem dX5_fail_4 : decode cX5_fail 4 = .ok (.iconst 1, 1) := by decide +kernel
theorem dX5_fail_5 : decode cX5_fail 5 = .ok (.if_icmp .eq 23, 3) := by decide +kernel
theorem dX5_fail_8 : decode cX5_fail 8 = .ok (.aload_n 0, 1) := by decide +kernel
theorem dX5_fail_9 : decode cX5_fail 9 = .ok (.iconst 1, 1) := by decide +kernel
theorem dX5_fail_10 : decode cX5_fail 10 = .ok (.putfield 56, 3) := by decide +kernel
theorem dX5_fail_13 : decode cX5_fail 13 = .ok (.aload_n 0, 1) := by decide +kernel
theorem dX5_fail_14 : decode cX5_fail 14 = .ok (.aload_n 0, 1) := by decide +kernel
theorem dX5_fail_15 : decode cX5_fail 15 = .ok (.getfield 26, 3) := by decide +kernel
theorem dX5_fail_18 : decode cX5_fail 18 = .ok (.aload_n 0, 1) := by decide +kernel
theorem dX5_fail_19 : decode cX5_fail 19 = .ok (.getfield 52, 3) := by decide +kernel
theorem dX5_fail_22 : decode cX5_fail 22 = .ok (.invokevirtual 195, 3) := by decide +kernel
theorem dX5_fail_25 : decode cX5_fail 25 = .ok (.putfield 59, 3) := by decide +kernel
theorem dX5_fail_28 : decode cX5_fail 28 = .ok (.return_, 1) := by decide +kernel
abbrev m_X5_fail : Mt := (cX5_fail, RX5, "fail", 1, .return_, 2)
def f_X5_fail (N : Nat) (z : Nat → Nat) (o : Nat) (x0 : Hp) : Option (Unit × Hp) :=
  geti (some o) x0 8 146 fun i1 =>
  if i1 = (1 : Int32) then (some ((), x0)) else (puti (some o) x0 8 146 (1 : Int32) fun x2 =>
  getr (some o) x2 8 142 fun r3 =>
  geti (some o) x2 8 145 fun i4 =>
  obj r3 x2 12 fun q7 => bnd (f_X9_startOf N z q7 i4 x2) fun i6 x5 =>
  puti (some o) x5 8 141 i6 fun x8 =>
  some ((), x8))
set_option maxRecDepth 100000 in
set_option maxHeartbeats 4000000 in
theorem g_X5_fail (l : Launch) (N : Nat) (z : Nat → Nat) (o : Nat) (x0 : Hp) : G l z m_X5_fail okT enV 0 [(0, va_rf (some o))] [] x0 (f_X5_fail N z o x0) := by
  unfold f_X5_fail
  refine G_aload_n 0 dX5_fail_0 rfl rfl ?_
  refine G_geti (k := 6) K_7 (by decide) rfl rfl rfl gw_434 rfl dX5_fail_1 (fun i1 => ?_)
  refine G_iconst (v := (1 : Int32)) dX5_fail_4 rfl ?_
  refine G_icmp_eq (tgt := 28) dX5_fail_5 (by decide) (fun _ => ?_) (fun _ => ?_)
  · exact G_ret trivial dX5_fail_28 rfl
  · refine G_aload_n 0 dX5_fail_8 rfl rfl ?_
    refine G_iconst (v := (1 : Int32)) dX5_fail_9 rfl ?_
    refine G_puti (k := 6) K_7 (by decide) rfl rfl rfl gw_434 rfl (Or.inl rfl) nar_int.1 nar_int.2 dX5_fail_10 (fun x2 => ?_)
    refine G_aload_n 0 dX5_fail_13 rfl rfl ?_
    refine G_aload_n 0 dX5_fail_14 rfl rfl ?_
    refine G_getr (k := 2) K_7 (by decide) rfl rfl rfl gw_430 rfl dX5_fail_15 (fun r3 => ?_)
    refine G_aload_n 0 dX5_fail_18 rfl rfl ?_
    refine G_geti (k := 5) K_7 (by decide) rfl rfl rfl gw_433 rfl dX5_fail_19 (fun i4 => ?_)
    refine G_callV (av := [.int i4]) [va_rf (some o)] (fun q7 => ct_X9_startOf l N z q7 i4) K_11 rfl yn_X9_startOf (Nat.le_of_ble_eq_true rfl) (by decide) gw_1224 gw_1225 gw_1226 gw_49 gw_1227 rfl (by simp only [hw_n, hw_i, hw_r, hw_j, hw_d]; decide) dX5_fail_22 (fun i6 x5 => ?_)
    refine G_puti (k := 1) K_7 (by decide) rfl rfl rfl gw_428 rfl (Or.inl rfl) nar_int.1 nar_int.2 dX5_fail_25 (fun x8 => ?_)
    exact G_ret trivial dX5_fail_28 rfl

theorem yn_X5_fail : Yn yX5_fail 0 := ⟨by decide +kernel, by decide +kernel, by decide +kernel⟩
theorem ct_X5_fail (l : Launch) (N : Nat) (z : Nat → Nat) (o : Nat) : Ct l z yX5_fail cX5_fail 1 none 2 enV [.ref o] (f_X5_fail N z o) :=
  Ct_v (fun x => G_lv0 (by simp only [lva_n, lva_i, lva_o, lva_r, lva_j]) (g_X5_fail l N z o x)) (by decide +kernel) (by simp only [lgl_n, lgl_i, lgl_o, lgl_r, lgl_j]; decide)

theorem dX5_blame_0 : decode cX5_blame 0 = .ok (.aload_n 0, 1) := by decide +kernel
theorem dX5_blame_1 : decode cX5_blame 1 = .ok (.getfield 56, 3) := by decide +kernel
theorem dX5_blame_4 : decode cX5_blame 4 = .ok (.ifCond .ne 23, 3) := by decide +kernel
theorem dX5_blame_7 : decode cX5_blame 7 = .ok (.aload_n 0, 1) := by decide +kernel
theorem dX5_blame_8 : decode cX5_blame 8 = .ok (.iload_n 1, 1) := by decide +kernel
theorem dX5_blame_9 : decode cX5_blame 9 = .ok (.putfield 56, 3) := by decide +kernel
theorem dX5_blame_12 : decode cX5_blame 12 = .ok (.aload_n 0, 1) := by decide +kernel
theorem dX5_blame_13 : decode cX5_blame 13 = .ok (.aload_n 0, 1) := by decide +kernel
theorem dX5_blame_14 : decode cX5_blame 14 = .ok (.getfield 26, 3) := by decide +kernel
theorem dX5_blame_17 : decode cX5_blame 17 = .ok (.aload_n 0, 1) := by decide +kernel
theorem dX5_blame_18 : decode cX5_blame 18 = .ok (.getfield 52, 3) := by decide +kernel
theorem dX5_blame_21 : decode cX5_blame 21 = .ok (.invokevirtual 195, 3) := by decide +kernel
theorem dX5_blame_24 : decode cX5_blame 24 = .ok (.putfield 59, 3) := by decide +kernel
theorem dX5_blame_27 : decode cX5_blame 27 = .ok (.return_, 1) := by decide +kernel
abbrev m_X5_blame : Mt := (cX5_blame, RX5, "blame", 2, .return_, 2)
def f_X5_blame (N : Nat) (z : Nat → Nat) (o : Nat) (v1 : Int32) (x0 : Hp) : Option (Unit × Hp) :=
  geti (some o) x0 8 146 fun i1 =>
  if i1 = 0 then (puti (some o) x0 8 146 v1 fun x2 =>
  getr (some o) x2 8 142 fun r3 =>
  geti (some o) x2 8 145 fun i4 =>
  obj r3 x2 12 fun q7 => bnd (f_X9_startOf N z q7 i4 x2) fun i6 x5 =>
  puti (some o) x5 8 141 i6 fun x8 =>
  some ((), x8)) else (some ((), x0))
set_option maxRecDepth 100000 in
set_option maxHeartbeats 4000000 in
theorem g_X5_blame (l : Launch) (N : Nat) (z : Nat → Nat) (o : Nat) (v1 : Int32) (x0 : Hp) : G l z m_X5_blame okT enV 0 [(0, va_rf (some o)), (1, .int v1)] [] x0 (f_X5_blame N z o v1 x0) := by
  unfold f_X5_blame
  refine G_aload_n 0 dX5_blame_0 rfl rfl ?_
  refine G_geti (k := 6) K_7 (by decide) rfl rfl rfl gw_434 rfl dX5_blame_1 (fun i1 => ?_)
  refine G_if_ne (tgt := 27) dX5_blame_4 (by decide) (fun _ => ?_) (fun _ => ?_)
  · refine G_aload_n 0 dX5_blame_7 rfl rfl ?_
    refine G_iload_n 1 dX5_blame_8 rfl rfl ?_
    refine G_puti (k := 6) K_7 (by decide) rfl rfl rfl gw_434 rfl (Or.inl rfl) nar_int.1 nar_int.2 dX5_blame_9 (fun x2 => ?_)
    refine G_aload_n 0 dX5_blame_12 rfl rfl ?_
    refine G_aload_n 0 dX5_blame_13 rfl rfl ?_
    refine G_getr (k := 2) K_7 (by decide) rfl rfl rfl gw_430 rfl dX5_blame_14 (fun r3 => ?_)
    refine G_aload_n 0 dX5_blame_17 rfl rfl ?_
    refine G_geti (k := 5) K_7 (by decide) rfl rfl rfl gw_433 rfl dX5_blame_18 (fun i4 => ?_)
    refine G_callV (av := [.int i4]) [va_rf (some o)] (fun q7 => ct_X9_startOf l N z q7 i4) K_11 rfl yn_X9_startOf (Nat.le_of_ble_eq_true rfl) (by decide) gw_1224 gw_1225 gw_1226 gw_49 gw_1227 rfl (by simp only [hw_n, hw_i, hw_r, hw_j, hw_d]; decide) dX5_blame_21 (fun i6 x5 => ?_)
    refine G_puti (k := 1) K_7 (by decide) rfl rfl rfl gw_428 rfl (Or.inl rfl) nar_int.1 nar_int.2 dX5_blame_24 (fun x8 => ?_)
    exact G_ret trivial dX5_blame_27 rfl
  · exact G_ret trivial dX5_blame_27 rfl

theorem yn_X5_blame : Yn yX5_blame 1 := ⟨by decide +kernel, by decide +kernel, by decide +kernel⟩
theorem ct_X5_blame (l : Launch) (N : Nat) (z : Nat → Nat) (o : Nat) (v1 : Int32) : Ct l z yX5_blame cX5_blame 2 none 2 enV [.ref o, .int v1] (f_X5_blame N z o v1) :=
  Ct_v (fun x => G_lv0 (by simp only [lva_n, lva_i, lva_o, lva_r, lva_j]) (g_X5_blame l N z o v1 x)) (by decide +kernel) (by simp only [lgl_n, lgl_i, lgl_o, lgl_r, lgl_j]; decide)

theorem dX5_number_0 : decode cX5_number 0 = .ok (.aload_n 0, 1) := by decide +kernel
theorem dX5_number_1 : decode cX5_number 1 = .ok (.invokevirtual 62, 3) := by decide +kernel
theorem dX5_number_4 : decode cX5_number 4 = .ok (.bipush 35, 2) := by decide +kernel
theorem dX5_number_6 : decode cX5_number 6 = .ok (.if_icmp .eq 9, 3) := by decide +kernel
theorem dX5_number_9 : decode cX5_number 9 = .ok (.aload_n 0, 1) := by decide +kernel
theorem dX5_number_10 : decode cX5_number 10 = .ok (.invokevirtual 82, 3) := by decide +kernel
theorem dX5_number_13 : decode cX5_number 13 = .ok (.iload_n 1, 1) := by decide +kernel
theorem dX5_number_14 : decode cX5_number 14 = .ok (.ireturn, 1) := by decide +kernel
theorem dX5_number_15 : decode cX5_number 15 = .ok (.aload_n 0, 1) := by decide +kernel
theorem dX5_number_16 : decode cX5_number 16 = .ok (.getfield 26, 3) := by decide +kernel
theorem dX5_number_19 : decode cX5_number 19 = .ok (.aload_n 0, 1) := by decide +kernel
theorem dX5_number_20 : decode cX5_number 20 = .ok (.getfield 52, 3) := by decide +kernel
theorem dX5_number_23 : decode cX5_number 23 = .ok (.invokevirtual 180, 3) := by decide +kernel
theorem dX5_number_26 : decode cX5_number 26 = .ok (.l2i, 1) := by decide +kernel
theorem dX5_number_27 : decode cX5_number 27 = .ok (.istore_n 3, 1) := by decide +kernel
theorem dX5_number_28 : decode cX5_number 28 = .ok (.iload_n 3, 1) := by decide +kernel
theorem dX5_number_29 : decode cX5_number 29 = .ok (.iload_n 1, 1) := by decide +kernel
theorem dX5_number_30 : decode cX5_number 30 = .ok (.if_icmp .lt 8, 3) := by decide +kernel
theorem dX5_number_33 : decode cX5_number 33 = .ok (.iload_n 3, 1) := by decide +kernel
theorem dX5_number_34 : decode cX5_number 34 = .ok (.iload_n 2, 1) := by decide +kernel
theorem dX5_number_35 : decode cX5_number 35 = .ok (.if_icmp .le 8, 3) := by decide +kernel
theorem dX5_number_38 : decode cX5_number 38 = .ok (.aload_n 0, 1) := by decide +kernel
theorem dX5_number_39 : decode cX5_number 39 = .ok (.iconst 5, 1) := by decide +kernel
theorem dX5_number_40 : decode cX5_number 40 = .ok (.invokevirtual 137, 3) := by decide +kernel
theorem dX5_number_43 : decode cX5_number 43 = .ok (.aload_n 0, 1) := by decide +kernel
theorem dX5_number_44 : decode cX5_number 44 = .ok (.dup, 1) := by decide +kernel
theorem dX5_number_45 : decode cX5_number 45 = .ok (.getfield 52, 3) := by decide +kernel
theorem dX5_number_48 : decode cX5_number 48 = .ok (.iconst 1, 1) := by decide +kernel
theorem dX5_number_49 : decode cX5_number 49 = .ok (.iadd, 1) := by decide +kernel
theorem dX5_number_50 : decode cX5_number 50 = .ok (.putfield 52, 3) := by decide +kernel
theorem dX5_number_53 : decode cX5_number 53 = .ok (.iload_n 3, 1) := by decide +kernel
theorem dX5_number_54 : decode cX5_number 54 = .ok (.ireturn, 1) := by decide +kernel
abbrev m_X5_number : Mt := (cX5_number, RX5, "number", 4, .ireturn, 3)
def f_X5_number_b43 (N : Nat) (z : Nat → Nat) (o : Nat) (v3 : Int32) (x0 : Hp) : Option (Int32 × Hp) :=
  geti (some o) x0 8 145 fun i1 =>
  puti (some o) x0 8 145 (i1 + (1 : Int32)) fun x2 =>
  some (v3, x2)
def f_X5_number_b38 (N : Nat) (z : Nat → Nat) (o : Nat) (v3 : Int32) (x0 : Hp) : Option (Int32 × Hp) :=
  obj (some o) x0 8 fun q4 => bnd (f_X5_blame N z q4 (5 : Int32) x0) fun _ x3 =>
  f_X5_number_b43 N z o v3 x3
def f_X5_number (N : Nat) (z : Nat → Nat) (o : Nat) (v1 : Int32) (v2 : Int32) (x0 : Hp) : Option (Int32 × Hp) :=
  obj (some o) x0 8 fun q7 => bnd (f_X5_kind N z q7 x0) fun i6 x5 =>
  if i6 = (35 : Int32) then (getr (some o) x5 8 142 fun r8 =>
  geti (some o) x5 8 145 fun i9 =>
  obj r8 x5 12 fun q12 => bnd (f_X9_valueOf N z q12 i9 x5) fun i11 x10 =>
  if i11.toInt32 < v1 then (f_X5_number_b38 N z o i11.toInt32 x10) else (if i11.toInt32 ≤ v2 then (f_X5_number_b43 N z o i11.toInt32 x10) else (f_X5_number_b38 N z o i11.toInt32 x10))) else (obj (some o) x5 8 fun q14 => bnd (f_X5_fail N z q14 x5) fun _ x13 =>
  some (v1, x13))
set_option maxRecDepth 100000 in
set_option maxHeartbeats 4000000 in
theorem g_X5_number_b43 (l : Launch) (N : Nat) (z : Nat → Nat) (o : Nat) (v3 : Int32) (x0 : Hp) : G l z m_X5_number okT enI 43 [(0, va_rf (some o)), (3, .int v3)] [] x0 (f_X5_number_b43 N z o v3 x0) := by
  unfold f_X5_number_b43
  refine G_aload_n 0 dX5_number_43 rfl rfl ?_
  refine G_dup dX5_number_44 (rf_cat _) ?_
  refine G_geti (k := 5) K_7 (by decide) rfl rfl rfl gw_433 rfl dX5_number_45 (fun i1 => ?_)
  refine G_iconst (v := (1 : Int32)) dX5_number_48 rfl ?_
  refine G_iadd dX5_number_49 ?_
  refine G_puti (k := 5) K_7 (by decide) rfl rfl rfl gw_433 rfl (Or.inl rfl) nar_int.1 nar_int.2 dX5_number_50 (fun x2 => ?_)
  refine G_iload_n 1 dX5_number_53 rfl rfl ?_
  exact G_ret trivial dX5_number_54 rfl

set_option maxRecDepth 100000 in
set_option maxHeartbeats 4000000 in
theorem g_X5_number_b38 (l : Launch) (N : Nat) (z : Nat → Nat) (o : Nat) (v3 : Int32) (x0 : Hp) : G l z m_X5_number okT enI 38 [(0, va_rf (some o)), (3, .int v3)] [] x0 (f_X5_number_b38 N z o v3 x0) := by
  unfold f_X5_number_b38
  refine G_aload_n 0 dX5_number_38 rfl rfl ?_
  refine G_iconst (v := (5 : Int32)) dX5_number_39 rfl ?_
  refine G_callV (av := [.int (5 : Int32)]) [] (fun q4 => ct_X5_blame l N z q4 (5 : Int32)) K_7 rfl yn_X5_blame (Nat.le_of_ble_eq_true rfl) (by decide) gw_1232 gw_1234 gw_s22 gw_41 gw_1235 rfl (by decide) dX5_number_40 (fun _ x3 => ?_)
  refine G_lv [0, 1] rfl ?_
  exact g_X5_number_b43 l N z o v3 x3

set_option maxRecDepth 100000 in
set_option maxHeartbeats 4000000 in
theorem g_X5_number (l : Launch) (N : Nat) (z : Nat → Nat) (o : Nat) (v1 : Int32) (v2 : Int32) (x0 : Hp) : G l z m_X5_number okT enI 0 [(0, va_rf (some o)), (1, .int v1), (2, .int v2)] [] x0 (f_X5_number N z o v1 v2 x0) := by
  unfold f_X5_number
  refine G_aload_n 0 dX5_number_0 rfl rfl ?_
  refine G_callV (av := []) [] (fun q7 => ct_X5_kind l N z q7) K_7 rfl yn_X5_kind (Nat.le_of_ble_eq_true rfl) (by decide) gw_1211 gw_1213 gw_s19 gw_41 gw_1214 rfl (by decide) dX5_number_1 (fun i6 x5 => ?_)
  refine G_bipush (v := (35 : Int32)) dX5_number_4 (by decide) ?_
  refine G_icmp_eq (tgt := 15) dX5_number_6 (by decide) (fun _ => ?_) (fun _ => ?_)
  · refine G_aload_n 0 dX5_number_15 rfl rfl ?_
    refine G_getr (k := 2) K_7 (by decide) rfl rfl rfl gw_430 rfl dX5_number_16 (fun r8 => ?_)
    refine G_aload_n 0 dX5_number_19 rfl rfl ?_
    refine G_geti (k := 5) K_7 (by decide) rfl rfl rfl gw_433 rfl dX5_number_20 (fun i9 => ?_)
    refine G_callV (av := [.int i9]) [] (fun q12 => ct_X9_valueOf l N z q12 i9) K_11 rfl yn_X9_valueOf (Nat.le_of_ble_eq_true rfl) (by decide) gw_1228 gw_1229 gw_1230 gw_49 gw_1231 rfl (by decide) dX5_number_23 (fun i11 x10 => ?_)
    refine G_l2i dX5_number_26 ?_
    refine G_istore_n (i := 3) (l2 := [(0, va_rf (some o)), (1, .int v1), (2, .int v2)]) [0, 1, 2] dX5_number_27 rfl (Nat.le_of_ble_eq_true rfl) rfl (sok_a (by decide) (by decide) (sok_a (by decide) (by decide) (sok_b (by decide) rfl trivial))) ?_
    refine G_iload_n 0 dX5_number_28 rfl rfl ?_
    refine G_iload_n 2 dX5_number_29 rfl rfl ?_
    refine G_icmp_lt (tgt := 38) dX5_number_30 (by decide) (fun _ => ?_) (fun _ => ?_)
    · refine G_lv [1, 0] rfl ?_
      exact g_X5_number_b38 l N z o i11.toInt32 x10
    · refine G_iload_n 0 dX5_number_33 rfl rfl ?_
      refine G_iload_n 3 dX5_number_34 rfl rfl ?_
      refine G_icmp_le (tgt := 43) dX5_number_35 (by decide) (fun _ => ?_) (fun _ => ?_)
      · refine G_lv [1, 0] rfl ?_
        exact g_X5_number_b43 l N z o i11.toInt32 x10
      · refine G_lv [1, 0] rfl ?_
        exact g_X5_number_b38 l N z o i11.toInt32 x10
  · refine G_aload_n 0 dX5_number_9 rfl rfl ?_
    refine G_callV (av := []) [] (fun q14 => ct_X5_fail l N z q14) K_7 rfl yn_X5_fail (Nat.le_of_ble_eq_true rfl) (by decide) gw_1220 gw_1222 gw_s21 gw_41 gw_1223 rfl (by decide) dX5_number_10 (fun _ x13 => ?_)
    refine G_iload_n 1 dX5_number_13 rfl rfl ?_
    exact G_ret trivial dX5_number_14 rfl

theorem yn_X5_number : Yn yX5_number 2 := ⟨by decide +kernel, by decide +kernel, by decide +kernel⟩
theorem ct_X5_number (l : Launch) (N : Nat) (z : Nat → Nat) (o : Nat) (v1 : Int32) (v2 : Int32) : Ct l z yX5_number cX5_number 4 (some .int) 3 enI [.ref o, .int v1, .int v2] (f_X5_number N z o v1 v2) :=
  Ct_i (fun x => G_lv0 (by simp only [lva_n, lva_i, lva_o, lva_r, lva_j]) (g_X5_number l N z o v1 v2 x)) (by decide +kernel) (by simp only [lgl_n, lgl_i, lgl_o, lgl_r, lgl_j]; decide)

theorem dX5_placeOf_0 : decode cX5_placeOf 0 = .ok (.iconst 0, 1) := by decide +kernel
theorem dX5_placeOf_1 : decode cX5_placeOf 1 = .ok (.istore 4, 2) := by decide +kernel
theorem dX5_placeOf_3 : decode cX5_placeOf 3 = .ok (.iload 4, 2) := by decide +kernel
theorem dX5_placeOf_5 : decode cX5_placeOf 5 = .ok (.iload_n 3, 1) := by decide +kernel
theorem dX5_placeOf_6 : decode cX5_placeOf 6 = .ok (.if_icmp .ge 28, 3) := by decide +kernel
theorem dX5_placeOf_9 : decode cX5_placeOf 9 = .ok (.iload 4, 2) := by decide +kernel
theorem dX5_placeOf_11 : decode cX5_placeOf 11 = .ok (.aload_n 2, 1) := by decide +kernel
theorem dX5_placeOf_12 : decode cX5_placeOf 12 = .ok (.arraylength, 1) := by decide +kernel
theorem dX5_placeOf_13 : decode cX5_placeOf 13 = .ok (.if_icmp .ge 21, 3) := by decide +kernel
theorem dX5_placeOf_16 : decode cX5_placeOf 16 = .ok (.aload_n 2, 1) := by decide +kernel
theorem dX5_placeOf_17 : decode cX5_placeOf 17 = .ok (.iload 4, 2) := by decide +kernel
theorem dX5_placeOf_19 : decode cX5_placeOf 19 = .ok (.laload, 1) := by decide +kernel
theorem dX5_placeOf_20 : decode cX5_placeOf 20 = .ok (.lload_n 0, 1) := by decide +kernel
theorem dX5_placeOf_21 : decode cX5_placeOf 21 = .ok (.lcmp, 1) := by decide +kernel
theorem dX5_placeOf_22 : decode cX5_placeOf 22 = .ok (.ifCond .ne 6, 3) := by decide +kernel
theorem dX5_placeOf_25 : decode cX5_placeOf 25 = .ok (.iload 4, 2) := by decide +kernel
theorem dX5_placeOf_27 : decode cX5_placeOf 27 = .ok (.ireturn, 1) := by decide +kernel
theorem dX5_placeOf_28 : decode cX5_placeOf 28 = .ok (.iinc 4 1, 3) := by decide +kernel
theorem dX5_placeOf_31 : decode cX5_placeOf 31 = .ok (.goto (-28), 3) := by decide +kernel
theorem dX5_placeOf_34 : decode cX5_placeOf 34 = .ok (.iconst (-1), 1) := by decide +kernel
theorem dX5_placeOf_35 : decode cX5_placeOf 35 = .ok (.ireturn, 1) := by decide +kernel
abbrev m_X5_placeOf : Mt := (cX5_placeOf, RX5, "placeOf", 5, .ireturn, 1)
def f_X5_placeOf_b3 (N : Nat) (z : Nat → Nat) : Nat → Int64 → Option Nat → Int32 → Int32 → Hp → Option (Int32 × Hp)
  | 0, _, _, _, _, _ => none
  | n + 1, v0, v2, v3, v4, x0 => if v3 ≤ v4 then (some ((-1 : Int32), x0)) else (alen v2 x0 102 fun i1 =>
  if i1 ≤ v4 then (some ((-1 : Int32), x0)) else (aldl v2 x0 102 v4 fun j2 =>
  if (lg_cmp j2 v0) = 0 then (some (v4, x0)) else (f_X5_placeOf_b3 N z n v0 v2 v3 (v4 + (1 : Int32)) x0)))
def f_X5_placeOf (N : Nat) (z : Nat → Nat) (v0 : Int64) (v2 : Option Nat) (v3 : Int32) (x0 : Hp) : Option (Int32 × Hp) :=
  f_X5_placeOf_b3 N z N v0 v2 v3 (0 : Int32) x0
set_option maxRecDepth 100000 in
set_option maxHeartbeats 4000000 in
theorem g_X5_placeOf_b3 (l : Launch) (N : Nat) (z : Nat → Nat) : ∀ (n : Nat) (v0 : Int64) (v2 : Option Nat) (v3 : Int32) (v4 : Int32) (x0 : Hp), G l z m_X5_placeOf okT enI 3 [(0, .long v0), (2, va_rf v2), (3, .int v3), (4, .int v4)] [] x0 (f_X5_placeOf_b3 N z n v0 v2 v3 v4 x0) := by
  intro n
  induction n with
  | zero => intro v0 v2 v3 v4 x0; exact G_none
  | succ n ih =>
  intro v0 v2 v3 v4 x0
  rw [f_X5_placeOf_b3]
  refine G_iload 3 dX5_placeOf_3 rfl ?_
  refine G_iload_n 2 dX5_placeOf_5 rfl rfl ?_
  refine G_icmp_ge (tgt := 34) dX5_placeOf_6 (by decide) (fun _ => ?_) (fun _ => ?_)
  · refine G_iconst (v := (-1 : Int32)) dX5_placeOf_34 rfl ?_
    exact G_ret trivial dX5_placeOf_35 rfl
  · refine G_iload 3 dX5_placeOf_9 rfl ?_
    refine G_aload_n 1 dX5_placeOf_11 rfl rfl ?_
    refine G_alen (t := 2) rfl (by decide) dX5_placeOf_12 (fun i1 => ?_)
    refine G_icmp_ge (tgt := 34) dX5_placeOf_13 (by decide) (fun _ => ?_) (fun _ => ?_)
    · refine G_iconst (v := (-1 : Int32)) dX5_placeOf_34 rfl ?_
      exact G_ret trivial dX5_placeOf_35 rfl
    · refine G_aload_n 1 dX5_placeOf_16 rfl rfl ?_
      refine G_iload 3 dX5_placeOf_17 rfl ?_
      refine G_lald dX5_placeOf_19 (fun j2 => ?_)
      refine G_lload_n 0 dX5_placeOf_20 rfl rfl ?_
      refine G_lcmp dX5_placeOf_21 ?_
      refine G_if_ne (tgt := 28) dX5_placeOf_22 (by decide) (fun _ => ?_) (fun _ => ?_)
      · refine G_iload 3 dX5_placeOf_25 rfl ?_
        exact G_ret trivial dX5_placeOf_27 rfl
      · refine G_iinc (i := 4) (l2 := [(0, .long v0), (2, va_rf v2), (3, .int v3)]) 3 [0, 1, 2] dX5_placeOf_28 rfl rfl (Nat.le_of_ble_eq_true rfl) rfl (sok_a (by decide) (by decide) (sok_a (by decide) (by decide) (sok_b (by decide) rfl trivial))) ?_
        refine G_goto (tgt := 3) dX5_placeOf_31 (by decide) ?_
        refine G_lv [1, 2, 3, 0] rfl ?_
        exact ih v0 v2 v3 (v4 + (1 : Int32)) x0

set_option maxRecDepth 100000 in
set_option maxHeartbeats 4000000 in
theorem g_X5_placeOf (l : Launch) (N : Nat) (z : Nat → Nat) (v0 : Int64) (v2 : Option Nat) (v3 : Int32) (x0 : Hp) : G l z m_X5_placeOf okT enI 0 [(0, .long v0), (2, va_rf v2), (3, .int v3)] [] x0 (f_X5_placeOf N z v0 v2 v3 x0) := by
  unfold f_X5_placeOf
  refine G_iconst (v := (0 : Int32)) dX5_placeOf_0 rfl ?_
  refine G_istore (i := 4) (l2 := [(0, .long v0), (2, va_rf v2), (3, .int v3)]) [0, 1, 2] dX5_placeOf_1 (Nat.le_of_ble_eq_true rfl) rfl (sok_a (by decide) (by decide) (sok_a (by decide) (by decide) (sok_b (by decide) rfl trivial))) ?_
  refine G_lv [1, 2, 3, 0] rfl ?_
  exact g_X5_placeOf_b3 l N z N v0 v2 v3 (0 : Int32) x0

theorem yn_X5_placeOf : Yn yX5_placeOf 3 := ⟨by decide +kernel, by decide +kernel, by decide +kernel⟩
theorem ct_X5_placeOf (l : Launch) (N : Nat) (z : Nat → Nat) (v0 : Int64) (v2 : Option Nat) (v3 : Int32) : Ct l z yX5_placeOf cX5_placeOf 5 (some .int) 1 enI [.long v0, va_rf v2, .int v3] (f_X5_placeOf N z v0 v2 v3) :=
  Ct_i (fun x => G_lv0 (by simp only [lva_n, lva_i, lva_o, lva_r, lva_j]) (g_X5_placeOf l N z v0 v2 v3 x)) (by decide +kernel) (by simp only [lgl_n, lgl_i, lgl_o, lgl_r, lgl_j]; decide)

theorem dX5_newName_0 : decode cX5_newName 0 = .ok (.aload_n 0, 1) := by decide +kernel
theorem dX5_newName_1 : decode cX5_newName 1 = .ok (.invokevirtual 62, 3) := by decide +kernel
theorem dX5_newName_4 : decode cX5_newName 4 = .ok (.bipush 34, 2) := by decide +kernel
theorem dX5_newName_6 : decode cX5_newName 6 = .ok (.if_icmp .eq 9, 3) := by decide +kernel
theorem dX5_newName_9 : decode cX5_newName 9 = .ok (.aload_n 0, 1) := by decide +kernel
theorem dX5_newName_10 : decode cX5_newName 10 = .ok (.invokevirtual 82, 3) := by decide +kernel
theorem dX5_newName_13 : decode cX5_newName 13 = .ok (.lconst 0, 1) := by decide +kernel
theorem dX5_newName_14 : decode cX5_newName 14 = .ok (.lreturn, 1) := by decide +kernel
theorem dX5_newName_15 : decode cX5_newName 15 = .ok (.aload_n 0, 1) := by decide +kernel
theorem dX5_newName_16 : decode cX5_newName 16 = .ok (.getfield 26, 3) := by decide +kernel
theorem dX5_newName_19 : decode cX5_newName 19 = .ok (.aload_n 0, 1) := by decide +kernel
theorem dX5_newName_20 : decode cX5_newName 20 = .ok (.getfield 52, 3) := by decide +kernel
theorem dX5_newName_23 : decode cX5_newName 23 = .ok (.invokevirtual 180, 3) := by decide +kernel
theorem dX5_newName_26 : decode cX5_newName 26 = .ok (.lstore_n 3, 1) := by decide +kernel
theorem dX5_newName_27 : decode cX5_newName 27 = .ok (.lload_n 3, 1) := by decide +kernel
theorem dX5_newName_28 : decode cX5_newName 28 = .ok (.aload_n 1, 1) := by decide +kernel
theorem dX5_newName_29 : decode cX5_newName 29 = .ok (.iload_n 2, 1) := by decide +kernel
theorem dX5_newName_30 : decode cX5_newName 30 = .ok (.invokestatic 191, 3) := by decide +kernel
theorem dX5_newName_33 : decode cX5_newName 33 = .ok (.iconst (-1), 1) := by decide +kernel
theorem dX5_newName_34 : decode cX5_newName 34 = .ok (.if_icmp .eq 11, 3) := by decide +kernel
theorem dX5_newName_37 : decode cX5_newName 37 = .ok (.aload_n 0, 1) := by decide +kernel
theorem dX5_newName_38 : decode cX5_newName 38 = .ok (.iconst 2, 1) := by decide +kernel
theorem dX5_newName_39 : decode cX5_newName 39 = .ok (.invokevirtual 137, 3) := by decide +kernel
theorem dX5_newName_42 : decode cX5_newName 42 = .ok (.goto 14, 3) := by decide +kernel
theorem dX5_newName_45 : decode cX5_newName 45 = .ok (.iload_n 2, 1) := by decide +kernel
theorem dX5_newName_46 : decode cX5_newName 46 = .ok (.aload_n 1, 1) := by decide +kernel
theorem dX5_newName_47 : decode cX5_newName 47 = .ok (.arraylength, 1) := by decide +kernel
theorem dX5_newName_48 : decode cX5_newName 48 = .ok (.if_icmp .lt 8, 3) := by decide +kernel
theorem dX5_newName_51 : decode cX5_newName 51 = .ok (.aload_n 0, 1) := by decide +kernel
theorem dX5_newName_52 : decode cX5_newName 52 = .ok (.iconst 4, 1) := by decide +kernel
theorem dX5_newName_53 : decode cX5_newName 53 = .ok (.invokevirtual 137, 3) := by decide +kernel
theorem dX5_newName_56 : decode cX5_newName 56 = .ok (.aload_n 0, 1) := by decide +kernel
theorem dX5_newName_57 : decode cX5_newName 57 = .ok (.dup, 1) := by decide +kernel
theorem dX5_newName_58 : decode cX5_newName 58 = .ok (.getfield 52, 3) := by decide +kernel
theorem dX5_newName_61 : decode cX5_newName 61 = .ok (.iconst 1, 1) := by decide +kernel
theorem dX5_newName_62 : decode cX5_newName 62 = .ok (.iadd, 1) := by decide +kernel
theorem dX5_newName_63 : decode cX5_newName 63 = .ok (.putfield 52, 3) := by decide +kernel
theorem dX5_newName_66 : decode cX5_newName 66 = .ok (.lload_n 3, 1) := by decide +kernel
theorem dX5_newName_67 : decode cX5_newName 67 = .ok (.lreturn, 1) := by decide +kernel
abbrev m_X5_newName : Mt := (cX5_newName, RX5, "newName", 5, .lreturn, 3)
def f_X5_newName_b56 (N : Nat) (z : Nat → Nat) (o : Nat) (v3 : Int64) (x0 : Hp) : Option (Int64 × Hp) :=
  geti (some o) x0 8 145 fun i1 =>
  puti (some o) x0 8 145 (i1 + (1 : Int32)) fun x2 =>
  some (v3, x2)
def f_X5_newName (N : Nat) (z : Nat → Nat) (o : Nat) (v1 : Option Nat) (v2 : Int32) (x0 : Hp) : Option (Int64 × Hp) :=
  obj (some o) x0 8 fun q5 => bnd (f_X5_kind N z q5 x0) fun i4 x3 =>
  if i4 = (34 : Int32) then (getr (some o) x3 8 142 fun r6 =>
  geti (some o) x3 8 145 fun i7 =>
  obj r6 x3 12 fun q10 => bnd (f_X9_valueOf N z q10 i7 x3) fun i9 x8 =>
  bnd (f_X5_placeOf N z i9 v1 v2 x8) fun i12 x11 =>
  if i12 = (-1 : Int32) then (alen v1 x11 102 fun i13 =>
  if v2 < i13 then (f_X5_newName_b56 N z o i9 x11) else (obj (some o) x11 8 fun q15 => bnd (f_X5_blame N z q15 (4 : Int32) x11) fun _ x14 =>
  f_X5_newName_b56 N z o i9 x14)) else (obj (some o) x11 8 fun q17 => bnd (f_X5_blame N z q17 (2 : Int32) x11) fun _ x16 =>
  f_X5_newName_b56 N z o i9 x16)) else (obj (some o) x3 8 fun q19 => bnd (f_X5_fail N z q19 x3) fun _ x18 =>
  some ((0 : Int64), x18))
set_option maxRecDepth 100000 in
set_option maxHeartbeats 4000000 in
theorem g_X5_newName_b56 (l : Launch) (N : Nat) (z : Nat → Nat) (o : Nat) (v3 : Int64) (x0 : Hp) : G l z m_X5_newName okT enL 56 [(0, va_rf (some o)), (3, .long v3)] [] x0 (f_X5_newName_b56 N z o v3 x0) := by
  unfold f_X5_newName_b56
  refine G_aload_n 0 dX5_newName_56 rfl rfl ?_
  refine G_dup dX5_newName_57 (rf_cat _) ?_
  refine G_geti (k := 5) K_7 (by decide) rfl rfl rfl gw_433 rfl dX5_newName_58 (fun i1 => ?_)
  refine G_iconst (v := (1 : Int32)) dX5_newName_61 rfl ?_
  refine G_iadd dX5_newName_62 ?_
  refine G_puti (k := 5) K_7 (by decide) rfl rfl rfl gw_433 rfl (Or.inl rfl) nar_int.1 nar_int.2 dX5_newName_63 (fun x2 => ?_)
  refine G_lload_n 1 dX5_newName_66 rfl rfl ?_
  exact G_ret trivial dX5_newName_67 rfl

set_option maxRecDepth 100000 in
set_option maxHeartbeats 4000000 in
theorem g_X5_newName (l : Launch) (N : Nat) (z : Nat → Nat) (o : Nat) (v1 : Option Nat) (v2 : Int32) (x0 : Hp) : G l z m_X5_newName okT enL 0 [(0, va_rf (some o)), (1, va_rf v1), (2, .int v2)] [] x0 (f_X5_newName N z o v1 v2 x0) := by
  unfold f_X5_newName
  refine G_aload_n 0 dX5_newName_0 rfl rfl ?_
  refine G_callV (av := []) [] (fun q5 => ct_X5_kind l N z q5) K_7 rfl yn_X5_kind (Nat.le_of_ble_eq_true rfl) (by decide) gw_1211 gw_1213 gw_s19 gw_41 gw_1214 rfl (by decide) dX5_newName_1 (fun i4 x3 => ?_)
  refine G_bipush (v := (34 : Int32)) dX5_newName_4 (by decide) ?_
  refine G_icmp_eq (tgt := 15) dX5_newName_6 (by decide) (fun _ => ?_) (fun _ => ?_)
  · refine G_aload_n 0 dX5_newName_15 rfl rfl ?_
    refine G_getr (k := 2) K_7 (by decide) rfl rfl rfl gw_430 rfl dX5_newName_16 (fun r6 => ?_)
    refine G_aload_n 0 dX5_newName_19 rfl rfl ?_
    refine G_geti (k := 5) K_7 (by decide) rfl rfl rfl gw_433 rfl dX5_newName_20 (fun i7 => ?_)
    refine G_callV (av := [.int i7]) [] (fun q10 => ct_X9_valueOf l N z q10 i7) K_11 rfl yn_X9_valueOf (Nat.le_of_ble_eq_true rfl) (by decide) gw_1228 gw_1229 gw_1230 gw_49 gw_1231 rfl (by decide) dX5_newName_23 (fun i9 x8 => ?_)
    refine G_lstore_n (i := 3) (l2 := [(0, va_rf (some o)), (1, va_rf v1), (2, .int v2)]) [0, 1, 2] dX5_newName_26 rfl (Nat.le_of_ble_eq_true rfl) rfl (sok_a (by decide) (by decide) (sok_a (by decide) (by decide) (sok_b (by decide) rfl trivial))) (sok2_a (by decide) (sok2_a (by decide) (sok2_a (by decide) trivial))) ?_
    refine G_lload_n 0 dX5_newName_27 rfl rfl ?_
    refine G_aload_n 2 dX5_newName_28 rfl rfl ?_
    refine G_iload_n 3 dX5_newName_29 rfl rfl ?_
    refine G_callS (av := [.long i9, va_rf v1, .int v2]) [] (ct_X5_placeOf l N z i9 v1 v2) yn_X5_placeOf (Nat.le_of_ble_eq_true rfl) (by decide) gw_1244 gw_1245 gw_41 gw_1246 rfl (by decide) dX5_newName_30 (fun i12 x11 => ?_)
    refine G_iconst (v := (-1 : Int32)) dX5_newName_33 rfl ?_
    refine G_icmp_eq (tgt := 45) dX5_newName_34 (by decide) (fun _ => ?_) (fun _ => ?_)
    · refine G_iload_n 3 dX5_newName_45 rfl rfl ?_
      refine G_aload_n 2 dX5_newName_46 rfl rfl ?_
      refine G_alen (t := 2) rfl (by decide) dX5_newName_47 (fun i13 => ?_)
      refine G_icmp_lt (tgt := 56) dX5_newName_48 (by decide) (fun _ => ?_) (fun _ => ?_)
      · refine G_lv [1, 0] rfl ?_
        exact g_X5_newName_b56 l N z o i9 x11
      · refine G_aload_n 1 dX5_newName_51 rfl rfl ?_
        refine G_iconst (v := (4 : Int32)) dX5_newName_52 rfl ?_
        refine G_callV (av := [.int (4 : Int32)]) [] (fun q15 => ct_X5_blame l N z q15 (4 : Int32)) K_7 rfl yn_X5_blame (Nat.le_of_ble_eq_true rfl) (by decide) gw_1232 gw_1234 gw_s22 gw_41 gw_1235 rfl (by decide) dX5_newName_53 (fun _ x14 => ?_)
        refine G_lv [1, 0] rfl ?_
        exact g_X5_newName_b56 l N z o i9 x14
    · refine G_aload_n 1 dX5_newName_37 rfl rfl ?_
      refine G_iconst (v := (2 : Int32)) dX5_newName_38 rfl ?_
      refine G_callV (av := [.int (2 : Int32)]) [] (fun q17 => ct_X5_blame l N z q17 (2 : Int32)) K_7 rfl yn_X5_blame (Nat.le_of_ble_eq_true rfl) (by decide) gw_1232 gw_1234 gw_s22 gw_41 gw_1235 rfl (by decide) dX5_newName_39 (fun _ x16 => ?_)
      refine G_goto (tgt := 56) dX5_newName_42 (by decide) ?_
      refine G_lv [1, 0] rfl ?_
      exact g_X5_newName_b56 l N z o i9 x16
  · refine G_aload_n 0 dX5_newName_9 rfl rfl ?_
    refine G_callV (av := []) [] (fun q19 => ct_X5_fail l N z q19) K_7 rfl yn_X5_fail (Nat.le_of_ble_eq_true rfl) (by decide) gw_1220 gw_1222 gw_s21 gw_41 gw_1223 rfl (by decide) dX5_newName_10 (fun _ x18 => ?_)
    refine G_lconst (v := (0 : Int64)) dX5_newName_13 (by decide) ?_
    exact G_ret trivial dX5_newName_14 rfl

theorem yn_X5_newName : Yn yX5_newName 2 := ⟨by decide +kernel, by decide +kernel, by decide +kernel⟩
theorem ct_X5_newName (l : Launch) (N : Nat) (z : Nat → Nat) (o : Nat) (v1 : Option Nat) (v2 : Int32) : Ct l z yX5_newName cX5_newName 5 (some .long) 3 enL [.ref o, va_rf v1, .int v2] (f_X5_newName N z o v1 v2) :=
  Ct_l (fun x => G_lv0 (by simp only [lva_n, lva_i, lva_o, lva_r, lva_j]) (g_X5_newName l N z o v1 v2 x)) (by decide +kernel) (by simp only [lgl_n, lgl_i, lgl_o, lgl_r, lgl_j]; decide)

theorem dX5_takes_0 : decode cX5_takes 0 = .ok (.aload_n 0, 1) := by decide +kernel
theorem dX5_takes_1 : decode cX5_takes 1 = .ok (.invokevirtual 62, 3) := by decide +kernel
theorem dX5_takes_4 : decode cX5_takes 4 = .ok (.iload_n 1, 1) := by decide +kernel
theorem dX5_takes_5 : decode cX5_takes 5 = .ok (.if_icmp .eq 5, 3) := by decide +kernel
theorem dX5_takes_8 : decode cX5_takes 8 = .ok (.iconst 0, 1) := by decide +kernel
theorem dX5_takes_9 : decode cX5_takes 9 = .ok (.ireturn, 1) := by decide +kernel
theorem dX5_takes_10 : decode cX5_takes 10 = .ok (.aload_n 0, 1) := by decide +kernel
theorem dX5_takes_11 : decode cX5_takes 11 = .ok (.dup, 1) := by decide +kernel
theorem dX5_takes_12 : decode cX5_takes 12 = .ok (.getfield 52, 3) := by decide +kernel
theorem dX5_takes_15 : decode cX5_takes 15 = .ok (.iconst 1, 1) := by decide +kernel
theorem dX5_takes_16 : decode cX5_takes 16 = .ok (.iadd, 1) := by decide +kernel
theorem dX5_takes_17 : decode cX5_takes 17 = .ok (.putfield 52, 3) := by decide +kernel
theorem dX5_takes_20 : decode cX5_takes 20 = .ok (.iconst 1, 1) := by decide +kernel
theorem dX5_takes_21 : decode cX5_takes 21 = .ok (.ireturn, 1) := by decide +kernel
abbrev m_X5_takes : Mt := (cX5_takes, RX5, "takes", 2, .ireturn, 3)
def f_X5_takes (N : Nat) (z : Nat → Nat) (o : Nat) (v1 : Int32) (x0 : Hp) : Option (Int32 × Hp) :=
  obj (some o) x0 8 fun q3 => bnd (f_X5_kind N z q3 x0) fun i2 x1 =>
  if i2 = v1 then (geti (some o) x1 8 145 fun i4 =>
  puti (some o) x1 8 145 (i4 + (1 : Int32)) fun x5 =>
  some ((1 : Int32), x5)) else (some ((0 : Int32), x1))
set_option maxRecDepth 100000 in
set_option maxHeartbeats 4000000 in
theorem g_X5_takes (l : Launch) (N : Nat) (z : Nat → Nat) (o : Nat) (v1 : Int32) (x0 : Hp) : G l z m_X5_takes okZ enI 0 [(0, va_rf (some o)), (1, .int v1)] [] x0 (f_X5_takes N z o v1 x0) := by
  unfold f_X5_takes
  refine G_aload_n 0 dX5_takes_0 rfl rfl ?_
  refine G_callV (av := []) [] (fun q3 => ct_X5_kind l N z q3) K_7 rfl yn_X5_kind (Nat.le_of_ble_eq_true rfl) (by decide) gw_1211 gw_1213 gw_s19 gw_41 gw_1214 rfl (by decide) dX5_takes_1 (fun i2 x1 => ?_)
  refine G_iload_n 1 dX5_takes_4 rfl rfl ?_
  refine G_icmp_eq (tgt := 10) dX5_takes_5 (by decide) (fun _ => ?_) (fun _ => ?_)
  · refine G_aload_n 0 dX5_takes_10 rfl rfl ?_
    refine G_dup dX5_takes_11 (rf_cat _) ?_
    refine G_geti (k := 5) K_7 (by decide) rfl rfl rfl gw_433 rfl dX5_takes_12 (fun i4 => ?_)
    refine G_iconst (v := (1 : Int32)) dX5_takes_15 rfl ?_
    refine G_iadd dX5_takes_16 ?_
    refine G_puti (k := 5) K_7 (by decide) rfl rfl rfl gw_433 rfl (Or.inl rfl) nar_int.1 nar_int.2 dX5_takes_17 (fun x5 => ?_)
    refine G_iconst (v := (1 : Int32)) dX5_takes_20 rfl ?_
    exact G_ret (Or.inr rfl) dX5_takes_21 rfl
  · refine G_iconst (v := (0 : Int32)) dX5_takes_8 rfl ?_
    exact G_ret (Or.inl rfl) dX5_takes_9 rfl

theorem yn_X5_takes : Yn yX5_takes 1 := ⟨by decide +kernel, by decide +kernel, by decide +kernel⟩
theorem ct_X5_takes (l : Launch) (N : Nat) (z : Nat → Nat) (o : Nat) (v1 : Int32) : Ct l z yX5_takes cX5_takes 2 (some .boolean) 3 enI [.ref o, .int v1] (f_X5_takes N z o v1) :=
  Ct_z (fun x => G_lv0 (by simp only [lva_n, lva_i, lva_o, lva_r, lva_j]) (g_X5_takes l N z o v1 x)) (by decide +kernel) (by simp only [lgl_n, lgl_i, lgl_o, lgl_r, lgl_j]; decide)

theorem dX5_toldLane_0 : decode cX5_toldLane 0 = .ok (.aload_n 0, 1) := by decide +kernel
theorem dX5_toldLane_1 : decode cX5_toldLane 1 = .ok (.invokevirtual 62, 3) := by decide +kernel
theorem dX5_toldLane_4 : decode cX5_toldLane 4 = .ok (.bipush 34, 2) := by decide +kernel
theorem dX5_toldLane_6 : decode cX5_toldLane 6 = .ok (.if_icmp .eq 9, 3) := by decide +kernel
theorem dX5_toldLane_9 : decode cX5_toldLane 9 = .ok (.aload_n 0, 1) := by decide +kernel
theorem dX5_toldLane_10 : decode cX5_toldLane 10 = .ok (.invokevirtual 82, 3) := by decide +kernel
theorem dX5_toldLane_13 : decode cX5_toldLane 13 = .ok (.iconst (-1), 1) := by decide +kernel
theorem dX5_toldLane_14 : decode cX5_toldLane 14 = .ok (.ireturn, 1) := by decide +kernel
theorem dX5_toldLane_15 : decode cX5_toldLane 15 = .ok (.aload_n 0, 1) := by decide +kernel
theorem dX5_toldLane_16 : decode cX5_toldLane 16 = .ok (.getfield 26, 3) := by decide +kernel
theorem dX5_toldLane_19 : decode cX5_toldLane 19 = .ok (.aload_n 0, 1) := by decide +kernel
theorem dX5_toldLane_20 : decode cX5_toldLane 20 = .ok (.getfield 52, 3) := by decide +kernel
theorem dX5_toldLane_23 : decode cX5_toldLane 23 = .ok (.invokevirtual 180, 3) := by decide +kernel
theorem dX5_toldLane_26 : decode cX5_toldLane 26 = .ok (.aload_n 0, 1) := by decide +kernel
theorem dX5_toldLane_27 : decode cX5_toldLane 27 = .ok (.getfield 30, 3) := by decide +kernel
theorem dX5_toldLane_30 : decode cX5_toldLane 30 = .ok (.aload_n 0, 1) := by decide +kernel
theorem dX5_toldLane_31 : decode cX5_toldLane 31 = .ok (.getfield 17, 3) := by decide +kernel
theorem dX5_toldLane_34 : decode cX5_toldLane 34 = .ok (.getfield 88, 3) := by decide +kernel
theorem dX5_toldLane_37 : decode cX5_toldLane 37 = .ok (.invokestatic 191, 3) := by decide +kernel
theorem dX5_toldLane_40 : decode cX5_toldLane 40 = .ok (.istore_n 1, 1) := by decide +kernel
theorem dX5_toldLane_41 : decode cX5_toldLane 41 = .ok (.iload_n 1, 1) := by decide +kernel
theorem dX5_toldLane_42 : decode cX5_toldLane 42 = .ok (.iconst (-1), 1) := by decide +kernel
theorem dX5_toldLane_43 : decode cX5_toldLane 43 = .ok (.if_icmp .ne 8, 3) := by decide +kernel
theorem dX5_toldLane_46 : decode cX5_toldLane 46 = .ok (.aload_n 0, 1) := by decide +kernel
theorem dX5_toldLane_47 : decode cX5_toldLane 47 = .ok (.iconst 3, 1) := by decide +kernel
theorem dX5_toldLane_48 : decode cX5_toldLane 48 = .ok (.invokevirtual 137, 3) := by decide +kernel
theorem dX5_toldLane_51 : decode cX5_toldLane 51 = .ok (.aload_n 0, 1) := by decide +kernel
theorem dX5_toldLane_52 : decode cX5_toldLane 52 = .ok (.dup, 1) := by decide +kernel
theorem dX5_toldLane_53 : decode cX5_toldLane 53 = .ok (.getfield 52, 3) := by decide +kernel
theorem dX5_toldLane_56 : decode cX5_toldLane 56 = .ok (.iconst 1, 1) := by decide +kernel
theorem dX5_toldLane_57 : decode cX5_toldLane 57 = .ok (.iadd, 1) := by decide +kernel
theorem dX5_toldLane_58 : decode cX5_toldLane 58 = .ok (.putfield 52, 3) := by decide +kernel
theorem dX5_toldLane_61 : decode cX5_toldLane 61 = .ok (.iload_n 1, 1) := by decide +kernel
theorem dX5_toldLane_62 : decode cX5_toldLane 62 = .ok (.ireturn, 1) := by decide +kernel
abbrev m_X5_toldLane : Mt := (cX5_toldLane, RX5, "toldLane", 2, .ireturn, 3)
def f_X5_toldLane_b51 (N : Nat) (z : Nat → Nat) (o : Nat) (v1 : Int32) (x0 : Hp) : Option (Int32 × Hp) :=
  geti (some o) x0 8 145 fun i1 =>
  puti (some o) x0 8 145 (i1 + (1 : Int32)) fun x2 =>
  some (v1, x2)
def f_X5_toldLane (N : Nat) (z : Nat → Nat) (o : Nat) (x0 : Hp) : Option (Int32 × Hp) :=
  obj (some o) x0 8 fun q5 => bnd (f_X5_kind N z q5 x0) fun i4 x3 =>
  if i4 = (34 : Int32) then (getr (some o) x3 8 142 fun r6 =>
  geti (some o) x3 8 145 fun i7 =>
  obj r6 x3 12 fun q10 => bnd (f_X9_valueOf N z q10 i7 x3) fun i9 x8 =>
  getr (some o) x8 8 143 fun r11 =>
  getr (some o) x8 8 140 fun r12 =>
  geti r12 x8 9 163 fun i13 =>
  bnd (f_X5_placeOf N z i9 r11 i13 x8) fun i15 x14 =>
  if i15 = (-1 : Int32) then (obj (some o) x14 8 fun q17 => bnd (f_X5_blame N z q17 (3 : Int32) x14) fun _ x16 =>
  f_X5_toldLane_b51 N z o i15 x16) else (f_X5_toldLane_b51 N z o i15 x14)) else (obj (some o) x3 8 fun q19 => bnd (f_X5_fail N z q19 x3) fun _ x18 =>
  some ((-1 : Int32), x18))
set_option maxRecDepth 100000 in
set_option maxHeartbeats 4000000 in
theorem g_X5_toldLane_b51 (l : Launch) (N : Nat) (z : Nat → Nat) (o : Nat) (v1 : Int32) (x0 : Hp) : G l z m_X5_toldLane okT enI 51 [(0, va_rf (some o)), (1, .int v1)] [] x0 (f_X5_toldLane_b51 N z o v1 x0) := by
  unfold f_X5_toldLane_b51
  refine G_aload_n 0 dX5_toldLane_51 rfl rfl ?_
  refine G_dup dX5_toldLane_52 (rf_cat _) ?_
  refine G_geti (k := 5) K_7 (by decide) rfl rfl rfl gw_433 rfl dX5_toldLane_53 (fun i1 => ?_)
  refine G_iconst (v := (1 : Int32)) dX5_toldLane_56 rfl ?_
  refine G_iadd dX5_toldLane_57 ?_
  refine G_puti (k := 5) K_7 (by decide) rfl rfl rfl gw_433 rfl (Or.inl rfl) nar_int.1 nar_int.2 dX5_toldLane_58 (fun x2 => ?_)
  refine G_iload_n 1 dX5_toldLane_61 rfl rfl ?_
  exact G_ret trivial dX5_toldLane_62 rfl

set_option maxRecDepth 100000 in
set_option maxHeartbeats 4000000 in
theorem g_X5_toldLane (l : Launch) (N : Nat) (z : Nat → Nat) (o : Nat) (x0 : Hp) : G l z m_X5_toldLane okT enI 0 [(0, va_rf (some o))] [] x0 (f_X5_toldLane N z o x0) := by
  unfold f_X5_toldLane
  refine G_aload_n 0 dX5_toldLane_0 rfl rfl ?_
  refine G_callV (av := []) [] (fun q5 => ct_X5_kind l N z q5) K_7 rfl yn_X5_kind (Nat.le_of_ble_eq_true rfl) (by decide) gw_1211 gw_1213 gw_s19 gw_41 gw_1214 rfl (by decide) dX5_toldLane_1 (fun i4 x3 => ?_)
  refine G_bipush (v := (34 : Int32)) dX5_toldLane_4 (by decide) ?_
  refine G_icmp_eq (tgt := 15) dX5_toldLane_6 (by decide) (fun _ => ?_) (fun _ => ?_)
  · refine G_aload_n 0 dX5_toldLane_15 rfl rfl ?_
    refine G_getr (k := 2) K_7 (by decide) rfl rfl rfl gw_430 rfl dX5_toldLane_16 (fun r6 => ?_)
    refine G_aload_n 0 dX5_toldLane_19 rfl rfl ?_
    refine G_geti (k := 5) K_7 (by decide) rfl rfl rfl gw_433 rfl dX5_toldLane_20 (fun i7 => ?_)
    refine G_callV (av := [.int i7]) [] (fun q10 => ct_X9_valueOf l N z q10 i7) K_11 rfl yn_X9_valueOf (Nat.le_of_ble_eq_true rfl) (by decide) gw_1228 gw_1229 gw_1230 gw_49 gw_1231 rfl (by decide) dX5_toldLane_23 (fun i9 x8 => ?_)
    refine G_aload_n 0 dX5_toldLane_26 rfl rfl ?_
    refine G_getr (k := 3) K_7 (by decide) rfl rfl rfl gw_431 rfl dX5_toldLane_27 (fun r11 => ?_)
    refine G_aload_n 0 dX5_toldLane_30 rfl rfl ?_
    refine G_getr (k := 0) K_7 (by decide) rfl rfl rfl gw_426 rfl dX5_toldLane_31 (fun r12 => ?_)
    refine G_geti (k := 3) K_8 (by decide) rfl rfl rfl gw_314 rfl dX5_toldLane_34 (fun i13 => ?_)
    refine G_callS (av := [.long i9, va_rf r11, .int i13]) [] (ct_X5_placeOf l N z i9 r11 i13) yn_X5_placeOf (Nat.le_of_ble_eq_true rfl) (by decide) gw_1244 gw_1245 gw_41 gw_1246 rfl (by decide) dX5_toldLane_37 (fun i15 x14 => ?_)
    refine G_istore_n (i := 1) (l2 := [(0, va_rf (some o))]) [0] dX5_toldLane_40 rfl (Nat.le_of_ble_eq_true rfl) rfl (sok_b (by decide) (rf_cat _) trivial) ?_
    refine G_iload_n 0 dX5_toldLane_41 rfl rfl ?_
    refine G_iconst (v := (-1 : Int32)) dX5_toldLane_42 rfl ?_
    refine G_icmp_ne (tgt := 51) dX5_toldLane_43 (by decide) (fun _ => ?_) (fun _ => ?_)
    · refine G_aload_n 1 dX5_toldLane_46 rfl rfl ?_
      refine G_iconst (v := (3 : Int32)) dX5_toldLane_47 rfl ?_
      refine G_callV (av := [.int (3 : Int32)]) [] (fun q17 => ct_X5_blame l N z q17 (3 : Int32)) K_7 rfl yn_X5_blame (Nat.le_of_ble_eq_true rfl) (by decide) gw_1232 gw_1234 gw_s22 gw_41 gw_1235 rfl (by decide) dX5_toldLane_48 (fun _ x16 => ?_)
      refine G_lv [1, 0] rfl ?_
      exact g_X5_toldLane_b51 l N z o i15 x16
    · refine G_lv [1, 0] rfl ?_
      exact g_X5_toldLane_b51 l N z o i15 x14
  · refine G_aload_n 0 dX5_toldLane_9 rfl rfl ?_
    refine G_callV (av := []) [] (fun q19 => ct_X5_fail l N z q19) K_7 rfl yn_X5_fail (Nat.le_of_ble_eq_true rfl) (by decide) gw_1220 gw_1222 gw_s21 gw_41 gw_1223 rfl (by decide) dX5_toldLane_10 (fun _ x18 => ?_)
    refine G_iconst (v := (-1 : Int32)) dX5_toldLane_13 rfl ?_
    exact G_ret trivial dX5_toldLane_14 rfl

theorem yn_X5_toldLane : Yn yX5_toldLane 0 := ⟨by decide +kernel, by decide +kernel, by decide +kernel⟩
theorem ct_X5_toldLane (l : Launch) (N : Nat) (z : Nat → Nat) (o : Nat) : Ct l z yX5_toldLane cX5_toldLane 2 (some .int) 3 enI [.ref o] (f_X5_toldLane N z o) :=
  Ct_i (fun x => G_lv0 (by simp only [lva_n, lva_i, lva_o, lva_r, lva_j]) (g_X5_toldLane l N z o x)) (by decide +kernel) (by simp only [lgl_n, lgl_i, lgl_o, lgl_r, lgl_j]; decide)

theorem dX5_need_0 : decode cX5_need 0 = .ok (.aload_n 0, 1) := by decide +kernel
theorem dX5_need_1 : decode cX5_need 1 = .ok (.invokevirtual 62, 3) := by decide +kernel
theorem dX5_need_4 : decode cX5_need 4 = .ok (.iload_n 1, 1) := by decide +kernel
theorem dX5_need_5 : decode cX5_need 5 = .ok (.if_icmp .ne 16, 3) := by decide +kernel
theorem dX5_need_8 : decode cX5_need 8 = .ok (.aload_n 0, 1) := by decide +kernel
theorem dX5_need_9 : decode cX5_need 9 = .ok (.dup, 1) := by decide +kernel
theorem dX5_need_10 : decode cX5_need 10 = .ok (.getfield 52, 3) := by decide +kernel
theorem dX5_need_13 : decode cX5_need 13 = .ok (.iconst 1, 1) := by decide +kernel
theorem dX5_need_14 : decode cX5_need 14 = .ok (.iadd, 1) := by decide +kernel
theorem dX5_need_15 : decode cX5_need 15 = .ok (.putfield 52, 3) := by decide +kernel
theorem dX5_need_18 : decode cX5_need 18 = .ok (.goto 7, 3) := by decide +kernel
theorem dX5_need_21 : decode cX5_need 21 = .ok (.aload_n 0, 1) := by decide +kernel
theorem dX5_need_22 : decode cX5_need 22 = .ok (.invokevirtual 82, 3) := by decide +kernel
theorem dX5_need_25 : decode cX5_need 25 = .ok (.return_, 1) := by decide +kernel
abbrev m_X5_need : Mt := (cX5_need, RX5, "need", 2, .return_, 3)
def f_X5_need (N : Nat) (z : Nat → Nat) (o : Nat) (v1 : Int32) (x0 : Hp) : Option (Unit × Hp) :=
  obj (some o) x0 8 fun q3 => bnd (f_X5_kind N z q3 x0) fun i2 x1 =>
  if i2 = v1 then (geti (some o) x1 8 145 fun i6 =>
  puti (some o) x1 8 145 (i6 + (1 : Int32)) fun x7 =>
  some ((), x7)) else (obj (some o) x1 8 fun q5 => bnd (f_X5_fail N z q5 x1) fun _ x4 =>
  some ((), x4))
set_option maxRecDepth 100000 in
set_option maxHeartbeats 4000000 in
theorem g_X5_need (l : Launch) (N : Nat) (z : Nat → Nat) (o : Nat) (v1 : Int32) (x0 : Hp) : G l z m_X5_need okT enV 0 [(0, va_rf (some o)), (1, .int v1)] [] x0 (f_X5_need N z o v1 x0) := by
  unfold f_X5_need
  refine G_aload_n 0 dX5_need_0 rfl rfl ?_
  refine G_callV (av := []) [] (fun q3 => ct_X5_kind l N z q3) K_7 rfl yn_X5_kind (Nat.le_of_ble_eq_true rfl) (by decide) gw_1211 gw_1213 gw_s19 gw_41 gw_1214 rfl (by decide) dX5_need_1 (fun i2 x1 => ?_)
  refine G_iload_n 1 dX5_need_4 rfl rfl ?_
  refine G_icmp_ne (tgt := 21) dX5_need_5 (by decide) (fun _ => ?_) (fun _ => ?_)
  · refine G_aload_n 0 dX5_need_8 rfl rfl ?_
    refine G_dup dX5_need_9 (rf_cat _) ?_
    refine G_geti (k := 5) K_7 (by decide) rfl rfl rfl gw_433 rfl dX5_need_10 (fun i6 => ?_)
    refine G_iconst (v := (1 : Int32)) dX5_need_13 rfl ?_
    refine G_iadd dX5_need_14 ?_
    refine G_puti (k := 5) K_7 (by decide) rfl rfl rfl gw_433 rfl (Or.inl rfl) nar_int.1 nar_int.2 dX5_need_15 (fun x7 => ?_)
    refine G_goto (tgt := 25) dX5_need_18 (by decide) ?_
    exact G_ret trivial dX5_need_25 rfl
  · refine G_aload_n 0 dX5_need_21 rfl rfl ?_
    refine G_callV (av := []) [] (fun q5 => ct_X5_fail l N z q5) K_7 rfl yn_X5_fail (Nat.le_of_ble_eq_true rfl) (by decide) gw_1220 gw_1222 gw_s21 gw_41 gw_1223 rfl (by decide) dX5_need_22 (fun _ x4 => ?_)
    exact G_ret trivial dX5_need_25 rfl

theorem yn_X5_need : Yn yX5_need 1 := ⟨by decide +kernel, by decide +kernel, by decide +kernel⟩
theorem ct_X5_need (l : Launch) (N : Nat) (z : Nat → Nat) (o : Nat) (v1 : Int32) : Ct l z yX5_need cX5_need 2 none 3 enV [.ref o, .int v1] (f_X5_need N z o v1) :=
  Ct_v (fun x => G_lv0 (by simp only [lva_n, lva_i, lva_o, lva_r, lva_j]) (g_X5_need l N z o v1 x)) (by decide +kernel) (by simp only [lgl_n, lgl_i, lgl_o, lgl_r, lgl_j]; decide)

theorem dX5_keepName_0 : decode cX5_keepName 0 = .ok (.iload_n 1, 1) := by decide +kernel
theorem dX5_keepName_1 : decode cX5_keepName 1 = .ok (.ifCond .lt 13, 3) := by decide +kernel
theorem dX5_keepName_4 : decode cX5_keepName 4 = .ok (.iload_n 1, 1) := by decide +kernel
theorem dX5_keepName_5 : decode cX5_keepName 5 = .ok (.aload_n 0, 1) := by decide +kernel
theorem dX5_keepName_6 : decode cX5_keepName 6 = .ok (.arraylength, 1) := by decide +kernel
theorem dX5_keepName_7 : decode cX5_keepName 7 = .ok (.if_icmp .ge 7, 3) := by decide +kernel
theorem dX5_keepName_10 : decode cX5_keepName 10 = .ok (.aload_n 0, 1) := by decide +kernel
theorem dX5_keepName_11 : decode cX5_keepName 11 = .ok (.iload_n 1, 1) := by decide +kernel
theorem dX5_keepName_12 : decode cX5_keepName 12 = .ok (.lload_n 2, 1) := by decide +kernel
theorem dX5_keepName_13 : decode cX5_keepName 13 = .ok (.lastore, 1) := by decide +kernel
theorem dX5_keepName_14 : decode cX5_keepName 14 = .ok (.return_, 1) := by decide +kernel
abbrev m_X5_keepName : Mt := (cX5_keepName, RX5, "keepName", 4, .return_, 1)
def f_X5_keepName (N : Nat) (z : Nat → Nat) (v0 : Option Nat) (v1 : Int32) (v2 : Int64) (x0 : Hp) : Option (Unit × Hp) :=
  if v1 < 0 then (some ((), x0)) else (alen v0 x0 102 fun i1 =>
  if i1 ≤ v1 then (some ((), x0)) else (astl v0 x0 102 v1 v2 fun x2 =>
  some ((), x2)))
set_option maxRecDepth 100000 in
set_option maxHeartbeats 4000000 in
theorem g_X5_keepName (l : Launch) (N : Nat) (z : Nat → Nat) (v0 : Option Nat) (v1 : Int32) (v2 : Int64) (x0 : Hp) : G l z m_X5_keepName okT enV 0 [(0, va_rf v0), (1, .int v1), (2, .long v2)] [] x0 (f_X5_keepName N z v0 v1 v2 x0) := by
  unfold f_X5_keepName
  refine G_iload_n 1 dX5_keepName_0 rfl rfl ?_
  refine G_if_lt (tgt := 14) dX5_keepName_1 (by decide) (fun _ => ?_) (fun _ => ?_)
  · exact G_ret trivial dX5_keepName_14 rfl
  · refine G_iload_n 1 dX5_keepName_4 rfl rfl ?_
    refine G_aload_n 0 dX5_keepName_5 rfl rfl ?_
    refine G_alen (t := 2) rfl (by decide) dX5_keepName_6 (fun i1 => ?_)
    refine G_icmp_ge (tgt := 14) dX5_keepName_7 (by decide) (fun _ => ?_) (fun _ => ?_)
    · exact G_ret trivial dX5_keepName_14 rfl
    · refine G_aload_n 0 dX5_keepName_10 rfl rfl ?_
      refine G_iload_n 1 dX5_keepName_11 rfl rfl ?_
      refine G_lload_n 2 dX5_keepName_12 rfl rfl ?_
      refine G_last dX5_keepName_13 (fun x2 => ?_)
      exact G_ret trivial dX5_keepName_14 rfl

theorem yn_X5_keepName : Yn yX5_keepName 3 := ⟨by decide +kernel, by decide +kernel, by decide +kernel⟩
theorem ct_X5_keepName (l : Launch) (N : Nat) (z : Nat → Nat) (v0 : Option Nat) (v1 : Int32) (v2 : Int64) : Ct l z yX5_keepName cX5_keepName 4 none 1 enV [va_rf v0, .int v1, .long v2] (f_X5_keepName N z v0 v1 v2) :=
  Ct_v (fun x => G_lv0 (by simp only [lva_n, lva_i, lva_o, lva_r, lva_j]) (g_X5_keepName l N z v0 v1 v2 x)) (by decide +kernel) (by simp only [lgl_n, lgl_i, lgl_o, lgl_r, lgl_j]; decide)

theorem dX5_readLane_0 : decode cX5_readLane 0 = .ok (.aload_n 0, 1) := by decide +kernel
theorem dX5_readLane_1 : decode cX5_readLane 1 = .ok (.dup, 1) := by decide +kernel
theorem dX5_readLane_2 : decode cX5_readLane 2 = .ok (.getfield 52, 3) := by decide +kernel
theorem dX5_readLane_5 : decode cX5_readLane 5 = .ok (.iconst 1, 1) := by decide +kernel
theorem dX5_readLane_6 : decode cX5_readLane 6 = .ok (.iadd, 1) := by decide +kernel
theorem dX5_readLane_7 : decode cX5_readLane 7 = .ok (.putfield 52, 3) := by decide +kernel
theorem dX5_readLane_10 : decode cX5_readLane 10 = .ok (.aload_n 0, 1) := by decide +kernel
theorem dX5_readLane_11 : decode cX5_readLane 11 = .ok (.aload_n 0, 1) := by decide +kernel
theorem dX5_readLane_12 : decode cX5_readLane 12 = .ok (.getfield 30, 3) := by decide +kernel
theorem dX5_readLane_15 : decode cX5_readLane 15 = .ok (.aload_n 0, 1) := by decide +kernel
theorem dX5_readLane_16 : decode cX5_readLane 16 = .ok (.getfield 17, 3) := by decide +kernel
theorem dX5_readLane_19 : decode cX5_readLane 19 = .ok (.getfield 88, 3) := by decide +kernel
theorem dX5_readLane_22 : decode cX5_readLane 22 = .ok (.invokevirtual 91, 3) := by decide +kernel
theorem dX5_readLane_25 : decode cX5_readLane 25 = .ok (.lstore_n 1, 1) := by decide +kernel
theorem dX5_readLane_26 : decode cX5_readLane 26 = .ok (.aload_n 0, 1) := by decide +kernel
theorem dX5_readLane_27 : decode cX5_readLane 27 = .ok (.iconst 2, 1) := by decide +kernel
theorem dX5_readLane_28 : decode cX5_readLane 28 = .ok (.invokevirtual 95, 3) := by decide +kernel
theorem dX5_readLane_31 : decode cX5_readLane 31 = .ok (.ifCond .eq 10, 3) := by decide +kernel
theorem dX5_readLane_34 : decode cX5_readLane 34 = .ok (.aload_n 0, 1) := by decide +kernel
theorem dX5_readLane_35 : decode cX5_readLane 35 = .ok (.invokevirtual 99, 3) := by decide +kernel
theorem dX5_readLane_38 : decode cX5_readLane 38 = .ok (.goto 4, 3) := by decide +kernel
theorem dX5_readLane_41 : decode cX5_readLane 41 = .ok (.iconst (-1), 1) := by decide +kernel
theorem dX5_readLane_42 : decode cX5_readLane 42 = .ok (.istore_n 3, 1) := by decide +kernel
theorem dX5_readLane_43 : decode cX5_readLane 43 = .ok (.aload_n 0, 1) := by decide +kernel
theorem dX5_readLane_44 : decode cX5_readLane 44 = .ok (.iconst 3, 1) := by decide +kernel
theorem dX5_readLane_45 : decode cX5_readLane 45 = .ok (.invokevirtual 85, 3) := by decide +kernel
theorem dX5_readLane_48 : decode cX5_readLane 48 = .ok (.aload_n 0, 1) := by decide +kernel
theorem dX5_readLane_49 : decode cX5_readLane 49 = .ok (.iconst 0, 1) := by decide +kernel
theorem dX5_readLane_50 : decode cX5_readLane 50 = .ok (.bipush 30, 2) := by decide +kernel
theorem dX5_readLane_52 : decode cX5_readLane 52 = .ok (.invokevirtual 66, 3) := by decide +kernel
theorem dX5_readLane_55 : decode cX5_readLane 55 = .ok (.istore 4, 2) := by decide +kernel
theorem dX5_readLane_57 : decode cX5_readLane 57 = .ok (.aload_n 0, 1) := by decide +kernel
theorem dX5_readLane_58 : decode cX5_readLane 58 = .ok (.iconst 4, 1) := by decide +kernel
theorem dX5_readLane_59 : decode cX5_readLane 59 = .ok (.invokevirtual 85, 3) := by decide +kernel
theorem dX5_readLane_62 : decode cX5_readLane 62 = .ok (.aload_n 0, 1) := by decide +kernel
theorem dX5_readLane_63 : decode cX5_readLane 63 = .ok (.iconst 0, 1) := by decide +kernel
theorem dX5_readLane_64 : decode cX5_readLane 64 = .ok (.bipush 30, 2) := by decide +kernel
theorem dX5_readLane_66 : decode cX5_readLane 66 = .ok (.invokevirtual 66, 3) := by decide +kernel
theorem dX5_readLane_69 : decode cX5_readLane 69 = .ok (.istore 5, 2) := by decide +kernel
theorem dX5_readLane_71 : decode cX5_readLane 71 = .ok (.aload_n 0, 1) := by decide +kernel
theorem dX5_readLane_72 : decode cX5_readLane 72 = .ok (.iconst 5, 1) := by decide +kernel
theorem dX5_readLane_73 : decode cX5_readLane 73 = .ok (.invokevirtual 85, 3) := by decide +kernel
theorem dX5_readLane_76 : decode cX5_readLane 76 = .ok (.aload_n 0, 1) := by decide +kernel
theorem dX5_readLane_77 : decode cX5_readLane 77 = .ok (.iconst 0, 1) := by decide +kernel
theorem dX5_readLane_78 : decode cX5_readLane 78 = .ok (.bipush 99, 2) := by decide +kernel
theorem dX5_readLane_80 : decode cX5_readLane 80 = .ok (.invokevirtual 66, 3) := by decide +kernel
theorem dX5_readLane_83 : decode cX5_readLane 83 = .ok (.istore 6, 2) := by decide +kernel
theorem dX5_readLane_85 : decode cX5_readLane 85 = .ok (.aload_n 0, 1) := by decide +kernel
theorem dX5_readLane_86 : decode cX5_readLane 86 = .ok (.bipush 6, 2) := by decide +kernel
theorem dX5_readLane_88 : decode cX5_readLane 88 = .ok (.invokevirtual 85, 3) := by decide +kernel
theorem dX5_readLane_91 : decode cX5_readLane 91 = .ok (.aload_n 0, 1) := by decide +kernel
theorem dX5_readLane_92 : decode cX5_readLane 92 = .ok (.iconst 0, 1) := by decide +kernel
theorem dX5_readLane_93 : decode cX5_readLane 93 = .ok (.bipush 9, 2) := by decide +kernel
theorem dX5_readLane_95 : decode cX5_readLane 95 = .ok (.invokevirtual 66, 3) := by decide +kernel
theorem dX5_readLane_98 : decode cX5_readLane 98 = .ok (.istore 7, 2) := by decide +kernel
theorem dX5_readLane_100 : decode cX5_readLane 100 = .ok (.aload_n 0, 1) := by decide +kernel
theorem dX5_readLane_101 : decode cX5_readLane 101 = .ok (.bipush 7, 2) := by decide +kernel
theorem dX5_readLane_103 : decode cX5_readLane 103 = .ok (.invokevirtual 85, 3) := by decide +kernel
theorem dX5_readLane_106 : decode cX5_readLane 106 = .ok (.aload_n 0, 1) := by decide +kernel
theorem dX5_readLane_107 : decode cX5_readLane 107 = .ok (.iconst 1, 1) := by decide +kernel
theorem dX5_readLane_108 : decode cX5_readLane 108 = .ok (.bipush 60, 2) := by decide +kernel
theorem dX5_readLane_110 : decode cX5_readLane 110 = .ok (.invokevirtual 66, 3) := by decide +kernel
theorem dX5_readLane_113 : decode cX5_readLane 113 = .ok (.istore 8, 2) := by decide +kernel
theorem dX5_readLane_115 : decode cX5_readLane 115 = .ok (.aload_n 0, 1) := by decide +kernel
theorem dX5_readLane_116 : decode cX5_readLane 116 = .ok (.bipush 8, 2) := by decide +kernel
theorem dX5_readLane_118 : decode cX5_readLane 118 = .ok (.invokevirtual 85, 3) := by decide +kernel
theorem dX5_readLane_121 : decode cX5_readLane 121 = .ok (.aload_n 0, 1) := by decide +kernel
theorem dX5_readLane_122 : decode cX5_readLane 122 = .ok (.bipush 9, 2) := by decide +kernel
theorem dX5_readLane_124 : decode cX5_readLane 124 = .ok (.invokevirtual 95, 3) := by decide +kernel
theorem dX5_readLane_127 : decode cX5_readLane 127 = .ok (.istore 9, 2) := by decide +kernel
theorem dX5_readLane_129 : decode cX5_readLane 129 = .ok (.iload 9, 2) := by decide +kernel
theorem dX5_readLane_131 : decode cX5_readLane 131 = .ok (.ifCond .ne 9, 3) := by decide +kernel
theorem dX5_readLane_134 : decode cX5_readLane 134 = .ok (.aload_n 0, 1) := by decide +kernel
theorem dX5_readLane_135 : decode cX5_readLane 135 = .ok (.bipush 10, 2) := by decide +kernel
theorem dX5_readLane_137 : decode cX5_readLane 137 = .ok (.invokevirtual 85, 3) := by decide +kernel
theorem dX5_readLane_140 : decode cX5_readLane 140 = .ok (.aload_n 0, 1) := by decide +kernel
theorem dX5_readLane_141 : decode cX5_readLane 141 = .ok (.getfield 17, 3) := by decide +kernel
theorem dX5_readLane_144 : decode cX5_readLane 144 = .ok (.invokevirtual 102, 3) := by decide +kernel
theorem dX5_readLane_147 : decode cX5_readLane 147 = .ok (.astore 10, 2) := by decide +kernel
theorem dX5_readLane_149 : decode cX5_readLane 149 = .ok (.aload 10, 2) := by decide +kernel
theorem dX5_readLane_151 : decode cX5_readLane 151 = .ok (.ifnull 41, 3) := by decide +kernel
theorem dX5_readLane_154 : decode cX5_readLane 154 = .ok (.aload_n 0, 1) := by decide +kernel
theorem dX5_readLane_155 : decode cX5_readLane 155 = .ok (.getfield 30, 3) := by decide +kernel
theorem dX5_readLane_158 : decode cX5_readLane 158 = .ok (.aload 10, 2) := by decide +kernel
theorem dX5_readLane_160 : decode cX5_readLane 160 = .ok (.getfield 106, 3) := by decide +kernel
theorem dX5_readLane_163 : decode cX5_readLane 163 = .ok (.lload_n 1, 1) := by decide +kernel
theorem dX5_readLane_164 : decode cX5_readLane 164 = .ok (.invokestatic 110, 3) := by decide +kernel
theorem dX5_readLane_167 : decode cX5_readLane 167 = .ok (.aload 10, 2) := by decide +kernel
theorem dX5_readLane_169 : decode cX5_readLane 169 = .ok (.aload_n 0, 1) := by decide +kernel
theorem dX5_readLane_170 : decode cX5_readLane 170 = .ok (.getfield 17, 3) := by decide +kernel
theorem dX5_readLane_173 : decode cX5_readLane 173 = .ok (.iload_n 3, 1) := by decide +kernel
theorem dX5_readLane_174 : decode cX5_readLane 174 = .ok (.invokevirtual 114, 3) := by decide +kernel
theorem dX5_readLane_177 : decode cX5_readLane 177 = .ok (.iload 4, 2) := by decide +kernel
theorem dX5_readLane_179 : decode cX5_readLane 179 = .ok (.iload 5, 2) := by decide +kernel
theorem dX5_readLane_181 : decode cX5_readLane 181 = .ok (.iload 6, 2) := by decide +kernel
theorem dX5_readLane_183 : decode cX5_readLane 183 = .ok (.iload 7, 2) := by decide +kernel
theorem dX5_readLane_185 : decode cX5_readLane 185 = .ok (.iload 8, 2) := by decide +kernel
theorem dX5_readLane_187 : decode cX5_readLane 187 = .ok (.iload 9, 2) := by decide +kernel
theorem dX5_readLane_189 : decode cX5_readLane 189 = .ok (.invokevirtual 118, 3) := by decide +kernel
theorem dX5_readLane_192 : decode cX5_readLane 192 = .ok (.return_, 1) := by decide +kernel
abbrev m_X5_readLane : Mt := (cX5_readLane, RX5, "readLane", 11, .return_, 4)
def f_X5_readLane_b140 (N : Nat) (z : Nat → Nat) (o : Nat) (v1 : Int64) (v3 : Int32) (v4 : Int32) (v5 : Int32) (v6 : Int32) (v7 : Int32) (v8 : Int32) (v9 : Int32) (x0 : Hp) : Option (Unit × Hp) :=
  getr (some o) x0 8 140 fun r1 =>
  obj r1 x0 9 fun q4 => bnd (f_X6_addLane N z q4 x0) fun r3 x2 =>
  if r3 = none then (some ((), x2)) else (getr (some o) x2 8 143 fun r5 =>
  geti r3 x2 5 80 fun i6 =>
  bnd (f_X5_keepName N z r5 i6 v1 x2) fun _ x7 =>
  getr (some o) x7 8 140 fun r8 =>
  obj r8 x7 9 fun q11 => bnd (f_X6_laneAt N z q11 v3 x7) fun r10 x9 =>
  obj r3 x9 5 fun q13 => bnd (f_X2_tell N z q13 r10 v4 v5 v6 v7 v8 v9 x9) fun _ x12 =>
  some ((), x12))
def f_X5_readLane_b42 (N : Nat) (z : Nat → Nat) (o : Nat) (v1 : Int64) (s0 : Int32) (x0 : Hp) : Option (Unit × Hp) :=
  obj (some o) x0 8 fun q15 => bnd (f_X5_need N z q15 (3 : Int32) x0) fun _ x14 =>
  obj (some o) x14 8 fun q18 => bnd (f_X5_number N z q18 (0 : Int32) (30 : Int32) x14) fun i17 x16 =>
  obj (some o) x16 8 fun q20 => bnd (f_X5_need N z q20 (4 : Int32) x16) fun _ x19 =>
  obj (some o) x19 8 fun q23 => bnd (f_X5_number N z q23 (0 : Int32) (30 : Int32) x19) fun i22 x21 =>
  obj (some o) x21 8 fun q25 => bnd (f_X5_need N z q25 (5 : Int32) x21) fun _ x24 =>
  obj (some o) x24 8 fun q28 => bnd (f_X5_number N z q28 (0 : Int32) (99 : Int32) x24) fun i27 x26 =>
  obj (some o) x26 8 fun q30 => bnd (f_X5_need N z q30 (6 : Int32) x26) fun _ x29 =>
  obj (some o) x29 8 fun q33 => bnd (f_X5_number N z q33 (0 : Int32) (9 : Int32) x29) fun i32 x31 =>
  obj (some o) x31 8 fun q35 => bnd (f_X5_need N z q35 (7 : Int32) x31) fun _ x34 =>
  obj (some o) x34 8 fun q38 => bnd (f_X5_number N z q38 (1 : Int32) (60 : Int32) x34) fun i37 x36 =>
  obj (some o) x36 8 fun q40 => bnd (f_X5_need N z q40 (8 : Int32) x36) fun _ x39 =>
  obj (some o) x39 8 fun q43 => bnd (f_X5_takes N z q43 (9 : Int32) x39) fun i42 x41 =>
  if i42 = 0 then (obj (some o) x41 8 fun q45 => bnd (f_X5_need N z q45 (10 : Int32) x41) fun _ x44 =>
  f_X5_readLane_b140 N z o v1 s0 i17 i22 i27 i32 i37 i42 x44) else (f_X5_readLane_b140 N z o v1 s0 i17 i22 i27 i32 i37 i42 x41)
def f_X5_readLane (N : Nat) (z : Nat → Nat) (o : Nat) (x0 : Hp) : Option (Unit × Hp) :=
  geti (some o) x0 8 145 fun i46 =>
  puti (some o) x0 8 145 (i46 + (1 : Int32)) fun x47 =>
  getr (some o) x47 8 143 fun r48 =>
  getr (some o) x47 8 140 fun r49 =>
  geti r49 x47 9 163 fun i50 =>
  obj (some o) x47 8 fun q53 => bnd (f_X5_newName N z q53 r48 i50 x47) fun i52 x51 =>
  obj (some o) x51 8 fun q56 => bnd (f_X5_takes N z q56 (2 : Int32) x51) fun i55 x54 =>
  if i55 = 0 then (f_X5_readLane_b42 N z o i52 (-1 : Int32) x54) else (obj (some o) x54 8 fun q59 => bnd (f_X5_toldLane N z q59 x54) fun i58 x57 =>
  f_X5_readLane_b42 N z o i52 i58 x57)
set_option maxRecDepth 100000 in
set_option maxHeartbeats 4000000 in
theorem g_X5_readLane_b140 (l : Launch) (N : Nat) (z : Nat → Nat) (o : Nat) (v1 : Int64) (v3 : Int32) (v4 : Int32) (v5 : Int32) (v6 : Int32) (v7 : Int32) (v8 : Int32) (v9 : Int32) (x0 : Hp) : G l z m_X5_readLane okT enV 140 [(0, va_rf (some o)), (1, .long v1), (3, .int v3), (4, .int v4), (5, .int v5), (6, .int v6), (7, .int v7), (8, .int v8), (9, .int v9)] [] x0 (f_X5_readLane_b140 N z o v1 v3 v4 v5 v6 v7 v8 v9 x0) := by
  unfold f_X5_readLane_b140
  refine G_aload_n 0 dX5_readLane_140 rfl rfl ?_
  refine G_getr (k := 0) K_7 (by decide) rfl rfl rfl gw_426 rfl dX5_readLane_141 (fun r1 => ?_)
  refine G_callV (av := []) [] (fun q4 => ct_X6_addLane l N z q4) K_8 rfl yn_X6_addLane (Nat.le_of_ble_eq_true rfl) (by decide) gw_1259 gw_750 gw_751 gw_42 gw_752 rfl (by decide) dX5_readLane_144 (fun r3 x2 => ?_)
  refine G_astore (i := 10) (l2 := [(0, va_rf (some o)), (1, .long v1), (3, .int v3), (4, .int v4), (5, .int v5), (6, .int v6), (7, .int v7), (8, .int v8), (9, .int v9)]) [0, 1, 2, 3, 4, 5, 6, 7, 8] dX5_readLane_147 (Nat.le_of_ble_eq_true rfl) rfl (sok_a (by decide) (by decide) (sok_a (by decide) (by decide) (sok_a (by decide) (by decide) (sok_a (by decide) (by decide) (sok_a (by decide) (by decide) (sok_a (by decide) (by decide) (sok_a (by decide) (by decide) (sok_a (by decide) (by decide) (sok_b (by decide) rfl trivial))))))))) ?_
  refine G_aload 0 dX5_readLane_149 rfl ?_
  refine G_ifnull (tgt := 192) dX5_readLane_151 (by decide) (fun _ => ?_) (fun _ => ?_)
  · exact G_ret trivial dX5_readLane_192 rfl
  · refine G_aload_n 1 dX5_readLane_154 rfl rfl ?_
    refine G_getr (k := 3) K_7 (by decide) rfl rfl rfl gw_431 rfl dX5_readLane_155 (fun r5 => ?_)
    refine G_aload 0 dX5_readLane_158 rfl ?_
    refine G_geti (k := 0) K_4 (by decide) rfl rfl rfl gw_209 rfl dX5_readLane_160 (fun i6 => ?_)
    refine G_lload_n 2 dX5_readLane_163 rfl rfl ?_
    refine G_callS (av := [va_rf r5, .int i6, .long v1]) [] (ct_X5_keepName l N z r5 i6 v1) yn_X5_keepName (Nat.le_of_ble_eq_true rfl) (by decide) gw_1260 gw_1261 gw_41 gw_1262 rfl (by decide) dX5_readLane_164 (fun _ x7 => ?_)
    refine G_aload 0 dX5_readLane_167 rfl ?_
    refine G_aload_n 1 dX5_readLane_169 rfl rfl ?_
    refine G_getr (k := 0) K_7 (by decide) rfl rfl rfl gw_426 rfl dX5_readLane_170 (fun r8 => ?_)
    refine G_iload_n 3 dX5_readLane_173 rfl rfl ?_
    refine G_callV (av := [.int v3]) [va_rf r3] (fun q11 => ct_X6_laneAt l N z q11 v3) K_8 rfl yn_X6_laneAt (Nat.le_of_ble_eq_true rfl) (by decide) gw_1263 gw_554 gw_555 gw_42 gw_556 rfl (by simp only [hw_n, hw_i, hw_r, hw_j, hw_d]; decide) dX5_readLane_174 (fun r10 x9 => ?_)
    refine G_iload 4 dX5_readLane_177 rfl ?_
    refine G_iload 5 dX5_readLane_179 rfl ?_
    refine G_iload 6 dX5_readLane_181 rfl ?_
    refine G_iload 7 dX5_readLane_183 rfl ?_
    refine G_iload 8 dX5_readLane_185 rfl ?_
    refine G_iload 9 dX5_readLane_187 rfl ?_
    refine G_callV (av := [va_rf r10, .int v4, .int v5, .int v6, .int v7, .int v8, .int v9]) [] (fun q13 => ct_X2_tell l N z q13 r10 v4 v5 v6 v7 v8 v9) K_4 rfl yn_X2_tell (Nat.le_of_ble_eq_true rfl) (by decide) gw_1264 gw_758 gw_759 gw_46 gw_760 rfl (by decide) dX5_readLane_189 (fun _ x12 => ?_)
    exact G_ret trivial dX5_readLane_192 rfl

set_option maxRecDepth 100000 in
set_option maxHeartbeats 4000000 in
theorem g_X5_readLane_b42 (l : Launch) (N : Nat) (z : Nat → Nat) (o : Nat) (v1 : Int64) (s0 : Int32) (x0 : Hp) : G l z m_X5_readLane okT enV 42 [(0, va_rf (some o)), (1, .long v1)] [.int s0] x0 (f_X5_readLane_b42 N z o v1 s0 x0) := by
  unfold f_X5_readLane_b42
  refine G_istore_n (i := 3) (l2 := [(0, va_rf (some o)), (1, .long v1)]) [0, 1] dX5_readLane_42 rfl (Nat.le_of_ble_eq_true rfl) rfl (sok_a (by decide) (by decide) (sok_a (by decide) (by decide) trivial)) ?_
  refine G_aload_n 1 dX5_readLane_43 rfl rfl ?_
  refine G_iconst (v := (3 : Int32)) dX5_readLane_44 rfl ?_
  refine G_callV (av := [.int (3 : Int32)]) [] (fun q15 => ct_X5_need l N z q15 (3 : Int32)) K_7 rfl yn_X5_need (Nat.le_of_ble_eq_true rfl) (by decide) gw_1255 gw_1257 gw_s27 gw_41 gw_1258 rfl (by decide) dX5_readLane_45 (fun _ x14 => ?_)
  refine G_aload_n 1 dX5_readLane_48 rfl rfl ?_
  refine G_iconst (v := (0 : Int32)) dX5_readLane_49 rfl ?_
  refine G_bipush (v := (30 : Int32)) dX5_readLane_50 (by decide) ?_
  refine G_callV (av := [.int (0 : Int32), .int (30 : Int32)]) [] (fun q18 => ct_X5_number l N z q18 (0 : Int32) (30 : Int32)) K_7 rfl yn_X5_number (Nat.le_of_ble_eq_true rfl) (by decide) gw_1216 gw_1218 gw_s20 gw_41 gw_1219 rfl (by decide) dX5_readLane_52 (fun i17 x16 => ?_)
  refine G_istore (i := 4) (l2 := [(3, .int s0), (0, va_rf (some o)), (1, .long v1)]) [0, 1, 2] dX5_readLane_55 (Nat.le_of_ble_eq_true rfl) rfl (sok_b (by decide) rfl (sok_a (by decide) (by decide) (sok_a (by decide) (by decide) trivial))) ?_
  refine G_aload_n 2 dX5_readLane_57 rfl rfl ?_
  refine G_iconst (v := (4 : Int32)) dX5_readLane_58 rfl ?_
  refine G_callV (av := [.int (4 : Int32)]) [] (fun q20 => ct_X5_need l N z q20 (4 : Int32)) K_7 rfl yn_X5_need (Nat.le_of_ble_eq_true rfl) (by decide) gw_1255 gw_1257 gw_s27 gw_41 gw_1258 rfl (by decide) dX5_readLane_59 (fun _ x19 => ?_)
  refine G_aload_n 2 dX5_readLane_62 rfl rfl ?_
  refine G_iconst (v := (0 : Int32)) dX5_readLane_63 rfl ?_
  refine G_bipush (v := (30 : Int32)) dX5_readLane_64 (by decide) ?_
  refine G_callV (av := [.int (0 : Int32), .int (30 : Int32)]) [] (fun q23 => ct_X5_number l N z q23 (0 : Int32) (30 : Int32)) K_7 rfl yn_X5_number (Nat.le_of_ble_eq_true rfl) (by decide) gw_1216 gw_1218 gw_s20 gw_41 gw_1219 rfl (by decide) dX5_readLane_66 (fun i22 x21 => ?_)
  refine G_istore (i := 5) (l2 := [(4, .int i17), (3, .int s0), (0, va_rf (some o)), (1, .long v1)]) [0, 1, 2, 3] dX5_readLane_69 (Nat.le_of_ble_eq_true rfl) rfl (sok_b (by decide) rfl (sok_a (by decide) (by decide) (sok_a (by decide) (by decide) (sok_a (by decide) (by decide) trivial)))) ?_
  refine G_aload_n 3 dX5_readLane_71 rfl rfl ?_
  refine G_iconst (v := (5 : Int32)) dX5_readLane_72 rfl ?_
  refine G_callV (av := [.int (5 : Int32)]) [] (fun q25 => ct_X5_need l N z q25 (5 : Int32)) K_7 rfl yn_X5_need (Nat.le_of_ble_eq_true rfl) (by decide) gw_1255 gw_1257 gw_s27 gw_41 gw_1258 rfl (by decide) dX5_readLane_73 (fun _ x24 => ?_)
  refine G_aload_n 3 dX5_readLane_76 rfl rfl ?_
  refine G_iconst (v := (0 : Int32)) dX5_readLane_77 rfl ?_
  refine G_bipush (v := (99 : Int32)) dX5_readLane_78 (by decide) ?_
  refine G_callV (av := [.int (0 : Int32), .int (99 : Int32)]) [] (fun q28 => ct_X5_number l N z q28 (0 : Int32) (99 : Int32)) K_7 rfl yn_X5_number (Nat.le_of_ble_eq_true rfl) (by decide) gw_1216 gw_1218 gw_s20 gw_41 gw_1219 rfl (by decide) dX5_readLane_80 (fun i27 x26 => ?_)
  refine G_istore (i := 6) (l2 := [(5, .int i22), (4, .int i17), (3, .int s0), (0, va_rf (some o)), (1, .long v1)]) [0, 1, 2, 3, 4] dX5_readLane_83 (Nat.le_of_ble_eq_true rfl) rfl (sok_b (by decide) rfl (sok_a (by decide) (by decide) (sok_a (by decide) (by decide) (sok_a (by decide) (by decide) (sok_a (by decide) (by decide) trivial))))) ?_
  refine G_aload_n 4 dX5_readLane_85 rfl rfl ?_
  refine G_bipush (v := (6 : Int32)) dX5_readLane_86 (by decide) ?_
  refine G_callV (av := [.int (6 : Int32)]) [] (fun q30 => ct_X5_need l N z q30 (6 : Int32)) K_7 rfl yn_X5_need (Nat.le_of_ble_eq_true rfl) (by decide) gw_1255 gw_1257 gw_s27 gw_41 gw_1258 rfl (by decide) dX5_readLane_88 (fun _ x29 => ?_)
  refine G_aload_n 4 dX5_readLane_91 rfl rfl ?_
  refine G_iconst (v := (0 : Int32)) dX5_readLane_92 rfl ?_
  refine G_bipush (v := (9 : Int32)) dX5_readLane_93 (by decide) ?_
  refine G_callV (av := [.int (0 : Int32), .int (9 : Int32)]) [] (fun q33 => ct_X5_number l N z q33 (0 : Int32) (9 : Int32)) K_7 rfl yn_X5_number (Nat.le_of_ble_eq_true rfl) (by decide) gw_1216 gw_1218 gw_s20 gw_41 gw_1219 rfl (by decide) dX5_readLane_95 (fun i32 x31 => ?_)
  refine G_istore (i := 7) (l2 := [(6, .int i27), (5, .int i22), (4, .int i17), (3, .int s0), (0, va_rf (some o)), (1, .long v1)]) [0, 1, 2, 3, 4, 5] dX5_readLane_98 (Nat.le_of_ble_eq_true rfl) rfl (sok_b (by decide) rfl (sok_a (by decide) (by decide) (sok_a (by decide) (by decide) (sok_a (by decide) (by decide) (sok_a (by decide) (by decide) (sok_a (by decide) (by decide) trivial)))))) ?_
  refine G_aload_n 5 dX5_readLane_100 rfl rfl ?_
  refine G_bipush (v := (7 : Int32)) dX5_readLane_101 (by decide) ?_
  refine G_callV (av := [.int (7 : Int32)]) [] (fun q35 => ct_X5_need l N z q35 (7 : Int32)) K_7 rfl yn_X5_need (Nat.le_of_ble_eq_true rfl) (by decide) gw_1255 gw_1257 gw_s27 gw_41 gw_1258 rfl (by decide) dX5_readLane_103 (fun _ x34 => ?_)
  refine G_aload_n 5 dX5_readLane_106 rfl rfl ?_
  refine G_iconst (v := (1 : Int32)) dX5_readLane_107 rfl ?_
  refine G_bipush (v := (60 : Int32)) dX5_readLane_108 (by decide) ?_
  refine G_callV (av := [.int (1 : Int32), .int (60 : Int32)]) [] (fun q38 => ct_X5_number l N z q38 (1 : Int32) (60 : Int32)) K_7 rfl yn_X5_number (Nat.le_of_ble_eq_true rfl) (by decide) gw_1216 gw_1218 gw_s20 gw_41 gw_1219 rfl (by decide) dX5_readLane_110 (fun i37 x36 => ?_)
  refine G_istore (i := 8) (l2 := [(7, .int i32), (6, .int i27), (5, .int i22), (4, .int i17), (3, .int s0), (0, va_rf (some o)), (1, .long v1)]) [0, 1, 2, 3, 4, 5, 6] dX5_readLane_113 (Nat.le_of_ble_eq_true rfl) rfl (sok_b (by decide) rfl (sok_a (by decide) (by decide) (sok_a (by decide) (by decide) (sok_a (by decide) (by decide) (sok_a (by decide) (by decide) (sok_a (by decide) (by decide) (sok_a (by decide) (by decide) trivial))))))) ?_
  refine G_aload_n 6 dX5_readLane_115 rfl rfl ?_
  refine G_bipush (v := (8 : Int32)) dX5_readLane_116 (by decide) ?_
  refine G_callV (av := [.int (8 : Int32)]) [] (fun q40 => ct_X5_need l N z q40 (8 : Int32)) K_7 rfl yn_X5_need (Nat.le_of_ble_eq_true rfl) (by decide) gw_1255 gw_1257 gw_s27 gw_41 gw_1258 rfl (by decide) dX5_readLane_118 (fun _ x39 => ?_)
  refine G_aload_n 6 dX5_readLane_121 rfl rfl ?_
  refine G_bipush (v := (9 : Int32)) dX5_readLane_122 (by decide) ?_
  refine G_callV (av := [.int (9 : Int32)]) [] (fun q43 => ct_X5_takes l N z q43 (9 : Int32)) K_7 rfl yn_X5_takes (Nat.le_of_ble_eq_true rfl) (by decide) gw_1247 gw_1249 gw_s25 gw_41 gw_1250 rfl (by decide) dX5_readLane_124 (fun i42 x41 => ?_)
  refine G_istore (i := 9) (l2 := [(8, .int i37), (7, .int i32), (6, .int i27), (5, .int i22), (4, .int i17), (3, .int s0), (0, va_rf (some o)), (1, .long v1)]) [0, 1, 2, 3, 4, 5, 6, 7] dX5_readLane_127 (Nat.le_of_ble_eq_true rfl) rfl (sok_b (by decide) rfl (sok_a (by decide) (by decide) (sok_a (by decide) (by decide) (sok_a (by decide) (by decide) (sok_a (by decide) (by decide) (sok_a (by decide) (by decide) (sok_a (by decide) (by decide) (sok_a (by decide) (by decide) trivial)))))))) ?_
  refine G_iload 0 dX5_readLane_129 rfl ?_
  refine G_if_ne (tgt := 140) dX5_readLane_131 (by decide) (fun _ => ?_) (fun _ => ?_)
  · refine G_aload_n 7 dX5_readLane_134 rfl rfl ?_
    refine G_bipush (v := (10 : Int32)) dX5_readLane_135 (by decide) ?_
    refine G_callV (av := [.int (10 : Int32)]) [] (fun q45 => ct_X5_need l N z q45 (10 : Int32)) K_7 rfl yn_X5_need (Nat.le_of_ble_eq_true rfl) (by decide) gw_1255 gw_1257 gw_s27 gw_41 gw_1258 rfl (by decide) dX5_readLane_137 (fun _ x44 => ?_)
    refine G_lv [7, 8, 6, 5, 4, 3, 2, 1, 0] rfl ?_
    exact g_X5_readLane_b140 l N z o v1 s0 i17 i22 i27 i32 i37 i42 x44
  · refine G_lv [7, 8, 6, 5, 4, 3, 2, 1, 0] rfl ?_
    exact g_X5_readLane_b140 l N z o v1 s0 i17 i22 i27 i32 i37 i42 x41

set_option maxRecDepth 100000 in
set_option maxHeartbeats 4000000 in
theorem g_X5_readLane (l : Launch) (N : Nat) (z : Nat → Nat) (o : Nat) (x0 : Hp) : G l z m_X5_readLane okT enV 0 [(0, va_rf (some o))] [] x0 (f_X5_readLane N z o x0) := by
  unfold f_X5_readLane
  refine G_aload_n 0 dX5_readLane_0 rfl rfl ?_
  refine G_dup dX5_readLane_1 (rf_cat _) ?_
  refine G_geti (k := 5) K_7 (by decide) rfl rfl rfl gw_433 rfl dX5_readLane_2 (fun i46 => ?_)
  refine G_iconst (v := (1 : Int32)) dX5_readLane_5 rfl ?_
  refine G_iadd dX5_readLane_6 ?_
  refine G_puti (k := 5) K_7 (by decide) rfl rfl rfl gw_433 rfl (Or.inl rfl) nar_int.1 nar_int.2 dX5_readLane_7 (fun x47 => ?_)
  refine G_aload_n 0 dX5_readLane_10 rfl rfl ?_
  refine G_aload_n 0 dX5_readLane_11 rfl rfl ?_
  refine G_getr (k := 3) K_7 (by decide) rfl rfl rfl gw_431 rfl dX5_readLane_12 (fun r48 => ?_)
  refine G_aload_n 0 dX5_readLane_15 rfl rfl ?_
  refine G_getr (k := 0) K_7 (by decide) rfl rfl rfl gw_426 rfl dX5_readLane_16 (fun r49 => ?_)
  refine G_geti (k := 3) K_8 (by decide) rfl rfl rfl gw_314 rfl dX5_readLane_19 (fun i50 => ?_)
  refine G_callV (av := [va_rf r48, .int i50]) [] (fun q53 => ct_X5_newName l N z q53 r48 i50) K_7 rfl yn_X5_newName (Nat.le_of_ble_eq_true rfl) (by decide) gw_1240 gw_1242 gw_s24 gw_41 gw_1243 rfl (by decide) dX5_readLane_22 (fun i52 x51 => ?_)
  refine G_lstore_n (i := 1) (l2 := [(0, va_rf (some o))]) [0] dX5_readLane_25 rfl (Nat.le_of_ble_eq_true rfl) rfl (sok_b (by decide) (rf_cat _) trivial) (sok2_a (by decide) trivial) ?_
  refine G_aload_n 1 dX5_readLane_26 rfl rfl ?_
  refine G_iconst (v := (2 : Int32)) dX5_readLane_27 rfl ?_
  refine G_callV (av := [.int (2 : Int32)]) [] (fun q56 => ct_X5_takes l N z q56 (2 : Int32)) K_7 rfl yn_X5_takes (Nat.le_of_ble_eq_true rfl) (by decide) gw_1247 gw_1249 gw_s25 gw_41 gw_1250 rfl (by decide) dX5_readLane_28 (fun i55 x54 => ?_)
  refine G_if_eq (tgt := 41) dX5_readLane_31 (by decide) (fun _ => ?_) (fun _ => ?_)
  · refine G_iconst (v := (-1 : Int32)) dX5_readLane_41 rfl ?_
    refine G_lv [1, 0] rfl ?_
    exact g_X5_readLane_b42 l N z o i52 (-1 : Int32) x54
  · refine G_aload_n 1 dX5_readLane_34 rfl rfl ?_
    refine G_callV (av := []) [] (fun q59 => ct_X5_toldLane l N z q59) K_7 rfl yn_X5_toldLane (Nat.le_of_ble_eq_true rfl) (by decide) gw_1251 gw_1253 gw_s26 gw_41 gw_1254 rfl (by decide) dX5_readLane_35 (fun i58 x57 => ?_)
    refine G_goto (tgt := 42) dX5_readLane_38 (by decide) ?_
    refine G_lv [1, 0] rfl ?_
    exact g_X5_readLane_b42 l N z o i52 i58 x57

theorem yn_X5_readLane : Yn yX5_readLane 0 := ⟨by decide +kernel, by decide +kernel, by decide +kernel⟩
theorem ct_X5_readLane (l : Launch) (N : Nat) (z : Nat → Nat) (o : Nat) : Ct l z yX5_readLane cX5_readLane 11 none 4 enV [.ref o] (f_X5_readLane N z o) :=
  Ct_v (fun x => G_lv0 (by simp only [lva_n, lva_i, lva_o, lva_r, lva_j]) (g_X5_readLane l N z o x)) (by decide +kernel) (by simp only [lgl_n, lgl_i, lgl_o, lgl_r, lgl_j]; decide)

theorem dX5_readFolk_0 : decode cX5_readFolk 0 = .ok (.aload_n 0, 1) := by decide +kernel
theorem dX5_readFolk_1 : decode cX5_readFolk 1 = .ok (.dup, 1) := by decide +kernel
theorem dX5_readFolk_2 : decode cX5_readFolk 2 = .ok (.getfield 52, 3) := by decide +kernel
theorem dX5_readFolk_5 : decode cX5_readFolk 5 = .ok (.iconst 1, 1) := by decide +kernel
theorem dX5_readFolk_6 : decode cX5_readFolk 6 = .ok (.iadd, 1) := by decide +kernel
theorem dX5_readFolk_7 : decode cX5_readFolk 7 = .ok (.putfield 52, 3) := by decide +kernel
theorem dX5_readFolk_10 : decode cX5_readFolk 10 = .ok (.aload_n 0, 1) := by decide +kernel
theorem dX5_readFolk_11 : decode cX5_readFolk 11 = .ok (.aload_n 0, 1) := by decide +kernel
theorem dX5_readFolk_12 : decode cX5_readFolk 12 = .ok (.getfield 34, 3) := by decide +kernel
theorem dX5_readFolk_15 : decode cX5_readFolk 15 = .ok (.aload_n 0, 1) := by decide +kernel
theorem dX5_readFolk_16 : decode cX5_readFolk 16 = .ok (.getfield 17, 3) := by decide +kernel
theorem dX5_readFolk_19 : decode cX5_readFolk 19 = .ok (.getfield 122, 3) := by decide +kernel
theorem dX5_readFolk_22 : decode cX5_readFolk 22 = .ok (.invokevirtual 91, 3) := by decide +kernel
theorem dX5_readFolk_25 : decode cX5_readFolk 25 = .ok (.lstore_n 1, 1) := by decide +kernel
theorem dX5_readFolk_26 : decode cX5_readFolk 26 = .ok (.aload_n 0, 1) := by decide +kernel
theorem dX5_readFolk_27 : decode cX5_readFolk 27 = .ok (.bipush 12, 2) := by decide +kernel
theorem dX5_readFolk_29 : decode cX5_readFolk 29 = .ok (.invokevirtual 85, 3) := by decide +kernel
theorem dX5_readFolk_32 : decode cX5_readFolk 32 = .ok (.aload_n 0, 1) := by decide +kernel
theorem dX5_readFolk_33 : decode cX5_readFolk 33 = .ok (.invokevirtual 99, 3) := by decide +kernel
theorem dX5_readFolk_36 : decode cX5_readFolk 36 = .ok (.istore_n 3, 1) := by decide +kernel
theorem dX5_readFolk_37 : decode cX5_readFolk 37 = .ok (.aload_n 0, 1) := by decide +kernel
theorem dX5_readFolk_38 : decode cX5_readFolk 38 = .ok (.bipush 13, 2) := by decide +kernel
theorem dX5_readFolk_40 : decode cX5_readFolk 40 = .ok (.invokevirtual 85, 3) := by decide +kernel
theorem dX5_readFolk_43 : decode cX5_readFolk 43 = .ok (.aload_n 0, 1) := by decide +kernel
theorem dX5_readFolk_44 : decode cX5_readFolk 44 = .ok (.iconst 1, 1) := by decide +kernel
theorem dX5_readFolk_45 : decode cX5_readFolk 45 = .ok (.bipush 30, 2) := by decide +kernel
theorem dX5_readFolk_47 : decode cX5_readFolk 47 = .ok (.invokevirtual 66, 3) := by decide +kernel
theorem dX5_readFolk_50 : decode cX5_readFolk 50 = .ok (.istore 4, 2) := by decide +kernel
theorem dX5_readFolk_52 : decode cX5_readFolk 52 = .ok (.aload_n 0, 1) := by decide +kernel
theorem dX5_readFolk_53 : decode cX5_readFolk 53 = .ok (.bipush 14, 2) := by decide +kernel
theorem dX5_readFolk_55 : decode cX5_readFolk 55 = .ok (.invokevirtual 85, 3) := by decide +kernel
theorem dX5_readFolk_58 : decode cX5_readFolk 58 = .ok (.aload_n 0, 1) := by decide +kernel
theorem dX5_readFolk_59 : decode cX5_readFolk 59 = .ok (.iconst 1, 1) := by decide +kernel
theorem dX5_readFolk_60 : decode cX5_readFolk 60 = .ok (.bipush 30, 2) := by decide +kernel
theorem dX5_readFolk_62 : decode cX5_readFolk 62 = .ok (.invokevirtual 66, 3) := by decide +kernel
theorem dX5_readFolk_65 : decode cX5_readFolk 65 = .ok (.istore 5, 2) := by decide +kernel
theorem dX5_readFolk_67 : decode cX5_readFolk 67 = .ok (.aload_n 0, 1) := by decide +kernel
theorem dX5_readFolk_68 : decode cX5_readFolk 68 = .ok (.bipush 15, 2) := by decide +kernel
theorem dX5_readFolk_70 : decode cX5_readFolk 70 = .ok (.invokevirtual 85, 3) := by decide +kernel
theorem dX5_readFolk_73 : decode cX5_readFolk 73 = .ok (.aload_n 0, 1) := by decide +kernel
theorem dX5_readFolk_74 : decode cX5_readFolk 74 = .ok (.iconst 0, 1) := by decide +kernel
theorem dX5_readFolk_75 : decode cX5_readFolk 75 = .ok (.bipush 99, 2) := by decide +kernel
theorem dX5_readFolk_77 : decode cX5_readFolk 77 = .ok (.invokevirtual 66, 3) := by decide +kernel
theorem dX5_readFolk_80 : decode cX5_readFolk 80 = .ok (.istore 6, 2) := by decide +kernel
theorem dX5_readFolk_82 : decode cX5_readFolk 82 = .ok (.aload_n 0, 1) := by decide +kernel
theorem dX5_readFolk_83 : decode cX5_readFolk 83 = .ok (.getfield 34, 3) := by decide +kernel
theorem dX5_readFolk_86 : decode cX5_readFolk 86 = .ok (.aload_n 0, 1) := by decide +kernel
theorem dX5_readFolk_87 : decode cX5_readFolk 87 = .ok (.getfield 17, 3) := by decide +kernel
theorem dX5_readFolk_90 : decode cX5_readFolk 90 = .ok (.getfield 122, 3) := by decide +kernel
theorem dX5_readFolk_93 : decode cX5_readFolk 93 = .ok (.lload_n 1, 1) := by decide +kernel
theorem dX5_readFolk_94 : decode cX5_readFolk 94 = .ok (.invokestatic 110, 3) := by decide +kernel
theorem dX5_readFolk_97 : decode cX5_readFolk 97 = .ok (.aload_n 0, 1) := by decide +kernel
theorem dX5_readFolk_98 : decode cX5_readFolk 98 = .ok (.getfield 17, 3) := by decide +kernel
theorem dX5_readFolk_101 : decode cX5_readFolk 101 = .ok (.invokevirtual 125, 3) := by decide +kernel
theorem dX5_readFolk_104 : decode cX5_readFolk 104 = .ok (.astore 7, 2) := by decide +kernel
theorem dX5_readFolk_106 : decode cX5_readFolk 106 = .ok (.aload 7, 2) := by decide +kernel
theorem dX5_readFolk_108 : decode cX5_readFolk 108 = .ok (.ifnull 15, 3) := by decide +kernel
theorem dX5_readFolk_111 : decode cX5_readFolk 111 = .ok (.aload 7, 2) := by decide +kernel
theorem dX5_readFolk_113 : decode cX5_readFolk 113 = .ok (.iload_n 3, 1) := by decide +kernel
theorem dX5_readFolk_114 : decode cX5_readFolk 114 = .ok (.iload 4, 2) := by decide +kernel
theorem dX5_readFolk_116 : decode cX5_readFolk 116 = .ok (.iload 5, 2) := by decide +kernel
theorem dX5_readFolk_118 : decode cX5_readFolk 118 = .ok (.iload 6, 2) := by decide +kernel
theorem dX5_readFolk_120 : decode cX5_readFolk 120 = .ok (.invokevirtual 129, 3) := by decide +kernel
theorem dX5_readFolk_123 : decode cX5_readFolk 123 = .ok (.return_, 1) := by decide +kernel
abbrev m_X5_readFolk : Mt := (cX5_readFolk, RX5, "readFolk", 8, .return_, 4)
def f_X5_readFolk (N : Nat) (z : Nat → Nat) (o : Nat) (x0 : Hp) : Option (Unit × Hp) :=
  geti (some o) x0 8 145 fun i1 =>
  puti (some o) x0 8 145 (i1 + (1 : Int32)) fun x2 =>
  getr (some o) x2 8 144 fun r3 =>
  getr (some o) x2 8 140 fun r4 =>
  geti r4 x2 9 164 fun i5 =>
  obj (some o) x2 8 fun q8 => bnd (f_X5_newName N z q8 r3 i5 x2) fun i7 x6 =>
  obj (some o) x6 8 fun q10 => bnd (f_X5_need N z q10 (12 : Int32) x6) fun _ x9 =>
  obj (some o) x9 8 fun q13 => bnd (f_X5_toldLane N z q13 x9) fun i12 x11 =>
  obj (some o) x11 8 fun q15 => bnd (f_X5_need N z q15 (13 : Int32) x11) fun _ x14 =>
  obj (some o) x14 8 fun q18 => bnd (f_X5_number N z q18 (1 : Int32) (30 : Int32) x14) fun i17 x16 =>
  obj (some o) x16 8 fun q20 => bnd (f_X5_need N z q20 (14 : Int32) x16) fun _ x19 =>
  obj (some o) x19 8 fun q23 => bnd (f_X5_number N z q23 (1 : Int32) (30 : Int32) x19) fun i22 x21 =>
  obj (some o) x21 8 fun q25 => bnd (f_X5_need N z q25 (15 : Int32) x21) fun _ x24 =>
  obj (some o) x24 8 fun q28 => bnd (f_X5_number N z q28 (0 : Int32) (99 : Int32) x24) fun i27 x26 =>
  getr (some o) x26 8 144 fun r29 =>
  getr (some o) x26 8 140 fun r30 =>
  geti r30 x26 9 164 fun i31 =>
  bnd (f_X5_keepName N z r29 i31 i7 x26) fun _ x32 =>
  getr (some o) x32 8 140 fun r33 =>
  obj r33 x32 9 fun q36 => bnd (f_X6_addFolk N z q36 x32) fun r35 x34 =>
  if r35 = none then (some ((), x34)) else (obj r35 x34 4 fun q38 => bnd (f_X1_tell N z q38 i12 i17 i22 i27 x34) fun _ x37 =>
  some ((), x37))
set_option maxRecDepth 100000 in
set_option maxHeartbeats 4000000 in
theorem g_X5_readFolk (l : Launch) (N : Nat) (z : Nat → Nat) (o : Nat) (x0 : Hp) : G l z m_X5_readFolk okT enV 0 [(0, va_rf (some o))] [] x0 (f_X5_readFolk N z o x0) := by
  unfold f_X5_readFolk
  refine G_aload_n 0 dX5_readFolk_0 rfl rfl ?_
  refine G_dup dX5_readFolk_1 (rf_cat _) ?_
  refine G_geti (k := 5) K_7 (by decide) rfl rfl rfl gw_433 rfl dX5_readFolk_2 (fun i1 => ?_)
  refine G_iconst (v := (1 : Int32)) dX5_readFolk_5 rfl ?_
  refine G_iadd dX5_readFolk_6 ?_
  refine G_puti (k := 5) K_7 (by decide) rfl rfl rfl gw_433 rfl (Or.inl rfl) nar_int.1 nar_int.2 dX5_readFolk_7 (fun x2 => ?_)
  refine G_aload_n 0 dX5_readFolk_10 rfl rfl ?_
  refine G_aload_n 0 dX5_readFolk_11 rfl rfl ?_
  refine G_getr (k := 4) K_7 (by decide) rfl rfl rfl gw_432 rfl dX5_readFolk_12 (fun r3 => ?_)
  refine G_aload_n 0 dX5_readFolk_15 rfl rfl ?_
  refine G_getr (k := 0) K_7 (by decide) rfl rfl rfl gw_426 rfl dX5_readFolk_16 (fun r4 => ?_)
  refine G_geti (k := 4) K_8 (by decide) rfl rfl rfl gw_317 rfl dX5_readFolk_19 (fun i5 => ?_)
  refine G_callV (av := [va_rf r3, .int i5]) [] (fun q8 => ct_X5_newName l N z q8 r3 i5) K_7 rfl yn_X5_newName (Nat.le_of_ble_eq_true rfl) (by decide) gw_1240 gw_1242 gw_s24 gw_41 gw_1243 rfl (by decide) dX5_readFolk_22 (fun i7 x6 => ?_)
  refine G_lstore_n (i := 1) (l2 := [(0, va_rf (some o))]) [0] dX5_readFolk_25 rfl (Nat.le_of_ble_eq_true rfl) rfl (sok_b (by decide) (rf_cat _) trivial) (sok2_a (by decide) trivial) ?_
  refine G_aload_n 1 dX5_readFolk_26 rfl rfl ?_
  refine G_bipush (v := (12 : Int32)) dX5_readFolk_27 (by decide) ?_
  refine G_callV (av := [.int (12 : Int32)]) [] (fun q10 => ct_X5_need l N z q10 (12 : Int32)) K_7 rfl yn_X5_need (Nat.le_of_ble_eq_true rfl) (by decide) gw_1255 gw_1257 gw_s27 gw_41 gw_1258 rfl (by decide) dX5_readFolk_29 (fun _ x9 => ?_)
  refine G_aload_n 1 dX5_readFolk_32 rfl rfl ?_
  refine G_callV (av := []) [] (fun q13 => ct_X5_toldLane l N z q13) K_7 rfl yn_X5_toldLane (Nat.le_of_ble_eq_true rfl) (by decide) gw_1251 gw_1253 gw_s26 gw_41 gw_1254 rfl (by decide) dX5_readFolk_33 (fun i12 x11 => ?_)
  refine G_istore_n (i := 3) (l2 := [(1, .long i7), (0, va_rf (some o))]) [0, 1] dX5_readFolk_36 rfl (Nat.le_of_ble_eq_true rfl) rfl (sok_a (by decide) (by decide) (sok_a (by decide) (by decide) trivial)) ?_
  refine G_aload_n 2 dX5_readFolk_37 rfl rfl ?_
  refine G_bipush (v := (13 : Int32)) dX5_readFolk_38 (by decide) ?_
  refine G_callV (av := [.int (13 : Int32)]) [] (fun q15 => ct_X5_need l N z q15 (13 : Int32)) K_7 rfl yn_X5_need (Nat.le_of_ble_eq_true rfl) (by decide) gw_1255 gw_1257 gw_s27 gw_41 gw_1258 rfl (by decide) dX5_readFolk_40 (fun _ x14 => ?_)
  refine G_aload_n 2 dX5_readFolk_43 rfl rfl ?_
  refine G_iconst (v := (1 : Int32)) dX5_readFolk_44 rfl ?_
  refine G_bipush (v := (30 : Int32)) dX5_readFolk_45 (by decide) ?_
  refine G_callV (av := [.int (1 : Int32), .int (30 : Int32)]) [] (fun q18 => ct_X5_number l N z q18 (1 : Int32) (30 : Int32)) K_7 rfl yn_X5_number (Nat.le_of_ble_eq_true rfl) (by decide) gw_1216 gw_1218 gw_s20 gw_41 gw_1219 rfl (by decide) dX5_readFolk_47 (fun i17 x16 => ?_)
  refine G_istore (i := 4) (l2 := [(3, .int i12), (1, .long i7), (0, va_rf (some o))]) [0, 1, 2] dX5_readFolk_50 (Nat.le_of_ble_eq_true rfl) rfl (sok_b (by decide) rfl (sok_a (by decide) (by decide) (sok_a (by decide) (by decide) trivial))) ?_
  refine G_aload_n 3 dX5_readFolk_52 rfl rfl ?_
  refine G_bipush (v := (14 : Int32)) dX5_readFolk_53 (by decide) ?_
  refine G_callV (av := [.int (14 : Int32)]) [] (fun q20 => ct_X5_need l N z q20 (14 : Int32)) K_7 rfl yn_X5_need (Nat.le_of_ble_eq_true rfl) (by decide) gw_1255 gw_1257 gw_s27 gw_41 gw_1258 rfl (by decide) dX5_readFolk_55 (fun _ x19 => ?_)
  refine G_aload_n 3 dX5_readFolk_58 rfl rfl ?_
  refine G_iconst (v := (1 : Int32)) dX5_readFolk_59 rfl ?_
  refine G_bipush (v := (30 : Int32)) dX5_readFolk_60 (by decide) ?_
  refine G_callV (av := [.int (1 : Int32), .int (30 : Int32)]) [] (fun q23 => ct_X5_number l N z q23 (1 : Int32) (30 : Int32)) K_7 rfl yn_X5_number (Nat.le_of_ble_eq_true rfl) (by decide) gw_1216 gw_1218 gw_s20 gw_41 gw_1219 rfl (by decide) dX5_readFolk_62 (fun i22 x21 => ?_)
  refine G_istore (i := 5) (l2 := [(4, .int i17), (3, .int i12), (1, .long i7), (0, va_rf (some o))]) [0, 1, 2, 3] dX5_readFolk_65 (Nat.le_of_ble_eq_true rfl) rfl (sok_b (by decide) rfl (sok_a (by decide) (by decide) (sok_a (by decide) (by decide) (sok_a (by decide) (by decide) trivial)))) ?_
  refine G_aload_n 4 dX5_readFolk_67 rfl rfl ?_
  refine G_bipush (v := (15 : Int32)) dX5_readFolk_68 (by decide) ?_
  refine G_callV (av := [.int (15 : Int32)]) [] (fun q25 => ct_X5_need l N z q25 (15 : Int32)) K_7 rfl yn_X5_need (Nat.le_of_ble_eq_true rfl) (by decide) gw_1255 gw_1257 gw_s27 gw_41 gw_1258 rfl (by decide) dX5_readFolk_70 (fun _ x24 => ?_)
  refine G_aload_n 4 dX5_readFolk_73 rfl rfl ?_
  refine G_iconst (v := (0 : Int32)) dX5_readFolk_74 rfl ?_
  refine G_bipush (v := (99 : Int32)) dX5_readFolk_75 (by decide) ?_
  refine G_callV (av := [.int (0 : Int32), .int (99 : Int32)]) [] (fun q28 => ct_X5_number l N z q28 (0 : Int32) (99 : Int32)) K_7 rfl yn_X5_number (Nat.le_of_ble_eq_true rfl) (by decide) gw_1216 gw_1218 gw_s20 gw_41 gw_1219 rfl (by decide) dX5_readFolk_77 (fun i27 x26 => ?_)
  refine G_istore (i := 6) (l2 := [(5, .int i22), (4, .int i17), (3, .int i12), (1, .long i7), (0, va_rf (some o))]) [0, 1, 2, 3, 4] dX5_readFolk_80 (Nat.le_of_ble_eq_true rfl) rfl (sok_b (by decide) rfl (sok_a (by decide) (by decide) (sok_a (by decide) (by decide) (sok_a (by decide) (by decide) (sok_a (by decide) (by decide) trivial))))) ?_
  refine G_aload_n 5 dX5_readFolk_82 rfl rfl ?_
  refine G_getr (k := 4) K_7 (by decide) rfl rfl rfl gw_432 rfl dX5_readFolk_83 (fun r29 => ?_)
  refine G_aload_n 5 dX5_readFolk_86 rfl rfl ?_
  refine G_getr (k := 0) K_7 (by decide) rfl rfl rfl gw_426 rfl dX5_readFolk_87 (fun r30 => ?_)
  refine G_geti (k := 4) K_8 (by decide) rfl rfl rfl gw_317 rfl dX5_readFolk_90 (fun i31 => ?_)
  refine G_lload_n 4 dX5_readFolk_93 rfl rfl ?_
  refine G_callS (av := [va_rf r29, .int i31, .long i7]) [] (ct_X5_keepName l N z r29 i31 i7) yn_X5_keepName (Nat.le_of_ble_eq_true rfl) (by decide) gw_1260 gw_1261 gw_41 gw_1262 rfl (by decide) dX5_readFolk_94 (fun _ x32 => ?_)
  refine G_aload_n 5 dX5_readFolk_97 rfl rfl ?_
  refine G_getr (k := 0) K_7 (by decide) rfl rfl rfl gw_426 rfl dX5_readFolk_98 (fun r33 => ?_)
  refine G_callV (av := []) [] (fun q36 => ct_X6_addFolk l N z q36) K_8 rfl yn_X6_addFolk (Nat.le_of_ble_eq_true rfl) (by decide) gw_1269 gw_774 gw_775 gw_42 gw_776 rfl (by decide) dX5_readFolk_101 (fun r35 x34 => ?_)
  refine G_astore (i := 7) (l2 := [(6, .int i27), (5, .int i22), (4, .int i17), (3, .int i12), (1, .long i7), (0, va_rf (some o))]) [0, 1, 2, 3, 4, 5] dX5_readFolk_104 (Nat.le_of_ble_eq_true rfl) rfl (sok_b (by decide) rfl (sok_a (by decide) (by decide) (sok_a (by decide) (by decide) (sok_a (by decide) (by decide) (sok_a (by decide) (by decide) (sok_a (by decide) (by decide) trivial)))))) ?_
  refine G_aload 0 dX5_readFolk_106 rfl ?_
  refine G_ifnull (tgt := 123) dX5_readFolk_108 (by decide) (fun _ => ?_) (fun _ => ?_)
  · exact G_ret trivial dX5_readFolk_123 rfl
  · refine G_aload 0 dX5_readFolk_111 rfl ?_
    refine G_iload_n 4 dX5_readFolk_113 rfl rfl ?_
    refine G_iload 3 dX5_readFolk_114 rfl ?_
    refine G_iload 2 dX5_readFolk_116 rfl ?_
    refine G_iload 1 dX5_readFolk_118 rfl ?_
    refine G_callV (av := [.int i12, .int i17, .int i22, .int i27]) [] (fun q38 => ct_X1_tell l N z q38 i12 i17 i22 i27) K_3 rfl yn_X1_tell (Nat.le_of_ble_eq_true rfl) (by decide) gw_1270 gw_782 gw_783 gw_48 gw_784 rfl (by decide) dX5_readFolk_120 (fun _ x37 => ?_)
    exact G_ret trivial dX5_readFolk_123 rfl

theorem yn_X5_readFolk : Yn yX5_readFolk 0 := ⟨by decide +kernel, by decide +kernel, by decide +kernel⟩
theorem ct_X5_readFolk (l : Launch) (N : Nat) (z : Nat → Nat) (o : Nat) : Ct l z yX5_readFolk cX5_readFolk 8 none 4 enV [.ref o] (f_X5_readFolk N z o) :=
  Ct_v (fun x => G_lv0 (by simp only [lva_n, lva_i, lva_o, lva_r, lva_j]) (g_X5_readFolk l N z o x)) (by decide +kernel) (by simp only [lgl_n, lgl_i, lgl_o, lgl_r, lgl_j]; decide)

theorem dX5_enters_0 : decode cX5_enters 0 = .ok (.iload_n 1, 1) := by decide +kernel
theorem dX5_enters_1 : decode cX5_enters 1 = .ok (.bipush 8, 2) := by decide +kernel
theorem dX5_enters_3 : decode cX5_enters 3 = .ok (.if_icmp .lt 9, 3) := by decide +kernel
theorem dX5_enters_6 : decode cX5_enters 6 = .ok (.aload_n 0, 1) := by decide +kernel
theorem dX5_enters_7 : decode cX5_enters 7 = .ok (.invokevirtual 82, 3) := by decide +kernel
theorem dX5_enters_10 : decode cX5_enters 10 = .ok (.iconst 0, 1) := by decide +kernel
theorem dX5_enters_11 : decode cX5_enters 11 = .ok (.ireturn, 1) := by decide +kernel
theorem dX5_enters_12 : decode cX5_enters 12 = .ok (.aload_n 0, 1) := by decide +kernel
theorem dX5_enters_13 : decode cX5_enters 13 = .ok (.dup, 1) := by decide +kernel
theorem dX5_enters_14 : decode cX5_enters 14 = .ok (.getfield 52, 3) := by decide +kernel
theorem dX5_enters_17 : decode cX5_enters 17 = .ok (.iconst 1, 1) := by decide +kernel
theorem dX5_enters_18 : decode cX5_enters 18 = .ok (.iadd, 1) := by decide +kernel
theorem dX5_enters_19 : decode cX5_enters 19 = .ok (.putfield 52, 3) := by decide +kernel
theorem dX5_enters_22 : decode cX5_enters 22 = .ok (.iconst 1, 1) := by decide +kernel
theorem dX5_enters_23 : decode cX5_enters 23 = .ok (.ireturn, 1) := by decide +kernel
abbrev m_X5_enters : Mt := (cX5_enters, RX5, "enters", 2, .ireturn, 3)
def f_X5_enters (N : Nat) (z : Nat → Nat) (o : Nat) (v1 : Int32) (x0 : Hp) : Option (Int32 × Hp) :=
  if v1 < (8 : Int32) then (geti (some o) x0 8 145 fun i1 =>
  puti (some o) x0 8 145 (i1 + (1 : Int32)) fun x2 =>
  some ((1 : Int32), x2)) else (obj (some o) x0 8 fun q4 => bnd (f_X5_fail N z q4 x0) fun _ x3 =>
  some ((0 : Int32), x3))
set_option maxRecDepth 100000 in
set_option maxHeartbeats 4000000 in
theorem g_X5_enters (l : Launch) (N : Nat) (z : Nat → Nat) (o : Nat) (v1 : Int32) (x0 : Hp) : G l z m_X5_enters okZ enI 0 [(0, va_rf (some o)), (1, .int v1)] [] x0 (f_X5_enters N z o v1 x0) := by
  unfold f_X5_enters
  refine G_iload_n 1 dX5_enters_0 rfl rfl ?_
  refine G_bipush (v := (8 : Int32)) dX5_enters_1 (by decide) ?_
  refine G_icmp_lt (tgt := 12) dX5_enters_3 (by decide) (fun _ => ?_) (fun _ => ?_)
  · refine G_aload_n 0 dX5_enters_12 rfl rfl ?_
    refine G_dup dX5_enters_13 (rf_cat _) ?_
    refine G_geti (k := 5) K_7 (by decide) rfl rfl rfl gw_433 rfl dX5_enters_14 (fun i1 => ?_)
    refine G_iconst (v := (1 : Int32)) dX5_enters_17 rfl ?_
    refine G_iadd dX5_enters_18 ?_
    refine G_puti (k := 5) K_7 (by decide) rfl rfl rfl gw_433 rfl (Or.inl rfl) nar_int.1 nar_int.2 dX5_enters_19 (fun x2 => ?_)
    refine G_iconst (v := (1 : Int32)) dX5_enters_22 rfl ?_
    exact G_ret (Or.inr rfl) dX5_enters_23 rfl
  · refine G_aload_n 0 dX5_enters_6 rfl rfl ?_
    refine G_callV (av := []) [] (fun q4 => ct_X5_fail l N z q4) K_7 rfl yn_X5_fail (Nat.le_of_ble_eq_true rfl) (by decide) gw_1220 gw_1222 gw_s21 gw_41 gw_1223 rfl (by decide) dX5_enters_7 (fun _ x3 => ?_)
    refine G_iconst (v := (0 : Int32)) dX5_enters_10 rfl ?_
    exact G_ret (Or.inl rfl) dX5_enters_11 rfl

theorem yn_X5_enters : Yn yX5_enters 1 := ⟨by decide +kernel, by decide +kernel, by decide +kernel⟩
theorem ct_X5_enters (l : Launch) (N : Nat) (z : Nat → Nat) (o : Nat) (v1 : Int32) : Ct l z yX5_enters cX5_enters 2 (some .boolean) 3 enI [.ref o, .int v1] (f_X5_enters N z o v1) :=
  Ct_z (fun x => G_lv0 (by simp only [lva_n, lva_i, lva_o, lva_r, lva_j]) (g_X5_enters l N z o v1 x)) (by decide +kernel) (by simp only [lgl_n, lgl_i, lgl_o, lgl_r, lgl_j]; decide)

theorem dX5_compares_0 : decode cX5_compares 0 = .ok (.iload_n 0, 1) := by decide +kernel
theorem dX5_compares_1 : decode cX5_compares 1 = .ok (.bipush 60, 2) := by decide +kernel
theorem dX5_compares_3 : decode cX5_compares 3 = .ok (.if_icmp .eq 27, 3) := by decide +kernel
theorem dX5_compares_6 : decode cX5_compares 6 = .ok (.iload_n 0, 1) := by decide +kernel
theorem dX5_compares_7 : decode cX5_compares 7 = .ok (.bipush 62, 2) := by decide +kernel
theorem dX5_compares_9 : decode cX5_compares 9 = .ok (.if_icmp .eq 21, 3) := by decide +kernel
theorem dX5_compares_12 : decode cX5_compares 12 = .ok (.iload_n 0, 1) := by decide +kernel
theorem dX5_compares_13 : decode cX5_compares 13 = .ok (.bipush 61, 2) := by decide +kernel
theorem dX5_compares_15 : decode cX5_compares 15 = .ok (.if_icmp .eq 15, 3) := by decide +kernel
theorem dX5_compares_18 : decode cX5_compares 18 = .ok (.iload_n 0, 1) := by decide +kernel
theorem dX5_compares_19 : decode cX5_compares 19 = .ok (.bipush 36, 2) := by decide +kernel
theorem dX5_compares_21 : decode cX5_compares 21 = .ok (.if_icmp .eq 9, 3) := by decide +kernel
theorem dX5_compares_24 : decode cX5_compares 24 = .ok (.iload_n 0, 1) := by decide +kernel
theorem dX5_compares_25 : decode cX5_compares 25 = .ok (.bipush 37, 2) := by decide +kernel
theorem dX5_compares_27 : decode cX5_compares 27 = .ok (.if_icmp .ne 7, 3) := by decide +kernel
theorem dX5_compares_30 : decode cX5_compares 30 = .ok (.iconst 1, 1) := by decide +kernel
theorem dX5_compares_31 : decode cX5_compares 31 = .ok (.goto 4, 3) := by decide +kernel
theorem dX5_compares_34 : decode cX5_compares 34 = .ok (.iconst 0, 1) := by decide +kernel
theorem dX5_compares_35 : decode cX5_compares 35 = .ok (.ireturn, 1) := by decide +kernel
abbrev m_X5_compares : Mt := (cX5_compares, RX5, "compares", 1, .ireturn, 1)
def f_X5_compares_b30 (N : Nat) (z : Nat → Nat) (x0 : Hp) : Option (Int32 × Hp) :=
  some ((1 : Int32), x0)
def f_X5_compares (N : Nat) (z : Nat → Nat) (v0 : Int32) (x0 : Hp) : Option (Int32 × Hp) :=
  if v0 = (60 : Int32) then (f_X5_compares_b30 N z x0) else (if v0 = (62 : Int32) then (f_X5_compares_b30 N z x0) else (if v0 = (61 : Int32) then (f_X5_compares_b30 N z x0) else (if v0 = (36 : Int32) then (f_X5_compares_b30 N z x0) else (if v0 = (37 : Int32) then (f_X5_compares_b30 N z x0) else (some ((0 : Int32), x0))))))
set_option maxRecDepth 100000 in
set_option maxHeartbeats 4000000 in
theorem g_X5_compares_b30 (l : Launch) (N : Nat) (z : Nat → Nat) (x0 : Hp) : G l z m_X5_compares okZ enI 30 [] [] x0 (f_X5_compares_b30 N z  x0) := by
  unfold f_X5_compares_b30
  refine G_iconst (v := (1 : Int32)) dX5_compares_30 rfl ?_
  refine G_goto (tgt := 35) dX5_compares_31 (by decide) ?_
  exact G_ret (Or.inr rfl) dX5_compares_35 rfl

set_option maxRecDepth 100000 in
set_option maxHeartbeats 4000000 in
theorem g_X5_compares (l : Launch) (N : Nat) (z : Nat → Nat) (v0 : Int32) (x0 : Hp) : G l z m_X5_compares okZ enI 0 [(0, .int v0)] [] x0 (f_X5_compares N z v0 x0) := by
  unfold f_X5_compares
  refine G_iload_n 0 dX5_compares_0 rfl rfl ?_
  refine G_bipush (v := (60 : Int32)) dX5_compares_1 (by decide) ?_
  refine G_icmp_eq (tgt := 30) dX5_compares_3 (by decide) (fun _ => ?_) (fun _ => ?_)
  · refine G_lv [] rfl ?_
    exact g_X5_compares_b30 l N z x0
  · refine G_iload_n 0 dX5_compares_6 rfl rfl ?_
    refine G_bipush (v := (62 : Int32)) dX5_compares_7 (by decide) ?_
    refine G_icmp_eq (tgt := 30) dX5_compares_9 (by decide) (fun _ => ?_) (fun _ => ?_)
    · refine G_lv [] rfl ?_
      exact g_X5_compares_b30 l N z x0
    · refine G_iload_n 0 dX5_compares_12 rfl rfl ?_
      refine G_bipush (v := (61 : Int32)) dX5_compares_13 (by decide) ?_
      refine G_icmp_eq (tgt := 30) dX5_compares_15 (by decide) (fun _ => ?_) (fun _ => ?_)
      · refine G_lv [] rfl ?_
        exact g_X5_compares_b30 l N z x0
      · refine G_iload_n 0 dX5_compares_18 rfl rfl ?_
        refine G_bipush (v := (36 : Int32)) dX5_compares_19 (by decide) ?_
        refine G_icmp_eq (tgt := 30) dX5_compares_21 (by decide) (fun _ => ?_) (fun _ => ?_)
        · refine G_lv [] rfl ?_
          exact g_X5_compares_b30 l N z x0
        · refine G_iload_n 0 dX5_compares_24 rfl rfl ?_
          refine G_bipush (v := (37 : Int32)) dX5_compares_25 (by decide) ?_
          refine G_icmp_ne (tgt := 34) dX5_compares_27 (by decide) (fun _ => ?_) (fun _ => ?_)
          · refine G_lv [] rfl ?_
            exact g_X5_compares_b30 l N z x0
          · refine G_iconst (v := (0 : Int32)) dX5_compares_34 rfl ?_
            exact G_ret (Or.inl rfl) dX5_compares_35 rfl

theorem yn_X5_compares : Yn yX5_compares 1 := ⟨by decide +kernel, by decide +kernel, by decide +kernel⟩
theorem ct_X5_compares (l : Launch) (N : Nat) (z : Nat → Nat) (v0 : Int32) : Ct l z yX5_compares cX5_compares 1 (some .boolean) 1 enI [.int v0] (f_X5_compares N z v0) :=
  Ct_z (fun x => G_lv0 (by simp only [lva_n, lva_i, lva_o, lva_r, lva_j]) (g_X5_compares l N z v0 x)) (by decide +kernel) (by simp only [lgl_n, lgl_i, lgl_o, lgl_r, lgl_j]; decide)

abbrev Rg : Type := Nat → Nat → Int32 → Int32 → Hp → Option (Unit × Hp)
/-- the contracts of the methods that call each other, at a depth of frames -/
def HR (l : Launch) (N : Nat) (z : Nat → Nat) (e : Nat) (R : Rg) : Prop :=
  (∀ (o : Nat) (a : Int32), Ct l z yX5_test cX5_test 3 none e enV [.ref o, .int a] (R 0 o a 0)) ∧
  (∀ (o : Nat) (a : Int32), Ct l z yX5_both cX5_both 3 none e enV [.ref o, .int a] (R 1 o a 0)) ∧
  (∀ (o : Nat) (a : Int32), Ct l z yX5_single cX5_single 4 none e enV [.ref o, .int a] (R 2 o a 0)) ∧
  (∀ (o : Nat) (a : Int32), Ct l z yX5_sum cX5_sum 4 none e enV [.ref o, .int a] (R 3 o a 0)) ∧
  (∀ (o : Nat) (a : Int32), Ct l z yX5_product cX5_product 4 none e enV [.ref o, .int a] (R 4 o a 0)) ∧
  (∀ (o : Nat) (a : Int32), Ct l z yX5_value cX5_value 3 none e enV [.ref o, .int a] (R 5 o a 0)) ∧
  (∀ (o : Nat) (a b : Int32), Ct l z yX5_pair cX5_pair 3 none e enV [.ref o, .int a, .int b] (R 6 o a b))
theorem yn_X5_test : Yn yX5_test 1 := ⟨by decide +kernel, by decide +kernel, by decide +kernel⟩
theorem yn_X5_both : Yn yX5_both 1 := ⟨by decide +kernel, by decide +kernel, by decide +kernel⟩
theorem yn_X5_single : Yn yX5_single 1 := ⟨by decide +kernel, by decide +kernel, by decide +kernel⟩
theorem yn_X5_sum : Yn yX5_sum 1 := ⟨by decide +kernel, by decide +kernel, by decide +kernel⟩
theorem yn_X5_product : Yn yX5_product 1 := ⟨by decide +kernel, by decide +kernel, by decide +kernel⟩
theorem yn_X5_value : Yn yX5_value 1 := ⟨by decide +kernel, by decide +kernel, by decide +kernel⟩
theorem yn_X5_pair : Yn yX5_pair 2 := ⟨by decide +kernel, by decide +kernel, by decide +kernel⟩

theorem dX5_pair_0 : decode cX5_pair 0 = .ok (.aload_n 0, 1) := by decide +kernel
theorem dX5_pair_1 : decode cX5_pair 1 = .ok (.invokevirtual 62, 3) := by decide +kernel
theorem dX5_pair_4 : decode cX5_pair 4 = .ok (.bipush 40, 2) := by decide +kernel
theorem dX5_pair_6 : decode cX5_pair 6 = .ok (.if_icmp .eq 10, 3) := by decide +kernel
theorem dX5_pair_9 : decode cX5_pair 9 = .ok (.aload_n 0, 1) := by decide +kernel
theorem dX5_pair_10 : decode cX5_pair 10 = .ok (.invokevirtual 82, 3) := by decide +kernel
theorem dX5_pair_13 : decode cX5_pair 13 = .ok (.goto 49, 3) := by decide +kernel
theorem dX5_pair_16 : decode cX5_pair 16 = .ok (.aload_n 0, 1) := by decide +kernel
theorem dX5_pair_17 : decode cX5_pair 17 = .ok (.iload_n 2, 1) := by decide +kernel
theorem dX5_pair_18 : decode cX5_pair 18 = .ok (.invokevirtual 168, 3) := by decide +kernel
theorem dX5_pair_21 : decode cX5_pair 21 = .ok (.ifCond .eq 41, 3) := by decide +kernel
theorem dX5_pair_24 : decode cX5_pair 24 = .ok (.aload_n 0, 1) := by decide +kernel
theorem dX5_pair_25 : decode cX5_pair 25 = .ok (.iload_n 2, 1) := by decide +kernel
theorem dX5_pair_26 : decode cX5_pair 26 = .ok (.iconst 1, 1) := by decide +kernel
theorem dX5_pair_27 : decode cX5_pair 27 = .ok (.iadd, 1) := by decide +kernel
theorem dX5_pair_28 : decode cX5_pair 28 = .ok (.invokevirtual 143, 3) := by decide +kernel
theorem dX5_pair_31 : decode cX5_pair 31 = .ok (.aload_n 0, 1) := by decide +kernel
theorem dX5_pair_32 : decode cX5_pair 32 = .ok (.bipush 44, 2) := by decide +kernel
theorem dX5_pair_34 : decode cX5_pair 34 = .ok (.invokevirtual 85, 3) := by decide +kernel
theorem dX5_pair_37 : decode cX5_pair 37 = .ok (.aload_n 0, 1) := by decide +kernel
theorem dX5_pair_38 : decode cX5_pair 38 = .ok (.iload_n 2, 1) := by decide +kernel
theorem dX5_pair_39 : decode cX5_pair 39 = .ok (.iconst 1, 1) := by decide +kernel
theorem dX5_pair_40 : decode cX5_pair 40 = .ok (.iadd, 1) := by decide +kernel
theorem dX5_pair_41 : decode cX5_pair 41 = .ok (.invokevirtual 143, 3) := by decide +kernel
theorem dX5_pair_44 : decode cX5_pair 44 = .ok (.aload_n 0, 1) := by decide +kernel
theorem dX5_pair_45 : decode cX5_pair 45 = .ok (.bipush 41, 2) := by decide +kernel
theorem dX5_pair_47 : decode cX5_pair 47 = .ok (.invokevirtual 85, 3) := by decide +kernel
theorem dX5_pair_50 : decode cX5_pair 50 = .ok (.aload_n 0, 1) := by decide +kernel
theorem dX5_pair_51 : decode cX5_pair 51 = .ok (.getfield 17, 3) := by decide +kernel
theorem dX5_pair_54 : decode cX5_pair 54 = .ok (.getfield 45, 3) := by decide +kernel
theorem dX5_pair_57 : decode cX5_pair 57 = .ok (.iload_n 1, 1) := by decide +kernel
theorem dX5_pair_58 : decode cX5_pair 58 = .ok (.iconst 0, 1) := by decide +kernel
theorem dX5_pair_59 : decode cX5_pair 59 = .ok (.invokevirtual 161, 3) := by decide +kernel
theorem dX5_pair_62 : decode cX5_pair 62 = .ok (.return_, 1) := by decide +kernel
abbrev m_X5_pair (e : Nat) : Mt := (cX5_pair, RX5, "pair", 3, .return_, e + 1)
def f_X5_pair (N : Nat) (z : Nat → Nat) (R : Rg) (o : Nat) (v1 : Int32) (v2 : Int32) (x0 : Hp) : Option (Unit × Hp) :=
  obj (some o) x0 8 fun q3 => bnd (f_X5_kind N z q3 x0) fun i2 x1 =>
  if i2 = (40 : Int32) then (obj (some o) x1 8 fun q6 => bnd (f_X5_enters N z q6 v2 x1) fun i5 x4 =>
  if i5 = 0 then (some ((), x4)) else (obj (some o) x4 8 fun q8 => bnd (R 3 q8 (v2 + (1 : Int32)) 0 x4) fun _ x7 =>
  obj (some o) x7 8 fun q10 => bnd (f_X5_need N z q10 (44 : Int32) x7) fun _ x9 =>
  obj (some o) x9 8 fun q12 => bnd (R 3 q12 (v2 + (1 : Int32)) 0 x9) fun _ x11 =>
  obj (some o) x11 8 fun q14 => bnd (f_X5_need N z q14 (41 : Int32) x11) fun _ x13 =>
  getr (some o) x13 8 140 fun r15 =>
  getr r15 x13 9 160 fun r16 =>
  obj r16 x13 3 fun q18 => bnd (f_X0_add N z q18 v1 (0 : Int32) x13) fun _ x17 =>
  some ((), x17))) else (obj (some o) x1 8 fun q20 => bnd (f_X5_fail N z q20 x1) fun _ x19 =>
  some ((), x19))
set_option maxRecDepth 100000 in
set_option maxHeartbeats 4000000 in
theorem g_X5_pair (l : Launch) (N : Nat) (z : Nat → Nat) (R : Rg) (e : Nat) (hD : 3 ≤ e) (hR : HR l N z e R) (o : Nat) (v1 : Int32) (v2 : Int32) (x0 : Hp) : G l z (m_X5_pair e) okT enV 0 [(0, va_rf (some o)), (1, .int v1), (2, .int v2)] [] x0 (f_X5_pair N z R o v1 v2 x0) := by
  unfold f_X5_pair
  refine G_aload_n 0 dX5_pair_0 rfl rfl ?_
  refine G_callV (av := []) [] (fun q3 => ct_X5_kind l N z q3) K_7 rfl yn_X5_kind (by show 3 ≤ e + 1; omega) (by decide) gw_1211 gw_1213 gw_s19 gw_41 gw_1214 rfl (by decide) dX5_pair_1 (fun i2 x1 => ?_)
  refine G_bipush (v := (40 : Int32)) dX5_pair_4 (by decide) ?_
  refine G_icmp_eq (tgt := 16) dX5_pair_6 (by decide) (fun _ => ?_) (fun _ => ?_)
  · refine G_aload_n 0 dX5_pair_16 rfl rfl ?_
    refine G_iload_n 2 dX5_pair_17 rfl rfl ?_
    refine G_callV (av := [.int v2]) [] (fun q6 => ct_X5_enters l N z q6 v2) K_7 rfl yn_X5_enters (by show 4 ≤ e + 1; omega) (by decide) gw_1291 gw_1293 gw_s33 gw_41 gw_1294 rfl (by decide) dX5_pair_18 (fun i5 x4 => ?_)
    refine G_if_eq (tgt := 62) dX5_pair_21 (by decide) (fun _ => ?_) (fun _ => ?_)
    · exact G_ret trivial dX5_pair_62 rfl
    · refine G_aload_n 0 dX5_pair_24 rfl rfl ?_
      refine G_iload_n 2 dX5_pair_25 rfl rfl ?_
      refine G_iconst (v := (1 : Int32)) dX5_pair_26 rfl ?_
      refine G_iadd dX5_pair_27 ?_
      refine G_callV (av := [.int (v2 + (1 : Int32))]) [] (fun q8 => hR.2.2.2.1 q8 (v2 + (1 : Int32))) K_7 rfl yn_X5_sum (Nat.le_refl _) (by decide) gw_1275 gw_1277 gw_s30 gw_41 gw_1278 rfl (by decide) dX5_pair_28 (fun _ x7 => ?_)
      refine G_aload_n 0 dX5_pair_31 rfl rfl ?_
      refine G_bipush (v := (44 : Int32)) dX5_pair_32 (by decide) ?_
      refine G_callV (av := [.int (44 : Int32)]) [] (fun q10 => ct_X5_need l N z q10 (44 : Int32)) K_7 rfl yn_X5_need (by show 4 ≤ e + 1; omega) (by decide) gw_1255 gw_1257 gw_s27 gw_41 gw_1258 rfl (by decide) dX5_pair_34 (fun _ x9 => ?_)
      refine G_aload_n 0 dX5_pair_37 rfl rfl ?_
      refine G_iload_n 2 dX5_pair_38 rfl rfl ?_
      refine G_iconst (v := (1 : Int32)) dX5_pair_39 rfl ?_
      refine G_iadd dX5_pair_40 ?_
      refine G_callV (av := [.int (v2 + (1 : Int32))]) [] (fun q12 => hR.2.2.2.1 q12 (v2 + (1 : Int32))) K_7 rfl yn_X5_sum (Nat.le_refl _) (by decide) gw_1275 gw_1277 gw_s30 gw_41 gw_1278 rfl (by decide) dX5_pair_41 (fun _ x11 => ?_)
      refine G_aload_n 0 dX5_pair_44 rfl rfl ?_
      refine G_bipush (v := (41 : Int32)) dX5_pair_45 (by decide) ?_
      refine G_callV (av := [.int (41 : Int32)]) [] (fun q14 => ct_X5_need l N z q14 (41 : Int32)) K_7 rfl yn_X5_need (by show 4 ≤ e + 1; omega) (by decide) gw_1255 gw_1257 gw_s27 gw_41 gw_1258 rfl (by decide) dX5_pair_47 (fun _ x13 => ?_)
      refine G_aload_n 0 dX5_pair_50 rfl rfl ?_
      refine G_getr (k := 0) K_7 (by decide) rfl rfl rfl gw_426 rfl dX5_pair_51 (fun r15 => ?_)
      refine G_getr (k := 0) K_8 (by decide) rfl rfl rfl gw_306 rfl dX5_pair_54 (fun r16 => ?_)
      refine G_iload_n 1 dX5_pair_57 rfl rfl ?_
      refine G_iconst (v := (0 : Int32)) dX5_pair_58 rfl ?_
      refine G_callV (av := [.int v1, .int (0 : Int32)]) [] (fun q18 => ct_X0_add l N z q18 v1 (0 : Int32)) K_2 rfl yn_X0_add (by show 2 ≤ e + 1; omega) (by decide) gw_1287 gw_1288 gw_1289 gw_43 gw_1290 rfl (by decide) dX5_pair_59 (fun _ x17 => ?_)
      exact G_ret trivial dX5_pair_62 rfl
  · refine G_aload_n 0 dX5_pair_9 rfl rfl ?_
    refine G_callV (av := []) [] (fun q20 => ct_X5_fail l N z q20) K_7 rfl yn_X5_fail (by show 3 ≤ e + 1; omega) (by decide) gw_1220 gw_1222 gw_s21 gw_41 gw_1223 rfl (by decide) dX5_pair_10 (fun _ x19 => ?_)
    refine G_goto (tgt := 62) dX5_pair_13 (by decide) ?_
    exact G_ret trivial dX5_pair_62 rfl


theorem dX5_value_0 : decode cX5_value 0 = .ok (.aload_n 0, 1) := by decide +kernel
theorem dX5_value_1 : decode cX5_value 1 = .ok (.invokevirtual 62, 3) := by decide +kernel
theorem dX5_value_4 : decode cX5_value 4 = .ok (.istore_n 2, 1) := by decide +kernel
theorem dX5_value_5 : decode cX5_value 5 = .ok (.iload_n 2, 1) := by decide +kernel
theorem dX5_value_6 : decode cX5_value 6 = .ok (.tableswitch 282 20 45 #[155, 155, 180, 180, 180, 180, 180, 282, 282, 282, 282, 282, 263, 263, 282, 118, 282, 282, 282, 282, 239, 282, 282, 282, 282, 208], 118) := by decide +kernel
theorem dX5_value_124 : decode cX5_value 124 = .ok (.aload_n 0, 1) := by decide +kernel
theorem dX5_value_125 : decode cX5_value 125 = .ok (.getfield 17, 3) := by decide +kernel
theorem dX5_value_128 : decode cX5_value 128 = .ok (.getfield 45, 3) := by decide +kernel
theorem dX5_value_131 : decode cX5_value 131 = .ok (.bipush 35, 2) := by decide +kernel
theorem dX5_value_133 : decode cX5_value 133 = .ok (.aload_n 0, 1) := by decide +kernel
theorem dX5_value_134 : decode cX5_value 134 = .ok (.getfield 26, 3) := by decide +kernel
theorem dX5_value_137 : decode cX5_value 137 = .ok (.aload_n 0, 1) := by decide +kernel
theorem dX5_value_138 : decode cX5_value 138 = .ok (.getfield 52, 3) := by decide +kernel
theorem dX5_value_141 : decode cX5_value 141 = .ok (.invokevirtual 180, 3) := by decide +kernel
theorem dX5_value_144 : decode cX5_value 144 = .ok (.l2i, 1) := by decide +kernel
theorem dX5_value_145 : decode cX5_value 145 = .ok (.invokevirtual 161, 3) := by decide +kernel
theorem dX5_value_148 : decode cX5_value 148 = .ok (.aload_n 0, 1) := by decide +kernel
theorem dX5_value_149 : decode cX5_value 149 = .ok (.dup, 1) := by decide +kernel
theorem dX5_value_150 : decode cX5_value 150 = .ok (.getfield 52, 3) := by decide +kernel
theorem dX5_value_153 : decode cX5_value 153 = .ok (.iconst 1, 1) := by decide +kernel
theorem dX5_value_154 : decode cX5_value 154 = .ok (.iadd, 1) := by decide +kernel
theorem dX5_value_155 : decode cX5_value 155 = .ok (.putfield 52, 3) := by decide +kernel
theorem dX5_value_158 : decode cX5_value 158 = .ok (.goto 134, 3) := by decide +kernel
theorem dX5_value_161 : decode cX5_value 161 = .ok (.aload_n 0, 1) := by decide +kernel
theorem dX5_value_162 : decode cX5_value 162 = .ok (.getfield 17, 3) := by decide +kernel
theorem dX5_value_165 : decode cX5_value 165 = .ok (.getfield 45, 3) := by decide +kernel
theorem dX5_value_168 : decode cX5_value 168 = .ok (.iload_n 2, 1) := by decide +kernel
theorem dX5_value_169 : decode cX5_value 169 = .ok (.iconst 0, 1) := by decide +kernel
theorem dX5_value_170 : decode cX5_value 170 = .ok (.invokevirtual 161, 3) := by decide +kernel
theorem dX5_value_173 : decode cX5_value 173 = .ok (.aload_n 0, 1) := by decide +kernel
theorem dX5_value_174 : decode cX5_value 174 = .ok (.dup, 1) := by decide +kernel
theorem dX5_value_175 : decode cX5_value 175 = .ok (.getfield 52, 3) := by decide +kernel
theorem dX5_value_178 : decode cX5_value 178 = .ok (.iconst 1, 1) := by decide +kernel
theorem dX5_value_179 : decode cX5_value 179 = .ok (.iadd, 1) := by decide +kernel
theorem dX5_value_180 : decode cX5_value 180 = .ok (.putfield 52, 3) := by decide +kernel
theorem dX5_value_183 : decode cX5_value 183 = .ok (.goto 109, 3) := by decide +kernel
theorem dX5_value_186 : decode cX5_value 186 = .ok (.aload_n 0, 1) := by decide +kernel
theorem dX5_value_187 : decode cX5_value 187 = .ok (.dup, 1) := by decide +kernel
theorem dX5_value_188 : decode cX5_value 188 = .ok (.getfield 52, 3) := by decide +kernel
theorem dX5_value_191 : decode cX5_value 191 = .ok (.iconst 1, 1) := by decide +kernel
theorem dX5_value_192 : decode cX5_value 192 = .ok (.iadd, 1) := by decide +kernel
theorem dX5_value_193 : decode cX5_value 193 = .ok (.putfield 52, 3) := by decide +kernel
theorem dX5_value_196 : decode cX5_value 196 = .ok (.aload_n 0, 1) := by decide +kernel
theorem dX5_value_197 : decode cX5_value 197 = .ok (.getfield 17, 3) := by decide +kernel
theorem dX5_value_200 : decode cX5_value 200 = .ok (.getfield 45, 3) := by decide +kernel
theorem dX5_value_203 : decode cX5_value 203 = .ok (.iload_n 2, 1) := by decide +kernel
theorem dX5_value_204 : decode cX5_value 204 = .ok (.aload_n 0, 1) := by decide +kernel
theorem dX5_value_205 : decode cX5_value 205 = .ok (.invokevirtual 99, 3) := by decide +kernel
theorem dX5_value_208 : decode cX5_value 208 = .ok (.invokevirtual 161, 3) := by decide +kernel
theorem dX5_value_211 : decode cX5_value 211 = .ok (.goto 81, 3) := by decide +kernel
theorem dX5_value_214 : decode cX5_value 214 = .ok (.aload_n 0, 1) := by decide +kernel
theorem dX5_value_215 : decode cX5_value 215 = .ok (.iload_n 1, 1) := by decide +kernel
theorem dX5_value_216 : decode cX5_value 216 = .ok (.invokevirtual 168, 3) := by decide +kernel
theorem dX5_value_219 : decode cX5_value 219 = .ok (.ifCond .eq 73, 3) := by decide +kernel
theorem dX5_value_222 : decode cX5_value 222 = .ok (.aload_n 0, 1) := by decide +kernel
theorem dX5_value_223 : decode cX5_value 223 = .ok (.iload_n 1, 1) := by decide +kernel
theorem dX5_value_224 : decode cX5_value 224 = .ok (.iconst 1, 1) := by decide +kernel
theorem dX5_value_225 : decode cX5_value 225 = .ok (.iadd, 1) := by decide +kernel
theorem dX5_value_226 : decode cX5_value 226 = .ok (.invokevirtual 177, 3) := by decide +kernel
theorem dX5_value_229 : decode cX5_value 229 = .ok (.aload_n 0, 1) := by decide +kernel
theorem dX5_value_230 : decode cX5_value 230 = .ok (.getfield 17, 3) := by decide +kernel
theorem dX5_value_233 : decode cX5_value 233 = .ok (.getfield 45, 3) := by decide +kernel
theorem dX5_value_236 : decode cX5_value 236 = .ok (.bipush 100, 2) := by decide +kernel
theorem dX5_value_238 : decode cX5_value 238 = .ok (.iconst 0, 1) := by decide +kernel
theorem dX5_value_239 : decode cX5_value 239 = .ok (.invokevirtual 161, 3) := by decide +kernel
theorem dX5_value_242 : decode cX5_value 242 = .ok (.goto 50, 3) := by decide +kernel
theorem dX5_value_245 : decode cX5_value 245 = .ok (.aload_n 0, 1) := by decide +kernel
theorem dX5_value_246 : decode cX5_value 246 = .ok (.iload_n 1, 1) := by decide +kernel
theorem dX5_value_247 : decode cX5_value 247 = .ok (.invokevirtual 168, 3) := by decide +kernel
theorem dX5_value_250 : decode cX5_value 250 = .ok (.ifCond .eq 42, 3) := by decide +kernel
theorem dX5_value_253 : decode cX5_value 253 = .ok (.aload_n 0, 1) := by decide +kernel
theorem dX5_value_254 : decode cX5_value 254 = .ok (.iload_n 1, 1) := by decide +kernel
theorem dX5_value_255 : decode cX5_value 255 = .ok (.iconst 1, 1) := by decide +kernel
theorem dX5_value_256 : decode cX5_value 256 = .ok (.iadd, 1) := by decide +kernel
theorem dX5_value_257 : decode cX5_value 257 = .ok (.invokevirtual 143, 3) := by decide +kernel
theorem dX5_value_260 : decode cX5_value 260 = .ok (.aload_n 0, 1) := by decide +kernel
theorem dX5_value_261 : decode cX5_value 261 = .ok (.bipush 41, 2) := by decide +kernel
theorem dX5_value_263 : decode cX5_value 263 = .ok (.invokevirtual 85, 3) := by decide +kernel
theorem dX5_value_266 : decode cX5_value 266 = .ok (.goto 26, 3) := by decide +kernel
theorem dX5_value_269 : decode cX5_value 269 = .ok (.aload_n 0, 1) := by decide +kernel
theorem dX5_value_270 : decode cX5_value 270 = .ok (.dup, 1) := by decide +kernel
theorem dX5_value_271 : decode cX5_value 271 = .ok (.getfield 52, 3) := by decide +kernel
theorem dX5_value_274 : decode cX5_value 274 = .ok (.iconst 1, 1) := by decide +kernel
theorem dX5_value_275 : decode cX5_value 275 = .ok (.iadd, 1) := by decide +kernel
theorem dX5_value_276 : decode cX5_value 276 = .ok (.putfield 52, 3) := by decide +kernel
theorem dX5_value_279 : decode cX5_value 279 = .ok (.aload_n 0, 1) := by decide +kernel
theorem dX5_value_280 : decode cX5_value 280 = .ok (.iload_n 2, 1) := by decide +kernel
theorem dX5_value_281 : decode cX5_value 281 = .ok (.iload_n 1, 1) := by decide +kernel
theorem dX5_value_282 : decode cX5_value 282 = .ok (.invokevirtual 184, 3) := by decide +kernel
theorem dX5_value_285 : decode cX5_value 285 = .ok (.goto 7, 3) := by decide +kernel
theorem dX5_value_288 : decode cX5_value 288 = .ok (.aload_n 0, 1) := by decide +kernel
theorem dX5_value_289 : decode cX5_value 289 = .ok (.invokevirtual 82, 3) := by decide +kernel
theorem dX5_value_292 : decode cX5_value 292 = .ok (.return_, 1) := by decide +kernel
abbrev m_X5_value (e : Nat) : Mt := (cX5_value, RX5, "value", 3, .return_, e + 1)
def f_X5_value (N : Nat) (z : Nat → Nat) (R : Rg) (o : Nat) (v1 : Int32) (x0 : Hp) : Option (Unit × Hp) :=
  obj (some o) x0 8 fun q3 => bnd (f_X5_kind N z q3 x0) fun i2 x1 =>
  if i2 = (20 : Int32) then (getr (some o) x1 8 140 fun r5 =>
  getr r5 x1 9 160 fun r6 =>
  obj r6 x1 3 fun q8 => bnd (f_X0_add N z q8 i2 (0 : Int32) x1) fun _ x7 =>
  geti (some o) x7 8 145 fun i9 =>
  puti (some o) x7 8 145 (i9 + (1 : Int32)) fun x10 =>
  some ((), x10)) else (if i2 = (21 : Int32) then (getr (some o) x1 8 140 fun r12 =>
  getr r12 x1 9 160 fun r13 =>
  obj r13 x1 3 fun q15 => bnd (f_X0_add N z q15 i2 (0 : Int32) x1) fun _ x14 =>
  geti (some o) x14 8 145 fun i16 =>
  puti (some o) x14 8 145 (i16 + (1 : Int32)) fun x17 =>
  some ((), x17)) else (if i2 = (22 : Int32) then (geti (some o) x1 8 145 fun i19 =>
  puti (some o) x1 8 145 (i19 + (1 : Int32)) fun x20 =>
  getr (some o) x20 8 140 fun r21 =>
  getr r21 x20 9 160 fun r22 =>
  obj (some o) x20 8 fun q25 => bnd (f_X5_toldLane N z q25 x20) fun i24 x23 =>
  obj r22 x23 3 fun q27 => bnd (f_X0_add N z q27 i2 i24 x23) fun _ x26 =>
  some ((), x26)) else (if i2 = (23 : Int32) then (geti (some o) x1 8 145 fun i29 =>
  puti (some o) x1 8 145 (i29 + (1 : Int32)) fun x30 =>
  getr (some o) x30 8 140 fun r31 =>
  getr r31 x30 9 160 fun r32 =>
  obj (some o) x30 8 fun q35 => bnd (f_X5_toldLane N z q35 x30) fun i34 x33 =>
  obj r32 x33 3 fun q37 => bnd (f_X0_add N z q37 i2 i34 x33) fun _ x36 =>
  some ((), x36)) else (if i2 = (24 : Int32) then (geti (some o) x1 8 145 fun i39 =>
  puti (some o) x1 8 145 (i39 + (1 : Int32)) fun x40 =>
  getr (some o) x40 8 140 fun r41 =>
  getr r41 x40 9 160 fun r42 =>
  obj (some o) x40 8 fun q45 => bnd (f_X5_toldLane N z q45 x40) fun i44 x43 =>
  obj r42 x43 3 fun q47 => bnd (f_X0_add N z q47 i2 i44 x43) fun _ x46 =>
  some ((), x46)) else (if i2 = (25 : Int32) then (geti (some o) x1 8 145 fun i49 =>
  puti (some o) x1 8 145 (i49 + (1 : Int32)) fun x50 =>
  getr (some o) x50 8 140 fun r51 =>
  getr r51 x50 9 160 fun r52 =>
  obj (some o) x50 8 fun q55 => bnd (f_X5_toldLane N z q55 x50) fun i54 x53 =>
  obj r52 x53 3 fun q57 => bnd (f_X0_add N z q57 i2 i54 x53) fun _ x56 =>
  some ((), x56)) else (if i2 = (26 : Int32) then (geti (some o) x1 8 145 fun i59 =>
  puti (some o) x1 8 145 (i59 + (1 : Int32)) fun x60 =>
  getr (some o) x60 8 140 fun r61 =>
  getr r61 x60 9 160 fun r62 =>
  obj (some o) x60 8 fun q65 => bnd (f_X5_toldLane N z q65 x60) fun i64 x63 =>
  obj r62 x63 3 fun q67 => bnd (f_X0_add N z q67 i2 i64 x63) fun _ x66 =>
  some ((), x66)) else (if i2 = (27 : Int32) then (obj (some o) x1 8 fun q70 => bnd (f_X5_fail N z q70 x1) fun _ x69 =>
  some ((), x69)) else (if i2 = (28 : Int32) then (obj (some o) x1 8 fun q73 => bnd (f_X5_fail N z q73 x1) fun _ x72 =>
  some ((), x72)) else (if i2 = (29 : Int32) then (obj (some o) x1 8 fun q76 => bnd (f_X5_fail N z q76 x1) fun _ x75 =>
  some ((), x75)) else (if i2 = (30 : Int32) then (obj (some o) x1 8 fun q79 => bnd (f_X5_fail N z q79 x1) fun _ x78 =>
  some ((), x78)) else (if i2 = (31 : Int32) then (obj (some o) x1 8 fun q82 => bnd (f_X5_fail N z q82 x1) fun _ x81 =>
  some ((), x81)) else (if i2 = (32 : Int32) then (geti (some o) x1 8 145 fun i84 =>
  puti (some o) x1 8 145 (i84 + (1 : Int32)) fun x85 =>
  obj (some o) x85 8 fun q87 => bnd (R 6 q87 i2 v1 x85) fun _ x86 =>
  some ((), x86)) else (if i2 = (33 : Int32) then (geti (some o) x1 8 145 fun i89 =>
  puti (some o) x1 8 145 (i89 + (1 : Int32)) fun x90 =>
  obj (some o) x90 8 fun q92 => bnd (R 6 q92 i2 v1 x90) fun _ x91 =>
  some ((), x91)) else (if i2 = (34 : Int32) then (obj (some o) x1 8 fun q95 => bnd (f_X5_fail N z q95 x1) fun _ x94 =>
  some ((), x94)) else (if i2 = (35 : Int32) then (getr (some o) x1 8 140 fun r97 =>
  getr r97 x1 9 160 fun r98 =>
  getr (some o) x1 8 142 fun r99 =>
  geti (some o) x1 8 145 fun i100 =>
  obj r99 x1 12 fun q103 => bnd (f_X9_valueOf N z q103 i100 x1) fun i102 x101 =>
  obj r98 x101 3 fun q105 => bnd (f_X0_add N z q105 (35 : Int32) i102.toInt32 x101) fun _ x104 =>
  geti (some o) x104 8 145 fun i106 =>
  puti (some o) x104 8 145 (i106 + (1 : Int32)) fun x107 =>
  some ((), x107)) else (if i2 = (36 : Int32) then (obj (some o) x1 8 fun q110 => bnd (f_X5_fail N z q110 x1) fun _ x109 =>
  some ((), x109)) else (if i2 = (37 : Int32) then (obj (some o) x1 8 fun q113 => bnd (f_X5_fail N z q113 x1) fun _ x112 =>
  some ((), x112)) else (if i2 = (38 : Int32) then (obj (some o) x1 8 fun q116 => bnd (f_X5_fail N z q116 x1) fun _ x115 =>
  some ((), x115)) else (if i2 = (39 : Int32) then (obj (some o) x1 8 fun q119 => bnd (f_X5_fail N z q119 x1) fun _ x118 =>
  some ((), x118)) else (if i2 = (40 : Int32) then (obj (some o) x1 8 fun q123 => bnd (f_X5_enters N z q123 v1 x1) fun i122 x121 =>
  if i122 = 0 then (some ((), x121)) else (obj (some o) x121 8 fun q125 => bnd (R 3 q125 (v1 + (1 : Int32)) 0 x121) fun _ x124 =>
  obj (some o) x124 8 fun q127 => bnd (f_X5_need N z q127 (41 : Int32) x124) fun _ x126 =>
  some ((), x126))) else (if i2 = (41 : Int32) then (obj (some o) x1 8 fun q130 => bnd (f_X5_fail N z q130 x1) fun _ x129 =>
  some ((), x129)) else (if i2 = (42 : Int32) then (obj (some o) x1 8 fun q133 => bnd (f_X5_fail N z q133 x1) fun _ x132 =>
  some ((), x132)) else (if i2 = (43 : Int32) then (obj (some o) x1 8 fun q136 => bnd (f_X5_fail N z q136 x1) fun _ x135 =>
  some ((), x135)) else (if i2 = (44 : Int32) then (obj (some o) x1 8 fun q139 => bnd (f_X5_fail N z q139 x1) fun _ x138 =>
  some ((), x138)) else (if i2 = (45 : Int32) then (obj (some o) x1 8 fun q143 => bnd (f_X5_enters N z q143 v1 x1) fun i142 x141 =>
  if i142 = 0 then (some ((), x141)) else (obj (some o) x141 8 fun q145 => bnd (R 5 q145 (v1 + (1 : Int32)) 0 x141) fun _ x144 =>
  getr (some o) x144 8 140 fun r146 =>
  getr r146 x144 9 160 fun r147 =>
  obj r147 x144 3 fun q149 => bnd (f_X0_add N z q149 (100 : Int32) (0 : Int32) x144) fun _ x148 =>
  some ((), x148))) else (obj (some o) x1 8 fun q151 => bnd (f_X5_fail N z q151 x1) fun _ x150 =>
  some ((), x150)))))))))))))))))))))))))))
set_option maxRecDepth 100000 in
set_option maxHeartbeats 4000000 in
theorem g_X5_value (l : Launch) (N : Nat) (z : Nat → Nat) (R : Rg) (e : Nat) (hD : 3 ≤ e) (hR : HR l N z e R) (o : Nat) (v1 : Int32) (x0 : Hp) : G l z (m_X5_value e) okT enV 0 [(0, va_rf (some o)), (1, .int v1)] [] x0 (f_X5_value N z R o v1 x0) := by
  unfold f_X5_value
  refine G_aload_n 0 dX5_value_0 rfl rfl ?_
  refine G_callV (av := []) [] (fun q3 => ct_X5_kind l N z q3) K_7 rfl yn_X5_kind (by show 3 ≤ e + 1; omega) (by decide) gw_1211 gw_1213 gw_s19 gw_41 gw_1214 rfl (by decide) dX5_value_1 (fun i2 x1 => ?_)
  refine G_istore_n (i := 2) (l2 := [(0, va_rf (some o)), (1, .int v1)]) [0, 1] dX5_value_4 rfl (Nat.le_of_ble_eq_true rfl) rfl (sok_a (by decide) (by decide) (sok_b (by decide) rfl trivial)) ?_
  refine G_iload_n 0 dX5_value_5 rfl rfl ?_
  refine G_if (fun hs4 => ?_) (fun hs4 => ?_)
  · refine G_tableIn (tgt := 161) dX5_value_6 (by rw [hs4]; decide) (by rw [hs4]; decide) (by rw [hs4]; rfl) (by decide) ?_
    refine G_aload_n 1 dX5_value_161 rfl rfl ?_
    refine G_getr (k := 0) K_7 (by decide) rfl rfl rfl gw_426 rfl dX5_value_162 (fun r5 => ?_)
    refine G_getr (k := 0) K_8 (by decide) rfl rfl rfl gw_306 rfl dX5_value_165 (fun r6 => ?_)
    refine G_iload_n 0 dX5_value_168 rfl rfl ?_
    refine G_iconst (v := (0 : Int32)) dX5_value_169 rfl ?_
    refine G_callV (av := [.int i2, .int (0 : Int32)]) [] (fun q8 => ct_X0_add l N z q8 i2 (0 : Int32)) K_2 rfl yn_X0_add (by show 2 ≤ e + 1; omega) (by decide) gw_1287 gw_1288 gw_1289 gw_43 gw_1290 rfl (by decide) dX5_value_170 (fun _ x7 => ?_)
    refine G_aload_n 1 dX5_value_173 rfl rfl ?_
    refine G_dup dX5_value_174 (rf_cat _) ?_
    refine G_geti (k := 5) K_7 (by decide) rfl rfl rfl gw_433 rfl dX5_value_175 (fun i9 => ?_)
    refine G_iconst (v := (1 : Int32)) dX5_value_178 rfl ?_
    refine G_iadd dX5_value_179 ?_
    refine G_puti (k := 5) K_7 (by decide) rfl rfl rfl gw_433 rfl (Or.inl rfl) nar_int.1 nar_int.2 dX5_value_180 (fun x10 => ?_)
    refine G_goto (tgt := 292) dX5_value_183 (by decide) ?_
    exact G_ret trivial dX5_value_292 rfl
  refine G_if (fun hs11 => ?_) (fun hs11 => ?_)
  · refine G_tableIn (tgt := 161) dX5_value_6 (by rw [hs11]; decide) (by rw [hs11]; decide) (by rw [hs11]; rfl) (by decide) ?_
    refine G_aload_n 1 dX5_value_161 rfl rfl ?_
    refine G_getr (k := 0) K_7 (by decide) rfl rfl rfl gw_426 rfl dX5_value_162 (fun r12 => ?_)
    refine G_getr (k := 0) K_8 (by decide) rfl rfl rfl gw_306 rfl dX5_value_165 (fun r13 => ?_)
    refine G_iload_n 0 dX5_value_168 rfl rfl ?_
    refine G_iconst (v := (0 : Int32)) dX5_value_169 rfl ?_
    refine G_callV (av := [.int i2, .int (0 : Int32)]) [] (fun q15 => ct_X0_add l N z q15 i2 (0 : Int32)) K_2 rfl yn_X0_add (by show 2 ≤ e + 1; omega) (by decide) gw_1287 gw_1288 gw_1289 gw_43 gw_1290 rfl (by decide) dX5_value_170 (fun _ x14 => ?_)
    refine G_aload_n 1 dX5_value_173 rfl rfl ?_
    refine G_dup dX5_value_174 (rf_cat _) ?_
    refine G_geti (k := 5) K_7 (by decide) rfl rfl rfl gw_433 rfl dX5_value_175 (fun i16 => ?_)
    refine G_iconst (v := (1 : Int32)) dX5_value_178 rfl ?_
    refine G_iadd dX5_value_179 ?_
    refine G_puti (k := 5) K_7 (by decide) rfl rfl rfl gw_433 rfl (Or.inl rfl) nar_int.1 nar_int.2 dX5_value_180 (fun x17 => ?_)
    refine G_goto (tgt := 292) dX5_value_183 (by decide) ?_
    exact G_ret trivial dX5_value_292 rfl
  refine G_if (fun hs18 => ?_) (fun hs18 => ?_)
  · refine G_tableIn (tgt := 186) dX5_value_6 (by rw [hs18]; decide) (by rw [hs18]; decide) (by rw [hs18]; rfl) (by decide) ?_
    refine G_aload_n 1 dX5_value_186 rfl rfl ?_
    refine G_dup dX5_value_187 (rf_cat _) ?_
    refine G_geti (k := 5) K_7 (by decide) rfl rfl rfl gw_433 rfl dX5_value_188 (fun i19 => ?_)
    refine G_iconst (v := (1 : Int32)) dX5_value_191 rfl ?_
    refine G_iadd dX5_value_192 ?_
    refine G_puti (k := 5) K_7 (by decide) rfl rfl rfl gw_433 rfl (Or.inl rfl) nar_int.1 nar_int.2 dX5_value_193 (fun x20 => ?_)
    refine G_aload_n 1 dX5_value_196 rfl rfl ?_
    refine G_getr (k := 0) K_7 (by decide) rfl rfl rfl gw_426 rfl dX5_value_197 (fun r21 => ?_)
    refine G_getr (k := 0) K_8 (by decide) rfl rfl rfl gw_306 rfl dX5_value_200 (fun r22 => ?_)
    refine G_iload_n 0 dX5_value_203 rfl rfl ?_
    refine G_aload_n 1 dX5_value_204 rfl rfl ?_
    refine G_callV (av := []) [.int i2, va_rf r22] (fun q25 => ct_X5_toldLane l N z q25) K_7 rfl yn_X5_toldLane (by show 4 ≤ e + 1; omega) (by decide) gw_1251 gw_1253 gw_s26 gw_41 gw_1254 rfl (by simp only [hw_n, hw_i, hw_r, hw_j, hw_d]; decide) dX5_value_205 (fun i24 x23 => ?_)
    refine G_callV (av := [.int i2, .int i24]) [] (fun q27 => ct_X0_add l N z q27 i2 i24) K_2 rfl yn_X0_add (by show 2 ≤ e + 1; omega) (by decide) gw_1287 gw_1288 gw_1289 gw_43 gw_1290 rfl (by decide) dX5_value_208 (fun _ x26 => ?_)
    refine G_goto (tgt := 292) dX5_value_211 (by decide) ?_
    exact G_ret trivial dX5_value_292 rfl
  refine G_if (fun hs28 => ?_) (fun hs28 => ?_)
  · refine G_tableIn (tgt := 186) dX5_value_6 (by rw [hs28]; decide) (by rw [hs28]; decide) (by rw [hs28]; rfl) (by decide) ?_
    refine G_aload_n 1 dX5_value_186 rfl rfl ?_
    refine G_dup dX5_value_187 (rf_cat _) ?_
    refine G_geti (k := 5) K_7 (by decide) rfl rfl rfl gw_433 rfl dX5_value_188 (fun i29 => ?_)
    refine G_iconst (v := (1 : Int32)) dX5_value_191 rfl ?_
    refine G_iadd dX5_value_192 ?_
    refine G_puti (k := 5) K_7 (by decide) rfl rfl rfl gw_433 rfl (Or.inl rfl) nar_int.1 nar_int.2 dX5_value_193 (fun x30 => ?_)
    refine G_aload_n 1 dX5_value_196 rfl rfl ?_
    refine G_getr (k := 0) K_7 (by decide) rfl rfl rfl gw_426 rfl dX5_value_197 (fun r31 => ?_)
    refine G_getr (k := 0) K_8 (by decide) rfl rfl rfl gw_306 rfl dX5_value_200 (fun r32 => ?_)
    refine G_iload_n 0 dX5_value_203 rfl rfl ?_
    refine G_aload_n 1 dX5_value_204 rfl rfl ?_
    refine G_callV (av := []) [.int i2, va_rf r32] (fun q35 => ct_X5_toldLane l N z q35) K_7 rfl yn_X5_toldLane (by show 4 ≤ e + 1; omega) (by decide) gw_1251 gw_1253 gw_s26 gw_41 gw_1254 rfl (by simp only [hw_n, hw_i, hw_r, hw_j, hw_d]; decide) dX5_value_205 (fun i34 x33 => ?_)
    refine G_callV (av := [.int i2, .int i34]) [] (fun q37 => ct_X0_add l N z q37 i2 i34) K_2 rfl yn_X0_add (by show 2 ≤ e + 1; omega) (by decide) gw_1287 gw_1288 gw_1289 gw_43 gw_1290 rfl (by decide) dX5_value_208 (fun _ x36 => ?_)
    refine G_goto (tgt := 292) dX5_value_211 (by decide) ?_
    exact G_ret trivial dX5_value_292 rfl
  refine G_if (fun hs38 => ?_) (fun hs38 => ?_)
  · refine G_tableIn (tgt := 186) dX5_value_6 (by rw [hs38]; decide) (by rw [hs38]; decide) (by rw [hs38]; rfl) (by decide) ?_
    refine G_aload_n 1 dX5_value_186 rfl rfl ?_
    refine G_dup dX5_value_187 (rf_cat _) ?_
    refine G_geti (k := 5) K_7 (by decide) rfl rfl rfl gw_433 rfl dX5_value_188 (fun i39 => ?_)
    refine G_iconst (v := (1 : Int32)) dX5_value_191 rfl ?_
    refine G_iadd dX5_value_192 ?_
    refine G_puti (k := 5) K_7 (by decide) rfl rfl rfl gw_433 rfl (Or.inl rfl) nar_int.1 nar_int.2 dX5_value_193 (fun x40 => ?_)
    refine G_aload_n 1 dX5_value_196 rfl rfl ?_
    refine G_getr (k := 0) K_7 (by decide) rfl rfl rfl gw_426 rfl dX5_value_197 (fun r41 => ?_)
    refine G_getr (k := 0) K_8 (by decide) rfl rfl rfl gw_306 rfl dX5_value_200 (fun r42 => ?_)
    refine G_iload_n 0 dX5_value_203 rfl rfl ?_
    refine G_aload_n 1 dX5_value_204 rfl rfl ?_
    refine G_callV (av := []) [.int i2, va_rf r42] (fun q45 => ct_X5_toldLane l N z q45) K_7 rfl yn_X5_toldLane (by show 4 ≤ e + 1; omega) (by decide) gw_1251 gw_1253 gw_s26 gw_41 gw_1254 rfl (by simp only [hw_n, hw_i, hw_r, hw_j, hw_d]; decide) dX5_value_205 (fun i44 x43 => ?_)
    refine G_callV (av := [.int i2, .int i44]) [] (fun q47 => ct_X0_add l N z q47 i2 i44) K_2 rfl yn_X0_add (by show 2 ≤ e + 1; omega) (by decide) gw_1287 gw_1288 gw_1289 gw_43 gw_1290 rfl (by decide) dX5_value_208 (fun _ x46 => ?_)
    refine G_goto (tgt := 292) dX5_value_211 (by decide) ?_
    exact G_ret trivial dX5_value_292 rfl
  refine G_if (fun hs48 => ?_) (fun hs48 => ?_)
  · refine G_tableIn (tgt := 186) dX5_value_6 (by rw [hs48]; decide) (by rw [hs48]; decide) (by rw [hs48]; rfl) (by decide) ?_
    refine G_aload_n 1 dX5_value_186 rfl rfl ?_
    refine G_dup dX5_value_187 (rf_cat _) ?_
    refine G_geti (k := 5) K_7 (by decide) rfl rfl rfl gw_433 rfl dX5_value_188 (fun i49 => ?_)
    refine G_iconst (v := (1 : Int32)) dX5_value_191 rfl ?_
    refine G_iadd dX5_value_192 ?_
    refine G_puti (k := 5) K_7 (by decide) rfl rfl rfl gw_433 rfl (Or.inl rfl) nar_int.1 nar_int.2 dX5_value_193 (fun x50 => ?_)
    refine G_aload_n 1 dX5_value_196 rfl rfl ?_
    refine G_getr (k := 0) K_7 (by decide) rfl rfl rfl gw_426 rfl dX5_value_197 (fun r51 => ?_)
    refine G_getr (k := 0) K_8 (by decide) rfl rfl rfl gw_306 rfl dX5_value_200 (fun r52 => ?_)
    refine G_iload_n 0 dX5_value_203 rfl rfl ?_
    refine G_aload_n 1 dX5_value_204 rfl rfl ?_
    refine G_callV (av := []) [.int i2, va_rf r52] (fun q55 => ct_X5_toldLane l N z q55) K_7 rfl yn_X5_toldLane (by show 4 ≤ e + 1; omega) (by decide) gw_1251 gw_1253 gw_s26 gw_41 gw_1254 rfl (by simp only [hw_n, hw_i, hw_r, hw_j, hw_d]; decide) dX5_value_205 (fun i54 x53 => ?_)
    refine G_callV (av := [.int i2, .int i54]) [] (fun q57 => ct_X0_add l N z q57 i2 i54) K_2 rfl yn_X0_add (by show 2 ≤ e + 1; omega) (by decide) gw_1287 gw_1288 gw_1289 gw_43 gw_1290 rfl (by decide) dX5_value_208 (fun _ x56 => ?_)
    refine G_goto (tgt := 292) dX5_value_211 (by decide) ?_
    exact G_ret trivial dX5_value_292 rfl
  refine G_if (fun hs58 => ?_) (fun hs58 => ?_)
  · refine G_tableIn (tgt := 186) dX5_value_6 (by rw [hs58]; decide) (by rw [hs58]; decide) (by rw [hs58]; rfl) (by decide) ?_
    refine G_aload_n 1 dX5_value_186 rfl rfl ?_
    refine G_dup dX5_value_187 (rf_cat _) ?_
    refine G_geti (k := 5) K_7 (by decide) rfl rfl rfl gw_433 rfl dX5_value_188 (fun i59 => ?_)
    refine G_iconst (v := (1 : Int32)) dX5_value_191 rfl ?_
    refine G_iadd dX5_value_192 ?_
    refine G_puti (k := 5) K_7 (by decide) rfl rfl rfl gw_433 rfl (Or.inl rfl) nar_int.1 nar_int.2 dX5_value_193 (fun x60 => ?_)
    refine G_aload_n 1 dX5_value_196 rfl rfl ?_
    refine G_getr (k := 0) K_7 (by decide) rfl rfl rfl gw_426 rfl dX5_value_197 (fun r61 => ?_)
    refine G_getr (k := 0) K_8 (by decide) rfl rfl rfl gw_306 rfl dX5_value_200 (fun r62 => ?_)
    refine G_iload_n 0 dX5_value_203 rfl rfl ?_
    refine G_aload_n 1 dX5_value_204 rfl rfl ?_
    refine G_callV (av := []) [.int i2, va_rf r62] (fun q65 => ct_X5_toldLane l N z q65) K_7 rfl yn_X5_toldLane (by show 4 ≤ e + 1; omega) (by decide) gw_1251 gw_1253 gw_s26 gw_41 gw_1254 rfl (by simp only [hw_n, hw_i, hw_r, hw_j, hw_d]; decide) dX5_value_205 (fun i64 x63 => ?_)
    refine G_callV (av := [.int i2, .int i64]) [] (fun q67 => ct_X0_add l N z q67 i2 i64) K_2 rfl yn_X0_add (by show 2 ≤ e + 1; omega) (by decide) gw_1287 gw_1288 gw_1289 gw_43 gw_1290 rfl (by decide) dX5_value_208 (fun _ x66 => ?_)
    refine G_goto (tgt := 292) dX5_value_211 (by decide) ?_
    exact G_ret trivial dX5_value_292 rfl
  refine G_if (fun hs68 => ?_) (fun hs68 => ?_)
  · refine G_tableIn (tgt := 288) dX5_value_6 (by rw [hs68]; decide) (by rw [hs68]; decide) (by rw [hs68]; rfl) (by decide) ?_
    refine G_aload_n 1 dX5_value_288 rfl rfl ?_
    refine G_callV (av := []) [] (fun q70 => ct_X5_fail l N z q70) K_7 rfl yn_X5_fail (by show 3 ≤ e + 1; omega) (by decide) gw_1220 gw_1222 gw_s21 gw_41 gw_1223 rfl (by decide) dX5_value_289 (fun _ x69 => ?_)
    exact G_ret trivial dX5_value_292 rfl
  refine G_if (fun hs71 => ?_) (fun hs71 => ?_)
  · refine G_tableIn (tgt := 288) dX5_value_6 (by rw [hs71]; decide) (by rw [hs71]; decide) (by rw [hs71]; rfl) (by decide) ?_
    refine G_aload_n 1 dX5_value_288 rfl rfl ?_
    refine G_callV (av := []) [] (fun q73 => ct_X5_fail l N z q73) K_7 rfl yn_X5_fail (by show 3 ≤ e + 1; omega) (by decide) gw_1220 gw_1222 gw_s21 gw_41 gw_1223 rfl (by decide) dX5_value_289 (fun _ x72 => ?_)
    exact G_ret trivial dX5_value_292 rfl
  refine G_if (fun hs74 => ?_) (fun hs74 => ?_)
  · refine G_tableIn (tgt := 288) dX5_value_6 (by rw [hs74]; decide) (by rw [hs74]; decide) (by rw [hs74]; rfl) (by decide) ?_
    refine G_aload_n 1 dX5_value_288 rfl rfl ?_
    refine G_callV (av := []) [] (fun q76 => ct_X5_fail l N z q76) K_7 rfl yn_X5_fail (by show 3 ≤ e + 1; omega) (by decide) gw_1220 gw_1222 gw_s21 gw_41 gw_1223 rfl (by decide) dX5_value_289 (fun _ x75 => ?_)
    exact G_ret trivial dX5_value_292 rfl
  refine G_if (fun hs77 => ?_) (fun hs77 => ?_)
  · refine G_tableIn (tgt := 288) dX5_value_6 (by rw [hs77]; decide) (by rw [hs77]; decide) (by rw [hs77]; rfl) (by decide) ?_
    refine G_aload_n 1 dX5_value_288 rfl rfl ?_
    refine G_callV (av := []) [] (fun q79 => ct_X5_fail l N z q79) K_7 rfl yn_X5_fail (by show 3 ≤ e + 1; omega) (by decide) gw_1220 gw_1222 gw_s21 gw_41 gw_1223 rfl (by decide) dX5_value_289 (fun _ x78 => ?_)
    exact G_ret trivial dX5_value_292 rfl
  refine G_if (fun hs80 => ?_) (fun hs80 => ?_)
  · refine G_tableIn (tgt := 288) dX5_value_6 (by rw [hs80]; decide) (by rw [hs80]; decide) (by rw [hs80]; rfl) (by decide) ?_
    refine G_aload_n 1 dX5_value_288 rfl rfl ?_
    refine G_callV (av := []) [] (fun q82 => ct_X5_fail l N z q82) K_7 rfl yn_X5_fail (by show 3 ≤ e + 1; omega) (by decide) gw_1220 gw_1222 gw_s21 gw_41 gw_1223 rfl (by decide) dX5_value_289 (fun _ x81 => ?_)
    exact G_ret trivial dX5_value_292 rfl
  refine G_if (fun hs83 => ?_) (fun hs83 => ?_)
  · refine G_tableIn (tgt := 269) dX5_value_6 (by rw [hs83]; decide) (by rw [hs83]; decide) (by rw [hs83]; rfl) (by decide) ?_
    refine G_aload_n 1 dX5_value_269 rfl rfl ?_
    refine G_dup dX5_value_270 (rf_cat _) ?_
    refine G_geti (k := 5) K_7 (by decide) rfl rfl rfl gw_433 rfl dX5_value_271 (fun i84 => ?_)
    refine G_iconst (v := (1 : Int32)) dX5_value_274 rfl ?_
    refine G_iadd dX5_value_275 ?_
    refine G_puti (k := 5) K_7 (by decide) rfl rfl rfl gw_433 rfl (Or.inl rfl) nar_int.1 nar_int.2 dX5_value_276 (fun x85 => ?_)
    refine G_aload_n 1 dX5_value_279 rfl rfl ?_
    refine G_iload_n 0 dX5_value_280 rfl rfl ?_
    refine G_iload_n 2 dX5_value_281 rfl rfl ?_
    refine G_callV (av := [.int i2, .int v1]) [] (fun q87 => hR.2.2.2.2.2.2 q87 i2 v1) K_7 rfl yn_X5_pair (Nat.le_refl _) (by decide) gw_1295 gw_1297 gw_s34 gw_41 gw_1298 rfl (by decide) dX5_value_282 (fun _ x86 => ?_)
    refine G_goto (tgt := 292) dX5_value_285 (by decide) ?_
    exact G_ret trivial dX5_value_292 rfl
  refine G_if (fun hs88 => ?_) (fun hs88 => ?_)
  · refine G_tableIn (tgt := 269) dX5_value_6 (by rw [hs88]; decide) (by rw [hs88]; decide) (by rw [hs88]; rfl) (by decide) ?_
    refine G_aload_n 1 dX5_value_269 rfl rfl ?_
    refine G_dup dX5_value_270 (rf_cat _) ?_
    refine G_geti (k := 5) K_7 (by decide) rfl rfl rfl gw_433 rfl dX5_value_271 (fun i89 => ?_)
    refine G_iconst (v := (1 : Int32)) dX5_value_274 rfl ?_
    refine G_iadd dX5_value_275 ?_
    refine G_puti (k := 5) K_7 (by decide) rfl rfl rfl gw_433 rfl (Or.inl rfl) nar_int.1 nar_int.2 dX5_value_276 (fun x90 => ?_)
    refine G_aload_n 1 dX5_value_279 rfl rfl ?_
    refine G_iload_n 0 dX5_value_280 rfl rfl ?_
    refine G_iload_n 2 dX5_value_281 rfl rfl ?_
    refine G_callV (av := [.int i2, .int v1]) [] (fun q92 => hR.2.2.2.2.2.2 q92 i2 v1) K_7 rfl yn_X5_pair (Nat.le_refl _) (by decide) gw_1295 gw_1297 gw_s34 gw_41 gw_1298 rfl (by decide) dX5_value_282 (fun _ x91 => ?_)
    refine G_goto (tgt := 292) dX5_value_285 (by decide) ?_
    exact G_ret trivial dX5_value_292 rfl
  refine G_if (fun hs93 => ?_) (fun hs93 => ?_)
  · refine G_tableIn (tgt := 288) dX5_value_6 (by rw [hs93]; decide) (by rw [hs93]; decide) (by rw [hs93]; rfl) (by decide) ?_
    refine G_aload_n 1 dX5_value_288 rfl rfl ?_
    refine G_callV (av := []) [] (fun q95 => ct_X5_fail l N z q95) K_7 rfl yn_X5_fail (by show 3 ≤ e + 1; omega) (by decide) gw_1220 gw_1222 gw_s21 gw_41 gw_1223 rfl (by decide) dX5_value_289 (fun _ x94 => ?_)
    exact G_ret trivial dX5_value_292 rfl
  refine G_if (fun hs96 => ?_) (fun hs96 => ?_)
  · refine G_tableIn (tgt := 124) dX5_value_6 (by rw [hs96]; decide) (by rw [hs96]; decide) (by rw [hs96]; rfl) (by decide) ?_
    refine G_aload_n 1 dX5_value_124 rfl rfl ?_
    refine G_getr (k := 0) K_7 (by decide) rfl rfl rfl gw_426 rfl dX5_value_125 (fun r97 => ?_)
    refine G_getr (k := 0) K_8 (by decide) rfl rfl rfl gw_306 rfl dX5_value_128 (fun r98 => ?_)
    refine G_bipush (v := (35 : Int32)) dX5_value_131 (by decide) ?_
    refine G_aload_n 1 dX5_value_133 rfl rfl ?_
    refine G_getr (k := 2) K_7 (by decide) rfl rfl rfl gw_430 rfl dX5_value_134 (fun r99 => ?_)
    refine G_aload_n 1 dX5_value_137 rfl rfl ?_
    refine G_geti (k := 5) K_7 (by decide) rfl rfl rfl gw_433 rfl dX5_value_138 (fun i100 => ?_)
    refine G_callV (av := [.int i100]) [.int (35 : Int32), va_rf r98] (fun q103 => ct_X9_valueOf l N z q103 i100) K_11 rfl yn_X9_valueOf (by show 2 ≤ e + 1; omega) (by decide) gw_1228 gw_1229 gw_1230 gw_49 gw_1231 rfl (by simp only [hw_n, hw_i, hw_r, hw_j, hw_d]; decide) dX5_value_141 (fun i102 x101 => ?_)
    refine G_l2i dX5_value_144 ?_
    refine G_callV (av := [.int (35 : Int32), .int i102.toInt32]) [] (fun q105 => ct_X0_add l N z q105 (35 : Int32) i102.toInt32) K_2 rfl yn_X0_add (by show 2 ≤ e + 1; omega) (by decide) gw_1287 gw_1288 gw_1289 gw_43 gw_1290 rfl (by decide) dX5_value_145 (fun _ x104 => ?_)
    refine G_aload_n 1 dX5_value_148 rfl rfl ?_
    refine G_dup dX5_value_149 (rf_cat _) ?_
    refine G_geti (k := 5) K_7 (by decide) rfl rfl rfl gw_433 rfl dX5_value_150 (fun i106 => ?_)
    refine G_iconst (v := (1 : Int32)) dX5_value_153 rfl ?_
    refine G_iadd dX5_value_154 ?_
    refine G_puti (k := 5) K_7 (by decide) rfl rfl rfl gw_433 rfl (Or.inl rfl) nar_int.1 nar_int.2 dX5_value_155 (fun x107 => ?_)
    refine G_goto (tgt := 292) dX5_value_158 (by decide) ?_
    exact G_ret trivial dX5_value_292 rfl
  refine G_if (fun hs108 => ?_) (fun hs108 => ?_)
  · refine G_tableIn (tgt := 288) dX5_value_6 (by rw [hs108]; decide) (by rw [hs108]; decide) (by rw [hs108]; rfl) (by decide) ?_
    refine G_aload_n 1 dX5_value_288 rfl rfl ?_
    refine G_callV (av := []) [] (fun q110 => ct_X5_fail l N z q110) K_7 rfl yn_X5_fail (by show 3 ≤ e + 1; omega) (by decide) gw_1220 gw_1222 gw_s21 gw_41 gw_1223 rfl (by decide) dX5_value_289 (fun _ x109 => ?_)
    exact G_ret trivial dX5_value_292 rfl
  refine G_if (fun hs111 => ?_) (fun hs111 => ?_)
  · refine G_tableIn (tgt := 288) dX5_value_6 (by rw [hs111]; decide) (by rw [hs111]; decide) (by rw [hs111]; rfl) (by decide) ?_
    refine G_aload_n 1 dX5_value_288 rfl rfl ?_
    refine G_callV (av := []) [] (fun q113 => ct_X5_fail l N z q113) K_7 rfl yn_X5_fail (by show 3 ≤ e + 1; omega) (by decide) gw_1220 gw_1222 gw_s21 gw_41 gw_1223 rfl (by decide) dX5_value_289 (fun _ x112 => ?_)
    exact G_ret trivial dX5_value_292 rfl
  refine G_if (fun hs114 => ?_) (fun hs114 => ?_)
  · refine G_tableIn (tgt := 288) dX5_value_6 (by rw [hs114]; decide) (by rw [hs114]; decide) (by rw [hs114]; rfl) (by decide) ?_
    refine G_aload_n 1 dX5_value_288 rfl rfl ?_
    refine G_callV (av := []) [] (fun q116 => ct_X5_fail l N z q116) K_7 rfl yn_X5_fail (by show 3 ≤ e + 1; omega) (by decide) gw_1220 gw_1222 gw_s21 gw_41 gw_1223 rfl (by decide) dX5_value_289 (fun _ x115 => ?_)
    exact G_ret trivial dX5_value_292 rfl
  refine G_if (fun hs117 => ?_) (fun hs117 => ?_)
  · refine G_tableIn (tgt := 288) dX5_value_6 (by rw [hs117]; decide) (by rw [hs117]; decide) (by rw [hs117]; rfl) (by decide) ?_
    refine G_aload_n 1 dX5_value_288 rfl rfl ?_
    refine G_callV (av := []) [] (fun q119 => ct_X5_fail l N z q119) K_7 rfl yn_X5_fail (by show 3 ≤ e + 1; omega) (by decide) gw_1220 gw_1222 gw_s21 gw_41 gw_1223 rfl (by decide) dX5_value_289 (fun _ x118 => ?_)
    exact G_ret trivial dX5_value_292 rfl
  refine G_if (fun hs120 => ?_) (fun hs120 => ?_)
  · refine G_tableIn (tgt := 245) dX5_value_6 (by rw [hs120]; decide) (by rw [hs120]; decide) (by rw [hs120]; rfl) (by decide) ?_
    refine G_aload_n 1 dX5_value_245 rfl rfl ?_
    refine G_iload_n 2 dX5_value_246 rfl rfl ?_
    refine G_callV (av := [.int v1]) [] (fun q123 => ct_X5_enters l N z q123 v1) K_7 rfl yn_X5_enters (by show 4 ≤ e + 1; omega) (by decide) gw_1291 gw_1293 gw_s33 gw_41 gw_1294 rfl (by decide) dX5_value_247 (fun i122 x121 => ?_)
    refine G_if_eq (tgt := 292) dX5_value_250 (by decide) (fun _ => ?_) (fun _ => ?_)
    · exact G_ret trivial dX5_value_292 rfl
    · refine G_aload_n 1 dX5_value_253 rfl rfl ?_
      refine G_iload_n 2 dX5_value_254 rfl rfl ?_
      refine G_iconst (v := (1 : Int32)) dX5_value_255 rfl ?_
      refine G_iadd dX5_value_256 ?_
      refine G_callV (av := [.int (v1 + (1 : Int32))]) [] (fun q125 => hR.2.2.2.1 q125 (v1 + (1 : Int32))) K_7 rfl yn_X5_sum (Nat.le_refl _) (by decide) gw_1275 gw_1277 gw_s30 gw_41 gw_1278 rfl (by decide) dX5_value_257 (fun _ x124 => ?_)
      refine G_aload_n 1 dX5_value_260 rfl rfl ?_
      refine G_bipush (v := (41 : Int32)) dX5_value_261 (by decide) ?_
      refine G_callV (av := [.int (41 : Int32)]) [] (fun q127 => ct_X5_need l N z q127 (41 : Int32)) K_7 rfl yn_X5_need (by show 4 ≤ e + 1; omega) (by decide) gw_1255 gw_1257 gw_s27 gw_41 gw_1258 rfl (by decide) dX5_value_263 (fun _ x126 => ?_)
      refine G_goto (tgt := 292) dX5_value_266 (by decide) ?_
      exact G_ret trivial dX5_value_292 rfl
  refine G_if (fun hs128 => ?_) (fun hs128 => ?_)
  · refine G_tableIn (tgt := 288) dX5_value_6 (by rw [hs128]; decide) (by rw [hs128]; decide) (by rw [hs128]; rfl) (by decide) ?_
    refine G_aload_n 1 dX5_value_288 rfl rfl ?_
    refine G_callV (av := []) [] (fun q130 => ct_X5_fail l N z q130) K_7 rfl yn_X5_fail (by show 3 ≤ e + 1; omega) (by decide) gw_1220 gw_1222 gw_s21 gw_41 gw_1223 rfl (by decide) dX5_value_289 (fun _ x129 => ?_)
    exact G_ret trivial dX5_value_292 rfl
  refine G_if (fun hs131 => ?_) (fun hs131 => ?_)
  · refine G_tableIn (tgt := 288) dX5_value_6 (by rw [hs131]; decide) (by rw [hs131]; decide) (by rw [hs131]; rfl) (by decide) ?_
    refine G_aload_n 1 dX5_value_288 rfl rfl ?_
    refine G_callV (av := []) [] (fun q133 => ct_X5_fail l N z q133) K_7 rfl yn_X5_fail (by show 3 ≤ e + 1; omega) (by decide) gw_1220 gw_1222 gw_s21 gw_41 gw_1223 rfl (by decide) dX5_value_289 (fun _ x132 => ?_)
    exact G_ret trivial dX5_value_292 rfl
  refine G_if (fun hs134 => ?_) (fun hs134 => ?_)
  · refine G_tableIn (tgt := 288) dX5_value_6 (by rw [hs134]; decide) (by rw [hs134]; decide) (by rw [hs134]; rfl) (by decide) ?_
    refine G_aload_n 1 dX5_value_288 rfl rfl ?_
    refine G_callV (av := []) [] (fun q136 => ct_X5_fail l N z q136) K_7 rfl yn_X5_fail (by show 3 ≤ e + 1; omega) (by decide) gw_1220 gw_1222 gw_s21 gw_41 gw_1223 rfl (by decide) dX5_value_289 (fun _ x135 => ?_)
    exact G_ret trivial dX5_value_292 rfl
  refine G_if (fun hs137 => ?_) (fun hs137 => ?_)
  · refine G_tableIn (tgt := 288) dX5_value_6 (by rw [hs137]; decide) (by rw [hs137]; decide) (by rw [hs137]; rfl) (by decide) ?_
    refine G_aload_n 1 dX5_value_288 rfl rfl ?_
    refine G_callV (av := []) [] (fun q139 => ct_X5_fail l N z q139) K_7 rfl yn_X5_fail (by show 3 ≤ e + 1; omega) (by decide) gw_1220 gw_1222 gw_s21 gw_41 gw_1223 rfl (by decide) dX5_value_289 (fun _ x138 => ?_)
    exact G_ret trivial dX5_value_292 rfl
  refine G_if (fun hs140 => ?_) (fun hs140 => ?_)
  · refine G_tableIn (tgt := 214) dX5_value_6 (by rw [hs140]; decide) (by rw [hs140]; decide) (by rw [hs140]; rfl) (by decide) ?_
    refine G_aload_n 1 dX5_value_214 rfl rfl ?_
    refine G_iload_n 2 dX5_value_215 rfl rfl ?_
    refine G_callV (av := [.int v1]) [] (fun q143 => ct_X5_enters l N z q143 v1) K_7 rfl yn_X5_enters (by show 4 ≤ e + 1; omega) (by decide) gw_1291 gw_1293 gw_s33 gw_41 gw_1294 rfl (by decide) dX5_value_216 (fun i142 x141 => ?_)
    refine G_if_eq (tgt := 292) dX5_value_219 (by decide) (fun _ => ?_) (fun _ => ?_)
    · exact G_ret trivial dX5_value_292 rfl
    · refine G_aload_n 1 dX5_value_222 rfl rfl ?_
      refine G_iload_n 2 dX5_value_223 rfl rfl ?_
      refine G_iconst (v := (1 : Int32)) dX5_value_224 rfl ?_
      refine G_iadd dX5_value_225 ?_
      refine G_callV (av := [.int (v1 + (1 : Int32))]) [] (fun q145 => hR.2.2.2.2.2.1 q145 (v1 + (1 : Int32))) K_7 rfl yn_X5_value (Nat.le_refl _) (by decide) gw_1283 gw_1285 gw_s32 gw_41 gw_1286 rfl (by decide) dX5_value_226 (fun _ x144 => ?_)
      refine G_aload_n 1 dX5_value_229 rfl rfl ?_
      refine G_getr (k := 0) K_7 (by decide) rfl rfl rfl gw_426 rfl dX5_value_230 (fun r146 => ?_)
      refine G_getr (k := 0) K_8 (by decide) rfl rfl rfl gw_306 rfl dX5_value_233 (fun r147 => ?_)
      refine G_bipush (v := (100 : Int32)) dX5_value_236 (by decide) ?_
      refine G_iconst (v := (0 : Int32)) dX5_value_238 rfl ?_
      refine G_callV (av := [.int (100 : Int32), .int (0 : Int32)]) [] (fun q149 => ct_X0_add l N z q149 (100 : Int32) (0 : Int32)) K_2 rfl yn_X0_add (by show 2 ≤ e + 1; omega) (by decide) gw_1287 gw_1288 gw_1289 gw_43 gw_1290 rfl (by decide) dX5_value_239 (fun _ x148 => ?_)
      refine G_goto (tgt := 292) dX5_value_242 (by decide) ?_
      exact G_ret trivial dX5_value_292 rfl
  refine G_tableOut (tgt := 288) dX5_value_6 (by have q0 := i32_ne hs4; rw [show (20 : Int32).toInt = 20 from by decide] at q0; have q1 := i32_ne hs11; rw [show (21 : Int32).toInt = 21 from by decide] at q1; have q2 := i32_ne hs18; rw [show (22 : Int32).toInt = 22 from by decide] at q2; have q3 := i32_ne hs28; rw [show (23 : Int32).toInt = 23 from by decide] at q3; have q4 := i32_ne hs38; rw [show (24 : Int32).toInt = 24 from by decide] at q4; have q5 := i32_ne hs48; rw [show (25 : Int32).toInt = 25 from by decide] at q5; have q6 := i32_ne hs58; rw [show (26 : Int32).toInt = 26 from by decide] at q6; have q7 := i32_ne hs68; rw [show (27 : Int32).toInt = 27 from by decide] at q7; have q8 := i32_ne hs71; rw [show (28 : Int32).toInt = 28 from by decide] at q8; have q9 := i32_ne hs74; rw [show (29 : Int32).toInt = 29 from by decide] at q9; have q10 := i32_ne hs77; rw [show (30 : Int32).toInt = 30 from by decide] at q10; have q11 := i32_ne hs80; rw [show (31 : Int32).toInt = 31 from by decide] at q11; have q12 := i32_ne hs83; rw [show (32 : Int32).toInt = 32 from by decide] at q12; have q13 := i32_ne hs88; rw [show (33 : Int32).toInt = 33 from by decide] at q13; have q14 := i32_ne hs93; rw [show (34 : Int32).toInt = 34 from by decide] at q14; have q15 := i32_ne hs96; rw [show (35 : Int32).toInt = 35 from by decide] at q15; have q16 := i32_ne hs108; rw [show (36 : Int32).toInt = 36 from by decide] at q16; have q17 := i32_ne hs111; rw [show (37 : Int32).toInt = 37 from by decide] at q17; have q18 := i32_ne hs114; rw [show (38 : Int32).toInt = 38 from by decide] at q18; have q19 := i32_ne hs117; rw [show (39 : Int32).toInt = 39 from by decide] at q19; have q20 := i32_ne hs120; rw [show (40 : Int32).toInt = 40 from by decide] at q20; have q21 := i32_ne hs128; rw [show (41 : Int32).toInt = 41 from by decide] at q21; have q22 := i32_ne hs131; rw [show (42 : Int32).toInt = 42 from by decide] at q22; have q23 := i32_ne hs134; rw [show (43 : Int32).toInt = 43 from by decide] at q23; have q24 := i32_ne hs137; rw [show (44 : Int32).toInt = 44 from by decide] at q24; have q25 := i32_ne hs140; rw [show (45 : Int32).toInt = 45 from by decide] at q25; omega) (by decide) ?_
  refine G_aload_n 1 dX5_value_288 rfl rfl ?_
  refine G_callV (av := []) [] (fun q151 => ct_X5_fail l N z q151) K_7 rfl yn_X5_fail (by show 3 ≤ e + 1; omega) (by decide) gw_1220 gw_1222 gw_s21 gw_41 gw_1223 rfl (by decide) dX5_value_289 (fun _ x150 => ?_)
  exact G_ret trivial dX5_value_292 rfl


theorem dX5_product_0 : decode cX5_product 0 = .ok (.aload_n 0, 1) := by decide +kernel
theorem dX5_product_1 : decode cX5_product 1 = .ok (.iload_n 1, 1) := by decide +kernel
theorem dX5_product_2 : decode cX5_product 2 = .ok (.invokevirtual 177, 3) := by decide +kernel
theorem dX5_product_5 : decode cX5_product 5 = .ok (.iconst 0, 1) := by decide +kernel
theorem dX5_product_6 : decode cX5_product 6 = .ok (.istore_n 2, 1) := by decide +kernel
theorem dX5_product_7 : decode cX5_product 7 = .ok (.iload_n 2, 1) := by decide +kernel
theorem dX5_product_8 : decode cX5_product 8 = .ok (.sipush 400, 3) := by decide +kernel
theorem dX5_product_11 : decode cX5_product 11 = .ok (.if_icmp .ge 59, 3) := by decide +kernel
theorem dX5_product_14 : decode cX5_product 14 = .ok (.aload_n 0, 1) := by decide +kernel
theorem dX5_product_15 : decode cX5_product 15 = .ok (.invokevirtual 62, 3) := by decide +kernel
theorem dX5_product_18 : decode cX5_product 18 = .ok (.bipush 42, 2) := by decide +kernel
theorem dX5_product_20 : decode cX5_product 20 = .ok (.if_icmp .eq 12, 3) := by decide +kernel
theorem dX5_product_23 : decode cX5_product 23 = .ok (.aload_n 0, 1) := by decide +kernel
theorem dX5_product_24 : decode cX5_product 24 = .ok (.invokevirtual 62, 3) := by decide +kernel
theorem dX5_product_27 : decode cX5_product 27 = .ok (.bipush 47, 2) := by decide +kernel
theorem dX5_product_29 : decode cX5_product 29 = .ok (.if_icmp .ne 41, 3) := by decide +kernel
theorem dX5_product_32 : decode cX5_product 32 = .ok (.aload_n 0, 1) := by decide +kernel
theorem dX5_product_33 : decode cX5_product 33 = .ok (.invokevirtual 62, 3) := by decide +kernel
theorem dX5_product_36 : decode cX5_product 36 = .ok (.istore_n 3, 1) := by decide +kernel
theorem dX5_product_37 : decode cX5_product 37 = .ok (.aload_n 0, 1) := by decide +kernel
theorem dX5_product_38 : decode cX5_product 38 = .ok (.dup, 1) := by decide +kernel
theorem dX5_product_39 : decode cX5_product 39 = .ok (.getfield 52, 3) := by decide +kernel
theorem dX5_product_42 : decode cX5_product 42 = .ok (.iconst 1, 1) := by decide +kernel
theorem dX5_product_43 : decode cX5_product 43 = .ok (.iadd, 1) := by decide +kernel
theorem dX5_product_44 : decode cX5_product 44 = .ok (.putfield 52, 3) := by decide +kernel
theorem dX5_product_47 : decode cX5_product 47 = .ok (.aload_n 0, 1) := by decide +kernel
theorem dX5_product_48 : decode cX5_product 48 = .ok (.iload_n 1, 1) := by decide +kernel
theorem dX5_product_49 : decode cX5_product 49 = .ok (.invokevirtual 177, 3) := by decide +kernel
theorem dX5_product_52 : decode cX5_product 52 = .ok (.aload_n 0, 1) := by decide +kernel
theorem dX5_product_53 : decode cX5_product 53 = .ok (.getfield 17, 3) := by decide +kernel
theorem dX5_product_56 : decode cX5_product 56 = .ok (.getfield 45, 3) := by decide +kernel
theorem dX5_product_59 : decode cX5_product 59 = .ok (.iload_n 3, 1) := by decide +kernel
theorem dX5_product_60 : decode cX5_product 60 = .ok (.iconst 0, 1) := by decide +kernel
theorem dX5_product_61 : decode cX5_product 61 = .ok (.invokevirtual 161, 3) := by decide +kernel
theorem dX5_product_64 : decode cX5_product 64 = .ok (.iinc 2 1, 3) := by decide +kernel
theorem dX5_product_67 : decode cX5_product 67 = .ok (.goto (-60), 3) := by decide +kernel
theorem dX5_product_70 : decode cX5_product 70 = .ok (.return_, 1) := by decide +kernel
abbrev m_X5_product (e : Nat) : Mt := (cX5_product, RX5, "product", 4, .return_, e + 1)
def f_X5_product_b32 (N : Nat) (z : Nat → Nat) (R : Rg) (k7 : Nat → Int32 → Int32 → Hp → Option (Unit × Hp)) (o : Nat) (v1 : Int32) (v2 : Int32) (x0 : Hp) : Option (Unit × Hp) :=
  obj (some o) x0 8 fun q3 => bnd (f_X5_kind N z q3 x0) fun i2 x1 =>
  geti (some o) x1 8 145 fun i4 =>
  puti (some o) x1 8 145 (i4 + (1 : Int32)) fun x5 =>
  obj (some o) x5 8 fun q7 => bnd (R 5 q7 v1 0 x5) fun _ x6 =>
  getr (some o) x6 8 140 fun r8 =>
  getr r8 x6 9 160 fun r9 =>
  obj r9 x6 3 fun q11 => bnd (f_X0_add N z q11 i2 (0 : Int32) x6) fun _ x10 =>
  k7 o v1 (v2 + (1 : Int32)) x10
def f_X5_product_b7 (N : Nat) (z : Nat → Nat) (R : Rg) : Nat → Nat → Int32 → Int32 → Hp → Option (Unit × Hp)
  | 0, _, _, _, _ => none
  | n + 1, o, v1, v2, x0 => if (400 : Int32) ≤ v2 then (some ((), x0)) else (obj (some o) x0 8 fun q14 => bnd (f_X5_kind N z q14 x0) fun i13 x12 =>
  if i13 = (42 : Int32) then (f_X5_product_b32 N z R (f_X5_product_b7 N z R n) o v1 v2 x12) else (obj (some o) x12 8 fun q17 => bnd (f_X5_kind N z q17 x12) fun i16 x15 =>
  if i16 = (47 : Int32) then (f_X5_product_b32 N z R (f_X5_product_b7 N z R n) o v1 v2 x15) else (some ((), x15))))
def f_X5_product (N : Nat) (z : Nat → Nat) (R : Rg) (o : Nat) (v1 : Int32) (x0 : Hp) : Option (Unit × Hp) :=
  obj (some o) x0 8 fun q19 => bnd (R 5 q19 v1 0 x0) fun _ x18 =>
  f_X5_product_b7 N z R N o v1 (0 : Int32) x18
set_option maxRecDepth 100000 in
set_option maxHeartbeats 4000000 in
theorem g_X5_product_b32 (l : Launch) (N : Nat) (z : Nat → Nat) (R : Rg) (e : Nat) (hD : 3 ≤ e) (hR : HR l N z e R) {k7 : Nat → Int32 → Int32 → Hp → Option (Unit × Hp)} (hk7 : ∀ o v1 v2 x, G l z (m_X5_product e) okT enV 7 [(0, va_rf (some o)), (1, .int v1), (2, .int v2)] [] x (k7 o v1 v2 x)) (o : Nat) (v1 : Int32) (v2 : Int32) (x0 : Hp) : G l z (m_X5_product e) okT enV 32 [(0, va_rf (some o)), (1, .int v1), (2, .int v2)] [] x0 (f_X5_product_b32 N z R k7 o v1 v2 x0) := by
  unfold f_X5_product_b32
  refine G_aload_n 0 dX5_product_32 rfl rfl ?_
  refine G_callV (av := []) [] (fun q3 => ct_X5_kind l N z q3) K_7 rfl yn_X5_kind (by show 3 ≤ e + 1; omega) (by decide) gw_1211 gw_1213 gw_s19 gw_41 gw_1214 rfl (by decide) dX5_product_33 (fun i2 x1 => ?_)
  refine G_istore_n (i := 3) (l2 := [(0, va_rf (some o)), (1, .int v1), (2, .int v2)]) [0, 1, 2] dX5_product_36 rfl (Nat.le_of_ble_eq_true rfl) rfl (sok_a (by decide) (by decide) (sok_a (by decide) (by decide) (sok_b (by decide) rfl trivial))) ?_
  refine G_aload_n 1 dX5_product_37 rfl rfl ?_
  refine G_dup dX5_product_38 (rf_cat _) ?_
  refine G_geti (k := 5) K_7 (by decide) rfl rfl rfl gw_433 rfl dX5_product_39 (fun i4 => ?_)
  refine G_iconst (v := (1 : Int32)) dX5_product_42 rfl ?_
  refine G_iadd dX5_product_43 ?_
  refine G_puti (k := 5) K_7 (by decide) rfl rfl rfl gw_433 rfl (Or.inl rfl) nar_int.1 nar_int.2 dX5_product_44 (fun x5 => ?_)
  refine G_aload_n 1 dX5_product_47 rfl rfl ?_
  refine G_iload_n 2 dX5_product_48 rfl rfl ?_
  refine G_callV (av := [.int v1]) [] (fun q7 => hR.2.2.2.2.2.1 q7 v1) K_7 rfl yn_X5_value (Nat.le_refl _) (by decide) gw_1283 gw_1285 gw_s32 gw_41 gw_1286 rfl (by decide) dX5_product_49 (fun _ x6 => ?_)
  refine G_aload_n 1 dX5_product_52 rfl rfl ?_
  refine G_getr (k := 0) K_7 (by decide) rfl rfl rfl gw_426 rfl dX5_product_53 (fun r8 => ?_)
  refine G_getr (k := 0) K_8 (by decide) rfl rfl rfl gw_306 rfl dX5_product_56 (fun r9 => ?_)
  refine G_iload_n 0 dX5_product_59 rfl rfl ?_
  refine G_iconst (v := (0 : Int32)) dX5_product_60 rfl ?_
  refine G_callV (av := [.int i2, .int (0 : Int32)]) [] (fun q11 => ct_X0_add l N z q11 i2 (0 : Int32)) K_2 rfl yn_X0_add (by show 2 ≤ e + 1; omega) (by decide) gw_1287 gw_1288 gw_1289 gw_43 gw_1290 rfl (by decide) dX5_product_61 (fun _ x10 => ?_)
  refine G_iinc (i := 2) (l2 := [(3, .int i2), (0, va_rf (some o)), (1, .int v1)]) 3 [0, 1, 2] dX5_product_64 rfl rfl (Nat.le_of_ble_eq_true rfl) rfl (sok_a (by decide) (by decide) (sok_a (by decide) (by decide) (sok_b (by decide) rfl trivial))) ?_
  refine G_goto (tgt := 7) dX5_product_67 (by decide) ?_
  refine G_lv [2, 3, 0] rfl ?_
  exact hk7 o v1 (v2 + (1 : Int32)) x10

set_option maxRecDepth 100000 in
set_option maxHeartbeats 4000000 in
theorem g_X5_product_b7 (l : Launch) (N : Nat) (z : Nat → Nat) (R : Rg) (e : Nat) (hD : 3 ≤ e) (hR : HR l N z e R) : ∀ (n : Nat) (o : Nat) (v1 : Int32) (v2 : Int32) (x0 : Hp), G l z (m_X5_product e) okT enV 7 [(0, va_rf (some o)), (1, .int v1), (2, .int v2)] [] x0 (f_X5_product_b7 N z R n o v1 v2 x0) := by
  intro n
  induction n with
  | zero => intro o v1 v2 x0; exact G_none
  | succ n ih =>
  intro o v1 v2 x0
  rw [f_X5_product_b7]
  refine G_iload_n 2 dX5_product_7 rfl rfl ?_
  refine G_sipush (v := (400 : Int32)) dX5_product_8 (by decide) ?_
  refine G_icmp_ge (tgt := 70) dX5_product_11 (by decide) (fun _ => ?_) (fun _ => ?_)
  · exact G_ret trivial dX5_product_70 rfl
  · refine G_aload_n 0 dX5_product_14 rfl rfl ?_
    refine G_callV (av := []) [] (fun q14 => ct_X5_kind l N z q14) K_7 rfl yn_X5_kind (by show 3 ≤ e + 1; omega) (by decide) gw_1211 gw_1213 gw_s19 gw_41 gw_1214 rfl (by decide) dX5_product_15 (fun i13 x12 => ?_)
    refine G_bipush (v := (42 : Int32)) dX5_product_18 (by decide) ?_
    refine G_icmp_eq (tgt := 32) dX5_product_20 (by decide) (fun _ => ?_) (fun _ => ?_)
    · refine G_lv [0, 1, 2] rfl ?_
      exact g_X5_product_b32 l N z R e hD hR ih o v1 v2 x12
    · refine G_aload_n 0 dX5_product_23 rfl rfl ?_
      refine G_callV (av := []) [] (fun q17 => ct_X5_kind l N z q17) K_7 rfl yn_X5_kind (by show 3 ≤ e + 1; omega) (by decide) gw_1211 gw_1213 gw_s19 gw_41 gw_1214 rfl (by decide) dX5_product_24 (fun i16 x15 => ?_)
      refine G_bipush (v := (47 : Int32)) dX5_product_27 (by decide) ?_
      refine G_icmp_ne (tgt := 70) dX5_product_29 (by decide) (fun _ => ?_) (fun _ => ?_)
      · refine G_lv [0, 1, 2] rfl ?_
        exact g_X5_product_b32 l N z R e hD hR ih o v1 v2 x15
      · exact G_ret trivial dX5_product_70 rfl

set_option maxRecDepth 100000 in
set_option maxHeartbeats 4000000 in
theorem g_X5_product (l : Launch) (N : Nat) (z : Nat → Nat) (R : Rg) (e : Nat) (hD : 3 ≤ e) (hR : HR l N z e R) (o : Nat) (v1 : Int32) (x0 : Hp) : G l z (m_X5_product e) okT enV 0 [(0, va_rf (some o)), (1, .int v1)] [] x0 (f_X5_product N z R o v1 x0) := by
  unfold f_X5_product
  refine G_aload_n 0 dX5_product_0 rfl rfl ?_
  refine G_iload_n 1 dX5_product_1 rfl rfl ?_
  refine G_callV (av := [.int v1]) [] (fun q19 => hR.2.2.2.2.2.1 q19 v1) K_7 rfl yn_X5_value (Nat.le_refl _) (by decide) gw_1283 gw_1285 gw_s32 gw_41 gw_1286 rfl (by decide) dX5_product_2 (fun _ x18 => ?_)
  refine G_iconst (v := (0 : Int32)) dX5_product_5 rfl ?_
  refine G_istore_n (i := 2) (l2 := [(0, va_rf (some o)), (1, .int v1)]) [0, 1] dX5_product_6 rfl (Nat.le_of_ble_eq_true rfl) rfl (sok_a (by decide) (by decide) (sok_b (by decide) rfl trivial)) ?_
  refine G_lv [1, 2, 0] rfl ?_
  exact g_X5_product_b7 l N z R e hD hR N o v1 (0 : Int32) x18


theorem dX5_sum_0 : decode cX5_sum 0 = .ok (.aload_n 0, 1) := by decide +kernel
theorem dX5_sum_1 : decode cX5_sum 1 = .ok (.iload_n 1, 1) := by decide +kernel
theorem dX5_sum_2 : decode cX5_sum 2 = .ok (.invokevirtual 174, 3) := by decide +kernel
theorem dX5_sum_5 : decode cX5_sum 5 = .ok (.iconst 0, 1) := by decide +kernel
theorem dX5_sum_6 : decode cX5_sum 6 = .ok (.istore_n 2, 1) := by decide +kernel
theorem dX5_sum_7 : decode cX5_sum 7 = .ok (.iload_n 2, 1) := by decide +kernel
theorem dX5_sum_8 : decode cX5_sum 8 = .ok (.sipush 400, 3) := by decide +kernel
theorem dX5_sum_11 : decode cX5_sum 11 = .ok (.if_icmp .ge 59, 3) := by decide +kernel
theorem dX5_sum_14 : decode cX5_sum 14 = .ok (.aload_n 0, 1) := by decide +kernel
theorem dX5_sum_15 : decode cX5_sum 15 = .ok (.invokevirtual 62, 3) := by decide +kernel
theorem dX5_sum_18 : decode cX5_sum 18 = .ok (.bipush 43, 2) := by decide +kernel
theorem dX5_sum_20 : decode cX5_sum 20 = .ok (.if_icmp .eq 12, 3) := by decide +kernel
theorem dX5_sum_23 : decode cX5_sum 23 = .ok (.aload_n 0, 1) := by decide +kernel
theorem dX5_sum_24 : decode cX5_sum 24 = .ok (.invokevirtual 62, 3) := by decide +kernel
theorem dX5_sum_27 : decode cX5_sum 27 = .ok (.bipush 45, 2) := by decide +kernel
theorem dX5_sum_29 : decode cX5_sum 29 = .ok (.if_icmp .ne 41, 3) := by decide +kernel
theorem dX5_sum_32 : decode cX5_sum 32 = .ok (.aload_n 0, 1) := by decide +kernel
theorem dX5_sum_33 : decode cX5_sum 33 = .ok (.invokevirtual 62, 3) := by decide +kernel
theorem dX5_sum_36 : decode cX5_sum 36 = .ok (.istore_n 3, 1) := by decide +kernel
theorem dX5_sum_37 : decode cX5_sum 37 = .ok (.aload_n 0, 1) := by decide +kernel
theorem dX5_sum_38 : decode cX5_sum 38 = .ok (.dup, 1) := by decide +kernel
theorem dX5_sum_39 : decode cX5_sum 39 = .ok (.getfield 52, 3) := by decide +kernel
theorem dX5_sum_42 : decode cX5_sum 42 = .ok (.iconst 1, 1) := by decide +kernel
theorem dX5_sum_43 : decode cX5_sum 43 = .ok (.iadd, 1) := by decide +kernel
theorem dX5_sum_44 : decode cX5_sum 44 = .ok (.putfield 52, 3) := by decide +kernel
theorem dX5_sum_47 : decode cX5_sum 47 = .ok (.aload_n 0, 1) := by decide +kernel
theorem dX5_sum_48 : decode cX5_sum 48 = .ok (.iload_n 1, 1) := by decide +kernel
theorem dX5_sum_49 : decode cX5_sum 49 = .ok (.invokevirtual 174, 3) := by decide +kernel
theorem dX5_sum_52 : decode cX5_sum 52 = .ok (.aload_n 0, 1) := by decide +kernel
theorem dX5_sum_53 : decode cX5_sum 53 = .ok (.getfield 17, 3) := by decide +kernel
theorem dX5_sum_56 : decode cX5_sum 56 = .ok (.getfield 45, 3) := by decide +kernel
theorem dX5_sum_59 : decode cX5_sum 59 = .ok (.iload_n 3, 1) := by decide +kernel
theorem dX5_sum_60 : decode cX5_sum 60 = .ok (.iconst 0, 1) := by decide +kernel
theorem dX5_sum_61 : decode cX5_sum 61 = .ok (.invokevirtual 161, 3) := by decide +kernel
theorem dX5_sum_64 : decode cX5_sum 64 = .ok (.iinc 2 1, 3) := by decide +kernel
theorem dX5_sum_67 : decode cX5_sum 67 = .ok (.goto (-60), 3) := by decide +kernel
theorem dX5_sum_70 : decode cX5_sum 70 = .ok (.return_, 1) := by decide +kernel
abbrev m_X5_sum (e : Nat) : Mt := (cX5_sum, RX5, "sum", 4, .return_, e + 1)
def f_X5_sum_b32 (N : Nat) (z : Nat → Nat) (R : Rg) (k7 : Nat → Int32 → Int32 → Hp → Option (Unit × Hp)) (o : Nat) (v1 : Int32) (v2 : Int32) (x0 : Hp) : Option (Unit × Hp) :=
  obj (some o) x0 8 fun q3 => bnd (f_X5_kind N z q3 x0) fun i2 x1 =>
  geti (some o) x1 8 145 fun i4 =>
  puti (some o) x1 8 145 (i4 + (1 : Int32)) fun x5 =>
  obj (some o) x5 8 fun q7 => bnd (R 4 q7 v1 0 x5) fun _ x6 =>
  getr (some o) x6 8 140 fun r8 =>
  getr r8 x6 9 160 fun r9 =>
  obj r9 x6 3 fun q11 => bnd (f_X0_add N z q11 i2 (0 : Int32) x6) fun _ x10 =>
  k7 o v1 (v2 + (1 : Int32)) x10
def f_X5_sum_b7 (N : Nat) (z : Nat → Nat) (R : Rg) : Nat → Nat → Int32 → Int32 → Hp → Option (Unit × Hp)
  | 0, _, _, _, _ => none
  | n + 1, o, v1, v2, x0 => if (400 : Int32) ≤ v2 then (some ((), x0)) else (obj (some o) x0 8 fun q14 => bnd (f_X5_kind N z q14 x0) fun i13 x12 =>
  if i13 = (43 : Int32) then (f_X5_sum_b32 N z R (f_X5_sum_b7 N z R n) o v1 v2 x12) else (obj (some o) x12 8 fun q17 => bnd (f_X5_kind N z q17 x12) fun i16 x15 =>
  if i16 = (45 : Int32) then (f_X5_sum_b32 N z R (f_X5_sum_b7 N z R n) o v1 v2 x15) else (some ((), x15))))
def f_X5_sum (N : Nat) (z : Nat → Nat) (R : Rg) (o : Nat) (v1 : Int32) (x0 : Hp) : Option (Unit × Hp) :=
  obj (some o) x0 8 fun q19 => bnd (R 4 q19 v1 0 x0) fun _ x18 =>
  f_X5_sum_b7 N z R N o v1 (0 : Int32) x18
set_option maxRecDepth 100000 in
set_option maxHeartbeats 4000000 in
theorem g_X5_sum_b32 (l : Launch) (N : Nat) (z : Nat → Nat) (R : Rg) (e : Nat) (hD : 3 ≤ e) (hR : HR l N z e R) {k7 : Nat → Int32 → Int32 → Hp → Option (Unit × Hp)} (hk7 : ∀ o v1 v2 x, G l z (m_X5_sum e) okT enV 7 [(0, va_rf (some o)), (1, .int v1), (2, .int v2)] [] x (k7 o v1 v2 x)) (o : Nat) (v1 : Int32) (v2 : Int32) (x0 : Hp) : G l z (m_X5_sum e) okT enV 32 [(0, va_rf (some o)), (1, .int v1), (2, .int v2)] [] x0 (f_X5_sum_b32 N z R k7 o v1 v2 x0) := by
  unfold f_X5_sum_b32
  refine G_aload_n 0 dX5_sum_32 rfl rfl ?_
  refine G_callV (av := []) [] (fun q3 => ct_X5_kind l N z q3) K_7 rfl yn_X5_kind (by show 3 ≤ e + 1; omega) (by decide) gw_1211 gw_1213 gw_s19 gw_41 gw_1214 rfl (by decide) dX5_sum_33 (fun i2 x1 => ?_)
  refine G_istore_n (i := 3) (l2 := [(0, va_rf (some o)), (1, .int v1), (2, .int v2)]) [0, 1, 2] dX5_sum_36 rfl (Nat.le_of_ble_eq_true rfl) rfl (sok_a (by decide) (by decide) (sok_a (by decide) (by decide) (sok_b (by decide) rfl trivial))) ?_
  refine G_aload_n 1 dX5_sum_37 rfl rfl ?_
  refine G_dup dX5_sum_38 (rf_cat _) ?_
  refine G_geti (k := 5) K_7 (by decide) rfl rfl rfl gw_433 rfl dX5_sum_39 (fun i4 => ?_)
  refine G_iconst (v := (1 : Int32)) dX5_sum_42 rfl ?_
  refine G_iadd dX5_sum_43 ?_
  refine G_puti (k := 5) K_7 (by decide) rfl rfl rfl gw_433 rfl (Or.inl rfl) nar_int.1 nar_int.2 dX5_sum_44 (fun x5 => ?_)
  refine G_aload_n 1 dX5_sum_47 rfl rfl ?_
  refine G_iload_n 2 dX5_sum_48 rfl rfl ?_
  refine G_callV (av := [.int v1]) [] (fun q7 => hR.2.2.2.2.1 q7 v1) K_7 rfl yn_X5_product (Nat.le_refl _) (by decide) gw_1279 gw_1281 gw_s31 gw_41 gw_1282 rfl (by decide) dX5_sum_49 (fun _ x6 => ?_)
  refine G_aload_n 1 dX5_sum_52 rfl rfl ?_
  refine G_getr (k := 0) K_7 (by decide) rfl rfl rfl gw_426 rfl dX5_sum_53 (fun r8 => ?_)
  refine G_getr (k := 0) K_8 (by decide) rfl rfl rfl gw_306 rfl dX5_sum_56 (fun r9 => ?_)
  refine G_iload_n 0 dX5_sum_59 rfl rfl ?_
  refine G_iconst (v := (0 : Int32)) dX5_sum_60 rfl ?_
  refine G_callV (av := [.int i2, .int (0 : Int32)]) [] (fun q11 => ct_X0_add l N z q11 i2 (0 : Int32)) K_2 rfl yn_X0_add (by show 2 ≤ e + 1; omega) (by decide) gw_1287 gw_1288 gw_1289 gw_43 gw_1290 rfl (by decide) dX5_sum_61 (fun _ x10 => ?_)
  refine G_iinc (i := 2) (l2 := [(3, .int i2), (0, va_rf (some o)), (1, .int v1)]) 3 [0, 1, 2] dX5_sum_64 rfl rfl (Nat.le_of_ble_eq_true rfl) rfl (sok_a (by decide) (by decide) (sok_a (by decide) (by decide) (sok_b (by decide) rfl trivial))) ?_
  refine G_goto (tgt := 7) dX5_sum_67 (by decide) ?_
  refine G_lv [2, 3, 0] rfl ?_
  exact hk7 o v1 (v2 + (1 : Int32)) x10

set_option maxRecDepth 100000 in
set_option maxHeartbeats 4000000 in
theorem g_X5_sum_b7 (l : Launch) (N : Nat) (z : Nat → Nat) (R : Rg) (e : Nat) (hD : 3 ≤ e) (hR : HR l N z e R) : ∀ (n : Nat) (o : Nat) (v1 : Int32) (v2 : Int32) (x0 : Hp), G l z (m_X5_sum e) okT enV 7 [(0, va_rf (some o)), (1, .int v1), (2, .int v2)] [] x0 (f_X5_sum_b7 N z R n o v1 v2 x0) := by
  intro n
  induction n with
  | zero => intro o v1 v2 x0; exact G_none
  | succ n ih =>
  intro o v1 v2 x0
  rw [f_X5_sum_b7]
  refine G_iload_n 2 dX5_sum_7 rfl rfl ?_
  refine G_sipush (v := (400 : Int32)) dX5_sum_8 (by decide) ?_
  refine G_icmp_ge (tgt := 70) dX5_sum_11 (by decide) (fun _ => ?_) (fun _ => ?_)
  · exact G_ret trivial dX5_sum_70 rfl
  · refine G_aload_n 0 dX5_sum_14 rfl rfl ?_
    refine G_callV (av := []) [] (fun q14 => ct_X5_kind l N z q14) K_7 rfl yn_X5_kind (by show 3 ≤ e + 1; omega) (by decide) gw_1211 gw_1213 gw_s19 gw_41 gw_1214 rfl (by decide) dX5_sum_15 (fun i13 x12 => ?_)
    refine G_bipush (v := (43 : Int32)) dX5_sum_18 (by decide) ?_
    refine G_icmp_eq (tgt := 32) dX5_sum_20 (by decide) (fun _ => ?_) (fun _ => ?_)
    · refine G_lv [0, 1, 2] rfl ?_
      exact g_X5_sum_b32 l N z R e hD hR ih o v1 v2 x12
    · refine G_aload_n 0 dX5_sum_23 rfl rfl ?_
      refine G_callV (av := []) [] (fun q17 => ct_X5_kind l N z q17) K_7 rfl yn_X5_kind (by show 3 ≤ e + 1; omega) (by decide) gw_1211 gw_1213 gw_s19 gw_41 gw_1214 rfl (by decide) dX5_sum_24 (fun i16 x15 => ?_)
      refine G_bipush (v := (45 : Int32)) dX5_sum_27 (by decide) ?_
      refine G_icmp_ne (tgt := 70) dX5_sum_29 (by decide) (fun _ => ?_) (fun _ => ?_)
      · refine G_lv [0, 1, 2] rfl ?_
        exact g_X5_sum_b32 l N z R e hD hR ih o v1 v2 x15
      · exact G_ret trivial dX5_sum_70 rfl

set_option maxRecDepth 100000 in
set_option maxHeartbeats 4000000 in
theorem g_X5_sum (l : Launch) (N : Nat) (z : Nat → Nat) (R : Rg) (e : Nat) (hD : 3 ≤ e) (hR : HR l N z e R) (o : Nat) (v1 : Int32) (x0 : Hp) : G l z (m_X5_sum e) okT enV 0 [(0, va_rf (some o)), (1, .int v1)] [] x0 (f_X5_sum N z R o v1 x0) := by
  unfold f_X5_sum
  refine G_aload_n 0 dX5_sum_0 rfl rfl ?_
  refine G_iload_n 1 dX5_sum_1 rfl rfl ?_
  refine G_callV (av := [.int v1]) [] (fun q19 => hR.2.2.2.2.1 q19 v1) K_7 rfl yn_X5_product (Nat.le_refl _) (by decide) gw_1279 gw_1281 gw_s31 gw_41 gw_1282 rfl (by decide) dX5_sum_2 (fun _ x18 => ?_)
  refine G_iconst (v := (0 : Int32)) dX5_sum_5 rfl ?_
  refine G_istore_n (i := 2) (l2 := [(0, va_rf (some o)), (1, .int v1)]) [0, 1] dX5_sum_6 rfl (Nat.le_of_ble_eq_true rfl) rfl (sok_a (by decide) (by decide) (sok_b (by decide) rfl trivial)) ?_
  refine G_lv [1, 2, 0] rfl ?_
  exact g_X5_sum_b7 l N z R e hD hR N o v1 (0 : Int32) x18


theorem dX5_single_0 : decode cX5_single 0 = .ok (.aload_n 0, 1) := by decide +kernel
theorem dX5_single_1 : decode cX5_single 1 = .ok (.invokevirtual 62, 3) := by decide +kernel
theorem dX5_single_4 : decode cX5_single 4 = .ok (.istore_n 2, 1) := by decide +kernel
theorem dX5_single_5 : decode cX5_single 5 = .ok (.iload_n 2, 1) := by decide +kernel
theorem dX5_single_6 : decode cX5_single 6 = .ok (.bipush 29, 2) := by decide +kernel
theorem dX5_single_8 : decode cX5_single 8 = .ok (.if_icmp .ne 34, 3) := by decide +kernel
theorem dX5_single_11 : decode cX5_single 11 = .ok (.aload_n 0, 1) := by decide +kernel
theorem dX5_single_12 : decode cX5_single 12 = .ok (.iload_n 1, 1) := by decide +kernel
theorem dX5_single_13 : decode cX5_single 13 = .ok (.invokevirtual 168, 3) := by decide +kernel
theorem dX5_single_16 : decode cX5_single 16 = .ok (.ifCond .eq 147, 3) := by decide +kernel
theorem dX5_single_19 : decode cX5_single 19 = .ok (.aload_n 0, 1) := by decide +kernel
theorem dX5_single_20 : decode cX5_single 20 = .ok (.iload_n 1, 1) := by decide +kernel
theorem dX5_single_21 : decode cX5_single 21 = .ok (.iconst 1, 1) := by decide +kernel
theorem dX5_single_22 : decode cX5_single 22 = .ok (.iadd, 1) := by decide +kernel
theorem dX5_single_23 : decode cX5_single 23 = .ok (.invokevirtual 165, 3) := by decide +kernel
theorem dX5_single_26 : decode cX5_single 26 = .ok (.aload_n 0, 1) := by decide +kernel
theorem dX5_single_27 : decode cX5_single 27 = .ok (.getfield 17, 3) := by decide +kernel
theorem dX5_single_30 : decode cX5_single 30 = .ok (.getfield 45, 3) := by decide +kernel
theorem dX5_single_33 : decode cX5_single 33 = .ok (.bipush 29, 2) := by decide +kernel
theorem dX5_single_35 : decode cX5_single 35 = .ok (.iconst 0, 1) := by decide +kernel
theorem dX5_single_36 : decode cX5_single 36 = .ok (.invokevirtual 161, 3) := by decide +kernel
theorem dX5_single_39 : decode cX5_single 39 = .ok (.goto 124, 3) := by decide +kernel
theorem dX5_single_42 : decode cX5_single 42 = .ok (.iload_n 2, 1) := by decide +kernel
theorem dX5_single_43 : decode cX5_single 43 = .ok (.bipush 91, 2) := by decide +kernel
theorem dX5_single_45 : decode cX5_single 45 = .ok (.if_icmp .ne 27, 3) := by decide +kernel
theorem dX5_single_48 : decode cX5_single 48 = .ok (.aload_n 0, 1) := by decide +kernel
theorem dX5_single_49 : decode cX5_single 49 = .ok (.iload_n 1, 1) := by decide +kernel
theorem dX5_single_50 : decode cX5_single 50 = .ok (.invokevirtual 168, 3) := by decide +kernel
theorem dX5_single_53 : decode cX5_single 53 = .ok (.ifCond .eq 110, 3) := by decide +kernel
theorem dX5_single_56 : decode cX5_single 56 = .ok (.aload_n 0, 1) := by decide +kernel
theorem dX5_single_57 : decode cX5_single 57 = .ok (.iload_n 1, 1) := by decide +kernel
theorem dX5_single_58 : decode cX5_single 58 = .ok (.iconst 1, 1) := by decide +kernel
theorem dX5_single_59 : decode cX5_single 59 = .ok (.iadd, 1) := by decide +kernel
theorem dX5_single_60 : decode cX5_single 60 = .ok (.invokevirtual 146, 3) := by decide +kernel
theorem dX5_single_63 : decode cX5_single 63 = .ok (.aload_n 0, 1) := by decide +kernel
theorem dX5_single_64 : decode cX5_single 64 = .ok (.bipush 93, 2) := by decide +kernel
theorem dX5_single_66 : decode cX5_single 66 = .ok (.invokevirtual 85, 3) := by decide +kernel
theorem dX5_single_69 : decode cX5_single 69 = .ok (.goto 94, 3) := by decide +kernel
theorem dX5_single_72 : decode cX5_single 72 = .ok (.iload_n 2, 1) := by decide +kernel
theorem dX5_single_73 : decode cX5_single 73 = .ok (.bipush 27, 2) := by decide +kernel
theorem dX5_single_75 : decode cX5_single 75 = .ok (.if_icmp .eq 9, 3) := by decide +kernel
theorem dX5_single_78 : decode cX5_single 78 = .ok (.iload_n 2, 1) := by decide +kernel
theorem dX5_single_79 : decode cX5_single 79 = .ok (.bipush 28, 2) := by decide +kernel
theorem dX5_single_81 : decode cX5_single 81 = .ok (.if_icmp .ne 31, 3) := by decide +kernel
theorem dX5_single_84 : decode cX5_single 84 = .ok (.aload_n 0, 1) := by decide +kernel
theorem dX5_single_85 : decode cX5_single 85 = .ok (.dup, 1) := by decide +kernel
theorem dX5_single_86 : decode cX5_single 86 = .ok (.getfield 52, 3) := by decide +kernel
theorem dX5_single_89 : decode cX5_single 89 = .ok (.iconst 1, 1) := by decide +kernel
theorem dX5_single_90 : decode cX5_single 90 = .ok (.iadd, 1) := by decide +kernel
theorem dX5_single_91 : decode cX5_single 91 = .ok (.putfield 52, 3) := by decide +kernel
theorem dX5_single_94 : decode cX5_single 94 = .ok (.aload_n 0, 1) := by decide +kernel
theorem dX5_single_95 : decode cX5_single 95 = .ok (.getfield 17, 3) := by decide +kernel
theorem dX5_single_98 : decode cX5_single 98 = .ok (.getfield 45, 3) := by decide +kernel
theorem dX5_single_101 : decode cX5_single 101 = .ok (.iload_n 2, 1) := by decide +kernel
theorem dX5_single_102 : decode cX5_single 102 = .ok (.aload_n 0, 1) := by decide +kernel
theorem dX5_single_103 : decode cX5_single 103 = .ok (.invokevirtual 99, 3) := by decide +kernel
theorem dX5_single_106 : decode cX5_single 106 = .ok (.invokevirtual 161, 3) := by decide +kernel
theorem dX5_single_109 : decode cX5_single 109 = .ok (.goto 54, 3) := by decide +kernel
theorem dX5_single_112 : decode cX5_single 112 = .ok (.aload_n 0, 1) := by decide +kernel
theorem dX5_single_113 : decode cX5_single 113 = .ok (.iload_n 1, 1) := by decide +kernel
theorem dX5_single_114 : decode cX5_single 114 = .ok (.invokevirtual 143, 3) := by decide +kernel
theorem dX5_single_117 : decode cX5_single 117 = .ok (.aload_n 0, 1) := by decide +kernel
theorem dX5_single_118 : decode cX5_single 118 = .ok (.invokevirtual 62, 3) := by decide +kernel
theorem dX5_single_121 : decode cX5_single 121 = .ok (.istore_n 3, 1) := by decide +kernel
theorem dX5_single_122 : decode cX5_single 122 = .ok (.iload_n 3, 1) := by decide +kernel
theorem dX5_single_123 : decode cX5_single 123 = .ok (.invokestatic 171, 3) := by decide +kernel
theorem dX5_single_126 : decode cX5_single 126 = .ok (.ifCond .eq 33, 3) := by decide +kernel
theorem dX5_single_129 : decode cX5_single 129 = .ok (.aload_n 0, 1) := by decide +kernel
theorem dX5_single_130 : decode cX5_single 130 = .ok (.dup, 1) := by decide +kernel
theorem dX5_single_131 : decode cX5_single 131 = .ok (.getfield 52, 3) := by decide +kernel
theorem dX5_single_134 : decode cX5_single 134 = .ok (.iconst 1, 1) := by decide +kernel
theorem dX5_single_135 : decode cX5_single 135 = .ok (.iadd, 1) := by decide +kernel
theorem dX5_single_136 : decode cX5_single 136 = .ok (.putfield 52, 3) := by decide +kernel
theorem dX5_single_139 : decode cX5_single 139 = .ok (.aload_n 0, 1) := by decide +kernel
theorem dX5_single_140 : decode cX5_single 140 = .ok (.iload_n 1, 1) := by decide +kernel
theorem dX5_single_141 : decode cX5_single 141 = .ok (.invokevirtual 143, 3) := by decide +kernel
theorem dX5_single_144 : decode cX5_single 144 = .ok (.aload_n 0, 1) := by decide +kernel
theorem dX5_single_145 : decode cX5_single 145 = .ok (.getfield 17, 3) := by decide +kernel
theorem dX5_single_148 : decode cX5_single 148 = .ok (.getfield 45, 3) := by decide +kernel
theorem dX5_single_151 : decode cX5_single 151 = .ok (.iload_n 3, 1) := by decide +kernel
theorem dX5_single_152 : decode cX5_single 152 = .ok (.iconst 0, 1) := by decide +kernel
theorem dX5_single_153 : decode cX5_single 153 = .ok (.invokevirtual 161, 3) := by decide +kernel
theorem dX5_single_156 : decode cX5_single 156 = .ok (.goto 7, 3) := by decide +kernel
theorem dX5_single_159 : decode cX5_single 159 = .ok (.aload_n 0, 1) := by decide +kernel
theorem dX5_single_160 : decode cX5_single 160 = .ok (.invokevirtual 82, 3) := by decide +kernel
theorem dX5_single_163 : decode cX5_single 163 = .ok (.return_, 1) := by decide +kernel
abbrev m_X5_single (e : Nat) : Mt := (cX5_single, RX5, "single", 4, .return_, e + 1)
def f_X5_single_b84 (N : Nat) (z : Nat → Nat) (R : Rg) (o : Nat) (v2 : Int32) (x0 : Hp) : Option (Unit × Hp) :=
  geti (some o) x0 8 145 fun i1 =>
  puti (some o) x0 8 145 (i1 + (1 : Int32)) fun x2 =>
  getr (some o) x2 8 140 fun r3 =>
  getr r3 x2 9 160 fun r4 =>
  obj (some o) x2 8 fun q7 => bnd (f_X5_toldLane N z q7 x2) fun i6 x5 =>
  obj r4 x5 3 fun q9 => bnd (f_X0_add N z q9 v2 i6 x5) fun _ x8 =>
  some ((), x8)
def f_X5_single (N : Nat) (z : Nat → Nat) (R : Rg) (o : Nat) (v1 : Int32) (x0 : Hp) : Option (Unit × Hp) :=
  obj (some o) x0 8 fun q12 => bnd (f_X5_kind N z q12 x0) fun i11 x10 =>
  if i11 = (29 : Int32) then (obj (some o) x10 8 fun q39 => bnd (f_X5_enters N z q39 v1 x10) fun i38 x37 =>
  if i38 = 0 then (some ((), x37)) else (obj (some o) x37 8 fun q41 => bnd (R 2 q41 (v1 + (1 : Int32)) 0 x37) fun _ x40 =>
  getr (some o) x40 8 140 fun r42 =>
  getr r42 x40 9 160 fun r43 =>
  obj r43 x40 3 fun q45 => bnd (f_X0_add N z q45 (29 : Int32) (0 : Int32) x40) fun _ x44 =>
  some ((), x44))) else (if i11 = (91 : Int32) then (obj (some o) x10 8 fun q32 => bnd (f_X5_enters N z q32 v1 x10) fun i31 x30 =>
  if i31 = 0 then (some ((), x30)) else (obj (some o) x30 8 fun q34 => bnd (R 0 q34 (v1 + (1 : Int32)) 0 x30) fun _ x33 =>
  obj (some o) x33 8 fun q36 => bnd (f_X5_need N z q36 (93 : Int32) x33) fun _ x35 =>
  some ((), x35))) else (if i11 = (27 : Int32) then (f_X5_single_b84 N z R o i11 x10) else (if i11 = (28 : Int32) then (f_X5_single_b84 N z R o i11 x10) else (obj (some o) x10 8 fun q14 => bnd (R 3 q14 v1 0 x10) fun _ x13 =>
  obj (some o) x13 8 fun q17 => bnd (f_X5_kind N z q17 x13) fun i16 x15 =>
  bnd (f_X5_compares N z i16 x15) fun i19 x18 =>
  if i19 = 0 then (obj (some o) x18 8 fun q21 => bnd (f_X5_fail N z q21 x18) fun _ x20 =>
  some ((), x20)) else (geti (some o) x18 8 145 fun i22 =>
  puti (some o) x18 8 145 (i22 + (1 : Int32)) fun x23 =>
  obj (some o) x23 8 fun q25 => bnd (R 3 q25 v1 0 x23) fun _ x24 =>
  getr (some o) x24 8 140 fun r26 =>
  getr r26 x24 9 160 fun r27 =>
  obj r27 x24 3 fun q29 => bnd (f_X0_add N z q29 i16 (0 : Int32) x24) fun _ x28 =>
  some ((), x28))))))
set_option maxRecDepth 100000 in
set_option maxHeartbeats 4000000 in
theorem g_X5_single_b84 (l : Launch) (N : Nat) (z : Nat → Nat) (R : Rg) (e : Nat) (hD : 3 ≤ e) (hR : HR l N z e R) (o : Nat) (v2 : Int32) (x0 : Hp) : G l z (m_X5_single e) okT enV 84 [(0, va_rf (some o)), (2, .int v2)] [] x0 (f_X5_single_b84 N z R o v2 x0) := by
  unfold f_X5_single_b84
  refine G_aload_n 0 dX5_single_84 rfl rfl ?_
  refine G_dup dX5_single_85 (rf_cat _) ?_
  refine G_geti (k := 5) K_7 (by decide) rfl rfl rfl gw_433 rfl dX5_single_86 (fun i1 => ?_)
  refine G_iconst (v := (1 : Int32)) dX5_single_89 rfl ?_
  refine G_iadd dX5_single_90 ?_
  refine G_puti (k := 5) K_7 (by decide) rfl rfl rfl gw_433 rfl (Or.inl rfl) nar_int.1 nar_int.2 dX5_single_91 (fun x2 => ?_)
  refine G_aload_n 0 dX5_single_94 rfl rfl ?_
  refine G_getr (k := 0) K_7 (by decide) rfl rfl rfl gw_426 rfl dX5_single_95 (fun r3 => ?_)
  refine G_getr (k := 0) K_8 (by decide) rfl rfl rfl gw_306 rfl dX5_single_98 (fun r4 => ?_)
  refine G_iload_n 1 dX5_single_101 rfl rfl ?_
  refine G_aload_n 0 dX5_single_102 rfl rfl ?_
  refine G_callV (av := []) [.int v2, va_rf r4] (fun q7 => ct_X5_toldLane l N z q7) K_7 rfl yn_X5_toldLane (by show 4 ≤ e + 1; omega) (by decide) gw_1251 gw_1253 gw_s26 gw_41 gw_1254 rfl (by simp only [hw_n, hw_i, hw_r, hw_j, hw_d]; decide) dX5_single_103 (fun i6 x5 => ?_)
  refine G_callV (av := [.int v2, .int i6]) [] (fun q9 => ct_X0_add l N z q9 v2 i6) K_2 rfl yn_X0_add (by show 2 ≤ e + 1; omega) (by decide) gw_1287 gw_1288 gw_1289 gw_43 gw_1290 rfl (by decide) dX5_single_106 (fun _ x8 => ?_)
  refine G_goto (tgt := 163) dX5_single_109 (by decide) ?_
  exact G_ret trivial dX5_single_163 rfl

set_option maxRecDepth 100000 in
set_option maxHeartbeats 4000000 in
theorem g_X5_single (l : Launch) (N : Nat) (z : Nat → Nat) (R : Rg) (e : Nat) (hD : 3 ≤ e) (hR : HR l N z e R) (o : Nat) (v1 : Int32) (x0 : Hp) : G l z (m_X5_single e) okT enV 0 [(0, va_rf (some o)), (1, .int v1)] [] x0 (f_X5_single N z R o v1 x0) := by
  unfold f_X5_single
  refine G_aload_n 0 dX5_single_0 rfl rfl ?_
  refine G_callV (av := []) [] (fun q12 => ct_X5_kind l N z q12) K_7 rfl yn_X5_kind (by show 3 ≤ e + 1; omega) (by decide) gw_1211 gw_1213 gw_s19 gw_41 gw_1214 rfl (by decide) dX5_single_1 (fun i11 x10 => ?_)
  refine G_istore_n (i := 2) (l2 := [(0, va_rf (some o)), (1, .int v1)]) [0, 1] dX5_single_4 rfl (Nat.le_of_ble_eq_true rfl) rfl (sok_a (by decide) (by decide) (sok_b (by decide) rfl trivial)) ?_
  refine G_iload_n 0 dX5_single_5 rfl rfl ?_
  refine G_bipush (v := (29 : Int32)) dX5_single_6 (by decide) ?_
  refine G_icmp_ne (tgt := 42) dX5_single_8 (by decide) (fun _ => ?_) (fun _ => ?_)
  · refine G_aload_n 1 dX5_single_11 rfl rfl ?_
    refine G_iload_n 2 dX5_single_12 rfl rfl ?_
    refine G_callV (av := [.int v1]) [] (fun q39 => ct_X5_enters l N z q39 v1) K_7 rfl yn_X5_enters (by show 4 ≤ e + 1; omega) (by decide) gw_1291 gw_1293 gw_s33 gw_41 gw_1294 rfl (by decide) dX5_single_13 (fun i38 x37 => ?_)
    refine G_if_eq (tgt := 163) dX5_single_16 (by decide) (fun _ => ?_) (fun _ => ?_)
    · exact G_ret trivial dX5_single_163 rfl
    · refine G_aload_n 1 dX5_single_19 rfl rfl ?_
      refine G_iload_n 2 dX5_single_20 rfl rfl ?_
      refine G_iconst (v := (1 : Int32)) dX5_single_21 rfl ?_
      refine G_iadd dX5_single_22 ?_
      refine G_callV (av := [.int (v1 + (1 : Int32))]) [] (fun q41 => hR.2.2.1 q41 (v1 + (1 : Int32))) K_7 rfl yn_X5_single (Nat.le_refl _) (by decide) gw_1307 gw_1309 gw_s37 gw_41 gw_1310 rfl (by decide) dX5_single_23 (fun _ x40 => ?_)
      refine G_aload_n 1 dX5_single_26 rfl rfl ?_
      refine G_getr (k := 0) K_7 (by decide) rfl rfl rfl gw_426 rfl dX5_single_27 (fun r42 => ?_)
      refine G_getr (k := 0) K_8 (by decide) rfl rfl rfl gw_306 rfl dX5_single_30 (fun r43 => ?_)
      refine G_bipush (v := (29 : Int32)) dX5_single_33 (by decide) ?_
      refine G_iconst (v := (0 : Int32)) dX5_single_35 rfl ?_
      refine G_callV (av := [.int (29 : Int32), .int (0 : Int32)]) [] (fun q45 => ct_X0_add l N z q45 (29 : Int32) (0 : Int32)) K_2 rfl yn_X0_add (by show 2 ≤ e + 1; omega) (by decide) gw_1287 gw_1288 gw_1289 gw_43 gw_1290 rfl (by decide) dX5_single_36 (fun _ x44 => ?_)
      refine G_goto (tgt := 163) dX5_single_39 (by decide) ?_
      exact G_ret trivial dX5_single_163 rfl
  · refine G_iload_n 0 dX5_single_42 rfl rfl ?_
    refine G_bipush (v := (91 : Int32)) dX5_single_43 (by decide) ?_
    refine G_icmp_ne (tgt := 72) dX5_single_45 (by decide) (fun _ => ?_) (fun _ => ?_)
    · refine G_aload_n 1 dX5_single_48 rfl rfl ?_
      refine G_iload_n 2 dX5_single_49 rfl rfl ?_
      refine G_callV (av := [.int v1]) [] (fun q32 => ct_X5_enters l N z q32 v1) K_7 rfl yn_X5_enters (by show 4 ≤ e + 1; omega) (by decide) gw_1291 gw_1293 gw_s33 gw_41 gw_1294 rfl (by decide) dX5_single_50 (fun i31 x30 => ?_)
      refine G_if_eq (tgt := 163) dX5_single_53 (by decide) (fun _ => ?_) (fun _ => ?_)
      · exact G_ret trivial dX5_single_163 rfl
      · refine G_aload_n 1 dX5_single_56 rfl rfl ?_
        refine G_iload_n 2 dX5_single_57 rfl rfl ?_
        refine G_iconst (v := (1 : Int32)) dX5_single_58 rfl ?_
        refine G_iadd dX5_single_59 ?_
        refine G_callV (av := [.int (v1 + (1 : Int32))]) [] (fun q34 => hR.1 q34 (v1 + (1 : Int32))) K_7 rfl yn_X5_test (Nat.le_refl _) (by decide) gw_1299 gw_1301 gw_s35 gw_41 gw_1302 rfl (by decide) dX5_single_60 (fun _ x33 => ?_)
        refine G_aload_n 1 dX5_single_63 rfl rfl ?_
        refine G_bipush (v := (93 : Int32)) dX5_single_64 (by decide) ?_
        refine G_callV (av := [.int (93 : Int32)]) [] (fun q36 => ct_X5_need l N z q36 (93 : Int32)) K_7 rfl yn_X5_need (by show 4 ≤ e + 1; omega) (by decide) gw_1255 gw_1257 gw_s27 gw_41 gw_1258 rfl (by decide) dX5_single_66 (fun _ x35 => ?_)
        refine G_goto (tgt := 163) dX5_single_69 (by decide) ?_
        exact G_ret trivial dX5_single_163 rfl
    · refine G_iload_n 0 dX5_single_72 rfl rfl ?_
      refine G_bipush (v := (27 : Int32)) dX5_single_73 (by decide) ?_
      refine G_icmp_eq (tgt := 84) dX5_single_75 (by decide) (fun _ => ?_) (fun _ => ?_)
      · refine G_lv [1, 0] rfl ?_
        exact g_X5_single_b84 l N z R e hD hR o i11 x10
      · refine G_iload_n 0 dX5_single_78 rfl rfl ?_
        refine G_bipush (v := (28 : Int32)) dX5_single_79 (by decide) ?_
        refine G_icmp_ne (tgt := 112) dX5_single_81 (by decide) (fun _ => ?_) (fun _ => ?_)
        · refine G_lv [1, 0] rfl ?_
          exact g_X5_single_b84 l N z R e hD hR o i11 x10
        · refine G_aload_n 1 dX5_single_112 rfl rfl ?_
          refine G_iload_n 2 dX5_single_113 rfl rfl ?_
          refine G_callV (av := [.int v1]) [] (fun q14 => hR.2.2.2.1 q14 v1) K_7 rfl yn_X5_sum (Nat.le_refl _) (by decide) gw_1275 gw_1277 gw_s30 gw_41 gw_1278 rfl (by decide) dX5_single_114 (fun _ x13 => ?_)
          refine G_aload_n 1 dX5_single_117 rfl rfl ?_
          refine G_callV (av := []) [] (fun q17 => ct_X5_kind l N z q17) K_7 rfl yn_X5_kind (by show 3 ≤ e + 1; omega) (by decide) gw_1211 gw_1213 gw_s19 gw_41 gw_1214 rfl (by decide) dX5_single_118 (fun i16 x15 => ?_)
          refine G_istore_n (i := 3) (l2 := [(2, .int i11), (0, va_rf (some o)), (1, .int v1)]) [0, 1, 2] dX5_single_121 rfl (Nat.le_of_ble_eq_true rfl) rfl (sok_b (by decide) rfl (sok_a (by decide) (by decide) (sok_a (by decide) (by decide) trivial))) ?_
          refine G_iload_n 0 dX5_single_122 rfl rfl ?_
          refine G_callS (av := [.int i16]) [] (ct_X5_compares l N z i16) yn_X5_compares (by show 2 ≤ e + 1; omega) (by decide) gw_1311 gw_1312 gw_41 gw_1313 rfl (by decide) dX5_single_123 (fun i19 x18 => ?_)
          refine G_if_eq (tgt := 159) dX5_single_126 (by decide) (fun _ => ?_) (fun _ => ?_)
          · refine G_aload_n 2 dX5_single_159 rfl rfl ?_
            refine G_callV (av := []) [] (fun q21 => ct_X5_fail l N z q21) K_7 rfl yn_X5_fail (by show 3 ≤ e + 1; omega) (by decide) gw_1220 gw_1222 gw_s21 gw_41 gw_1223 rfl (by decide) dX5_single_160 (fun _ x20 => ?_)
            exact G_ret trivial dX5_single_163 rfl
          · refine G_aload_n 2 dX5_single_129 rfl rfl ?_
            refine G_dup dX5_single_130 (rf_cat _) ?_
            refine G_geti (k := 5) K_7 (by decide) rfl rfl rfl gw_433 rfl dX5_single_131 (fun i22 => ?_)
            refine G_iconst (v := (1 : Int32)) dX5_single_134 rfl ?_
            refine G_iadd dX5_single_135 ?_
            refine G_puti (k := 5) K_7 (by decide) rfl rfl rfl gw_433 rfl (Or.inl rfl) nar_int.1 nar_int.2 dX5_single_136 (fun x23 => ?_)
            refine G_aload_n 2 dX5_single_139 rfl rfl ?_
            refine G_iload_n 3 dX5_single_140 rfl rfl ?_
            refine G_callV (av := [.int v1]) [] (fun q25 => hR.2.2.2.1 q25 v1) K_7 rfl yn_X5_sum (Nat.le_refl _) (by decide) gw_1275 gw_1277 gw_s30 gw_41 gw_1278 rfl (by decide) dX5_single_141 (fun _ x24 => ?_)
            refine G_aload_n 2 dX5_single_144 rfl rfl ?_
            refine G_getr (k := 0) K_7 (by decide) rfl rfl rfl gw_426 rfl dX5_single_145 (fun r26 => ?_)
            refine G_getr (k := 0) K_8 (by decide) rfl rfl rfl gw_306 rfl dX5_single_148 (fun r27 => ?_)
            refine G_iload_n 0 dX5_single_151 rfl rfl ?_
            refine G_iconst (v := (0 : Int32)) dX5_single_152 rfl ?_
            refine G_callV (av := [.int i16, .int (0 : Int32)]) [] (fun q29 => ct_X0_add l N z q29 i16 (0 : Int32)) K_2 rfl yn_X0_add (by show 2 ≤ e + 1; omega) (by decide) gw_1287 gw_1288 gw_1289 gw_43 gw_1290 rfl (by decide) dX5_single_153 (fun _ x28 => ?_)
            refine G_goto (tgt := 163) dX5_single_156 (by decide) ?_
            exact G_ret trivial dX5_single_163 rfl


theorem dX5_both_0 : decode cX5_both 0 = .ok (.aload_n 0, 1) := by decide +kernel
theorem dX5_both_1 : decode cX5_both 1 = .ok (.iload_n 1, 1) := by decide +kernel
theorem dX5_both_2 : decode cX5_both 2 = .ok (.invokevirtual 165, 3) := by decide +kernel
theorem dX5_both_5 : decode cX5_both 5 = .ok (.iconst 0, 1) := by decide +kernel
theorem dX5_both_6 : decode cX5_both 6 = .ok (.istore_n 2, 1) := by decide +kernel
theorem dX5_both_7 : decode cX5_both 7 = .ok (.iload_n 2, 1) := by decide +kernel
theorem dX5_both_8 : decode cX5_both 8 = .ok (.sipush 400, 3) := by decide +kernel
theorem dX5_both_11 : decode cX5_both 11 = .ok (.if_icmp .ge 36, 3) := by decide +kernel
theorem dX5_both_14 : decode cX5_both 14 = .ok (.aload_n 0, 1) := by decide +kernel
theorem dX5_both_15 : decode cX5_both 15 = .ok (.bipush 30, 2) := by decide +kernel
theorem dX5_both_17 : decode cX5_both 17 = .ok (.invokevirtual 95, 3) := by decide +kernel
theorem dX5_both_20 : decode cX5_both 20 = .ok (.ifCond .eq 27, 3) := by decide +kernel
theorem dX5_both_23 : decode cX5_both 23 = .ok (.aload_n 0, 1) := by decide +kernel
theorem dX5_both_24 : decode cX5_both 24 = .ok (.iload_n 1, 1) := by decide +kernel
theorem dX5_both_25 : decode cX5_both 25 = .ok (.invokevirtual 165, 3) := by decide +kernel
theorem dX5_both_28 : decode cX5_both 28 = .ok (.aload_n 0, 1) := by decide +kernel
theorem dX5_both_29 : decode cX5_both 29 = .ok (.getfield 17, 3) := by decide +kernel
theorem dX5_both_32 : decode cX5_both 32 = .ok (.getfield 45, 3) := by decide +kernel
theorem dX5_both_35 : decode cX5_both 35 = .ok (.bipush 30, 2) := by decide +kernel
theorem dX5_both_37 : decode cX5_both 37 = .ok (.iconst 0, 1) := by decide +kernel
theorem dX5_both_38 : decode cX5_both 38 = .ok (.invokevirtual 161, 3) := by decide +kernel
theorem dX5_both_41 : decode cX5_both 41 = .ok (.iinc 2 1, 3) := by decide +kernel
theorem dX5_both_44 : decode cX5_both 44 = .ok (.goto (-37), 3) := by decide +kernel
theorem dX5_both_47 : decode cX5_both 47 = .ok (.return_, 1) := by decide +kernel
abbrev m_X5_both (e : Nat) : Mt := (cX5_both, RX5, "both", 3, .return_, e + 1)
def f_X5_both_b7 (N : Nat) (z : Nat → Nat) (R : Rg) : Nat → Nat → Int32 → Int32 → Hp → Option (Unit × Hp)
  | 0, _, _, _, _ => none
  | n + 1, o, v1, v2, x0 => if (400 : Int32) ≤ v2 then (some ((), x0)) else (obj (some o) x0 8 fun q3 => bnd (f_X5_takes N z q3 (30 : Int32) x0) fun i2 x1 =>
  if i2 = 0 then (some ((), x1)) else (obj (some o) x1 8 fun q5 => bnd (R 2 q5 v1 0 x1) fun _ x4 =>
  getr (some o) x4 8 140 fun r6 =>
  getr r6 x4 9 160 fun r7 =>
  obj r7 x4 3 fun q9 => bnd (f_X0_add N z q9 (30 : Int32) (0 : Int32) x4) fun _ x8 =>
  f_X5_both_b7 N z R n o v1 (v2 + (1 : Int32)) x8))
def f_X5_both (N : Nat) (z : Nat → Nat) (R : Rg) (o : Nat) (v1 : Int32) (x0 : Hp) : Option (Unit × Hp) :=
  obj (some o) x0 8 fun q11 => bnd (R 2 q11 v1 0 x0) fun _ x10 =>
  f_X5_both_b7 N z R N o v1 (0 : Int32) x10
set_option maxRecDepth 100000 in
set_option maxHeartbeats 4000000 in
theorem g_X5_both_b7 (l : Launch) (N : Nat) (z : Nat → Nat) (R : Rg) (e : Nat) (hD : 3 ≤ e) (hR : HR l N z e R) : ∀ (n : Nat) (o : Nat) (v1 : Int32) (v2 : Int32) (x0 : Hp), G l z (m_X5_both e) okT enV 7 [(0, va_rf (some o)), (1, .int v1), (2, .int v2)] [] x0 (f_X5_both_b7 N z R n o v1 v2 x0) := by
  intro n
  induction n with
  | zero => intro o v1 v2 x0; exact G_none
  | succ n ih =>
  intro o v1 v2 x0
  rw [f_X5_both_b7]
  refine G_iload_n 2 dX5_both_7 rfl rfl ?_
  refine G_sipush (v := (400 : Int32)) dX5_both_8 (by decide) ?_
  refine G_icmp_ge (tgt := 47) dX5_both_11 (by decide) (fun _ => ?_) (fun _ => ?_)
  · exact G_ret trivial dX5_both_47 rfl
  · refine G_aload_n 0 dX5_both_14 rfl rfl ?_
    refine G_bipush (v := (30 : Int32)) dX5_both_15 (by decide) ?_
    refine G_callV (av := [.int (30 : Int32)]) [] (fun q3 => ct_X5_takes l N z q3 (30 : Int32)) K_7 rfl yn_X5_takes (by show 4 ≤ e + 1; omega) (by decide) gw_1247 gw_1249 gw_s25 gw_41 gw_1250 rfl (by decide) dX5_both_17 (fun i2 x1 => ?_)
    refine G_if_eq (tgt := 47) dX5_both_20 (by decide) (fun _ => ?_) (fun _ => ?_)
    · exact G_ret trivial dX5_both_47 rfl
    · refine G_aload_n 0 dX5_both_23 rfl rfl ?_
      refine G_iload_n 1 dX5_both_24 rfl rfl ?_
      refine G_callV (av := [.int v1]) [] (fun q5 => hR.2.2.1 q5 v1) K_7 rfl yn_X5_single (Nat.le_refl _) (by decide) gw_1307 gw_1309 gw_s37 gw_41 gw_1310 rfl (by decide) dX5_both_25 (fun _ x4 => ?_)
      refine G_aload_n 0 dX5_both_28 rfl rfl ?_
      refine G_getr (k := 0) K_7 (by decide) rfl rfl rfl gw_426 rfl dX5_both_29 (fun r6 => ?_)
      refine G_getr (k := 0) K_8 (by decide) rfl rfl rfl gw_306 rfl dX5_both_32 (fun r7 => ?_)
      refine G_bipush (v := (30 : Int32)) dX5_both_35 (by decide) ?_
      refine G_iconst (v := (0 : Int32)) dX5_both_37 rfl ?_
      refine G_callV (av := [.int (30 : Int32), .int (0 : Int32)]) [] (fun q9 => ct_X0_add l N z q9 (30 : Int32) (0 : Int32)) K_2 rfl yn_X0_add (by show 2 ≤ e + 1; omega) (by decide) gw_1287 gw_1288 gw_1289 gw_43 gw_1290 rfl (by decide) dX5_both_38 (fun _ x8 => ?_)
      refine G_iinc (i := 2) (l2 := [(0, va_rf (some o)), (1, .int v1)]) 2 [0, 1] dX5_both_41 rfl rfl (Nat.le_of_ble_eq_true rfl) rfl (sok_a (by decide) (by decide) (sok_b (by decide) rfl trivial)) ?_
      refine G_goto (tgt := 7) dX5_both_44 (by decide) ?_
      refine G_lv [1, 2, 0] rfl ?_
      exact ih o v1 (v2 + (1 : Int32)) x8

set_option maxRecDepth 100000 in
set_option maxHeartbeats 4000000 in
theorem g_X5_both (l : Launch) (N : Nat) (z : Nat → Nat) (R : Rg) (e : Nat) (hD : 3 ≤ e) (hR : HR l N z e R) (o : Nat) (v1 : Int32) (x0 : Hp) : G l z (m_X5_both e) okT enV 0 [(0, va_rf (some o)), (1, .int v1)] [] x0 (f_X5_both N z R o v1 x0) := by
  unfold f_X5_both
  refine G_aload_n 0 dX5_both_0 rfl rfl ?_
  refine G_iload_n 1 dX5_both_1 rfl rfl ?_
  refine G_callV (av := [.int v1]) [] (fun q11 => hR.2.2.1 q11 v1) K_7 rfl yn_X5_single (Nat.le_refl _) (by decide) gw_1307 gw_1309 gw_s37 gw_41 gw_1310 rfl (by decide) dX5_both_2 (fun _ x10 => ?_)
  refine G_iconst (v := (0 : Int32)) dX5_both_5 rfl ?_
  refine G_istore_n (i := 2) (l2 := [(0, va_rf (some o)), (1, .int v1)]) [0, 1] dX5_both_6 rfl (Nat.le_of_ble_eq_true rfl) rfl (sok_a (by decide) (by decide) (sok_b (by decide) rfl trivial)) ?_
  refine G_lv [1, 2, 0] rfl ?_
  exact g_X5_both_b7 l N z R e hD hR N o v1 (0 : Int32) x10


theorem dX5_test_0 : decode cX5_test 0 = .ok (.aload_n 0, 1) := by decide +kernel
theorem dX5_test_1 : decode cX5_test 1 = .ok (.iload_n 1, 1) := by decide +kernel
theorem dX5_test_2 : decode cX5_test 2 = .ok (.invokevirtual 158, 3) := by decide +kernel
theorem dX5_test_5 : decode cX5_test 5 = .ok (.iconst 0, 1) := by decide +kernel
theorem dX5_test_6 : decode cX5_test 6 = .ok (.istore_n 2, 1) := by decide +kernel
theorem dX5_test_7 : decode cX5_test 7 = .ok (.iload_n 2, 1) := by decide +kernel
theorem dX5_test_8 : decode cX5_test 8 = .ok (.sipush 400, 3) := by decide +kernel
theorem dX5_test_11 : decode cX5_test 11 = .ok (.if_icmp .ge 36, 3) := by decide +kernel
theorem dX5_test_14 : decode cX5_test 14 = .ok (.aload_n 0, 1) := by decide +kernel
theorem dX5_test_15 : decode cX5_test 15 = .ok (.bipush 31, 2) := by decide +kernel
theorem dX5_test_17 : decode cX5_test 17 = .ok (.invokevirtual 95, 3) := by decide +kernel
theorem dX5_test_20 : decode cX5_test 20 = .ok (.ifCond .eq 27, 3) := by decide +kernel
theorem dX5_test_23 : decode cX5_test 23 = .ok (.aload_n 0, 1) := by decide +kernel
theorem dX5_test_24 : decode cX5_test 24 = .ok (.iload_n 1, 1) := by decide +kernel
theorem dX5_test_25 : decode cX5_test 25 = .ok (.invokevirtual 158, 3) := by decide +kernel
theorem dX5_test_28 : decode cX5_test 28 = .ok (.aload_n 0, 1) := by decide +kernel
theorem dX5_test_29 : decode cX5_test 29 = .ok (.getfield 17, 3) := by decide +kernel
theorem dX5_test_32 : decode cX5_test 32 = .ok (.getfield 45, 3) := by decide +kernel
theorem dX5_test_35 : decode cX5_test 35 = .ok (.bipush 31, 2) := by decide +kernel
theorem dX5_test_37 : decode cX5_test 37 = .ok (.iconst 0, 1) := by decide +kernel
theorem dX5_test_38 : decode cX5_test 38 = .ok (.invokevirtual 161, 3) := by decide +kernel
theorem dX5_test_41 : decode cX5_test 41 = .ok (.iinc 2 1, 3) := by decide +kernel
theorem dX5_test_44 : decode cX5_test 44 = .ok (.goto (-37), 3) := by decide +kernel
theorem dX5_test_47 : decode cX5_test 47 = .ok (.return_, 1) := by decide +kernel
abbrev m_X5_test (e : Nat) : Mt := (cX5_test, RX5, "test", 3, .return_, e + 1)
def f_X5_test_b7 (N : Nat) (z : Nat → Nat) (R : Rg) : Nat → Nat → Int32 → Int32 → Hp → Option (Unit × Hp)
  | 0, _, _, _, _ => none
  | n + 1, o, v1, v2, x0 => if (400 : Int32) ≤ v2 then (some ((), x0)) else (obj (some o) x0 8 fun q3 => bnd (f_X5_takes N z q3 (31 : Int32) x0) fun i2 x1 =>
  if i2 = 0 then (some ((), x1)) else (obj (some o) x1 8 fun q5 => bnd (R 1 q5 v1 0 x1) fun _ x4 =>
  getr (some o) x4 8 140 fun r6 =>
  getr r6 x4 9 160 fun r7 =>
  obj r7 x4 3 fun q9 => bnd (f_X0_add N z q9 (31 : Int32) (0 : Int32) x4) fun _ x8 =>
  f_X5_test_b7 N z R n o v1 (v2 + (1 : Int32)) x8))
def f_X5_test (N : Nat) (z : Nat → Nat) (R : Rg) (o : Nat) (v1 : Int32) (x0 : Hp) : Option (Unit × Hp) :=
  obj (some o) x0 8 fun q11 => bnd (R 1 q11 v1 0 x0) fun _ x10 =>
  f_X5_test_b7 N z R N o v1 (0 : Int32) x10
set_option maxRecDepth 100000 in
set_option maxHeartbeats 4000000 in
theorem g_X5_test_b7 (l : Launch) (N : Nat) (z : Nat → Nat) (R : Rg) (e : Nat) (hD : 3 ≤ e) (hR : HR l N z e R) : ∀ (n : Nat) (o : Nat) (v1 : Int32) (v2 : Int32) (x0 : Hp), G l z (m_X5_test e) okT enV 7 [(0, va_rf (some o)), (1, .int v1), (2, .int v2)] [] x0 (f_X5_test_b7 N z R n o v1 v2 x0) := by
  intro n
  induction n with
  | zero => intro o v1 v2 x0; exact G_none
  | succ n ih =>
  intro o v1 v2 x0
  rw [f_X5_test_b7]
  refine G_iload_n 2 dX5_test_7 rfl rfl ?_
  refine G_sipush (v := (400 : Int32)) dX5_test_8 (by decide) ?_
  refine G_icmp_ge (tgt := 47) dX5_test_11 (by decide) (fun _ => ?_) (fun _ => ?_)
  · exact G_ret trivial dX5_test_47 rfl
  · refine G_aload_n 0 dX5_test_14 rfl rfl ?_
    refine G_bipush (v := (31 : Int32)) dX5_test_15 (by decide) ?_
    refine G_callV (av := [.int (31 : Int32)]) [] (fun q3 => ct_X5_takes l N z q3 (31 : Int32)) K_7 rfl yn_X5_takes (by show 4 ≤ e + 1; omega) (by decide) gw_1247 gw_1249 gw_s25 gw_41 gw_1250 rfl (by decide) dX5_test_17 (fun i2 x1 => ?_)
    refine G_if_eq (tgt := 47) dX5_test_20 (by decide) (fun _ => ?_) (fun _ => ?_)
    · exact G_ret trivial dX5_test_47 rfl
    · refine G_aload_n 0 dX5_test_23 rfl rfl ?_
      refine G_iload_n 1 dX5_test_24 rfl rfl ?_
      refine G_callV (av := [.int v1]) [] (fun q5 => hR.2.1 q5 v1) K_7 rfl yn_X5_both (Nat.le_refl _) (by decide) gw_1303 gw_1305 gw_s36 gw_41 gw_1306 rfl (by decide) dX5_test_25 (fun _ x4 => ?_)
      refine G_aload_n 0 dX5_test_28 rfl rfl ?_
      refine G_getr (k := 0) K_7 (by decide) rfl rfl rfl gw_426 rfl dX5_test_29 (fun r6 => ?_)
      refine G_getr (k := 0) K_8 (by decide) rfl rfl rfl gw_306 rfl dX5_test_32 (fun r7 => ?_)
      refine G_bipush (v := (31 : Int32)) dX5_test_35 (by decide) ?_
      refine G_iconst (v := (0 : Int32)) dX5_test_37 rfl ?_
      refine G_callV (av := [.int (31 : Int32), .int (0 : Int32)]) [] (fun q9 => ct_X0_add l N z q9 (31 : Int32) (0 : Int32)) K_2 rfl yn_X0_add (by show 2 ≤ e + 1; omega) (by decide) gw_1287 gw_1288 gw_1289 gw_43 gw_1290 rfl (by decide) dX5_test_38 (fun _ x8 => ?_)
      refine G_iinc (i := 2) (l2 := [(0, va_rf (some o)), (1, .int v1)]) 2 [0, 1] dX5_test_41 rfl rfl (Nat.le_of_ble_eq_true rfl) rfl (sok_a (by decide) (by decide) (sok_b (by decide) rfl trivial)) ?_
      refine G_goto (tgt := 7) dX5_test_44 (by decide) ?_
      refine G_lv [1, 2, 0] rfl ?_
      exact ih o v1 (v2 + (1 : Int32)) x8

set_option maxRecDepth 100000 in
set_option maxHeartbeats 4000000 in
theorem g_X5_test (l : Launch) (N : Nat) (z : Nat → Nat) (R : Rg) (e : Nat) (hD : 3 ≤ e) (hR : HR l N z e R) (o : Nat) (v1 : Int32) (x0 : Hp) : G l z (m_X5_test e) okT enV 0 [(0, va_rf (some o)), (1, .int v1)] [] x0 (f_X5_test N z R o v1 x0) := by
  unfold f_X5_test
  refine G_aload_n 0 dX5_test_0 rfl rfl ?_
  refine G_iload_n 1 dX5_test_1 rfl rfl ?_
  refine G_callV (av := [.int v1]) [] (fun q11 => hR.2.1 q11 v1) K_7 rfl yn_X5_both (Nat.le_refl _) (by decide) gw_1303 gw_1305 gw_s36 gw_41 gw_1306 rfl (by decide) dX5_test_2 (fun _ x10 => ?_)
  refine G_iconst (v := (0 : Int32)) dX5_test_5 rfl ?_
  refine G_istore_n (i := 2) (l2 := [(0, va_rf (some o)), (1, .int v1)]) [0, 1] dX5_test_6 rfl (Nat.le_of_ble_eq_true rfl) rfl (sok_a (by decide) (by decide) (sok_b (by decide) rfl trivial)) ?_
  refine G_lv [1, 2, 0] rfl ?_
  exact g_X5_test_b7 l N z R e hD hR N o v1 (0 : Int32) x10


def fx_rec (N : Nat) (z : Nat → Nat) : Nat → Rg
  | 0 => fun _ _ _ _ _ => none
  | d + 1 => fun k o a b x => if k = 0 then f_X5_test N z (fx_rec N z d) o a x else if k = 1 then f_X5_both N z (fx_rec N z d) o a x else if k = 2 then f_X5_single N z (fx_rec N z d) o a x else if k = 3 then f_X5_sum N z (fx_rec N z d) o a x else if k = 4 then f_X5_product N z (fx_rec N z d) o a x else if k = 5 then f_X5_value N z (fx_rec N z d) o a x else f_X5_pair N z (fx_rec N z d) o a b x
theorem fx_ct (l : Launch) (N : Nat) (z : Nat → Nat) : ∀ d : Nat, HR l N z (3 + d) (fx_rec N z d)
  | 0 => ⟨fun o a x v xe h => by simp [fx_rec] at h, fun o a x v xe h => by simp [fx_rec] at h, fun o a x v xe h => by simp [fx_rec] at h, fun o a x v xe h => by simp [fx_rec] at h, fun o a x v xe h => by simp [fx_rec] at h, fun o a x v xe h => by simp [fx_rec] at h, fun o a b x v xe h => by simp [fx_rec] at h⟩
  | d + 1 => by
    have ih := fx_ct l N z d
    have hD : 3 ≤ 3 + d := Nat.le_add_right _ _
    refine ⟨?_, ?_, ?_, ?_, ?_, ?_, ?_⟩
    · intro o a
      show Ct l z yX5_test cX5_test 3 none (3 + d + 1) enV [.ref o, .int a] (f_X5_test N z (fx_rec N z d) o a)
      exact Ct_v (fun x => G_lv0 (by simp only [lva_n, lva_i, lva_o, lva_r, lva_j]) (g_X5_test l N z (fx_rec N z d) (3 + d) hD ih o a x)) (by decide +kernel) (by simp only [lgl_n, lgl_i, lgl_o, lgl_r, lgl_j]; decide)
    · intro o a
      show Ct l z yX5_both cX5_both 3 none (3 + d + 1) enV [.ref o, .int a] (f_X5_both N z (fx_rec N z d) o a)
      exact Ct_v (fun x => G_lv0 (by simp only [lva_n, lva_i, lva_o, lva_r, lva_j]) (g_X5_both l N z (fx_rec N z d) (3 + d) hD ih o a x)) (by decide +kernel) (by simp only [lgl_n, lgl_i, lgl_o, lgl_r, lgl_j]; decide)
    · intro o a
      show Ct l z yX5_single cX5_single 4 none (3 + d + 1) enV [.ref o, .int a] (f_X5_single N z (fx_rec N z d) o a)
      exact Ct_v (fun x => G_lv0 (by simp only [lva_n, lva_i, lva_o, lva_r, lva_j]) (g_X5_single l N z (fx_rec N z d) (3 + d) hD ih o a x)) (by decide +kernel) (by simp only [lgl_n, lgl_i, lgl_o, lgl_r, lgl_j]; decide)
    · intro o a
      show Ct l z yX5_sum cX5_sum 4 none (3 + d + 1) enV [.ref o, .int a] (f_X5_sum N z (fx_rec N z d) o a)
      exact Ct_v (fun x => G_lv0 (by simp only [lva_n, lva_i, lva_o, lva_r, lva_j]) (g_X5_sum l N z (fx_rec N z d) (3 + d) hD ih o a x)) (by decide +kernel) (by simp only [lgl_n, lgl_i, lgl_o, lgl_r, lgl_j]; decide)
    · intro o a
      show Ct l z yX5_product cX5_product 4 none (3 + d + 1) enV [.ref o, .int a] (f_X5_product N z (fx_rec N z d) o a)
      exact Ct_v (fun x => G_lv0 (by simp only [lva_n, lva_i, lva_o, lva_r, lva_j]) (g_X5_product l N z (fx_rec N z d) (3 + d) hD ih o a x)) (by decide +kernel) (by simp only [lgl_n, lgl_i, lgl_o, lgl_r, lgl_j]; decide)
    · intro o a
      show Ct l z yX5_value cX5_value 3 none (3 + d + 1) enV [.ref o, .int a] (f_X5_value N z (fx_rec N z d) o a)
      exact Ct_v (fun x => G_lv0 (by simp only [lva_n, lva_i, lva_o, lva_r, lva_j]) (g_X5_value l N z (fx_rec N z d) (3 + d) hD ih o a x)) (by decide +kernel) (by simp only [lgl_n, lgl_i, lgl_o, lgl_r, lgl_j]; decide)
    · intro o a b
      show Ct l z yX5_pair cX5_pair 3 none (3 + d + 1) enV [.ref o, .int a, .int b] (f_X5_pair N z (fx_rec N z d) o a b)
      exact Ct_v (fun x => G_lv0 (by simp only [lva_n, lva_i, lva_o, lva_r, lva_j]) (g_X5_pair l N z (fx_rec N z d) (3 + d) hD ih o a b x)) (by decide +kernel) (by simp only [lgl_n, lgl_i, lgl_o, lgl_r, lgl_j]; decide)

theorem dX5_readOrder_0 : decode cX5_readOrder 0 = .ok (.aload_n 0, 1) := by decide +kernel
theorem dX5_readOrder_1 : decode cX5_readOrder 1 = .ok (.getfield 17, 3) := by decide +kernel
theorem dX5_readOrder_4 : decode cX5_readOrder 4 = .ok (.getfield 45, 3) := by decide +kernel
theorem dX5_readOrder_7 : decode cX5_readOrder 7 = .ok (.astore_n 2, 1) := by decide +kernel
theorem dX5_readOrder_8 : decode cX5_readOrder 8 = .ok (.aload_n 2, 1) := by decide +kernel
theorem dX5_readOrder_9 : decode cX5_readOrder 9 = .ok (.getfield 134, 3) := by decide +kernel
theorem dX5_readOrder_12 : decode cX5_readOrder 12 = .ok (.bipush 20, 2) := by decide +kernel
theorem dX5_readOrder_14 : decode cX5_readOrder 14 = .ok (.if_icmp .lt 8, 3) := by decide +kernel
theorem dX5_readOrder_17 : decode cX5_readOrder 17 = .ok (.aload_n 0, 1) := by decide +kernel
theorem dX5_readOrder_18 : decode cX5_readOrder 18 = .ok (.iconst 4, 1) := by decide +kernel
theorem dX5_readOrder_19 : decode cX5_readOrder 19 = .ok (.invokevirtual 137, 3) := by decide +kernel
theorem dX5_readOrder_22 : decode cX5_readOrder 22 = .ok (.aload_n 0, 1) := by decide +kernel
theorem dX5_readOrder_23 : decode cX5_readOrder 23 = .ok (.dup, 1) := by decide +kernel
theorem dX5_readOrder_24 : decode cX5_readOrder 24 = .ok (.getfield 52, 3) := by decide +kernel
theorem dX5_readOrder_27 : decode cX5_readOrder 27 = .ok (.iconst 1, 1) := by decide +kernel
theorem dX5_readOrder_28 : decode cX5_readOrder 28 = .ok (.iadd, 1) := by decide +kernel
theorem dX5_readOrder_29 : decode cX5_readOrder 29 = .ok (.putfield 52, 3) := by decide +kernel
theorem dX5_readOrder_32 : decode cX5_readOrder 32 = .ok (.aload_n 0, 1) := by decide +kernel
theorem dX5_readOrder_33 : decode cX5_readOrder 33 = .ok (.invokevirtual 99, 3) := by decide +kernel
theorem dX5_readOrder_36 : decode cX5_readOrder 36 = .ok (.istore_n 3, 1) := by decide +kernel
theorem dX5_readOrder_37 : decode cX5_readOrder 37 = .ok (.aload_n 2, 1) := by decide +kernel
theorem dX5_readOrder_38 : decode cX5_readOrder 38 = .ok (.getfield 140, 3) := by decide +kernel
theorem dX5_readOrder_41 : decode cX5_readOrder 41 = .ok (.istore 4, 2) := by decide +kernel
theorem dX5_readOrder_43 : decode cX5_readOrder 43 = .ok (.iload_n 1, 1) := by decide +kernel
theorem dX5_readOrder_44 : decode cX5_readOrder 44 = .ok (.bipush 18, 2) := by decide +kernel
theorem dX5_readOrder_46 : decode cX5_readOrder 46 = .ok (.if_icmp .eq 14, 3) := by decide +kernel
theorem dX5_readOrder_49 : decode cX5_readOrder 49 = .ok (.aload_n 0, 1) := by decide +kernel
theorem dX5_readOrder_50 : decode cX5_readOrder 50 = .ok (.bipush 12, 2) := by decide +kernel
theorem dX5_readOrder_52 : decode cX5_readOrder 52 = .ok (.invokevirtual 85, 3) := by decide +kernel
theorem dX5_readOrder_55 : decode cX5_readOrder 55 = .ok (.aload_n 0, 1) := by decide +kernel
theorem dX5_readOrder_56 : decode cX5_readOrder 56 = .ok (.iconst 0, 1) := by decide +kernel
theorem dX5_readOrder_57 : decode cX5_readOrder 57 = .ok (.invokevirtual 143, 3) := by decide +kernel
theorem dX5_readOrder_60 : decode cX5_readOrder 60 = .ok (.aload_n 2, 1) := by decide +kernel
theorem dX5_readOrder_61 : decode cX5_readOrder 61 = .ok (.getfield 140, 3) := by decide +kernel
theorem dX5_readOrder_64 : decode cX5_readOrder 64 = .ok (.istore 5, 2) := by decide +kernel
theorem dX5_readOrder_66 : decode cX5_readOrder 66 = .ok (.iload_n 1, 1) := by decide +kernel
theorem dX5_readOrder_67 : decode cX5_readOrder 67 = .ok (.bipush 17, 2) := by decide +kernel
theorem dX5_readOrder_69 : decode cX5_readOrder 69 = .ok (.if_icmp .ne 12, 3) := by decide +kernel
theorem dX5_readOrder_72 : decode cX5_readOrder 72 = .ok (.aload_n 0, 1) := by decide +kernel
theorem dX5_readOrder_73 : decode cX5_readOrder 73 = .ok (.invokevirtual 62, 3) := by decide +kernel
theorem dX5_readOrder_76 : decode cX5_readOrder 76 = .ok (.bipush 19, 2) := by decide +kernel
theorem dX5_readOrder_78 : decode cX5_readOrder 78 = .ok (.if_icmp .ne 14, 3) := by decide +kernel
theorem dX5_readOrder_81 : decode cX5_readOrder 81 = .ok (.aload_n 0, 1) := by decide +kernel
theorem dX5_readOrder_82 : decode cX5_readOrder 82 = .ok (.bipush 19, 2) := by decide +kernel
theorem dX5_readOrder_84 : decode cX5_readOrder 84 = .ok (.invokevirtual 85, 3) := by decide +kernel
theorem dX5_readOrder_87 : decode cX5_readOrder 87 = .ok (.aload_n 0, 1) := by decide +kernel
theorem dX5_readOrder_88 : decode cX5_readOrder 88 = .ok (.iconst 0, 1) := by decide +kernel
theorem dX5_readOrder_89 : decode cX5_readOrder 89 = .ok (.invokevirtual 146, 3) := by decide +kernel
theorem dX5_readOrder_92 : decode cX5_readOrder 92 = .ok (.aload_n 2, 1) := by decide +kernel
theorem dX5_readOrder_93 : decode cX5_readOrder 93 = .ok (.invokevirtual 149, 3) := by decide +kernel
theorem dX5_readOrder_96 : decode cX5_readOrder 96 = .ok (.astore 6, 2) := by decide +kernel
theorem dX5_readOrder_98 : decode cX5_readOrder 98 = .ok (.aload 6, 2) := by decide +kernel
theorem dX5_readOrder_100 : decode cX5_readOrder 100 = .ok (.ifnull 18, 3) := by decide +kernel
theorem dX5_readOrder_103 : decode cX5_readOrder 103 = .ok (.aload 6, 2) := by decide +kernel
theorem dX5_readOrder_105 : decode cX5_readOrder 105 = .ok (.iload_n 1, 1) := by decide +kernel
theorem dX5_readOrder_106 : decode cX5_readOrder 106 = .ok (.iload_n 3, 1) := by decide +kernel
theorem dX5_readOrder_107 : decode cX5_readOrder 107 = .ok (.iload 4, 2) := by decide +kernel
theorem dX5_readOrder_109 : decode cX5_readOrder 109 = .ok (.iload 5, 2) := by decide +kernel
theorem dX5_readOrder_111 : decode cX5_readOrder 111 = .ok (.aload_n 2, 1) := by decide +kernel
theorem dX5_readOrder_112 : decode cX5_readOrder 112 = .ok (.getfield 140, 3) := by decide +kernel
theorem dX5_readOrder_115 : decode cX5_readOrder 115 = .ok (.invokevirtual 153, 3) := by decide +kernel
theorem dX5_readOrder_118 : decode cX5_readOrder 118 = .ok (.return_, 1) := by decide +kernel
abbrev m_X5_readOrder : Mt := (cX5_readOrder, RX5, "readOrder", 7, .return_, 28)
def f_X5_readOrder_b92 (N : Nat) (z : Nat → Nat) (v1 : Int32) (v2 : Option Nat) (v3 : Int32) (v4 : Int32) (v5 : Int32) (x0 : Hp) : Option (Unit × Hp) :=
  obj v2 x0 3 fun q3 => bnd (f_X0_addOrder N z q3 x0) fun r2 x1 =>
  if r2 = none then (some ((), x1)) else (geti v2 x1 3 42 fun i4 =>
  obj r2 x1 6 fun q6 => bnd (f_X3_tell N z q6 v1 v3 v4 v5 i4 x1) fun _ x5 =>
  some ((), x5))
def f_X5_readOrder_b81 (N : Nat) (z : Nat → Nat) (o : Nat) (v1 : Int32) (v2 : Option Nat) (v3 : Int32) (v4 : Int32) (v5 : Int32) (x0 : Hp) : Option (Unit × Hp) :=
  obj (some o) x0 8 fun q8 => bnd (f_X5_need N z q8 (19 : Int32) x0) fun _ x7 =>
  obj (some o) x7 8 fun q10 => bnd (fx_rec N z 24 0 q10 (0 : Int32) 0 x7) fun _ x9 =>
  f_X5_readOrder_b92 N z v1 v2 v3 v4 v5 x9
def f_X5_readOrder_b60 (N : Nat) (z : Nat → Nat) (o : Nat) (v1 : Int32) (v2 : Option Nat) (v3 : Int32) (v4 : Int32) (x0 : Hp) : Option (Unit × Hp) :=
  geti v2 x0 3 42 fun i11 =>
  if v1 = (17 : Int32) then (obj (some o) x0 8 fun q14 => bnd (f_X5_kind N z q14 x0) fun i13 x12 =>
  if i13 = (19 : Int32) then (f_X5_readOrder_b81 N z o v1 v2 v3 v4 i11 x12) else (f_X5_readOrder_b92 N z v1 v2 v3 v4 i11 x12)) else (f_X5_readOrder_b81 N z o v1 v2 v3 v4 i11 x0)
def f_X5_readOrder_b22 (N : Nat) (z : Nat → Nat) (o : Nat) (v1 : Int32) (v2 : Option Nat) (x0 : Hp) : Option (Unit × Hp) :=
  geti (some o) x0 8 145 fun i15 =>
  puti (some o) x0 8 145 (i15 + (1 : Int32)) fun x16 =>
  obj (some o) x16 8 fun q19 => bnd (f_X5_toldLane N z q19 x16) fun i18 x17 =>
  geti v2 x17 3 42 fun i20 =>
  if v1 = (18 : Int32) then (f_X5_readOrder_b60 N z o v1 v2 i18 i20 x17) else (obj (some o) x17 8 fun q22 => bnd (f_X5_need N z q22 (12 : Int32) x17) fun _ x21 =>
  obj (some o) x21 8 fun q24 => bnd (fx_rec N z 24 3 q24 (0 : Int32) 0 x21) fun _ x23 =>
  f_X5_readOrder_b60 N z o v1 v2 i18 i20 x23)
def f_X5_readOrder (N : Nat) (z : Nat → Nat) (o : Nat) (v1 : Int32) (x0 : Hp) : Option (Unit × Hp) :=
  getr (some o) x0 8 140 fun r25 =>
  getr r25 x0 9 160 fun r26 =>
  geti r26 x0 3 43 fun i27 =>
  if i27 < (20 : Int32) then (f_X5_readOrder_b22 N z o v1 r26 x0) else (obj (some o) x0 8 fun q29 => bnd (f_X5_blame N z q29 (4 : Int32) x0) fun _ x28 =>
  f_X5_readOrder_b22 N z o v1 r26 x28)
set_option maxRecDepth 100000 in
set_option maxHeartbeats 4000000 in
theorem g_X5_readOrder_b92 (l : Launch) (N : Nat) (z : Nat → Nat) (v1 : Int32) (v2 : Option Nat) (v3 : Int32) (v4 : Int32) (v5 : Int32) (x0 : Hp) : G l z m_X5_readOrder okT enV 92 [(1, .int v1), (2, va_rf v2), (3, .int v3), (4, .int v4), (5, .int v5)] [] x0 (f_X5_readOrder_b92 N z v1 v2 v3 v4 v5 x0) := by
  unfold f_X5_readOrder_b92
  refine G_aload_n 1 dX5_readOrder_92 rfl rfl ?_
  refine G_callV (av := []) [] (fun q3 => ct_X0_addOrder l N z q3) K_2 rfl yn_X0_addOrder (Nat.le_of_ble_eq_true rfl) (by decide) gw_1314 gw_1315 gw_1316 gw_43 gw_1317 rfl (by decide) dX5_readOrder_93 (fun r2 x1 => ?_)
  refine G_astore (i := 6) (l2 := [(1, .int v1), (2, va_rf v2), (3, .int v3), (4, .int v4), (5, .int v5)]) [0, 1, 2, 3, 4] dX5_readOrder_96 (Nat.le_of_ble_eq_true rfl) rfl (sok_a (by decide) (by decide) (sok_a (by decide) (by decide) (sok_a (by decide) (by decide) (sok_a (by decide) (by decide) (sok_b (by decide) rfl trivial))))) ?_
  refine G_aload 0 dX5_readOrder_98 rfl ?_
  refine G_ifnull (tgt := 118) dX5_readOrder_100 (by decide) (fun _ => ?_) (fun _ => ?_)
  · exact G_ret trivial dX5_readOrder_118 rfl
  · refine G_aload 0 dX5_readOrder_103 rfl ?_
    refine G_iload_n 1 dX5_readOrder_105 rfl rfl ?_
    refine G_iload_n 3 dX5_readOrder_106 rfl rfl ?_
    refine G_iload 4 dX5_readOrder_107 rfl ?_
    refine G_iload 5 dX5_readOrder_109 rfl ?_
    refine G_aload_n 2 dX5_readOrder_111 rfl rfl ?_
    refine G_geti (k := 2) K_2 (by decide) rfl rfl rfl gw_146 rfl dX5_readOrder_112 (fun i4 => ?_)
    refine G_callV (av := [.int v1, .int v3, .int v4, .int v5, .int i4]) [] (fun q6 => ct_X3_tell l N z q6 v1 v3 v4 v5 i4) K_5 rfl yn_X3_tell (Nat.le_of_ble_eq_true rfl) (by decide) gw_1319 gw_1320 gw_1321 gw_44 gw_1322 rfl (by decide) dX5_readOrder_115 (fun _ x5 => ?_)
    exact G_ret trivial dX5_readOrder_118 rfl

set_option maxRecDepth 100000 in
set_option maxHeartbeats 4000000 in
theorem g_X5_readOrder_b81 (l : Launch) (N : Nat) (z : Nat → Nat) (o : Nat) (v1 : Int32) (v2 : Option Nat) (v3 : Int32) (v4 : Int32) (v5 : Int32) (x0 : Hp) : G l z m_X5_readOrder okT enV 81 [(0, va_rf (some o)), (1, .int v1), (2, va_rf v2), (3, .int v3), (4, .int v4), (5, .int v5)] [] x0 (f_X5_readOrder_b81 N z o v1 v2 v3 v4 v5 x0) := by
  unfold f_X5_readOrder_b81
  refine G_aload_n 0 dX5_readOrder_81 rfl rfl ?_
  refine G_bipush (v := (19 : Int32)) dX5_readOrder_82 (by decide) ?_
  refine G_callV (av := [.int (19 : Int32)]) [] (fun q8 => ct_X5_need l N z q8 (19 : Int32)) K_7 rfl yn_X5_need (Nat.le_of_ble_eq_true rfl) (by decide) gw_1255 gw_1257 gw_s27 gw_41 gw_1258 rfl (by decide) dX5_readOrder_84 (fun _ x7 => ?_)
  refine G_aload_n 0 dX5_readOrder_87 rfl rfl ?_
  refine G_iconst (v := (0 : Int32)) dX5_readOrder_88 rfl ?_
  refine G_callV (av := [.int (0 : Int32)]) [] (fun q10 => (fx_ct l N z 24).1 q10 (0 : Int32)) K_7 rfl yn_X5_test (by decide) (by decide) gw_1299 gw_1301 gw_s35 gw_41 gw_1302 rfl (by decide) dX5_readOrder_89 (fun _ x9 => ?_)
  refine G_lv [1, 2, 3, 4, 5] rfl ?_
  exact g_X5_readOrder_b92 l N z v1 v2 v3 v4 v5 x9

set_option maxRecDepth 100000 in
set_option maxHeartbeats 4000000 in
theorem g_X5_readOrder_b60 (l : Launch) (N : Nat) (z : Nat → Nat) (o : Nat) (v1 : Int32) (v2 : Option Nat) (v3 : Int32) (v4 : Int32) (x0 : Hp) : G l z m_X5_readOrder okT enV 60 [(0, va_rf (some o)), (1, .int v1), (2, va_rf v2), (3, .int v3), (4, .int v4)] [] x0 (f_X5_readOrder_b60 N z o v1 v2 v3 v4 x0) := by
  unfold f_X5_readOrder_b60
  refine G_aload_n 2 dX5_readOrder_60 rfl rfl ?_
  refine G_geti (k := 2) K_2 (by decide) rfl rfl rfl gw_146 rfl dX5_readOrder_61 (fun i11 => ?_)
  refine G_istore (i := 5) (l2 := [(0, va_rf (some o)), (1, .int v1), (2, va_rf v2), (3, .int v3), (4, .int v4)]) [0, 1, 2, 3, 4] dX5_readOrder_64 (Nat.le_of_ble_eq_true rfl) rfl (sok_a (by decide) (by decide) (sok_a (by decide) (by decide) (sok_a (by decide) (by decide) (sok_a (by decide) (by decide) (sok_b (by decide) rfl trivial))))) ?_
  refine G_iload_n 2 dX5_readOrder_66 rfl rfl ?_
  refine G_bipush (v := (17 : Int32)) dX5_readOrder_67 (by decide) ?_
  refine G_icmp_ne (tgt := 81) dX5_readOrder_69 (by decide) (fun _ => ?_) (fun _ => ?_)
  · refine G_aload_n 1 dX5_readOrder_72 rfl rfl ?_
    refine G_callV (av := []) [] (fun q14 => ct_X5_kind l N z q14) K_7 rfl yn_X5_kind (Nat.le_of_ble_eq_true rfl) (by decide) gw_1211 gw_1213 gw_s19 gw_41 gw_1214 rfl (by decide) dX5_readOrder_73 (fun i13 x12 => ?_)
    refine G_bipush (v := (19 : Int32)) dX5_readOrder_76 (by decide) ?_
    refine G_icmp_ne (tgt := 92) dX5_readOrder_78 (by decide) (fun _ => ?_) (fun _ => ?_)
    · refine G_lv [1, 2, 3, 4, 5, 0] rfl ?_
      exact g_X5_readOrder_b81 l N z o v1 v2 v3 v4 i11 x12
    · refine G_lv [2, 3, 4, 5, 0] rfl ?_
      exact g_X5_readOrder_b92 l N z v1 v2 v3 v4 i11 x12
  · refine G_lv [1, 2, 3, 4, 5, 0] rfl ?_
    exact g_X5_readOrder_b81 l N z o v1 v2 v3 v4 i11 x0

set_option maxRecDepth 100000 in
set_option maxHeartbeats 4000000 in
theorem g_X5_readOrder_b22 (l : Launch) (N : Nat) (z : Nat → Nat) (o : Nat) (v1 : Int32) (v2 : Option Nat) (x0 : Hp) : G l z m_X5_readOrder okT enV 22 [(0, va_rf (some o)), (1, .int v1), (2, va_rf v2)] [] x0 (f_X5_readOrder_b22 N z o v1 v2 x0) := by
  unfold f_X5_readOrder_b22
  refine G_aload_n 0 dX5_readOrder_22 rfl rfl ?_
  refine G_dup dX5_readOrder_23 (rf_cat _) ?_
  refine G_geti (k := 5) K_7 (by decide) rfl rfl rfl gw_433 rfl dX5_readOrder_24 (fun i15 => ?_)
  refine G_iconst (v := (1 : Int32)) dX5_readOrder_27 rfl ?_
  refine G_iadd dX5_readOrder_28 ?_
  refine G_puti (k := 5) K_7 (by decide) rfl rfl rfl gw_433 rfl (Or.inl rfl) nar_int.1 nar_int.2 dX5_readOrder_29 (fun x16 => ?_)
  refine G_aload_n 0 dX5_readOrder_32 rfl rfl ?_
  refine G_callV (av := []) [] (fun q19 => ct_X5_toldLane l N z q19) K_7 rfl yn_X5_toldLane (Nat.le_of_ble_eq_true rfl) (by decide) gw_1251 gw_1253 gw_s26 gw_41 gw_1254 rfl (by decide) dX5_readOrder_33 (fun i18 x17 => ?_)
  refine G_istore_n (i := 3) (l2 := [(0, va_rf (some o)), (1, .int v1), (2, va_rf v2)]) [0, 1, 2] dX5_readOrder_36 rfl (Nat.le_of_ble_eq_true rfl) rfl (sok_a (by decide) (by decide) (sok_a (by decide) (by decide) (sok_b (by decide) (rf_cat _) trivial))) ?_
  refine G_aload_n 3 dX5_readOrder_37 rfl rfl ?_
  refine G_geti (k := 2) K_2 (by decide) rfl rfl rfl gw_146 rfl dX5_readOrder_38 (fun i20 => ?_)
  refine G_istore (i := 4) (l2 := [(3, .int i18), (0, va_rf (some o)), (1, .int v1), (2, va_rf v2)]) [0, 1, 2, 3] dX5_readOrder_41 (Nat.le_of_ble_eq_true rfl) rfl (sok_b (by decide) rfl (sok_a (by decide) (by decide) (sok_a (by decide) (by decide) (sok_a (by decide) (by decide) trivial)))) ?_
  refine G_iload_n 3 dX5_readOrder_43 rfl rfl ?_
  refine G_bipush (v := (18 : Int32)) dX5_readOrder_44 (by decide) ?_
  refine G_icmp_eq (tgt := 60) dX5_readOrder_46 (by decide) (fun _ => ?_) (fun _ => ?_)
  · refine G_lv [2, 3, 4, 1, 0] rfl ?_
    exact g_X5_readOrder_b60 l N z o v1 v2 i18 i20 x17
  · refine G_aload_n 2 dX5_readOrder_49 rfl rfl ?_
    refine G_bipush (v := (12 : Int32)) dX5_readOrder_50 (by decide) ?_
    refine G_callV (av := [.int (12 : Int32)]) [] (fun q22 => ct_X5_need l N z q22 (12 : Int32)) K_7 rfl yn_X5_need (Nat.le_of_ble_eq_true rfl) (by decide) gw_1255 gw_1257 gw_s27 gw_41 gw_1258 rfl (by decide) dX5_readOrder_52 (fun _ x21 => ?_)
    refine G_aload_n 2 dX5_readOrder_55 rfl rfl ?_
    refine G_iconst (v := (0 : Int32)) dX5_readOrder_56 rfl ?_
    refine G_callV (av := [.int (0 : Int32)]) [] (fun q24 => (fx_ct l N z 24).2.2.2.1 q24 (0 : Int32)) K_7 rfl yn_X5_sum (by decide) (by decide) gw_1275 gw_1277 gw_s30 gw_41 gw_1278 rfl (by decide) dX5_readOrder_57 (fun _ x23 => ?_)
    refine G_lv [2, 3, 4, 1, 0] rfl ?_
    exact g_X5_readOrder_b60 l N z o v1 v2 i18 i20 x23

set_option maxRecDepth 100000 in
set_option maxHeartbeats 4000000 in
theorem g_X5_readOrder (l : Launch) (N : Nat) (z : Nat → Nat) (o : Nat) (v1 : Int32) (x0 : Hp) : G l z m_X5_readOrder okT enV 0 [(0, va_rf (some o)), (1, .int v1)] [] x0 (f_X5_readOrder N z o v1 x0) := by
  unfold f_X5_readOrder
  refine G_aload_n 0 dX5_readOrder_0 rfl rfl ?_
  refine G_getr (k := 0) K_7 (by decide) rfl rfl rfl gw_426 rfl dX5_readOrder_1 (fun r25 => ?_)
  refine G_getr (k := 0) K_8 (by decide) rfl rfl rfl gw_306 rfl dX5_readOrder_4 (fun r26 => ?_)
  refine G_astore_n (i := 2) (l2 := [(0, va_rf (some o)), (1, .int v1)]) [0, 1] dX5_readOrder_7 rfl (Nat.le_of_ble_eq_true rfl) rfl (sok_a (by decide) (by decide) (sok_b (by decide) rfl trivial)) ?_
  refine G_aload_n 0 dX5_readOrder_8 rfl rfl ?_
  refine G_geti (k := 3) K_2 (by decide) rfl rfl rfl gw_148 rfl dX5_readOrder_9 (fun i27 => ?_)
  refine G_bipush (v := (20 : Int32)) dX5_readOrder_12 (by decide) ?_
  refine G_icmp_lt (tgt := 22) dX5_readOrder_14 (by decide) (fun _ => ?_) (fun _ => ?_)
  · refine G_lv [1, 2, 0] rfl ?_
    exact g_X5_readOrder_b22 l N z o v1 r26 x0
  · refine G_aload_n 1 dX5_readOrder_17 rfl rfl ?_
    refine G_iconst (v := (4 : Int32)) dX5_readOrder_18 rfl ?_
    refine G_callV (av := [.int (4 : Int32)]) [] (fun q29 => ct_X5_blame l N z q29 (4 : Int32)) K_7 rfl yn_X5_blame (Nat.le_of_ble_eq_true rfl) (by decide) gw_1232 gw_1234 gw_s22 gw_41 gw_1235 rfl (by decide) dX5_readOrder_19 (fun _ x28 => ?_)
    refine G_lv [1, 2, 0] rfl ?_
    exact g_X5_readOrder_b22 l N z o v1 r26 x28

theorem yn_X5_readOrder : Yn yX5_readOrder 1 := ⟨by decide +kernel, by decide +kernel, by decide +kernel⟩
theorem ct_X5_readOrder (l : Launch) (N : Nat) (z : Nat → Nat) (o : Nat) (v1 : Int32) : Ct l z yX5_readOrder cX5_readOrder 7 none 28 enV [.ref o, .int v1] (f_X5_readOrder N z o v1) :=
  Ct_v (fun x => G_lv0 (by simp only [lva_n, lva_i, lva_o, lva_r, lva_j]) (g_X5_readOrder l N z o v1 x)) (by decide +kernel) (by simp only [lgl_n, lgl_i, lgl_o, lgl_r, lgl_j]; decide)

theorem dX5_read_0 : decode cX5_read 0 = .ok (.aload_n 0, 1) := by decide +kernel
theorem dX5_read_1 : decode cX5_read 1 = .ok (.getfield 26, 3) := by decide +kernel
theorem dX5_read_4 : decode cX5_read 4 = .ok (.aload_n 1, 1) := by decide +kernel
theorem dX5_read_5 : decode cX5_read 5 = .ok (.invokevirtual 37, 3) := by decide +kernel
theorem dX5_read_8 : decode cX5_read 8 = .ok (.aload_n 0, 1) := by decide +kernel
theorem dX5_read_9 : decode cX5_read 9 = .ok (.getfield 17, 3) := by decide +kernel
theorem dX5_read_12 : decode cX5_read 12 = .ok (.iload_n 2, 1) := by decide +kernel
theorem dX5_read_13 : decode cX5_read 13 = .ok (.invokevirtual 41, 3) := by decide +kernel
theorem dX5_read_16 : decode cX5_read 16 = .ok (.aload_n 0, 1) := by decide +kernel
theorem dX5_read_17 : decode cX5_read 17 = .ok (.getfield 17, 3) := by decide +kernel
theorem dX5_read_20 : decode cX5_read 20 = .ok (.getfield 45, 3) := by decide +kernel
theorem dX5_read_23 : decode cX5_read 23 = .ok (.invokevirtual 49, 3) := by decide +kernel
theorem dX5_read_26 : decode cX5_read 26 = .ok (.aload_n 0, 1) := by decide +kernel
theorem dX5_read_27 : decode cX5_read 27 = .ok (.iconst 0, 1) := by decide +kernel
theorem dX5_read_28 : decode cX5_read 28 = .ok (.putfield 52, 3) := by decide +kernel
theorem dX5_read_31 : decode cX5_read 31 = .ok (.aload_n 0, 1) := by decide +kernel
theorem dX5_read_32 : decode cX5_read 32 = .ok (.iconst 0, 1) := by decide +kernel
theorem dX5_read_33 : decode cX5_read 33 = .ok (.putfield 56, 3) := by decide +kernel
theorem dX5_read_36 : decode cX5_read 36 = .ok (.aload_n 0, 1) := by decide +kernel
theorem dX5_read_37 : decode cX5_read 37 = .ok (.iconst (-1), 1) := by decide +kernel
theorem dX5_read_38 : decode cX5_read 38 = .ok (.putfield 59, 3) := by decide +kernel
theorem dX5_read_41 : decode cX5_read 41 = .ok (.iconst 0, 1) := by decide +kernel
theorem dX5_read_42 : decode cX5_read 42 = .ok (.istore_n 3, 1) := by decide +kernel
theorem dX5_read_43 : decode cX5_read 43 = .ok (.iload_n 3, 1) := by decide +kernel
theorem dX5_read_44 : decode cX5_read 44 = .ok (.sipush 400, 3) := by decide +kernel
theorem dX5_read_47 : decode cX5_read 47 = .ok (.if_icmp .ge 183, 3) := by decide +kernel
theorem dX5_read_50 : decode cX5_read 50 = .ok (.aload_n 0, 1) := by decide +kernel
theorem dX5_read_51 : decode cX5_read 51 = .ok (.getfield 56, 3) := by decide +kernel
theorem dX5_read_54 : decode cX5_read 54 = .ok (.iconst 1, 1) := by decide +kernel
theorem dX5_read_55 : decode cX5_read 55 = .ok (.if_icmp .eq 175, 3) := by decide +kernel
theorem dX5_read_58 : decode cX5_read 58 = .ok (.aload_n 0, 1) := by decide +kernel
theorem dX5_read_59 : decode cX5_read 59 = .ok (.invokevirtual 62, 3) := by decide +kernel
theorem dX5_read_62 : decode cX5_read 62 = .ok (.bipush 38, 2) := by decide +kernel
theorem dX5_read_64 : decode cX5_read 64 = .ok (.if_icmp .eq 166, 3) := by decide +kernel
theorem dX5_read_67 : decode cX5_read 67 = .ok (.aload_n 0, 1) := by decide +kernel
theorem dX5_read_68 : decode cX5_read 68 = .ok (.invokevirtual 62, 3) := by decide +kernel
theorem dX5_read_71 : decode cX5_read 71 = .ok (.istore 4, 2) := by decide +kernel
theorem dX5_read_73 : decode cX5_read 73 = .ok (.iload 4, 2) := by decide +kernel
theorem dX5_read_75 : decode cX5_read 75 = .ok (.tableswitch 139 0 18 #[89, 116, 139, 139, 139, 139, 139, 139, 139, 139, 139, 123, 139, 139, 139, 139, 130, 130, 130], 89) := by decide +kernel
theorem dX5_read_164 : decode cX5_read 164 = .ok (.aload_n 0, 1) := by decide +kernel
theorem dX5_read_165 : decode cX5_read 165 = .ok (.dup, 1) := by decide +kernel
theorem dX5_read_166 : decode cX5_read 166 = .ok (.getfield 52, 3) := by decide +kernel
theorem dX5_read_169 : decode cX5_read 169 = .ok (.iconst 1, 1) := by decide +kernel
theorem dX5_read_170 : decode cX5_read 170 = .ok (.iadd, 1) := by decide +kernel
theorem dX5_read_171 : decode cX5_read 171 = .ok (.putfield 52, 3) := by decide +kernel
theorem dX5_read_174 : decode cX5_read 174 = .ok (.aload_n 0, 1) := by decide +kernel
theorem dX5_read_175 : decode cX5_read 175 = .ok (.getfield 17, 3) := by decide +kernel
theorem dX5_read_178 : decode cX5_read 178 = .ok (.aload_n 0, 1) := by decide +kernel
theorem dX5_read_179 : decode cX5_read 179 = .ok (.iconst 0, 1) := by decide +kernel
theorem dX5_read_180 : decode cX5_read 180 = .ok (.bipush 30, 2) := by decide +kernel
theorem dX5_read_182 : decode cX5_read 182 = .ok (.invokevirtual 66, 3) := by decide +kernel
theorem dX5_read_185 : decode cX5_read 185 = .ok (.putfield 70, 3) := by decide +kernel
theorem dX5_read_188 : decode cX5_read 188 = .ok (.goto 30, 3) := by decide +kernel
theorem dX5_read_191 : decode cX5_read 191 = .ok (.aload_n 0, 1) := by decide +kernel
theorem dX5_read_192 : decode cX5_read 192 = .ok (.invokevirtual 73, 3) := by decide +kernel
theorem dX5_read_195 : decode cX5_read 195 = .ok (.goto 23, 3) := by decide +kernel
theorem dX5_read_198 : decode cX5_read 198 = .ok (.aload_n 0, 1) := by decide +kernel
theorem dX5_read_199 : decode cX5_read 199 = .ok (.invokevirtual 76, 3) := by decide +kernel
theorem dX5_read_202 : decode cX5_read 202 = .ok (.goto 16, 3) := by decide +kernel
theorem dX5_read_205 : decode cX5_read 205 = .ok (.aload_n 0, 1) := by decide +kernel
theorem dX5_read_206 : decode cX5_read 206 = .ok (.iload 4, 2) := by decide +kernel
theorem dX5_read_208 : decode cX5_read 208 = .ok (.invokevirtual 79, 3) := by decide +kernel
theorem dX5_read_211 : decode cX5_read 211 = .ok (.goto 7, 3) := by decide +kernel
theorem dX5_read_214 : decode cX5_read 214 = .ok (.aload_n 0, 1) := by decide +kernel
theorem dX5_read_215 : decode cX5_read 215 = .ok (.invokevirtual 82, 3) := by decide +kernel
theorem dX5_read_218 : decode cX5_read 218 = .ok (.aload_n 0, 1) := by decide +kernel
theorem dX5_read_219 : decode cX5_read 219 = .ok (.bipush 59, 2) := by decide +kernel
theorem dX5_read_221 : decode cX5_read 221 = .ok (.invokevirtual 85, 3) := by decide +kernel
theorem dX5_read_224 : decode cX5_read 224 = .ok (.iinc 3 1, 3) := by decide +kernel
theorem dX5_read_227 : decode cX5_read 227 = .ok (.goto (-184), 3) := by decide +kernel
theorem dX5_read_230 : decode cX5_read 230 = .ok (.aload_n 0, 1) := by decide +kernel
theorem dX5_read_231 : decode cX5_read 231 = .ok (.getfield 56, 3) := by decide +kernel
theorem dX5_read_234 : decode cX5_read 234 = .ok (.ireturn, 1) := by decide +kernel
abbrev m_X5_read : Mt := (cX5_read, RX5, "read", 5, .ireturn, 29)
def f_X5_read_b218 (N : Nat) (z : Nat → Nat) (k43 : Nat → Int32 → Hp → Option (Int32 × Hp)) (o : Nat) (v3 : Int32) (x0 : Hp) : Option (Int32 × Hp) :=
  obj (some o) x0 8 fun q2 => bnd (f_X5_need N z q2 (59 : Int32) x0) fun _ x1 =>
  k43 o (v3 + (1 : Int32)) x1
def f_X5_read_b43 (N : Nat) (z : Nat → Nat) : Nat → Nat → Int32 → Hp → Option (Int32 × Hp)
  | 0, _, _, _ => none
  | n + 1, o, v3, x0 => if (400 : Int32) ≤ v3 then (geti (some o) x0 8 146 fun i3 =>
  some (i3, x0)) else (geti (some o) x0 8 146 fun i4 =>
  if i4 = (1 : Int32) then (geti (some o) x0 8 146 fun i5 =>
  some (i5, x0)) else (obj (some o) x0 8 fun q8 => bnd (f_X5_kind N z q8 x0) fun i7 x6 =>
  if i7 = (38 : Int32) then (geti (some o) x6 8 146 fun i9 =>
  some (i9, x6)) else (obj (some o) x6 8 fun q12 => bnd (f_X5_kind N z q12 x6) fun i11 x10 =>
  if i11 = (0 : Int32) then (geti (some o) x10 8 145 fun i14 =>
  puti (some o) x10 8 145 (i14 + (1 : Int32)) fun x15 =>
  getr (some o) x15 8 140 fun r16 =>
  obj (some o) x15 8 fun q19 => bnd (f_X5_number N z q19 (0 : Int32) (30 : Int32) x15) fun i18 x17 =>
  puti r16 x17 9 162 i18 fun x20 =>
  f_X5_read_b218 N z (f_X5_read_b43 N z n) o v3 x20) else (if i11 = (1 : Int32) then (obj (some o) x10 8 fun q23 => bnd (f_X5_readLane N z q23 x10) fun _ x22 =>
  f_X5_read_b218 N z (f_X5_read_b43 N z n) o v3 x22) else (if i11 = (2 : Int32) then (obj (some o) x10 8 fun q26 => bnd (f_X5_fail N z q26 x10) fun _ x25 =>
  f_X5_read_b218 N z (f_X5_read_b43 N z n) o v3 x25) else (if i11 = (3 : Int32) then (obj (some o) x10 8 fun q29 => bnd (f_X5_fail N z q29 x10) fun _ x28 =>
  f_X5_read_b218 N z (f_X5_read_b43 N z n) o v3 x28) else (if i11 = (4 : Int32) then (obj (some o) x10 8 fun q32 => bnd (f_X5_fail N z q32 x10) fun _ x31 =>
  f_X5_read_b218 N z (f_X5_read_b43 N z n) o v3 x31) else (if i11 = (5 : Int32) then (obj (some o) x10 8 fun q35 => bnd (f_X5_fail N z q35 x10) fun _ x34 =>
  f_X5_read_b218 N z (f_X5_read_b43 N z n) o v3 x34) else (if i11 = (6 : Int32) then (obj (some o) x10 8 fun q38 => bnd (f_X5_fail N z q38 x10) fun _ x37 =>
  f_X5_read_b218 N z (f_X5_read_b43 N z n) o v3 x37) else (if i11 = (7 : Int32) then (obj (some o) x10 8 fun q41 => bnd (f_X5_fail N z q41 x10) fun _ x40 =>
  f_X5_read_b218 N z (f_X5_read_b43 N z n) o v3 x40) else (if i11 = (8 : Int32) then (obj (some o) x10 8 fun q44 => bnd (f_X5_fail N z q44 x10) fun _ x43 =>
  f_X5_read_b218 N z (f_X5_read_b43 N z n) o v3 x43) else (if i11 = (9 : Int32) then (obj (some o) x10 8 fun q47 => bnd (f_X5_fail N z q47 x10) fun _ x46 =>
  f_X5_read_b218 N z (f_X5_read_b43 N z n) o v3 x46) else (if i11 = (10 : Int32) then (obj (some o) x10 8 fun q50 => bnd (f_X5_fail N z q50 x10) fun _ x49 =>
  f_X5_read_b218 N z (f_X5_read_b43 N z n) o v3 x49) else (if i11 = (11 : Int32) then (obj (some o) x10 8 fun q53 => bnd (f_X5_readFolk N z q53 x10) fun _ x52 =>
  f_X5_read_b218 N z (f_X5_read_b43 N z n) o v3 x52) else (if i11 = (12 : Int32) then (obj (some o) x10 8 fun q56 => bnd (f_X5_fail N z q56 x10) fun _ x55 =>
  f_X5_read_b218 N z (f_X5_read_b43 N z n) o v3 x55) else (if i11 = (13 : Int32) then (obj (some o) x10 8 fun q59 => bnd (f_X5_fail N z q59 x10) fun _ x58 =>
  f_X5_read_b218 N z (f_X5_read_b43 N z n) o v3 x58) else (if i11 = (14 : Int32) then (obj (some o) x10 8 fun q62 => bnd (f_X5_fail N z q62 x10) fun _ x61 =>
  f_X5_read_b218 N z (f_X5_read_b43 N z n) o v3 x61) else (if i11 = (15 : Int32) then (obj (some o) x10 8 fun q65 => bnd (f_X5_fail N z q65 x10) fun _ x64 =>
  f_X5_read_b218 N z (f_X5_read_b43 N z n) o v3 x64) else (if i11 = (16 : Int32) then (obj (some o) x10 8 fun q68 => bnd (f_X5_readOrder N z q68 i11 x10) fun _ x67 =>
  f_X5_read_b218 N z (f_X5_read_b43 N z n) o v3 x67) else (if i11 = (17 : Int32) then (obj (some o) x10 8 fun q71 => bnd (f_X5_readOrder N z q71 i11 x10) fun _ x70 =>
  f_X5_read_b218 N z (f_X5_read_b43 N z n) o v3 x70) else (if i11 = (18 : Int32) then (obj (some o) x10 8 fun q74 => bnd (f_X5_readOrder N z q74 i11 x10) fun _ x73 =>
  f_X5_read_b218 N z (f_X5_read_b43 N z n) o v3 x73) else (obj (some o) x10 8 fun q76 => bnd (f_X5_fail N z q76 x10) fun _ x75 =>
  f_X5_read_b218 N z (f_X5_read_b43 N z n) o v3 x75))))))))))))))))))))))
def f_X5_read (N : Nat) (z : Nat → Nat) (o : Nat) (v1 : Option Nat) (v2 : Int32) (x0 : Hp) : Option (Int32 × Hp) :=
  getr (some o) x0 8 142 fun r77 =>
  obj r77 x0 12 fun q79 => bnd (f_X9_scan N z q79 v1 x0) fun _ x78 =>
  getr (some o) x78 8 140 fun r80 =>
  obj r80 x78 9 fun q82 => bnd (f_X6_begin N z q82 v2 x78) fun _ x81 =>
  getr (some o) x81 8 140 fun r83 =>
  getr r83 x81 9 160 fun r84 =>
  obj r84 x81 3 fun q86 => bnd (f_X0_clear N z q86 x81) fun _ x85 =>
  puti (some o) x85 8 145 (0 : Int32) fun x87 =>
  puti (some o) x87 8 146 (0 : Int32) fun x88 =>
  puti (some o) x88 8 141 (-1 : Int32) fun x89 =>
  f_X5_read_b43 N z N o (0 : Int32) x89
set_option maxRecDepth 100000 in
set_option maxHeartbeats 4000000 in
theorem g_X5_read_b218 (l : Launch) (N : Nat) (z : Nat → Nat) {k43 : Nat → Int32 → Hp → Option (Int32 × Hp)} (hk43 : ∀ o v3 x, G l z m_X5_read okT enI 43 [(0, va_rf (some o)), (3, .int v3)] [] x (k43 o v3 x)) (o : Nat) (v3 : Int32) (x0 : Hp) : G l z m_X5_read okT enI 218 [(0, va_rf (some o)), (3, .int v3)] [] x0 (f_X5_read_b218 N z k43 o v3 x0) := by
  unfold f_X5_read_b218
  refine G_aload_n 0 dX5_read_218 rfl rfl ?_
  refine G_bipush (v := (59 : Int32)) dX5_read_219 (by decide) ?_
  refine G_callV (av := [.int (59 : Int32)]) [] (fun q2 => ct_X5_need l N z q2 (59 : Int32)) K_7 rfl yn_X5_need (Nat.le_of_ble_eq_true rfl) (by decide) gw_1255 gw_1257 gw_s27 gw_41 gw_1258 rfl (by decide) dX5_read_221 (fun _ x1 => ?_)
  refine G_iinc (i := 3) (l2 := [(0, va_rf (some o))]) 1 [0] dX5_read_224 rfl rfl (Nat.le_of_ble_eq_true rfl) rfl (sok_a (by decide) (by decide) trivial) ?_
  refine G_goto (tgt := 43) dX5_read_227 (by decide) ?_
  refine G_lv [1, 0] rfl ?_
  exact hk43 o (v3 + (1 : Int32)) x1

set_option maxRecDepth 100000 in
set_option maxHeartbeats 4000000 in
theorem g_X5_read_b43 (l : Launch) (N : Nat) (z : Nat → Nat) : ∀ (n : Nat) (o : Nat) (v3 : Int32) (x0 : Hp), G l z m_X5_read okT enI 43 [(0, va_rf (some o)), (3, .int v3)] [] x0 (f_X5_read_b43 N z n o v3 x0) := by
  intro n
  induction n with
  | zero => intro o v3 x0; exact G_none
  | succ n ih =>
  intro o v3 x0
  rw [f_X5_read_b43]
  refine G_iload_n 1 dX5_read_43 rfl rfl ?_
  refine G_sipush (v := (400 : Int32)) dX5_read_44 (by decide) ?_
  refine G_icmp_ge (tgt := 230) dX5_read_47 (by decide) (fun _ => ?_) (fun _ => ?_)
  · refine G_aload_n 0 dX5_read_230 rfl rfl ?_
    refine G_geti (k := 6) K_7 (by decide) rfl rfl rfl gw_434 rfl dX5_read_231 (fun i3 => ?_)
    exact G_ret trivial dX5_read_234 rfl
  · refine G_aload_n 0 dX5_read_50 rfl rfl ?_
    refine G_geti (k := 6) K_7 (by decide) rfl rfl rfl gw_434 rfl dX5_read_51 (fun i4 => ?_)
    refine G_iconst (v := (1 : Int32)) dX5_read_54 rfl ?_
    refine G_icmp_eq (tgt := 230) dX5_read_55 (by decide) (fun _ => ?_) (fun _ => ?_)
    · refine G_aload_n 0 dX5_read_230 rfl rfl ?_
      refine G_geti (k := 6) K_7 (by decide) rfl rfl rfl gw_434 rfl dX5_read_231 (fun i5 => ?_)
      exact G_ret trivial dX5_read_234 rfl
    · refine G_aload_n 0 dX5_read_58 rfl rfl ?_
      refine G_callV (av := []) [] (fun q8 => ct_X5_kind l N z q8) K_7 rfl yn_X5_kind (Nat.le_of_ble_eq_true rfl) (by decide) gw_1211 gw_1213 gw_s19 gw_41 gw_1214 rfl (by decide) dX5_read_59 (fun i7 x6 => ?_)
      refine G_bipush (v := (38 : Int32)) dX5_read_62 (by decide) ?_
      refine G_icmp_eq (tgt := 230) dX5_read_64 (by decide) (fun _ => ?_) (fun _ => ?_)
      · refine G_aload_n 0 dX5_read_230 rfl rfl ?_
        refine G_geti (k := 6) K_7 (by decide) rfl rfl rfl gw_434 rfl dX5_read_231 (fun i9 => ?_)
        exact G_ret trivial dX5_read_234 rfl
      · refine G_aload_n 0 dX5_read_67 rfl rfl ?_
        refine G_callV (av := []) [] (fun q12 => ct_X5_kind l N z q12) K_7 rfl yn_X5_kind (Nat.le_of_ble_eq_true rfl) (by decide) gw_1211 gw_1213 gw_s19 gw_41 gw_1214 rfl (by decide) dX5_read_68 (fun i11 x10 => ?_)
        refine G_istore (i := 4) (l2 := [(0, va_rf (some o)), (3, .int v3)]) [0, 1] dX5_read_71 (Nat.le_of_ble_eq_true rfl) rfl (sok_a (by decide) (by decide) (sok_b (by decide) rfl trivial)) ?_
        refine G_iload 0 dX5_read_73 rfl ?_
        refine G_if (fun hs13 => ?_) (fun hs13 => ?_)
        · refine G_tableIn (tgt := 164) dX5_read_75 (by rw [hs13]; decide) (by rw [hs13]; decide) (by rw [hs13]; rfl) (by decide) ?_
          refine G_aload_n 1 dX5_read_164 rfl rfl ?_
          refine G_dup dX5_read_165 (rf_cat _) ?_
          refine G_geti (k := 5) K_7 (by decide) rfl rfl rfl gw_433 rfl dX5_read_166 (fun i14 => ?_)
          refine G_iconst (v := (1 : Int32)) dX5_read_169 rfl ?_
          refine G_iadd dX5_read_170 ?_
          refine G_puti (k := 5) K_7 (by decide) rfl rfl rfl gw_433 rfl (Or.inl rfl) nar_int.1 nar_int.2 dX5_read_171 (fun x15 => ?_)
          refine G_aload_n 1 dX5_read_174 rfl rfl ?_
          refine G_getr (k := 0) K_7 (by decide) rfl rfl rfl gw_426 rfl dX5_read_175 (fun r16 => ?_)
          refine G_aload_n 1 dX5_read_178 rfl rfl ?_
          refine G_iconst (v := (0 : Int32)) dX5_read_179 rfl ?_
          refine G_bipush (v := (30 : Int32)) dX5_read_180 (by decide) ?_
          refine G_callV (av := [.int (0 : Int32), .int (30 : Int32)]) [va_rf r16] (fun q19 => ct_X5_number l N z q19 (0 : Int32) (30 : Int32)) K_7 rfl yn_X5_number (Nat.le_of_ble_eq_true rfl) (by decide) gw_1216 gw_1218 gw_s20 gw_41 gw_1219 rfl (by simp only [hw_n, hw_i, hw_r, hw_j, hw_d]; decide) dX5_read_182 (fun i18 x17 => ?_)
          refine G_puti (k := 2) K_8 (by decide) rfl rfl rfl gw_311 rfl (Or.inl rfl) nar_int.1 nar_int.2 dX5_read_185 (fun x20 => ?_)
          refine G_goto (tgt := 218) dX5_read_188 (by decide) ?_
          refine G_lv [1, 2] rfl ?_
          exact g_X5_read_b218 l N z ih o v3 x20
        refine G_if (fun hs21 => ?_) (fun hs21 => ?_)
        · refine G_tableIn (tgt := 191) dX5_read_75 (by rw [hs21]; decide) (by rw [hs21]; decide) (by rw [hs21]; rfl) (by decide) ?_
          refine G_aload_n 1 dX5_read_191 rfl rfl ?_
          refine G_callV (av := []) [] (fun q23 => ct_X5_readLane l N z q23) K_7 rfl yn_X5_readLane (Nat.le_of_ble_eq_true rfl) (by decide) gw_1236 gw_1238 gw_s23 gw_41 gw_1239 rfl (by decide) dX5_read_192 (fun _ x22 => ?_)
          refine G_goto (tgt := 218) dX5_read_195 (by decide) ?_
          refine G_lv [1, 2] rfl ?_
          exact g_X5_read_b218 l N z ih o v3 x22
        refine G_if (fun hs24 => ?_) (fun hs24 => ?_)
        · refine G_tableIn (tgt := 214) dX5_read_75 (by rw [hs24]; decide) (by rw [hs24]; decide) (by rw [hs24]; rfl) (by decide) ?_
          refine G_aload_n 1 dX5_read_214 rfl rfl ?_
          refine G_callV (av := []) [] (fun q26 => ct_X5_fail l N z q26) K_7 rfl yn_X5_fail (Nat.le_of_ble_eq_true rfl) (by decide) gw_1220 gw_1222 gw_s21 gw_41 gw_1223 rfl (by decide) dX5_read_215 (fun _ x25 => ?_)
          refine G_lv [1, 2] rfl ?_
          exact g_X5_read_b218 l N z ih o v3 x25
        refine G_if (fun hs27 => ?_) (fun hs27 => ?_)
        · refine G_tableIn (tgt := 214) dX5_read_75 (by rw [hs27]; decide) (by rw [hs27]; decide) (by rw [hs27]; rfl) (by decide) ?_
          refine G_aload_n 1 dX5_read_214 rfl rfl ?_
          refine G_callV (av := []) [] (fun q29 => ct_X5_fail l N z q29) K_7 rfl yn_X5_fail (Nat.le_of_ble_eq_true rfl) (by decide) gw_1220 gw_1222 gw_s21 gw_41 gw_1223 rfl (by decide) dX5_read_215 (fun _ x28 => ?_)
          refine G_lv [1, 2] rfl ?_
          exact g_X5_read_b218 l N z ih o v3 x28
        refine G_if (fun hs30 => ?_) (fun hs30 => ?_)
        · refine G_tableIn (tgt := 214) dX5_read_75 (by rw [hs30]; decide) (by rw [hs30]; decide) (by rw [hs30]; rfl) (by decide) ?_
          refine G_aload_n 1 dX5_read_214 rfl rfl ?_
          refine G_callV (av := []) [] (fun q32 => ct_X5_fail l N z q32) K_7 rfl yn_X5_fail (Nat.le_of_ble_eq_true rfl) (by decide) gw_1220 gw_1222 gw_s21 gw_41 gw_1223 rfl (by decide) dX5_read_215 (fun _ x31 => ?_)
          refine G_lv [1, 2] rfl ?_
          exact g_X5_read_b218 l N z ih o v3 x31
        refine G_if (fun hs33 => ?_) (fun hs33 => ?_)
        · refine G_tableIn (tgt := 214) dX5_read_75 (by rw [hs33]; decide) (by rw [hs33]; decide) (by rw [hs33]; rfl) (by decide) ?_
          refine G_aload_n 1 dX5_read_214 rfl rfl ?_
          refine G_callV (av := []) [] (fun q35 => ct_X5_fail l N z q35) K_7 rfl yn_X5_fail (Nat.le_of_ble_eq_true rfl) (by decide) gw_1220 gw_1222 gw_s21 gw_41 gw_1223 rfl (by decide) dX5_read_215 (fun _ x34 => ?_)
          refine G_lv [1, 2] rfl ?_
          exact g_X5_read_b218 l N z ih o v3 x34
        refine G_if (fun hs36 => ?_) (fun hs36 => ?_)
        · refine G_tableIn (tgt := 214) dX5_read_75 (by rw [hs36]; decide) (by rw [hs36]; decide) (by rw [hs36]; rfl) (by decide) ?_
          refine G_aload_n 1 dX5_read_214 rfl rfl ?_
          refine G_callV (av := []) [] (fun q38 => ct_X5_fail l N z q38) K_7 rfl yn_X5_fail (Nat.le_of_ble_eq_true rfl) (by decide) gw_1220 gw_1222 gw_s21 gw_41 gw_1223 rfl (by decide) dX5_read_215 (fun _ x37 => ?_)
          refine G_lv [1, 2] rfl ?_
          exact g_X5_read_b218 l N z ih o v3 x37
        refine G_if (fun hs39 => ?_) (fun hs39 => ?_)
        · refine G_tableIn (tgt := 214) dX5_read_75 (by rw [hs39]; decide) (by rw [hs39]; decide) (by rw [hs39]; rfl) (by decide) ?_
          refine G_aload_n 1 dX5_read_214 rfl rfl ?_
          refine G_callV (av := []) [] (fun q41 => ct_X5_fail l N z q41) K_7 rfl yn_X5_fail (Nat.le_of_ble_eq_true rfl) (by decide) gw_1220 gw_1222 gw_s21 gw_41 gw_1223 rfl (by decide) dX5_read_215 (fun _ x40 => ?_)
          refine G_lv [1, 2] rfl ?_
          exact g_X5_read_b218 l N z ih o v3 x40
        refine G_if (fun hs42 => ?_) (fun hs42 => ?_)
        · refine G_tableIn (tgt := 214) dX5_read_75 (by rw [hs42]; decide) (by rw [hs42]; decide) (by rw [hs42]; rfl) (by decide) ?_
          refine G_aload_n 1 dX5_read_214 rfl rfl ?_
          refine G_callV (av := []) [] (fun q44 => ct_X5_fail l N z q44) K_7 rfl yn_X5_fail (Nat.le_of_ble_eq_true rfl) (by decide) gw_1220 gw_1222 gw_s21 gw_41 gw_1223 rfl (by decide) dX5_read_215 (fun _ x43 => ?_)
          refine G_lv [1, 2] rfl ?_
          exact g_X5_read_b218 l N z ih o v3 x43
        refine G_if (fun hs45 => ?_) (fun hs45 => ?_)
        · refine G_tableIn (tgt := 214) dX5_read_75 (by rw [hs45]; decide) (by rw [hs45]; decide) (by rw [hs45]; rfl) (by decide) ?_
          refine G_aload_n 1 dX5_read_214 rfl rfl ?_
          refine G_callV (av := []) [] (fun q47 => ct_X5_fail l N z q47) K_7 rfl yn_X5_fail (Nat.le_of_ble_eq_true rfl) (by decide) gw_1220 gw_1222 gw_s21 gw_41 gw_1223 rfl (by decide) dX5_read_215 (fun _ x46 => ?_)
          refine G_lv [1, 2] rfl ?_
          exact g_X5_read_b218 l N z ih o v3 x46
        refine G_if (fun hs48 => ?_) (fun hs48 => ?_)
        · refine G_tableIn (tgt := 214) dX5_read_75 (by rw [hs48]; decide) (by rw [hs48]; decide) (by rw [hs48]; rfl) (by decide) ?_
          refine G_aload_n 1 dX5_read_214 rfl rfl ?_
          refine G_callV (av := []) [] (fun q50 => ct_X5_fail l N z q50) K_7 rfl yn_X5_fail (Nat.le_of_ble_eq_true rfl) (by decide) gw_1220 gw_1222 gw_s21 gw_41 gw_1223 rfl (by decide) dX5_read_215 (fun _ x49 => ?_)
          refine G_lv [1, 2] rfl ?_
          exact g_X5_read_b218 l N z ih o v3 x49
        refine G_if (fun hs51 => ?_) (fun hs51 => ?_)
        · refine G_tableIn (tgt := 198) dX5_read_75 (by rw [hs51]; decide) (by rw [hs51]; decide) (by rw [hs51]; rfl) (by decide) ?_
          refine G_aload_n 1 dX5_read_198 rfl rfl ?_
          refine G_callV (av := []) [] (fun q53 => ct_X5_readFolk l N z q53) K_7 rfl yn_X5_readFolk (Nat.le_of_ble_eq_true rfl) (by decide) gw_1265 gw_1267 gw_s28 gw_41 gw_1268 rfl (by decide) dX5_read_199 (fun _ x52 => ?_)
          refine G_goto (tgt := 218) dX5_read_202 (by decide) ?_
          refine G_lv [1, 2] rfl ?_
          exact g_X5_read_b218 l N z ih o v3 x52
        refine G_if (fun hs54 => ?_) (fun hs54 => ?_)
        · refine G_tableIn (tgt := 214) dX5_read_75 (by rw [hs54]; decide) (by rw [hs54]; decide) (by rw [hs54]; rfl) (by decide) ?_
          refine G_aload_n 1 dX5_read_214 rfl rfl ?_
          refine G_callV (av := []) [] (fun q56 => ct_X5_fail l N z q56) K_7 rfl yn_X5_fail (Nat.le_of_ble_eq_true rfl) (by decide) gw_1220 gw_1222 gw_s21 gw_41 gw_1223 rfl (by decide) dX5_read_215 (fun _ x55 => ?_)
          refine G_lv [1, 2] rfl ?_
          exact g_X5_read_b218 l N z ih o v3 x55
        refine G_if (fun hs57 => ?_) (fun hs57 => ?_)
        · refine G_tableIn (tgt := 214) dX5_read_75 (by rw [hs57]; decide) (by rw [hs57]; decide) (by rw [hs57]; rfl) (by decide) ?_
          refine G_aload_n 1 dX5_read_214 rfl rfl ?_
          refine G_callV (av := []) [] (fun q59 => ct_X5_fail l N z q59) K_7 rfl yn_X5_fail (Nat.le_of_ble_eq_true rfl) (by decide) gw_1220 gw_1222 gw_s21 gw_41 gw_1223 rfl (by decide) dX5_read_215 (fun _ x58 => ?_)
          refine G_lv [1, 2] rfl ?_
          exact g_X5_read_b218 l N z ih o v3 x58
        refine G_if (fun hs60 => ?_) (fun hs60 => ?_)
        · refine G_tableIn (tgt := 214) dX5_read_75 (by rw [hs60]; decide) (by rw [hs60]; decide) (by rw [hs60]; rfl) (by decide) ?_
          refine G_aload_n 1 dX5_read_214 rfl rfl ?_
          refine G_callV (av := []) [] (fun q62 => ct_X5_fail l N z q62) K_7 rfl yn_X5_fail (Nat.le_of_ble_eq_true rfl) (by decide) gw_1220 gw_1222 gw_s21 gw_41 gw_1223 rfl (by decide) dX5_read_215 (fun _ x61 => ?_)
          refine G_lv [1, 2] rfl ?_
          exact g_X5_read_b218 l N z ih o v3 x61
        refine G_if (fun hs63 => ?_) (fun hs63 => ?_)
        · refine G_tableIn (tgt := 214) dX5_read_75 (by rw [hs63]; decide) (by rw [hs63]; decide) (by rw [hs63]; rfl) (by decide) ?_
          refine G_aload_n 1 dX5_read_214 rfl rfl ?_
          refine G_callV (av := []) [] (fun q65 => ct_X5_fail l N z q65) K_7 rfl yn_X5_fail (Nat.le_of_ble_eq_true rfl) (by decide) gw_1220 gw_1222 gw_s21 gw_41 gw_1223 rfl (by decide) dX5_read_215 (fun _ x64 => ?_)
          refine G_lv [1, 2] rfl ?_
          exact g_X5_read_b218 l N z ih o v3 x64
        refine G_if (fun hs66 => ?_) (fun hs66 => ?_)
        · refine G_tableIn (tgt := 205) dX5_read_75 (by rw [hs66]; decide) (by rw [hs66]; decide) (by rw [hs66]; rfl) (by decide) ?_
          refine G_aload_n 1 dX5_read_205 rfl rfl ?_
          refine G_iload 0 dX5_read_206 rfl ?_
          refine G_callV (av := [.int i11]) [] (fun q68 => ct_X5_readOrder l N z q68 i11) K_7 rfl yn_X5_readOrder (Nat.le_of_ble_eq_true rfl) (by decide) gw_1271 gw_1273 gw_s29 gw_41 gw_1274 rfl (by decide) dX5_read_208 (fun _ x67 => ?_)
          refine G_goto (tgt := 218) dX5_read_211 (by decide) ?_
          refine G_lv [1, 2] rfl ?_
          exact g_X5_read_b218 l N z ih o v3 x67
        refine G_if (fun hs69 => ?_) (fun hs69 => ?_)
        · refine G_tableIn (tgt := 205) dX5_read_75 (by rw [hs69]; decide) (by rw [hs69]; decide) (by rw [hs69]; rfl) (by decide) ?_
          refine G_aload_n 1 dX5_read_205 rfl rfl ?_
          refine G_iload 0 dX5_read_206 rfl ?_
          refine G_callV (av := [.int i11]) [] (fun q71 => ct_X5_readOrder l N z q71 i11) K_7 rfl yn_X5_readOrder (Nat.le_of_ble_eq_true rfl) (by decide) gw_1271 gw_1273 gw_s29 gw_41 gw_1274 rfl (by decide) dX5_read_208 (fun _ x70 => ?_)
          refine G_goto (tgt := 218) dX5_read_211 (by decide) ?_
          refine G_lv [1, 2] rfl ?_
          exact g_X5_read_b218 l N z ih o v3 x70
        refine G_if (fun hs72 => ?_) (fun hs72 => ?_)
        · refine G_tableIn (tgt := 205) dX5_read_75 (by rw [hs72]; decide) (by rw [hs72]; decide) (by rw [hs72]; rfl) (by decide) ?_
          refine G_aload_n 1 dX5_read_205 rfl rfl ?_
          refine G_iload 0 dX5_read_206 rfl ?_
          refine G_callV (av := [.int i11]) [] (fun q74 => ct_X5_readOrder l N z q74 i11) K_7 rfl yn_X5_readOrder (Nat.le_of_ble_eq_true rfl) (by decide) gw_1271 gw_1273 gw_s29 gw_41 gw_1274 rfl (by decide) dX5_read_208 (fun _ x73 => ?_)
          refine G_goto (tgt := 218) dX5_read_211 (by decide) ?_
          refine G_lv [1, 2] rfl ?_
          exact g_X5_read_b218 l N z ih o v3 x73
        refine G_tableOut (tgt := 214) dX5_read_75 (by have q0 := i32_ne hs13; rw [show (0 : Int32).toInt = 0 from by decide] at q0; have q1 := i32_ne hs21; rw [show (1 : Int32).toInt = 1 from by decide] at q1; have q2 := i32_ne hs24; rw [show (2 : Int32).toInt = 2 from by decide] at q2; have q3 := i32_ne hs27; rw [show (3 : Int32).toInt = 3 from by decide] at q3; have q4 := i32_ne hs30; rw [show (4 : Int32).toInt = 4 from by decide] at q4; have q5 := i32_ne hs33; rw [show (5 : Int32).toInt = 5 from by decide] at q5; have q6 := i32_ne hs36; rw [show (6 : Int32).toInt = 6 from by decide] at q6; have q7 := i32_ne hs39; rw [show (7 : Int32).toInt = 7 from by decide] at q7; have q8 := i32_ne hs42; rw [show (8 : Int32).toInt = 8 from by decide] at q8; have q9 := i32_ne hs45; rw [show (9 : Int32).toInt = 9 from by decide] at q9; have q10 := i32_ne hs48; rw [show (10 : Int32).toInt = 10 from by decide] at q10; have q11 := i32_ne hs51; rw [show (11 : Int32).toInt = 11 from by decide] at q11; have q12 := i32_ne hs54; rw [show (12 : Int32).toInt = 12 from by decide] at q12; have q13 := i32_ne hs57; rw [show (13 : Int32).toInt = 13 from by decide] at q13; have q14 := i32_ne hs60; rw [show (14 : Int32).toInt = 14 from by decide] at q14; have q15 := i32_ne hs63; rw [show (15 : Int32).toInt = 15 from by decide] at q15; have q16 := i32_ne hs66; rw [show (16 : Int32).toInt = 16 from by decide] at q16; have q17 := i32_ne hs69; rw [show (17 : Int32).toInt = 17 from by decide] at q17; have q18 := i32_ne hs72; rw [show (18 : Int32).toInt = 18 from by decide] at q18; omega) (by decide) ?_
        refine G_aload_n 1 dX5_read_214 rfl rfl ?_
        refine G_callV (av := []) [] (fun q76 => ct_X5_fail l N z q76) K_7 rfl yn_X5_fail (Nat.le_of_ble_eq_true rfl) (by decide) gw_1220 gw_1222 gw_s21 gw_41 gw_1223 rfl (by decide) dX5_read_215 (fun _ x75 => ?_)
        refine G_lv [1, 2] rfl ?_
        exact g_X5_read_b218 l N z ih o v3 x75

set_option maxRecDepth 100000 in
set_option maxHeartbeats 4000000 in
theorem g_X5_read (l : Launch) (N : Nat) (z : Nat → Nat) (o : Nat) (v1 : Option Nat) (v2 : Int32) (x0 : Hp) : G l z m_X5_read okT enI 0 [(0, va_rf (some o)), (1, va_rf v1), (2, .int v2)] [] x0 (f_X5_read N z o v1 v2 x0) := by
  unfold f_X5_read
  refine G_aload_n 0 dX5_read_0 rfl rfl ?_
  refine G_getr (k := 2) K_7 (by decide) rfl rfl rfl gw_430 rfl dX5_read_1 (fun r77 => ?_)
  refine G_aload_n 1 dX5_read_4 rfl rfl ?_
  refine G_callV (av := [va_rf v1]) [] (fun q79 => ct_X9_scan l N z q79 v1) K_11 rfl yn_X9_scan (Nat.le_of_ble_eq_true rfl) (by decide) gw_1160 gw_1161 gw_1162 gw_49 gw_1163 rfl (by decide) dX5_read_5 (fun _ x78 => ?_)
  refine G_aload_n 0 dX5_read_8 rfl rfl ?_
  refine G_getr (k := 0) K_7 (by decide) rfl rfl rfl gw_426 rfl dX5_read_9 (fun r80 => ?_)
  refine G_iload_n 2 dX5_read_12 rfl rfl ?_
  refine G_callV (av := [.int v2]) [] (fun q82 => ct_X6_begin l N z q82 v2) K_8 rfl yn_X6_begin (Nat.le_of_ble_eq_true rfl) (by decide) gw_1206 gw_746 gw_747 gw_42 gw_748 rfl (by decide) dX5_read_13 (fun _ x81 => ?_)
  refine G_aload_n 0 dX5_read_16 rfl rfl ?_
  refine G_getr (k := 0) K_7 (by decide) rfl rfl rfl gw_426 rfl dX5_read_17 (fun r83 => ?_)
  refine G_getr (k := 0) K_8 (by decide) rfl rfl rfl gw_306 rfl dX5_read_20 (fun r84 => ?_)
  refine G_callV (av := []) [] (fun q86 => ct_X0_clear l N z q86) K_2 rfl yn_X0_clear (Nat.le_of_ble_eq_true rfl) (by decide) gw_1207 gw_1208 gw_1209 gw_43 gw_1210 rfl (by decide) dX5_read_23 (fun _ x85 => ?_)
  refine G_aload_n 0 dX5_read_26 rfl rfl ?_
  refine G_iconst (v := (0 : Int32)) dX5_read_27 rfl ?_
  refine G_puti (k := 5) K_7 (by decide) rfl rfl rfl gw_433 rfl (Or.inl rfl) nar_int.1 nar_int.2 dX5_read_28 (fun x87 => ?_)
  refine G_aload_n 0 dX5_read_31 rfl rfl ?_
  refine G_iconst (v := (0 : Int32)) dX5_read_32 rfl ?_
  refine G_puti (k := 6) K_7 (by decide) rfl rfl rfl gw_434 rfl (Or.inl rfl) nar_int.1 nar_int.2 dX5_read_33 (fun x88 => ?_)
  refine G_aload_n 0 dX5_read_36 rfl rfl ?_
  refine G_iconst (v := (-1 : Int32)) dX5_read_37 rfl ?_
  refine G_puti (k := 1) K_7 (by decide) rfl rfl rfl gw_428 rfl (Or.inl rfl) nar_int.1 nar_int.2 dX5_read_38 (fun x89 => ?_)
  refine G_iconst (v := (0 : Int32)) dX5_read_41 rfl ?_
  refine G_istore_n (i := 3) (l2 := [(0, va_rf (some o)), (1, va_rf v1), (2, .int v2)]) [0, 1, 2] dX5_read_42 rfl (Nat.le_of_ble_eq_true rfl) rfl (sok_a (by decide) (by decide) (sok_a (by decide) (by decide) (sok_b (by decide) rfl trivial))) ?_
  refine G_lv [1, 0] rfl ?_
  exact g_X5_read_b43 l N z N o (0 : Int32) x89

theorem yn_X5_read : Yn yX5_read 2 := ⟨by decide +kernel, by decide +kernel, by decide +kernel⟩
theorem ct_X5_read (l : Launch) (N : Nat) (z : Nat → Nat) (o : Nat) (v1 : Option Nat) (v2 : Int32) : Ct l z yX5_read cX5_read 5 (some .int) 29 enI [.ref o, va_rf v1, .int v2] (f_X5_read N z o v1 v2) :=
  Ct_i (fun x => G_lv0 (by simp only [lva_n, lva_i, lva_o, lva_r, lva_j]) (g_X5_read l N z o v1 v2 x)) (by decide +kernel) (by simp only [lgl_n, lgl_i, lgl_o, lgl_r, lgl_j]; decide)
