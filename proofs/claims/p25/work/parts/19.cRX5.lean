theorem dX5_kind_0 : decode cX5_kind 0 = .ok (.aload_n 0, 1) := by decide +kernel
theorem dX5_kind_1 : decode cX5_kind 1 = .ok (.getfield 56, 3) := by decide +kernel
theorem dX5_kind_4 : decode cX5_kind 4 = .ok (.iconst 1, 1) := by decide +kernel
theorem dX5_kind_5 : decode cX5_kind 5 = .ok (.if_icmp .ne 8, 3) := by decide +kernel
theorem dX5_kind_8 : decode cX5_kind 8 = .ok (.bipush 39, 2) := by decide +kernel
theorem dX5_kind_10 : decode cX5_kind 10 = .ok (.goto 14, 3) := by decide +kernel
theorem dX5_kind_13 : decode cX5_kind 13 = .ok (.aload_n 0, 1) := by decide +kernel
theorem dX5_kind_14 : decode cX5_kind 14 = .ok (.getfield 26, 3) := by decide +kernel
theorem dX5_kind_17 : decode cX5_kind 17 = .ok (.aload_n 0, 1) := by decide +kernel
theorem dX5_kind_18 : decode cX5_kind 18 = .ok (.getfield 52, 3) := by decide +kernel
theorem dX5_kind_21 : decode cX5_kind 21 = .ok (.invokevirtual 187, 3) := by decide +kernel
theorem dX5_kind_24 : decode cX5_kind 24 = .ok (.ireturn, 1) := by decide +kernel
abbrev m_X5_kind : Mt := (cX5_kind, RX5, "kind", 1, .ireturn, 2)
def f_X5_kind (N : Nat) (z : Nat → Nat) (o : Nat) (x0 : Hp) : Option (Int32 × Hp) :=
  geti (some o) x0 8 146 fun i1 =>
  if i1 = (1 : Int32) then (some ((39 : Int32), x0)) else (getr (some o) x0 8 142 fun r2 =>
  geti (some o) x0 8 145 fun i3 =>
  obj r2 x0 12 fun q6 => bnd (f_X9_kindOf N z q6 i3 x0) fun i5 x4 =>
  some (i5, x4))
set_option maxRecDepth 100000 in
set_option maxHeartbeats 4000000 in
theorem g_X5_kind (l : Launch) (N : Nat) (z : Nat → Nat) (o : Nat) (x0 : Hp) : G l z m_X5_kind okT enI 0 [(0, va_rf (some o))] [] x0 (f_X5_kind N z o x0) := by
  unfold f_X5_kind
  refine G_aload_n 0 dX5_kind_0 rfl rfl ?_
  refine G_geti (k := 6) K_7 (by decide) rfl rfl rfl gw_434 rfl dX5_kind_1 (fun i1 => ?_)
  refine G_iconst (v := (1 : Int32)) dX5_kind_4 rfl ?_
  refine G_icmp_ne (tgt := 13) dX5_kind_5 (by decide) (fun _ => ?_) (fun _ => ?_)
  · refine G_bipush (v := (39 : Int32)) dX5_kind_8 (by decide) ?_
    refine G_goto (tgt := 24) dX5_kind_10 (by decide) ?_
    exact G_ret trivial dX5_kind_24 rfl
  · refine G_aload_n 0 dX5_kind_13 rfl rfl ?_
    refine G_getr (k := 2) K_7 (by decide) rfl rfl rfl gw_430 rfl dX5_kind_14 (fun r2 => ?_)
    refine G_aload_n 0 dX5_kind_17 rfl rfl ?_
    refine G_geti (k := 5) K_7 (by decide) rfl rfl rfl gw_433 rfl dX5_kind_18 (fun i3 => ?_)
    refine G_callV (av := [.int i3]) [] (fun q6 => ct_X9_kindOf l N z q6 i3) K_11 rfl yn_X9_kindOf (by decide) (by decide) gw_1215 gw_1203 gw_1204 gw_49 gw_1205 rfl (by decide) dX5_kind_21 (fun i5 x4 => ?_)
    exact G_ret trivial dX5_kind_24 rfl

theorem yn_X5_kind : Yn yX5_kind 0 := ⟨by decide +kernel, by decide +kernel, by decide +kernel⟩
theorem ct_X5_kind (l : Launch) (N : Nat) (z : Nat → Nat) (o : Nat) : Ct l z yX5_kind cX5_kind 1 (some .int) 2 enI [.ref o] (f_X5_kind N z o) :=
  Ct_i (fun x => G_lv0 (by simp only [lva_n, lva_i, lva_o, lva_r, lva_j]) (g_X5_kind l N z o x)) (by decide +kernel) (by simp only [lgl_n, lgl_i, lgl_o, lgl_r, lgl_j]; decide)

theorem dX5_fail_0 : decode cX5_fail 0 = .ok (.aload_n 0, 1) := by decide +kernel
theorem dX5_fail_1 : decode cX5_fail 1 = .ok (.getfield 56, 3) := by decide +kernel
theorem dX5_fail_4 : decode cX5_fail 4 = .ok (.iconst 1, 1) := by decide +kernel
theorem dX5_fail_5 : decode cX5_fail 5 = .ok (.if_icmp .eq 23, 3) := by decide +kernel
theorem dX5_fail_8 : decode cX5_fail 8 = .ok (.aload_n 0, 1) := by decide +kernel
theorem dX5_fail_9 : decode cX5_fail 9 = .ok (.iconst 1, 1) := by decide +kernel
theorem dX5_fail_10 : decode cX5_fail 10 = .ok (.putfield 56, 3) := by decide +kernel
theorem dX5_fail_13 : decode cX5_fail 13 = .ok (.aload_n 0, 1) := by decide +kernel
theorem dX5_fail_14 : decode cX5_fail 14 = .ok (.aload_n 0, 1) := by decide +kernel
theorem dX5_fail_15 : decode cX5_fail 15 = .ok (.getfield 26, 3) := by decide +kernel
theorem dX5_fail_18 : decode cX5_fail 18 = .ok (.aload_n 0, 1) := by decide +kernel
theorem dX5_fail_19 : decode cX5_fail 19 = .ok (.getfield 52, 3) := by decide +kernel
theorem dX5_fail_22 : decode cX5_fail 22 = .ok (.invokevirtual 195, 3) := by decide +kernel
theorem dX5_fail_25 : decode cX5_fail 25 = .ok (.putfield 59, 3) := by decide +kernel
theorem dX5_fail_28 : decode cX5_fail 28 = .ok (.return_, 1) := by decide +kernel
abbrev m_X5_fail : Mt := (cX5_fail, RX5, "fail", 1, .return_, 2)
def f_X5_fail (N : Nat) (z : Nat → Nat) (o : Nat) (x0 : Hp) : Option (Unit × Hp) :=
  geti (some o) x0 8 146 fun i1 =>
  if i1 = (1 : Int32) then (some ((), x0)) else (puti (some o) x0 8 146 (1 : Int32) fun x2 =>
  getr (some o) x2 8 142 fun r3 =>
  geti (some o) x2 8 145 fun i4 =>
  obj r3 x2 12 fun q7 => bnd (f_X9_startOf N z q7 i4 x2) fun i6 x5 =>
  puti (some o) x5 8 141 i6 fun x8 =>
  some ((), x8))
set_option maxRecDepth 100000 in
set_option maxHeartbeats 4000000 in
theorem g_X5_fail (l : Launch) (N : Nat) (z : Nat → Nat) (o : Nat) (x0 : Hp) : G l z m_X5_fail okT enV 0 [(0, va_rf (some o))] [] x0 (f_X5_fail N z o x0) := by
  unfold f_X5_fail
  refine G_aload_n 0 dX5_fail_0 rfl rfl ?_
  refine G_geti (k := 6) K_7 (by decide) rfl rfl rfl gw_434 rfl dX5_fail_1 (fun i1 => ?_)
  refine G_iconst (v := (1 : Int32)) dX5_fail_4 rfl ?_
  refine G_icmp_eq (tgt := 28) dX5_fail_5 (by decide) (fun _ => ?_) (fun _ => ?_)
  · exact G_ret trivial dX5_fail_28 rfl
  · refine G_aload_n 0 dX5_fail_8 rfl rfl ?_
    refine G_iconst (v := (1 : Int32)) dX5_fail_9 rfl ?_
    refine G_puti (k := 6) K_7 (by decide) rfl rfl rfl gw_434 rfl (Or.inl rfl) nar_int.1 nar_int.2 dX5_fail_10 (fun x2 => ?_)
    refine G_aload_n 0 dX5_fail_13 rfl rfl ?_
    refine G_aload_n 0 dX5_fail_14 rfl rfl ?_
    refine G_getr (k := 2) K_7 (by decide) rfl rfl rfl gw_430 rfl dX5_fail_15 (fun r3 => ?_)
    refine G_aload_n 0 dX5_fail_18 rfl rfl ?_
    refine G_geti (k := 5) K_7 (by decide) rfl rfl rfl gw_433 rfl dX5_fail_19 (fun i4 => ?_)
    refine G_callV (av := [.int i4]) [va_rf (some o)] (fun q7 => ct_X9_startOf l N z q7 i4) K_11 rfl yn_X9_startOf (by decide) (by decide) gw_1224 gw_1225 gw_1226 gw_49 gw_1227 rfl (by simp only [hw_n, hw_i, hw_r, hw_j, hw_d]; decide) dX5_fail_22 (fun i6 x5 => ?_)
    refine G_puti (k := 1) K_7 (by decide) rfl rfl rfl gw_428 rfl (Or.inl rfl) nar_int.1 nar_int.2 dX5_fail_25 (fun x8 => ?_)
    exact G_ret trivial dX5_fail_28 rfl

theorem yn_X5_fail : Yn yX5_fail 0 := ⟨by decide +kernel, by decide +kernel, by decide +kernel⟩
theorem ct_X5_fail (l : Launch) (N : Nat) (z : Nat → Nat) (o : Nat) : Ct l z yX5_fail cX5_fail 1 none 2 enV [.ref o] (f_X5_fail N z o) :=
  Ct_v (fun x => G_lv0 (by simp only [lva_n, lva_i, lva_o, lva_r, lva_j]) (g_X5_fail l N z o x)) (by decide +kernel) (by simp only [lgl_n, lgl_i, lgl_o, lgl_r, lgl_j]; decide)

theorem dX5_blame_0 : decode cX5_blame 0 = .ok (.aload_n 0, 1) := by decide +kernel
theorem dX5_blame_1 : decode cX5_blame 1 = .ok (.getfield 56, 3) := by decide +kernel
theorem dX5_blame_4 : decode cX5_blame 4 = .ok (.ifCond .ne 23, 3) := by decide +kernel
theorem dX5_blame_7 : decode cX5_blame 7 = .ok (.aload_n 0, 1) := by decide +kernel
theorem dX5_blame_8 : decode cX5_blame 8 = .ok (.iload_n 1, 1) := by decide +kernel
theorem dX5_blame_9 : decode cX5_blame 9 = .ok (.putfield 56, 3) := by decide +kernel
theorem dX5_blame_12 : decode cX5_blame 12 = .ok (.aload_n 0, 1) := by decide +kernel
theorem dX5_blame_13 : decode cX5_blame 13 = .ok (.aload_n 0, 1) := by decide +kernel
theorem dX5_blame_14 : decode cX5_blame 14 = .ok (.getfield 26, 3) := by decide +kernel
theorem dX5_blame_17 : decode cX5_blame 17 = .ok (.aload_n 0, 1) := by decide +kernel
theorem dX5_blame_18 : decode cX5_blame 18 = .ok (.getfield 52, 3) := by decide +kernel
theorem dX5_blame_21 : decode cX5_blame 21 = .ok (.invokevirtual 195, 3) := by decide +kernel
theorem dX5_blame_24 : decode cX5_blame 24 = .ok (.putfield 59, 3) := by decide +kernel
theorem dX5_blame_27 : decode cX5_blame 27 = .ok (.return_, 1) := by decide +kernel
abbrev m_X5_blame : Mt := (cX5_blame, RX5, "blame", 2, .return_, 2)
def f_X5_blame (N : Nat) (z : Nat → Nat) (o : Nat) (v1 : Int32) (x0 : Hp) : Option (Unit × Hp) :=
  geti (some o) x0 8 146 fun i1 =>
  if i1 = 0 then (puti (some o) x0 8 146 v1 fun x2 =>
  getr (some o) x2 8 142 fun r3 =>
  geti (some o) x2 8 145 fun i4 =>
  obj r3 x2 12 fun q7 => bnd (f_X9_startOf N z q7 i4 x2) fun i6 x5 =>
  puti (some o) x5 8 141 i6 fun x8 =>
  some ((), x8)) else (some ((), x0))
set_option maxRecDepth 100000 in
set_option maxHeartbeats 4000000 in
theorem g_X5_blame (l : Launch) (N : Nat) (z : Nat → Nat) (o : Nat) (v1 : Int32) (x0 : Hp) : G l z m_X5_blame okT enV 0 [(0, va_rf (some o)), (1, .int v1)] [] x0 (f_X5_blame N z o v1 x0) := by
  unfold f_X5_blame
  refine G_aload_n 0 dX5_blame_0 rfl rfl ?_
  refine G_geti (k := 6) K_7 (by decide) rfl rfl rfl gw_434 rfl dX5_blame_1 (fun i1 => ?_)
  refine G_if_ne (tgt := 27) dX5_blame_4 (by decide) (fun _ => ?_) (fun _ => ?_)
  · refine G_aload_n 0 dX5_blame_7 rfl rfl ?_
    refine G_iload_n 1 dX5_blame_8 rfl rfl ?_
    refine G_puti (k := 6) K_7 (by decide) rfl rfl rfl gw_434 rfl (Or.inl rfl) nar_int.1 nar_int.2 dX5_blame_9 (fun x2 => ?_)
    refine G_aload_n 0 dX5_blame_12 rfl rfl ?_
    refine G_aload_n 0 dX5_blame_13 rfl rfl ?_
    refine G_getr (k := 2) K_7 (by decide) rfl rfl rfl gw_430 rfl dX5_blame_14 (fun r3 => ?_)
    refine G_aload_n 0 dX5_blame_17 rfl rfl ?_
    refine G_geti (k := 5) K_7 (by decide) rfl rfl rfl gw_433 rfl dX5_blame_18 (fun i4 => ?_)
    refine G_callV (av := [.int i4]) [va_rf (some o)] (fun q7 => ct_X9_startOf l N z q7 i4) K_11 rfl yn_X9_startOf (by decide) (by decide) gw_1224 gw_1225 gw_1226 gw_49 gw_1227 rfl (by simp only [hw_n, hw_i, hw_r, hw_j, hw_d]; decide) dX5_blame_21 (fun i6 x5 => ?_)
    refine G_puti (k := 1) K_7 (by decide) rfl rfl rfl gw_428 rfl (Or.inl rfl) nar_int.1 nar_int.2 dX5_blame_24 (fun x8 => ?_)
    exact G_ret trivial dX5_blame_27 rfl
  · exact G_ret trivial dX5_blame_27 rfl

theorem yn_X5_blame : Yn yX5_blame 1 := ⟨by decide +kernel, by decide +kernel, by decide +kernel⟩
theorem ct_X5_blame (l : Launch) (N : Nat) (z : Nat → Nat) (o : Nat) (v1 : Int32) : Ct l z yX5_blame cX5_blame 2 none 2 enV [.ref o, .int v1] (f_X5_blame N z o v1) :=
  Ct_v (fun x => G_lv0 (by simp only [lva_n, lva_i, lva_o, lva_r, lva_j]) (g_X5_blame l N z o v1 x)) (by decide +kernel) (by simp only [lgl_n, lgl_i, lgl_o, lgl_r, lgl_j]; decide)

theorem dX5_number_0 : decode cX5_number 0 = .ok (.aload_n 0, 1) := by decide +kernel
theorem dX5_number_1 : decode cX5_number 1 = .ok (.invokevirtual 62, 3) := by decide +kernel
theorem dX5_number_4 : decode cX5_number 4 = .ok (.bipush 35, 2) := by decide +kernel
theorem dX5_number_6 : decode cX5_number 6 = .ok (.if_icmp .eq 9, 3) := by decide +kernel
theorem dX5_number_9 : decode cX5_number 9 = .ok (.aload_n 0, 1) := by decide +kernel
theorem dX5_number_10 : decode cX5_number 10 = .ok (.invokevirtual 82, 3) := by decide +kernel
theorem dX5_number_13 : decode cX5_number 13 = .ok (.iload_n 1, 1) := by decide +kernel
theorem dX5_number_14 : decode cX5_number 14 = .ok (.ireturn, 1) := by decide +kernel
theorem dX5_number_15 : decode cX5_number 15 = .ok (.aload_n 0, 1) := by decide +kernel
theorem dX5_number_16 : decode cX5_number 16 = .ok (.getfield 26, 3) := by decide +kernel
theorem dX5_number_19 : decode cX5_number 19 = .ok (.aload_n 0, 1) := by decide +kernel
theorem dX5_number_20 : decode cX5_number 20 = .ok (.getfield 52, 3) := by decide +kernel
theorem dX5_number_23 : decode cX5_number 23 = .ok (.invokevirtual 180, 3) := by decide +kernel
theorem dX5_number_26 : decode cX5_number 26 = .ok (.l2i, 1) := by decide +kernel
theorem dX5_number_27 : decode cX5_number 27 = .ok (.istore_n 3, 1) := by decide +kernel
theorem dX5_number_28 : decode cX5_number 28 = .ok (.iload_n 3, 1) := by decide +kernel
theorem dX5_number_29 : decode cX5_number 29 = .ok (.iload_n 1, 1) := by decide +kernel
theorem dX5_number_30 : decode cX5_number 30 = .ok (.if_icmp .lt 8, 3) := by decide +kernel
theorem dX5_number_33 : decode cX5_number 33 = .ok (.iload_n 3, 1) := by decide +kernel
theorem dX5_number_34 : decode cX5_number 34 = .ok (.iload_n 2, 1) := by decide +kernel
theorem dX5_number_35 : decode cX5_number 35 = .ok (.if_icmp .le 8, 3) := by decide +kernel
theorem dX5_number_38 : decode cX5_number 38 = .ok (.aload_n 0, 1) := by decide +kernel
theorem dX5_number_39 : decode cX5_number 39 = .ok (.iconst 5, 1) := by decide +kernel
theorem dX5_number_40 : decode cX5_number 40 = .ok (.invokevirtual 137, 3) := by decide +kernel
theorem dX5_number_43 : decode cX5_number 43 = .ok (.aload_n 0, 1) := by decide +kernel
theorem dX5_number_44 : decode cX5_number 44 = .ok (.dup, 1) := by decide +kernel
theorem dX5_number_45 : decode cX5_number 45 = .ok (.getfield 52, 3) := by decide +kernel
theorem dX5_number_48 : decode cX5_number 48 = .ok (.iconst 1, 1) := by decide +kernel
theorem dX5_number_49 : decode cX5_number 49 = .ok (.iadd, 1) := by decide +kernel
theorem dX5_number_50 : decode cX5_number 50 = .ok (.putfield 52, 3) := by decide +kernel
theorem dX5_number_53 : decode cX5_number 53 = .ok (.iload_n 3, 1) := by decide +kernel
theorem dX5_number_54 : decode cX5_number 54 = .ok (.ireturn, 1) := by decide +kernel
abbrev m_X5_number : Mt := (cX5_number, RX5, "number", 4, .ireturn, 3)
def f_X5_number_b43 (N : Nat) (z : Nat → Nat) (o : Nat) (v3 : Int32) (x0 : Hp) : Option (Int32 × Hp) :=
  geti (some o) x0 8 145 fun i1 =>
  puti (some o) x0 8 145 (i1 + (1 : Int32)) fun x2 =>
  some (v3, x2)
def f_X5_number_b38 (N : Nat) (z : Nat → Nat) (o : Nat) (v3 : Int32) (x0 : Hp) : Option (Int32 × Hp) :=
  obj (some o) x0 8 fun q4 => bnd (f_X5_blame N z q4 (5 : Int32) x0) fun _ x3 =>
  f_X5_number_b43 N z o v3 x3
def f_X5_number (N : Nat) (z : Nat → Nat) (o : Nat) (v1 : Int32) (v2 : Int32) (x0 : Hp) : Option (Int32 × Hp) :=
  obj (some o) x0 8 fun q7 => bnd (f_X5_kind N z q7 x0) fun i6 x5 =>
  if i6 = (35 : Int32) then (getr (some o) x5 8 142 fun r8 =>
  geti (some o) x5 8 145 fun i9 =>
  obj r8 x5 12 fun q12 => bnd (f_X9_valueOf N z q12 i9 x5) fun i11 x10 =>
  if i11.toInt32 < v1 then (f_X5_number_b38 N z o i11.toInt32 x10) else (if i11.toInt32 ≤ v2 then (f_X5_number_b43 N z o i11.toInt32 x10) else (f_X5_number_b38 N z o i11.toInt32 x10))) else (obj (some o) x5 8 fun q14 => bnd (f_X5_fail N z q14 x5) fun _ x13 =>
  some (v1, x13))
set_option maxRecDepth 100000 in
set_option maxHeartbeats 4000000 in
theorem g_X5_number_b43 (l : Launch) (N : Nat) (z : Nat → Nat) (o : Nat) (v3 : Int32) (x0 : Hp) : G l z m_X5_number okT enI 43 [(0, va_rf (some o)), (3, .int v3)] [] x0 (f_X5_number_b43 N z o v3 x0) := by
  unfold f_X5_number_b43
  refine G_aload_n 0 dX5_number_43 rfl rfl ?_
  refine G_dup dX5_number_44 (rf_cat _) ?_
  refine G_geti (k := 5) K_7 (by decide) rfl rfl rfl gw_433 rfl dX5_number_45 (fun i1 => ?_)
  refine G_iconst (v := (1 : Int32)) dX5_number_48 rfl ?_
  refine G_iadd dX5_number_49 ?_
  refine G_puti (k := 5) K_7 (by decide) rfl rfl rfl gw_433 rfl (Or.inl rfl) nar_int.1 nar_int.2 dX5_number_50 (fun x2 => ?_)
  refine G_iload_n 1 dX5_number_53 rfl rfl ?_
  exact G_ret trivial dX5_number_54 rfl

set_option maxRecDepth 100000 in
set_option maxHeartbeats 4000000 in
theorem g_X5_number_b38 (l : Launch) (N : Nat) (z : Nat → Nat) (o : Nat) (v3 : Int32) (x0 : Hp) : G l z m_X5_number okT enI 38 [(0, va_rf (some o)), (3, .int v3)] [] x0 (f_X5_number_b38 N z o v3 x0) := by
  unfold f_X5_number_b38
  refine G_aload_n 0 dX5_number_38 rfl rfl ?_
  refine G_iconst (v := (5 : Int32)) dX5_number_39 rfl ?_
  refine G_callV (av := [.int (5 : Int32)]) [] (fun q4 => ct_X5_blame l N z q4 (5 : Int32)) K_7 rfl yn_X5_blame (by decide) (by decide) gw_1232 gw_1234 gw_s22 gw_41 gw_1235 rfl (by decide) dX5_number_40 (fun _ x3 => ?_)
  refine G_lv [0, 1] rfl ?_
  exact g_X5_number_b43 l N z o v3 x3

set_option maxRecDepth 100000 in
set_option maxHeartbeats 4000000 in
theorem g_X5_number (l : Launch) (N : Nat) (z : Nat → Nat) (o : Nat) (v1 : Int32) (v2 : Int32) (x0 : Hp) : G l z m_X5_number okT enI 0 [(0, va_rf (some o)), (1, .int v1), (2, .int v2)] [] x0 (f_X5_number N z o v1 v2 x0) := by
  unfold f_X5_number
  refine G_aload_n 0 dX5_number_0 rfl rfl ?_
  refine G_callV (av := []) [] (fun q7 => ct_X5_kind l N z q7) K_7 rfl yn_X5_kind (by decide) (by decide) gw_1211 gw_1213 gw_s19 gw_41 gw_1214 rfl (by decide) dX5_number_1 (fun i6 x5 => ?_)
  refine G_bipush (v := (35 : Int32)) dX5_number_4 (by decide) ?_
  refine G_icmp_eq (tgt := 15) dX5_number_6 (by decide) (fun _ => ?_) (fun _ => ?_)
  · refine G_aload_n 0 dX5_number_15 rfl rfl ?_
    refine G_getr (k := 2) K_7 (by decide) rfl rfl rfl gw_430 rfl dX5_number_16 (fun r8 => ?_)
    refine G_aload_n 0 dX5_number_19 rfl rfl ?_
    refine G_geti (k := 5) K_7 (by decide) rfl rfl rfl gw_433 rfl dX5_number_20 (fun i9 => ?_)
    refine G_callV (av := [.int i9]) [] (fun q12 => ct_X9_valueOf l N z q12 i9) K_11 rfl yn_X9_valueOf (by decide) (by decide) gw_1228 gw_1229 gw_1230 gw_49 gw_1231 rfl (by decide) dX5_number_23 (fun i11 x10 => ?_)
    refine G_l2i dX5_number_26 ?_
    refine G_istore_n (i := 3) (l2 := [(0, va_rf (some o)), (1, .int v1), (2, .int v2)]) [0, 1, 2] dX5_number_27 rfl (by decide) rfl (sok_a (by decide) (by decide) (sok_a (by decide) (by decide) (sok_b (by decide) rfl trivial))) ?_
    refine G_iload_n 0 dX5_number_28 rfl rfl ?_
    refine G_iload_n 2 dX5_number_29 rfl rfl ?_
    refine G_icmp_lt (tgt := 38) dX5_number_30 (by decide) (fun _ => ?_) (fun _ => ?_)
    · refine G_lv [1, 0] rfl ?_
      exact g_X5_number_b38 l N z o i11.toInt32 x10
    · refine G_iload_n 0 dX5_number_33 rfl rfl ?_
      refine G_iload_n 3 dX5_number_34 rfl rfl ?_
      refine G_icmp_le (tgt := 43) dX5_number_35 (by decide) (fun _ => ?_) (fun _ => ?_)
      · refine G_lv [1, 0] rfl ?_
        exact g_X5_number_b43 l N z o i11.toInt32 x10
      · refine G_lv [1, 0] rfl ?_
        exact g_X5_number_b38 l N z o i11.toInt32 x10
  · refine G_aload_n 0 dX5_number_9 rfl rfl ?_
    refine G_callV (av := []) [] (fun q14 => ct_X5_fail l N z q14) K_7 rfl yn_X5_fail (by decide) (by decide) gw_1220 gw_1222 gw_s21 gw_41 gw_1223 rfl (by decide) dX5_number_10 (fun _ x13 => ?_)
    refine G_iload_n 1 dX5_number_13 rfl rfl ?_
    exact G_ret trivial dX5_number_14 rfl

theorem yn_X5_number : Yn yX5_number 2 := ⟨by decide +kernel, by decide +kernel, by decide +kernel⟩
theorem ct_X5_number (l : Launch) (N : Nat) (z : Nat → Nat) (o : Nat) (v1 : Int32) (v2 : Int32) : Ct l z yX5_number cX5_number 4 (some .int) 3 enI [.ref o, .int v1, .int v2] (f_X5_number N z o v1 v2) :=
  Ct_i (fun x => G_lv0 (by simp only [lva_n, lva_i, lva_o, lva_r, lva_j]) (g_X5_number l N z o v1 v2 x)) (by decide +kernel) (by simp only [lgl_n, lgl_i, lgl_o, lgl_r, lgl_j]; decide)

theorem dX5_placeOf_0 : decode cX5_placeOf 0 = .ok (.iconst 0, 1) := by decide +kernel
theorem dX5_placeOf_1 : decode cX5_placeOf 1 = .ok (.istore 4, 2) := by decide +kernel
theorem dX5_placeOf_3 : decode cX5_placeOf 3 = .ok (.iload 4, 2) := by decide +kernel
theorem dX5_placeOf_5 : decode cX5_placeOf 5 = .ok (.iload_n 3, 1) := by decide +kernel
theorem dX5_placeOf_6 : decode cX5_placeOf 6 = .ok (.if_icmp .ge 28, 3) := by decide +kernel
theorem dX5_placeOf_9 : decode cX5_placeOf 9 = .ok (.iload 4, 2) := by decide +kernel
theorem dX5_placeOf_11 : decode cX5_placeOf 11 = .ok (.aload_n 2, 1) := by decide +kernel
theorem dX5_placeOf_12 : decode cX5_placeOf 12 = .ok (.arraylength, 1) := by decide +kernel
theorem dX5_placeOf_13 : decode cX5_placeOf 13 = .ok (.if_icmp .ge 21, 3) := by decide +kernel
theorem dX5_placeOf_16 : decode cX5_placeOf 16 = .ok (.aload_n 2, 1) := by decide +kernel
theorem dX5_placeOf_17 : decode cX5_placeOf 17 = .ok (.iload 4, 2) := by decide +kernel
theorem dX5_placeOf_19 : decode cX5_placeOf 19 = .ok (.laload, 1) := by decide +kernel
theorem dX5_placeOf_20 : decode cX5_placeOf 20 = .ok (.lload_n 0, 1) := by decide +kernel
theorem dX5_placeOf_21 : decode cX5_placeOf 21 = .ok (.lcmp, 1) := by decide +kernel
theorem dX5_placeOf_22 : decode cX5_placeOf 22 = .ok (.ifCond .ne 6, 3) := by decide +kernel
theorem dX5_placeOf_25 : decode cX5_placeOf 25 = .ok (.iload 4, 2) := by decide +kernel
theorem dX5_placeOf_27 : decode cX5_placeOf 27 = .ok (.ireturn, 1) := by decide +kernel
theorem dX5_placeOf_28 : decode cX5_placeOf 28 = .ok (.iinc 4 1, 3) := by decide +kernel
theorem dX5_placeOf_31 : decode cX5_placeOf 31 = .ok (.goto (-28), 3) := by decide +kernel
theorem dX5_placeOf_34 : decode cX5_placeOf 34 = .ok (.iconst (-1), 1) := by decide +kernel
theorem dX5_placeOf_35 : decode cX5_placeOf 35 = .ok (.ireturn, 1) := by decide +kernel
abbrev m_X5_placeOf : Mt := (cX5_placeOf, RX5, "placeOf", 5, .ireturn, 1)
def f_X5_placeOf_b3 (N : Nat) (z : Nat → Nat) : Nat → Int64 → Option Nat → Int32 → Int32 → Hp → Option (Int32 × Hp)
  | 0, _, _, _, _, _ => none
  | n + 1, v0, v2, v3, v4, x0 => if v3 ≤ v4 then (some ((-1 : Int32), x0)) else (alen v2 x0 102 fun i1 =>
  if i1 ≤ v4 then (some ((-1 : Int32), x0)) else (aldl v2 x0 102 v4 fun j2 =>
  if (lg_cmp j2 v0) = 0 then (some (v4, x0)) else (f_X5_placeOf_b3 N z n v0 v2 v3 (v4 + (1 : Int32)) x0)))
def f_X5_placeOf (N : Nat) (z : Nat → Nat) (v0 : Int64) (v2 : Option Nat) (v3 : Int32) (x0 : Hp) : Option (Int32 × Hp) :=
  f_X5_placeOf_b3 N z N v0 v2 v3 (0 : Int32) x0
set_option maxRecDepth 100000 in
set_option maxHeartbeats 4000000 in
theorem g_X5_placeOf_b3 (l : Launch) (N : Nat) (z : Nat → Nat) : ∀ (n : Nat) (v0 : Int64) (v2 : Option Nat) (v3 : Int32) (v4 : Int32) (x0 : Hp), G l z m_X5_placeOf okT enI 3 [(0, .long v0), (2, va_rf v2), (3, .int v3), (4, .int v4)] [] x0 (f_X5_placeOf_b3 N z n v0 v2 v3 v4 x0) := by
  intro n
  induction n with
  | zero => intro v0 v2 v3 v4 x0; exact G_none
  | succ n ih =>
  intro v0 v2 v3 v4 x0
  rw [f_X5_placeOf_b3]
  refine G_iload 3 dX5_placeOf_3 rfl ?_
  refine G_iload_n 2 dX5_placeOf_5 rfl rfl ?_
  refine G_icmp_ge (tgt := 34) dX5_placeOf_6 (by decide) (fun _ => ?_) (fun _ => ?_)
  · refine G_iconst (v := (-1 : Int32)) dX5_placeOf_34 rfl ?_
    exact G_ret trivial dX5_placeOf_35 rfl
  · refine G_iload 3 dX5_placeOf_9 rfl ?_
    refine G_aload_n 1 dX5_placeOf_11 rfl rfl ?_
    refine G_alen (t := 2) rfl (by decide) dX5_placeOf_12 (fun i1 => ?_)
    refine G_icmp_ge (tgt := 34) dX5_placeOf_13 (by decide) (fun _ => ?_) (fun _ => ?_)
    · refine G_iconst (v := (-1 : Int32)) dX5_placeOf_34 rfl ?_
      exact G_ret trivial dX5_placeOf_35 rfl
    · refine G_aload_n 1 dX5_placeOf_16 rfl rfl ?_
      refine G_iload 3 dX5_placeOf_17 rfl ?_
      refine G_lald dX5_placeOf_19 (fun j2 => ?_)
      refine G_lload_n 0 dX5_placeOf_20 rfl rfl ?_
      refine G_lcmp dX5_placeOf_21 ?_
      refine G_if_ne (tgt := 28) dX5_placeOf_22 (by decide) (fun _ => ?_) (fun _ => ?_)
      · refine G_iload 3 dX5_placeOf_25 rfl ?_
        exact G_ret trivial dX5_placeOf_27 rfl
      · refine G_iinc (i := 4) (l2 := [(0, .long v0), (2, va_rf v2), (3, .int v3)]) 3 [0, 1, 2] dX5_placeOf_28 rfl rfl (by decide) rfl (sok_a (by decide) (by decide) (sok_a (by decide) (by decide) (sok_b (by decide) rfl trivial))) ?_
        refine G_goto (tgt := 3) dX5_placeOf_31 (by decide) ?_
        refine G_lv [1, 2, 3, 0] rfl ?_
        exact ih v0 v2 v3 (v4 + (1 : Int32)) x0

set_option maxRecDepth 100000 in
set_option maxHeartbeats 4000000 in
theorem g_X5_placeOf (l : Launch) (N : Nat) (z : Nat → Nat) (v0 : Int64) (v2 : Option Nat) (v3 : Int32) (x0 : Hp) : G l z m_X5_placeOf okT enI 0 [(0, .long v0), (2, va_rf v2), (3, .int v3)] [] x0 (f_X5_placeOf N z v0 v2 v3 x0) := by
  unfold f_X5_placeOf
  refine G_iconst (v := (0 : Int32)) dX5_placeOf_0 rfl ?_
  refine G_istore (i := 4) (l2 := [(0, .long v0), (2, va_rf v2), (3, .int v3)]) [0, 1, 2] dX5_placeOf_1 (by decide) rfl (sok_a (by decide) (by decide) (sok_a (by decide) (by decide) (sok_b (by decide) rfl trivial))) ?_
  refine G_lv [1, 2, 3, 0] rfl ?_
  exact g_X5_placeOf_b3 l N z N v0 v2 v3 (0 : Int32) x0

theorem yn_X5_placeOf : Yn yX5_placeOf 3 := ⟨by decide +kernel, by decide +kernel, by decide +kernel⟩
theorem ct_X5_placeOf (l : Launch) (N : Nat) (z : Nat → Nat) (v0 : Int64) (v2 : Option Nat) (v3 : Int32) : Ct l z yX5_placeOf cX5_placeOf 5 (some .int) 1 enI [.long v0, va_rf v2, .int v3] (f_X5_placeOf N z v0 v2 v3) :=
  Ct_i (fun x => G_lv0 (by simp only [lva_n, lva_i, lva_o, lva_r, lva_j]) (g_X5_placeOf l N z v0 v2 v3 x)) (by decide +kernel) (by simp only [lgl_n, lgl_i, lgl_o, lgl_r, lgl_j]; decide)

theorem dX5_newName_0 : decode cX5_newName 0 = .ok (.aload_n 0, 1) := by decide +kernel
theorem dX5_newName_1 : decode cX5_newName 1 = .ok (.invokevirtual 62, 3) := by decide +kernel
theorem dX5_newName_4 : decode cX5_newName 4 = .ok (.bipush 34, 2) := by decide +kernel
theorem dX5_newName_6 : decode cX5_newName 6 = .ok (.if_icmp .eq 9, 3) := by decide +kernel
theorem dX5_newName_9 : decode cX5_newName 9 = .ok (.aload_n 0, 1) := by decide +kernel
theorem dX5_newName_10 : decode cX5_newName 10 = .ok (.invokevirtual 82, 3) := by decide +kernel
theorem dX5_newName_13 : decode cX5_newName 13 = .ok (.lconst 0, 1) := by decide +kernel
theorem dX5_newName_14 : decode cX5_newName 14 = .ok (.lreturn, 1) := by decide +kernel
theorem dX5_newName_15 : decode cX5_newName 15 = .ok (.aload_n 0, 1) := by decide +kernel
theorem dX5_newName_16 : decode cX5_newName 16 = .ok (.getfield 26, 3) := by decide +kernel
theorem dX5_newName_19 : decode cX5_newName 19 = .ok (.aload_n 0, 1) := by decide +kernel
theorem dX5_newName_20 : decode cX5_newName 20 = .ok (.getfield 52, 3) := by decide +kernel
theorem dX5_newName_23 : decode cX5_newName 23 = .ok (.invokevirtual 180, 3) := by decide +kernel
theorem dX5_newName_26 : decode cX5_newName 26 = .ok (.lstore_n 3, 1) := by decide +kernel
theorem dX5_newName_27 : decode cX5_newName 27 = .ok (.lload_n 3, 1) := by decide +kernel
theorem dX5_newName_28 : decode cX5_newName 28 = .ok (.aload_n 1, 1) := by decide +kernel
theorem dX5_newName_29 : decode cX5_newName 29 = .ok (.iload_n 2, 1) := by decide +kernel
theorem dX5_newName_30 : decode cX5_newName 30 = .ok (.invokestatic 191, 3) := by decide +kernel
theorem dX5_newName_33 : decode cX5_newName 33 = .ok (.iconst (-1), 1) := by decide +kernel
theorem dX5_newName_34 : decode cX5_newName 34 = .ok (.if_icmp .eq 11, 3) := by decide +kernel
theorem dX5_newName_37 : decode cX5_newName 37 = .ok (.aload_n 0, 1) := by decide +kernel
theorem dX5_newName_38 : decode cX5_newName 38 = .ok (.iconst 2, 1) := by decide +kernel
theorem dX5_newName_39 : decode cX5_newName 39 = .ok (.invokevirtual 137, 3) := by decide +kernel
theorem dX5_newName_42 : decode cX5_newName 42 = .ok (.goto 14, 3) := by decide +kernel
theorem dX5_newName_45 : decode cX5_newName 45 = .ok (.iload_n 2, 1) := by decide +kernel
theorem dX5_newName_46 : decode cX5_newName 46 = .ok (.aload_n 1, 1) := by decide +kernel
theorem dX5_newName_47 : decode cX5_newName 47 = .ok (.arraylength, 1) := by decide +kernel
theorem dX5_newName_48 : decode cX5_newName 48 = .ok (.if_icmp .lt 8, 3) := by decide +kernel
theorem dX5_newName_51 : decode cX5_newName 51 = .ok (.aload_n 0, 1) := by decide +kernel
theorem dX5_newName_52 : decode cX5_newName 52 = .ok (.iconst 4, 1) := by decide +kernel
theorem dX5_newName_53 : decode cX5_newName 53 = .ok (.invokevirtual 137, 3) := by decide +kernel
theorem dX5_newName_56 : decode cX5_newName 56 = .ok (.aload_n 0, 1) := by decide +kernel
theorem dX5_newName_57 : decode cX5_newName 57 = .ok (.dup, 1) := by decide +kernel
theorem dX5_newName_58 : decode cX5_newName 58 = .ok (.getfield 52, 3) := by decide +kernel
theorem dX5_newName_61 : decode cX5_newName 61 = .ok (.iconst 1, 1) := by decide +kernel
theorem dX5_newName_62 : decode cX5_newName 62 = .ok (.iadd, 1) := by decide +kernel
theorem dX5_newName_63 : decode cX5_newName 63 = .ok (.putfield 52, 3) := by decide +kernel
theorem dX5_newName_66 : decode cX5_newName 66 = .ok (.lload_n 3, 1) := by decide +kernel
theorem dX5_newName_67 : decode cX5_newName 67 = .ok (.lreturn, 1) := by decide +kernel
abbrev m_X5_newName : Mt := (cX5_newName, RX5, "newName", 5, .lreturn, 3)
def f_X5_newName_b56 (N : Nat) (z : Nat → Nat) (o : Nat) (v3 : Int64) (x0 : Hp) : Option (Int64 × Hp) :=
  geti (some o) x0 8 145 fun i1 =>
  puti (some o) x0 8 145 (i1 + (1 : Int32)) fun x2 =>
  some (v3, x2)
def f_X5_newName (N : Nat) (z : Nat → Nat) (o : Nat) (v1 : Option Nat) (v2 : Int32) (x0 : Hp) : Option (Int64 × Hp) :=
  obj (some o) x0 8 fun q5 => bnd (f_X5_kind N z q5 x0) fun i4 x3 =>
  if i4 = (34 : Int32) then (getr (some o) x3 8 142 fun r6 =>
  geti (some o) x3 8 145 fun i7 =>
  obj r6 x3 12 fun q10 => bnd (f_X9_valueOf N z q10 i7 x3) fun i9 x8 =>
  bnd (f_X5_placeOf N z i9 v1 v2 x8) fun i12 x11 =>
  if i12 = (-1 : Int32) then (alen v1 x11 102 fun i13 =>
  if v2 < i13 then (f_X5_newName_b56 N z o i9 x11) else (obj (some o) x11 8 fun q15 => bnd (f_X5_blame N z q15 (4 : Int32) x11) fun _ x14 =>
  f_X5_newName_b56 N z o i9 x14)) else (obj (some o) x11 8 fun q17 => bnd (f_X5_blame N z q17 (2 : Int32) x11) fun _ x16 =>
  f_X5_newName_b56 N z o i9 x16)) else (obj (some o) x3 8 fun q19 => bnd (f_X5_fail N z q19 x3) fun _ x18 =>
  some ((0 : Int64), x18))
set_option maxRecDepth 100000 in
set_option maxHeartbeats 4000000 in
theorem g_X5_newName_b56 (l : Launch) (N : Nat) (z : Nat → Nat) (o : Nat) (v3 : Int64) (x0 : Hp) : G l z m_X5_newName okT enL 56 [(0, va_rf (some o)), (3, .long v3)] [] x0 (f_X5_newName_b56 N z o v3 x0) := by
  unfold f_X5_newName_b56
  refine G_aload_n 0 dX5_newName_56 rfl rfl ?_
  refine G_dup dX5_newName_57 (rf_cat _) ?_
  refine G_geti (k := 5) K_7 (by decide) rfl rfl rfl gw_433 rfl dX5_newName_58 (fun i1 => ?_)
  refine G_iconst (v := (1 : Int32)) dX5_newName_61 rfl ?_
  refine G_iadd dX5_newName_62 ?_
  refine G_puti (k := 5) K_7 (by decide) rfl rfl rfl gw_433 rfl (Or.inl rfl) nar_int.1 nar_int.2 dX5_newName_63 (fun x2 => ?_)
  refine G_lload_n 1 dX5_newName_66 rfl rfl ?_
  exact G_ret trivial dX5_newName_67 rfl

set_option maxRecDepth 100000 in
set_option maxHeartbeats 4000000 in
theorem g_X5_newName (l : Launch) (N : Nat) (z : Nat → Nat) (o : Nat) (v1 : Option Nat) (v2 : Int32) (x0 : Hp) : G l z m_X5_newName okT enL 0 [(0, va_rf (some o)), (1, va_rf v1), (2, .int v2)] [] x0 (f_X5_newName N z o v1 v2 x0) := by
  unfold f_X5_newName
  refine G_aload_n 0 dX5_newName_0 rfl rfl ?_
  refine G_callV (av := []) [] (fun q5 => ct_X5_kind l N z q5) K_7 rfl yn_X5_kind (by decide) (by decide) gw_1211 gw_1213 gw_s19 gw_41 gw_1214 rfl (by decide) dX5_newName_1 (fun i4 x3 => ?_)
  refine G_bipush (v := (34 : Int32)) dX5_newName_4 (by decide) ?_
  refine G_icmp_eq (tgt := 15) dX5_newName_6 (by decide) (fun _ => ?_) (fun _ => ?_)
  · refine G_aload_n 0 dX5_newName_15 rfl rfl ?_
    refine G_getr (k := 2) K_7 (by decide) rfl rfl rfl gw_430 rfl dX5_newName_16 (fun r6 => ?_)
    refine G_aload_n 0 dX5_newName_19 rfl rfl ?_
    refine G_geti (k := 5) K_7 (by decide) rfl rfl rfl gw_433 rfl dX5_newName_20 (fun i7 => ?_)
    refine G_callV (av := [.int i7]) [] (fun q10 => ct_X9_valueOf l N z q10 i7) K_11 rfl yn_X9_valueOf (by decide) (by decide) gw_1228 gw_1229 gw_1230 gw_49 gw_1231 rfl (by decide) dX5_newName_23 (fun i9 x8 => ?_)
    refine G_lstore_n (i := 3) (l2 := [(0, va_rf (some o)), (1, va_rf v1), (2, .int v2)]) [0, 1, 2] dX5_newName_26 rfl (by decide) rfl (sok_a (by decide) (by decide) (sok_a (by decide) (by decide) (sok_b (by decide) rfl trivial))) (sok2_a (by decide) (sok2_a (by decide) (sok2_a (by decide) trivial))) ?_
    refine G_lload_n 0 dX5_newName_27 rfl rfl ?_
    refine G_aload_n 2 dX5_newName_28 rfl rfl ?_
    refine G_iload_n 3 dX5_newName_29 rfl rfl ?_
    refine G_callS (av := [.long i9, va_rf v1, .int v2]) [] (ct_X5_placeOf l N z i9 v1 v2) yn_X5_placeOf (by decide) (by decide) gw_1244 gw_1245 gw_41 gw_1246 rfl (by decide) dX5_newName_30 (fun i12 x11 => ?_)
    refine G_iconst (v := (-1 : Int32)) dX5_newName_33 rfl ?_
    refine G_icmp_eq (tgt := 45) dX5_newName_34 (by decide) (fun _ => ?_) (fun _ => ?_)
    · refine G_iload_n 3 dX5_newName_45 rfl rfl ?_
      refine G_aload_n 2 dX5_newName_46 rfl rfl ?_
      refine G_alen (t := 2) rfl (by decide) dX5_newName_47 (fun i13 => ?_)
      refine G_icmp_lt (tgt := 56) dX5_newName_48 (by decide) (fun _ => ?_) (fun _ => ?_)
      · refine G_lv [1, 0] rfl ?_
        exact g_X5_newName_b56 l N z o i9 x11
      · refine G_aload_n 1 dX5_newName_51 rfl rfl ?_
        refine G_iconst (v := (4 : Int32)) dX5_newName_52 rfl ?_
        refine G_callV (av := [.int (4 : Int32)]) [] (fun q15 => ct_X5_blame l N z q15 (4 : Int32)) K_7 rfl yn_X5_blame (by decide) (by decide) gw_1232 gw_1234 gw_s22 gw_41 gw_1235 rfl (by decide) dX5_newName_53 (fun _ x14 => ?_)
        refine G_lv [1, 0] rfl ?_
        exact g_X5_newName_b56 l N z o i9 x14
    · refine G_aload_n 1 dX5_newName_37 rfl rfl ?_
      refine G_iconst (v := (2 : Int32)) dX5_newName_38 rfl ?_
      refine G_callV (av := [.int (2 : Int32)]) [] (fun q17 => ct_X5_blame l N z q17 (2 : Int32)) K_7 rfl yn_X5_blame (by decide) (by decide) gw_1232 gw_1234 gw_s22 gw_41 gw_1235 rfl (by decide) dX5_newName_39 (fun _ x16 => ?_)
      refine G_goto (tgt := 56) dX5_newName_42 (by decide) ?_
      refine G_lv [1, 0] rfl ?_
      exact g_X5_newName_b56 l N z o i9 x16
  · refine G_aload_n 0 dX5_newName_9 rfl rfl ?_
    refine G_callV (av := []) [] (fun q19 => ct_X5_fail l N z q19) K_7 rfl yn_X5_fail (by decide) (by decide) gw_1220 gw_1222 gw_s21 gw_41 gw_1223 rfl (by decide) dX5_newName_10 (fun _ x18 => ?_)
    refine G_lconst (v := (0 : Int64)) dX5_newName_13 (by decide) ?_
    exact G_ret trivial dX5_newName_14 rfl

theorem yn_X5_newName : Yn yX5_newName 2 := ⟨by decide +kernel, by decide +kernel, by decide +kernel⟩
theorem ct_X5_newName (l : Launch) (N : Nat) (z : Nat → Nat) (o : Nat) (v1 : Option Nat) (v2 : Int32) : Ct l z yX5_newName cX5_newName 5 (some .long) 3 enL [.ref o, va_rf v1, .int v2] (f_X5_newName N z o v1 v2) :=
  Ct_l (fun x => G_lv0 (by simp only [lva_n, lva_i, lva_o, lva_r, lva_j]) (g_X5_newName l N z o v1 v2 x)) (by decide +kernel) (by simp only [lgl_n, lgl_i, lgl_o, lgl_r, lgl_j]; decide)

theorem dX5_takes_0 : decode cX5_takes 0 = .ok (.aload_n 0, 1) := by decide +kernel
theorem dX5_takes_1 : decode cX5_takes 1 = .ok (.invokevirtual 62, 3) := by decide +kernel
theorem dX5_takes_4 : decode cX5_takes 4 = .ok (.iload_n 1, 1) := by decide +kernel
theorem dX5_takes_5 : decode cX5_takes 5 = .ok (.if_icmp .eq 5, 3) := by decide +kernel
theorem dX5_takes_8 : decode cX5_takes 8 = .ok (.iconst 0, 1) := by decide +kernel
theorem dX5_takes_9 : decode cX5_takes 9 = .ok (.ireturn, 1) := by decide +kernel
theorem dX5_takes_10 : decode cX5_takes 10 = .ok (.aload_n 0, 1) := by decide +kernel
theorem dX5_takes_11 : decode cX5_takes 11 = .ok (.dup, 1) := by decide +kernel
theorem dX5_takes_12 : decode cX5_takes 12 = .ok (.getfield 52, 3) := by decide +kernel
theorem dX5_takes_15 : decode cX5_takes 15 = .ok (.iconst 1, 1) := by decide +kernel
theorem dX5_takes_16 : decode cX5_takes 16 = .ok (.iadd, 1) := by decide +kernel
theorem dX5_takes_17 : decode cX5_takes 17 = .ok (.putfield 52, 3) := by decide +kernel
theorem dX5_takes_20 : decode cX5_takes 20 = .ok (.iconst 1, 1) := by decide +kernel
theorem dX5_takes_21 : decode cX5_takes 21 = .ok (.ireturn, 1) := by decide +kernel
abbrev m_X5_takes : Mt := (cX5_takes, RX5, "takes", 2, .ireturn, 3)
def f_X5_takes (N : Nat) (z : Nat → Nat) (o : Nat) (v1 : Int32) (x0 : Hp) : Option (Int32 × Hp) :=
  obj (some o) x0 8 fun q3 => bnd (f_X5_kind N z q3 x0) fun i2 x1 =>
  if i2 = v1 then (geti (some o) x1 8 145 fun i4 =>
  puti (some o) x1 8 145 (i4 + (1 : Int32)) fun x5 =>
  some ((1 : Int32), x5)) else (some ((0 : Int32), x1))
set_option maxRecDepth 100000 in
set_option maxHeartbeats 4000000 in
theorem g_X5_takes (l : Launch) (N : Nat) (z : Nat → Nat) (o : Nat) (v1 : Int32) (x0 : Hp) : G l z m_X5_takes okZ enI 0 [(0, va_rf (some o)), (1, .int v1)] [] x0 (f_X5_takes N z o v1 x0) := by
  unfold f_X5_takes
  refine G_aload_n 0 dX5_takes_0 rfl rfl ?_
  refine G_callV (av := []) [] (fun q3 => ct_X5_kind l N z q3) K_7 rfl yn_X5_kind (by decide) (by decide) gw_1211 gw_1213 gw_s19 gw_41 gw_1214 rfl (by decide) dX5_takes_1 (fun i2 x1 => ?_)
  refine G_iload_n 1 dX5_takes_4 rfl rfl ?_
  refine G_icmp_eq (tgt := 10) dX5_takes_5 (by decide) (fun _ => ?_) (fun _ => ?_)
  · refine G_aload_n 0 dX5_takes_10 rfl rfl ?_
    refine G_dup dX5_takes_11 (rf_cat _) ?_
    refine G_geti (k := 5) K_7 (by decide) rfl rfl rfl gw_433 rfl dX5_takes_12 (fun i4 => ?_)
    refine G_iconst (v := (1 : Int32)) dX5_takes_15 rfl ?_
    refine G_iadd dX5_takes_16 ?_
    refine G_puti (k := 5) K_7 (by decide) rfl rfl rfl gw_433 rfl (Or.inl rfl) nar_int.1 nar_int.2 dX5_takes_17 (fun x5 => ?_)
    refine G_iconst (v := (1 : Int32)) dX5_takes_20 rfl ?_
    exact G_ret (Or.inr rfl) dX5_takes_21 rfl
  · refine G_iconst (v := (0 : Int32)) dX5_takes_8 rfl ?_
    exact G_ret (Or.inl rfl) dX5_takes_9 rfl

theorem yn_X5_takes : Yn yX5_takes 1 := ⟨by decide +kernel, by decide +kernel, by decide +kernel⟩
theorem ct_X5_takes (l : Launch) (N : Nat) (z : Nat → Nat) (o : Nat) (v1 : Int32) : Ct l z yX5_takes cX5_takes 2 (some .boolean) 3 enI [.ref o, .int v1] (f_X5_takes N z o v1) :=
  Ct_z (fun x => G_lv0 (by simp only [lva_n, lva_i, lva_o, lva_r, lva_j]) (g_X5_takes l N z o v1 x)) (by decide +kernel) (by simp only [lgl_n, lgl_i, lgl_o, lgl_r, lgl_j]; decide)

theorem dX5_toldLane_0 : decode cX5_toldLane 0 = .ok (.aload_n 0, 1) := by decide +kernel
theorem dX5_toldLane_1 : decode cX5_toldLane 1 = .ok (.invokevirtual 62, 3) := by decide +kernel
theorem dX5_toldLane_4 : decode cX5_toldLane 4 = .ok (.bipush 34, 2) := by decide +kernel
theorem dX5_toldLane_6 : decode cX5_toldLane 6 = .ok (.if_icmp .eq 9, 3) := by decide +kernel
theorem dX5_toldLane_9 : decode cX5_toldLane 9 = .ok (.aload_n 0, 1) := by decide +kernel
theorem dX5_toldLane_10 : decode cX5_toldLane 10 = .ok (.invokevirtual 82, 3) := by decide +kernel
theorem dX5_toldLane_13 : decode cX5_toldLane 13 = .ok (.iconst (-1), 1) := by decide +kernel
theorem dX5_toldLane_14 : decode cX5_toldLane 14 = .ok (.ireturn, 1) := by decide +kernel
theorem dX5_toldLane_15 : decode cX5_toldLane 15 = .ok (.aload_n 0, 1) := by decide +kernel
theorem dX5_toldLane_16 : decode cX5_toldLane 16 = .ok (.getfield 26, 3) := by decide +kernel
theorem dX5_toldLane_19 : decode cX5_toldLane 19 = .ok (.aload_n 0, 1) := by decide +kernel
theorem dX5_toldLane_20 : decode cX5_toldLane 20 = .ok (.getfield 52, 3) := by decide +kernel
theorem dX5_toldLane_23 : decode cX5_toldLane 23 = .ok (.invokevirtual 180, 3) := by decide +kernel
theorem dX5_toldLane_26 : decode cX5_toldLane 26 = .ok (.aload_n 0, 1) := by decide +kernel
theorem dX5_toldLane_27 : decode cX5_toldLane 27 = .ok (.getfield 30, 3) := by decide +kernel
theorem dX5_toldLane_30 : decode cX5_toldLane 30 = .ok (.aload_n 0, 1) := by decide +kernel
theorem dX5_toldLane_31 : decode cX5_toldLane 31 = .ok (.getfield 17, 3) := by decide +kernel
theorem dX5_toldLane_34 : decode cX5_toldLane 34 = .ok (.getfield 88, 3) := by decide +kernel
theorem dX5_toldLane_37 : decode cX5_toldLane 37 = .ok (.invokestatic 191, 3) := by decide +kernel
theorem dX5_toldLane_40 : decode cX5_toldLane 40 = .ok (.istore_n 1, 1) := by decide +kernel
theorem dX5_toldLane_41 : decode cX5_toldLane 41 = .ok (.iload_n 1, 1) := by decide +kernel
theorem dX5_toldLane_42 : decode cX5_toldLane 42 = .ok (.iconst (-1), 1) := by decide +kernel
theorem dX5_toldLane_43 : decode cX5_toldLane 43 = .ok (.if_icmp .ne 8, 3) := by decide +kernel
theorem dX5_toldLane_46 : decode cX5_toldLane 46 = .ok (.aload_n 0, 1) := by decide +kernel
theorem dX5_toldLane_47 : decode cX5_toldLane 47 = .ok (.iconst 3, 1) := by decide +kernel
theorem dX5_toldLane_48 : decode cX5_toldLane 48 = .ok (.invokevirtual 137, 3) := by decide +kernel
theorem dX5_toldLane_51 : decode cX5_toldLane 51 = .ok (.aload_n 0, 1) := by decide +kernel
theorem dX5_toldLane_52 : decode cX5_toldLane 52 = .ok (.dup, 1) := by decide +kernel
theorem dX5_toldLane_53 : decode cX5_toldLane 53 = .ok (.getfield 52, 3) := by decide +kernel
theorem dX5_toldLane_56 : decode cX5_toldLane 56 = .ok (.iconst 1, 1) := by decide +kernel
theorem dX5_toldLane_57 : decode cX5_toldLane 57 = .ok (.iadd, 1) := by decide +kernel
theorem dX5_toldLane_58 : decode cX5_toldLane 58 = .ok (.putfield 52, 3) := by decide +kernel
theorem dX5_toldLane_61 : decode cX5_toldLane 61 = .ok (.iload_n 1, 1) := by decide +kernel
theorem dX5_toldLane_62 : decode cX5_toldLane 62 = .ok (.ireturn, 1) := by decide +kernel
abbrev m_X5_toldLane : Mt := (cX5_toldLane, RX5, "toldLane", 2, .ireturn, 3)
def f_X5_toldLane_b51 (N : Nat) (z : Nat → Nat) (o : Nat) (v1 : Int32) (x0 : Hp) : Option (Int32 × Hp) :=
  geti (some o) x0 8 145 fun i1 =>
  puti (some o) x0 8 145 (i1 + (1 : Int32)) fun x2 =>
  some (v1, x2)
def f_X5_toldLane (N : Nat) (z : Nat → Nat) (o : Nat) (x0 : Hp) : Option (Int32 × Hp) :=
  obj (some o) x0 8 fun q5 => bnd (f_X5_kind N z q5 x0) fun i4 x3 =>
  if i4 = (34 : Int32) then (getr (some o) x3 8 142 fun r6 =>
  geti (some o) x3 8 145 fun i7 =>
  obj r6 x3 12 fun q10 => bnd (f_X9_valueOf N z q10 i7 x3) fun i9 x8 =>
  getr (some o) x8 8 143 fun r11 =>
  getr (some o) x8 8 140 fun r12 =>
  geti r12 x8 9 163 fun i13 =>
  bnd (f_X5_placeOf N z i9 r11 i13 x8) fun i15 x14 =>
  if i15 = (-1 : Int32) then (obj (some o) x14 8 fun q17 => bnd (f_X5_blame N z q17 (3 : Int32) x14) fun _ x16 =>
  f_X5_toldLane_b51 N z o i15 x16) else (f_X5_toldLane_b51 N z o i15 x14)) else (obj (some o) x3 8 fun q19 => bnd (f_X5_fail N z q19 x3) fun _ x18 =>
  some ((-1 : Int32), x18))
set_option maxRecDepth 100000 in
set_option maxHeartbeats 4000000 in
theorem g_X5_toldLane_b51 (l : Launch) (N : Nat) (z : Nat → Nat) (o : Nat) (v1 : Int32) (x0 : Hp) : G l z m_X5_toldLane okT enI 51 [(0, va_rf (some o)), (1, .int v1)] [] x0 (f_X5_toldLane_b51 N z o v1 x0) := by
  unfold f_X5_toldLane_b51
  refine G_aload_n 0 dX5_toldLane_51 rfl rfl ?_
  refine G_dup dX5_toldLane_52 (rf_cat _) ?_
  refine G_geti (k := 5) K_7 (by decide) rfl rfl rfl gw_433 rfl dX5_toldLane_53 (fun i1 => ?_)
  refine G_iconst (v := (1 : Int32)) dX5_toldLane_56 rfl ?_
  refine G_iadd dX5_toldLane_57 ?_
  refine G_puti (k := 5) K_7 (by decide) rfl rfl rfl gw_433 rfl (Or.inl rfl) nar_int.1 nar_int.2 dX5_toldLane_58 (fun x2 => ?_)
  refine G_iload_n 1 dX5_toldLane_61 rfl rfl ?_
  exact G_ret trivial dX5_toldLane_62 rfl

set_option maxRecDepth 100000 in
set_option maxHeartbeats 4000000 in
theorem g_X5_toldLane (l : Launch) (N : Nat) (z : Nat → Nat) (o : Nat) (x0 : Hp) : G l z m_X5_toldLane okT enI 0 [(0, va_rf (some o))] [] x0 (f_X5_toldLane N z o x0) := by
  unfold f_X5_toldLane
  refine G_aload_n 0 dX5_toldLane_0 rfl rfl ?_
  refine G_callV (av := []) [] (fun q5 => ct_X5_kind l N z q5) K_7 rfl yn_X5_kind (by decide) (by decide) gw_1211 gw_1213 gw_s19 gw_41 gw_1214 rfl (by decide) dX5_toldLane_1 (fun i4 x3 => ?_)
  refine G_bipush (v := (34 : Int32)) dX5_toldLane_4 (by decide) ?_
  refine G_icmp_eq (tgt := 15) dX5_toldLane_6 (by decide) (fun _ => ?_) (fun _ => ?_)
  · refine G_aload_n 0 dX5_toldLane_15 rfl rfl ?_
    refine G_getr (k := 2) K_7 (by decide) rfl rfl rfl gw_430 rfl dX5_toldLane_16 (fun r6 => ?_)
    refine G_aload_n 0 dX5_toldLane_19 rfl rfl ?_
    refine G_geti (k := 5) K_7 (by decide) rfl rfl rfl gw_433 rfl dX5_toldLane_20 (fun i7 => ?_)
    refine G_callV (av := [.int i7]) [] (fun q10 => ct_X9_valueOf l N z q10 i7) K_11 rfl yn_X9_valueOf (by decide) (by decide) gw_1228 gw_1229 gw_1230 gw_49 gw_1231 rfl (by decide) dX5_toldLane_23 (fun i9 x8 => ?_)
    refine G_aload_n 0 dX5_toldLane_26 rfl rfl ?_
    refine G_getr (k := 3) K_7 (by decide) rfl rfl rfl gw_431 rfl dX5_toldLane_27 (fun r11 => ?_)
    refine G_aload_n 0 dX5_toldLane_30 rfl rfl ?_
    refine G_getr (k := 0) K_7 (by decide) rfl rfl rfl gw_426 rfl dX5_toldLane_31 (fun r12 => ?_)
    refine G_geti (k := 3) K_8 (by decide) rfl rfl rfl gw_314 rfl dX5_toldLane_34 (fun i13 => ?_)
    refine G_callS (av := [.long i9, va_rf r11, .int i13]) [] (ct_X5_placeOf l N z i9 r11 i13) yn_X5_placeOf (by decide) (by decide) gw_1244 gw_1245 gw_41 gw_1246 rfl (by decide) dX5_toldLane_37 (fun i15 x14 => ?_)
    refine G_istore_n (i := 1) (l2 := [(0, va_rf (some o))]) [0] dX5_toldLane_40 rfl (by decide) rfl (sok_b (by decide) (rf_cat _) trivial) ?_
    refine G_iload_n 0 dX5_toldLane_41 rfl rfl ?_
    refine G_iconst (v := (-1 : Int32)) dX5_toldLane_42 rfl ?_
    refine G_icmp_ne (tgt := 51) dX5_toldLane_43 (by decide) (fun _ => ?_) (fun _ => ?_)
    · refine G_aload_n 1 dX5_toldLane_46 rfl rfl ?_
      refine G_iconst (v := (3 : Int32)) dX5_toldLane_47 rfl ?_
      refine G_callV (av := [.int (3 : Int32)]) [] (fun q17 => ct_X5_blame l N z q17 (3 : Int32)) K_7 rfl yn_X5_blame (by decide) (by decide) gw_1232 gw_1234 gw_s22 gw_41 gw_1235 rfl (by decide) dX5_toldLane_48 (fun _ x16 => ?_)
      refine G_lv [1, 0] rfl ?_
      exact g_X5_toldLane_b51 l N z o i15 x16
    · refine G_lv [1, 0] rfl ?_
      exact g_X5_toldLane_b51 l N z o i15 x14
  · refine G_aload_n 0 dX5_toldLane_9 rfl rfl ?_
    refine G_callV (av := []) [] (fun q19 => ct_X5_fail l N z q19) K_7 rfl yn_X5_fail (by decide) (by decide) gw_1220 gw_1222 gw_s21 gw_41 gw_1223 rfl (by decide) dX5_toldLane_10 (fun _ x18 => ?_)
    refine G_iconst (v := (-1 : Int32)) dX5_toldLane_13 rfl ?_
    exact G_ret trivial dX5_toldLane_14 rfl

theorem yn_X5_toldLane : Yn yX5_toldLane 0 := ⟨by decide +kernel, by decide +kernel, by decide +kernel⟩
theorem ct_X5_toldLane (l : Launch) (N : Nat) (z : Nat → Nat) (o : Nat) : Ct l z yX5_toldLane cX5_toldLane 2 (some .int) 3 enI [.ref o] (f_X5_toldLane N z o) :=
  Ct_i (fun x => G_lv0 (by simp only [lva_n, lva_i, lva_o, lva_r, lva_j]) (g_X5_toldLane l N z o x)) (by decide +kernel) (by simp only [lgl_n, lgl_i, lgl_o, lgl_r, lgl_j]; decide)

theorem dX5_need_0 : decode cX5_need 0 = .ok (.aload_n 0, 1) := by decide +kernel
theorem dX5_need_1 : decode cX5_need 1 = .ok (.invokevirtual 62, 3) := by decide +kernel
theorem dX5_need_4 : decode cX5_need 4 = .ok (.iload_n 1, 1) := by decide +kernel
theorem dX5_need_5 : decode cX5_need 5 = .ok (.if_icmp .ne 16, 3) := by decide +kernel
theorem dX5_need_8 : decode cX5_need 8 = .ok (.aload_n 0, 1) := by decide +kernel
theorem dX5_need_9 : decode cX5_need 9 = .ok (.dup, 1) := by decide +kernel
theorem dX5_need_10 : decode cX5_need 10 = .ok (.getfield 52, 3) := by decide +kernel
theorem dX5_need_13 : decode cX5_need 13 = .ok (.iconst 1, 1) := by decide +kernel
theorem dX5_need_14 : decode cX5_need 14 = .ok (.iadd, 1) := by decide +kernel
theorem dX5_need_15 : decode cX5_need 15 = .ok (.putfield 52, 3) := by decide +kernel
theorem dX5_need_18 : decode cX5_need 18 = .ok (.goto 7, 3) := by decide +kernel
theorem dX5_need_21 : decode cX5_need 21 = .ok (.aload_n 0, 1) := by decide +kernel
theorem dX5_need_22 : decode cX5_need 22 = .ok (.invokevirtual 82, 3) := by decide +kernel
theorem dX5_need_25 : decode cX5_need 25 = .ok (.return_, 1) := by decide +kernel
abbrev m_X5_need : Mt := (cX5_need, RX5, "need", 2, .return_, 3)
def f_X5_need (N : Nat) (z : Nat → Nat) (o : Nat) (v1 : Int32) (x0 : Hp) : Option (Unit × Hp) :=
  obj (some o) x0 8 fun q3 => bnd (f_X5_kind N z q3 x0) fun i2 x1 =>
  if i2 = v1 then (geti (some o) x1 8 145 fun i6 =>
  puti (some o) x1 8 145 (i6 + (1 : Int32)) fun x7 =>
  some ((), x7)) else (obj (some o) x1 8 fun q5 => bnd (f_X5_fail N z q5 x1) fun _ x4 =>
  some ((), x4))
set_option maxRecDepth 100000 in
set_option maxHeartbeats 4000000 in
theorem g_X5_need (l : Launch) (N : Nat) (z : Nat → Nat) (o : Nat) (v1 : Int32) (x0 : Hp) : G l z m_X5_need okT enV 0 [(0, va_rf (some o)), (1, .int v1)] [] x0 (f_X5_need N z o v1 x0) := by
  unfold f_X5_need
  refine G_aload_n 0 dX5_need_0 rfl rfl ?_
  refine G_callV (av := []) [] (fun q3 => ct_X5_kind l N z q3) K_7 rfl yn_X5_kind (by decide) (by decide) gw_1211 gw_1213 gw_s19 gw_41 gw_1214 rfl (by decide) dX5_need_1 (fun i2 x1 => ?_)
  refine G_iload_n 1 dX5_need_4 rfl rfl ?_
  refine G_icmp_ne (tgt := 21) dX5_need_5 (by decide) (fun _ => ?_) (fun _ => ?_)
  · refine G_aload_n 0 dX5_need_8 rfl rfl ?_
    refine G_dup dX5_need_9 (rf_cat _) ?_
    refine G_geti (k := 5) K_7 (by decide) rfl rfl rfl gw_433 rfl dX5_need_10 (fun i6 => ?_)
    refine G_iconst (v := (1 : Int32)) dX5_need_13 rfl ?_
    refine G_iadd dX5_need_14 ?_
    refine G_puti (k := 5) K_7 (by decide) rfl rfl rfl gw_433 rfl (Or.inl rfl) nar_int.1 nar_int.2 dX5_need_15 (fun x7 => ?_)
    refine G_goto (tgt := 25) dX5_need_18 (by decide) ?_
    exact G_ret trivial dX5_need_25 rfl
  · refine G_aload_n 0 dX5_need_21 rfl rfl ?_
    refine G_callV (av := []) [] (fun q5 => ct_X5_fail l N z q5) K_7 rfl yn_X5_fail (by decide) (by decide) gw_1220 gw_1222 gw_s21 gw_41 gw_1223 rfl (by decide) dX5_need_22 (fun _ x4 => ?_)
    exact G_ret trivial dX5_need_25 rfl

theorem yn_X5_need : Yn yX5_need 1 := ⟨by decide +kernel, by decide +kernel, by decide +kernel⟩
theorem ct_X5_need (l : Launch) (N : Nat) (z : Nat → Nat) (o : Nat) (v1 : Int32) : Ct l z yX5_need cX5_need 2 none 3 enV [.ref o, .int v1] (f_X5_need N z o v1) :=
  Ct_v (fun x => G_lv0 (by simp only [lva_n, lva_i, lva_o, lva_r, lva_j]) (g_X5_need l N z o v1 x)) (by decide +kernel) (by simp only [lgl_n, lgl_i, lgl_o, lgl_r, lgl_j]; decide)

theorem dX5_keepName_0 : decode cX5_keepName 0 = .ok (.iload_n 1, 1) := by decide +kernel
theorem dX5_keepName_1 : decode cX5_keepName 1 = .ok (.ifCond .lt 13, 3) := by decide +kernel
theorem dX5_keepName_4 : decode cX5_keepName 4 = .ok (.iload_n 1, 1) := by decide +kernel
theorem dX5_keepName_5 : decode cX5_keepName 5 = .ok (.aload_n 0, 1) := by decide +kernel
theorem dX5_keepName_6 : decode cX5_keepName 6 = .ok (.arraylength, 1) := by decide +kernel
theorem dX5_keepName_7 : decode cX5_keepName 7 = .ok (.if_icmp .ge 7, 3) := by decide +kernel
theorem dX5_keepName_10 : decode cX5_keepName 10 = .ok (.aload_n 0, 1) := by decide +kernel
theorem dX5_keepName_11 : decode cX5_keepName 11 = .ok (.iload_n 1, 1) := by decide +kernel
theorem dX5_keepName_12 : decode cX5_keepName 12 = .ok (.lload_n 2, 1) := by decide +kernel
theorem dX5_keepName_13 : decode cX5_keepName 13 = .ok (.lastore, 1) := by decide +kernel
theorem dX5_keepName_14 : decode cX5_keepName 14 = .ok (.return_, 1) := by decide +kernel
abbrev m_X5_keepName : Mt := (cX5_keepName, RX5, "keepName", 4, .return_, 1)
def f_X5_keepName (N : Nat) (z : Nat → Nat) (v0 : Option Nat) (v1 : Int32) (v2 : Int64) (x0 : Hp) : Option (Unit × Hp) :=
  if v1 < 0 then (some ((), x0)) else (alen v0 x0 102 fun i1 =>
  if i1 ≤ v1 then (some ((), x0)) else (astl v0 x0 102 v1 v2 fun x2 =>
  some ((), x2)))
set_option maxRecDepth 100000 in
set_option maxHeartbeats 4000000 in
theorem g_X5_keepName (l : Launch) (N : Nat) (z : Nat → Nat) (v0 : Option Nat) (v1 : Int32) (v2 : Int64) (x0 : Hp) : G l z m_X5_keepName okT enV 0 [(0, va_rf v0), (1, .int v1), (2, .long v2)] [] x0 (f_X5_keepName N z v0 v1 v2 x0) := by
  unfold f_X5_keepName
  refine G_iload_n 1 dX5_keepName_0 rfl rfl ?_
  refine G_if_lt (tgt := 14) dX5_keepName_1 (by decide) (fun _ => ?_) (fun _ => ?_)
  · exact G_ret trivial dX5_keepName_14 rfl
  · refine G_iload_n 1 dX5_keepName_4 rfl rfl ?_
    refine G_aload_n 0 dX5_keepName_5 rfl rfl ?_
    refine G_alen (t := 2) rfl (by decide) dX5_keepName_6 (fun i1 => ?_)
    refine G_icmp_ge (tgt := 14) dX5_keepName_7 (by decide) (fun _ => ?_) (fun _ => ?_)
    · exact G_ret trivial dX5_keepName_14 rfl
    · refine G_aload_n 0 dX5_keepName_10 rfl rfl ?_
      refine G_iload_n 1 dX5_keepName_11 rfl rfl ?_
      refine G_lload_n 2 dX5_keepName_12 rfl rfl ?_
      refine G_last dX5_keepName_13 (fun x2 => ?_)
      exact G_ret trivial dX5_keepName_14 rfl

theorem yn_X5_keepName : Yn yX5_keepName 3 := ⟨by decide +kernel, by decide +kernel, by decide +kernel⟩
theorem ct_X5_keepName (l : Launch) (N : Nat) (z : Nat → Nat) (v0 : Option Nat) (v1 : Int32) (v2 : Int64) : Ct l z yX5_keepName cX5_keepName 4 none 1 enV [va_rf v0, .int v1, .long v2] (f_X5_keepName N z v0 v1 v2) :=
  Ct_v (fun x => G_lv0 (by simp only [lva_n, lva_i, lva_o, lva_r, lva_j]) (g_X5_keepName l N z v0 v1 v2 x)) (by decide +kernel) (by simp only [lgl_n, lgl_i, lgl_o, lgl_r, lgl_j]; decide)

theorem dX5_readLane_0 : decode cX5_readLane 0 = .ok (.aload_n 0, 1) := by decide +kernel
theorem dX5_readLane_1 : decode cX5_readLane 1 = .ok (.dup, 1) := by decide +kernel
theorem dX5_readLane_2 : decode cX5_readLane 2 = .ok (.getfield 52, 3) := by decide +kernel
theorem dX5_readLane_5 : decode cX5_readLane 5 = .ok (.iconst 1, 1) := by decide +kernel
theorem dX5_readLane_6 : decode cX5_readLane 6 = .ok (.iadd, 1) := by decide +kernel
theorem dX5_readLane_7 : decode cX5_readLane 7 = .ok (.putfield 52, 3) := by decide +kernel
theorem dX5_readLane_10 : decode cX5_readLane 10 = .ok (.aload_n 0, 1) := by decide +kernel
theorem dX5_readLane_11 : decode cX5_readLane 11 = .ok (.aload_n 0, 1) := by decide +kernel
theorem dX5_readLane_12 : decode cX5_readLane 12 = .ok (.getfield 30, 3) := by decide +kernel
theorem dX5_readLane_15 : decode cX5_readLane 15 = .ok (.aload_n 0, 1) := by decide +kernel
theorem dX5_readLane_16 : decode cX5_readLane 16 = .ok (.getfield 17, 3) := by decide +kernel
theorem dX5_readLane_19 : decode cX5_readLane 19 = .ok (.getfield 88, 3) := by decide +kernel
theorem dX5_readLane_22 : decode cX5_readLane 22 = .ok (.invokevirtual 91, 3) := by decide +kernel
theorem dX5_readLane_25 : decode cX5_readLane 25 = .ok (.lstore_n 1, 1) := by decide +kernel
theorem dX5_readLane_26 : decode cX5_readLane 26 = .ok (.aload_n 0, 1) := by decide +kernel
theorem dX5_readLane_27 : decode cX5_readLane 27 = .ok (.iconst 2, 1) := by decide +kernel
theorem dX5_readLane_28 : decode cX5_readLane 28 = .ok (.invokevirtual 95, 3) := by decide +kernel
theorem dX5_readLane_31 : decode cX5_readLane 31 = .ok (.ifCond .eq 10, 3) := by decide +kernel
theorem dX5_readLane_34 : decode cX5_readLane 34 = .ok (.aload_n 0, 1) := by decide +kernel
theorem dX5_readLane_35 : decode cX5_readLane 35 = .ok (.invokevirtual 99, 3) := by decide +kernel
theorem dX5_readLane_38 : decode cX5_readLane 38 = .ok (.goto 4, 3) := by decide +kernel
theorem dX5_readLane_41 : decode cX5_readLane 41 = .ok (.iconst (-1), 1) := by decide +kernel
theorem dX5_readLane_42 : decode cX5_readLane 42 = .ok (.istore_n 3, 1) := by decide +kernel
theorem dX5_readLane_43 : decode cX5_readLane 43 = .ok (.aload_n 0, 1) := by decide +kernel
theorem dX5_readLane_44 : decode cX5_readLane 44 = .ok (.iconst 3, 1) := by decide +kernel
theorem dX5_readLane_45 : decode cX5_readLane 45 = .ok (.invokevirtual 85, 3) := by decide +kernel
theorem dX5_readLane_48 : decode cX5_readLane 48 = .ok (.aload_n 0, 1) := by decide +kernel
theorem dX5_readLane_49 : decode cX5_readLane 49 = .ok (.iconst 0, 1) := by decide +kernel
theorem dX5_readLane_50 : decode cX5_readLane 50 = .ok (.bipush 30, 2) := by decide +kernel
theorem dX5_readLane_52 : decode cX5_readLane 52 = .ok (.invokevirtual 66, 3) := by decide +kernel
theorem dX5_readLane_55 : decode cX5_readLane 55 = .ok (.istore 4, 2) := by decide +kernel
theorem dX5_readLane_57 : decode cX5_readLane 57 = .ok (.aload_n 0, 1) := by decide +kernel
theorem dX5_readLane_58 : decode cX5_readLane 58 = .ok (.iconst 4, 1) := by decide +kernel
theorem dX5_readLane_59 : decode cX5_readLane 59 = .ok (.invokevirtual 85, 3) := by decide +kernel
theorem dX5_readLane_62 : decode cX5_readLane 62 = .ok (.aload_n 0, 1) := by decide +kernel
theorem dX5_readLane_63 : decode cX5_readLane 63 = .ok (.iconst 0, 1) := by decide +kernel
theorem dX5_readLane_64 : decode cX5_readLane 64 = .ok (.bipush 30, 2) := by decide +kernel
theorem dX5_readLane_66 : decode cX5_readLane 66 = .ok (.invokevirtual 66, 3) := by decide +kernel
theorem dX5_readLane_69 : decode cX5_readLane 69 = .ok (.istore 5, 2) := by decide +kernel
theorem dX5_readLane_71 : decode cX5_readLane 71 = .ok (.aload_n 0, 1) := by decide +kernel
theorem dX5_readLane_72 : decode cX5_readLane 72 = .ok (.iconst 5, 1) := by decide +kernel
theorem dX5_readLane_73 : decode cX5_readLane 73 = .ok (.invokevirtual 85, 3) := by decide +kernel
theorem dX5_readLane_76 : decode cX5_readLane 76 = .ok (.aload_n 0, 1) := by decide +kernel
theorem dX5_readLane_77 : decode cX5_readLane 77 = .ok (.iconst 0, 1) := by decide +kernel
theorem dX5_readLane_78 : decode cX5_readLane 78 = .ok (.bipush 99, 2) := by decide +kernel
theorem dX5_readLane_80 : decode cX5_readLane 80 = .ok (.invokevirtual 66, 3) := by decide +kernel
theorem dX5_readLane_83 : decode cX5_readLane 83 = .ok (.istore 6, 2) := by decide +kernel
theorem dX5_readLane_85 : decode cX5_readLane 85 = .ok (.aload_n 0, 1) := by decide +kernel
theorem dX5_readLane_86 : decode cX5_readLane 86 = .ok (.bipush 6, 2) := by decide +kernel
theorem dX5_readLane_88 : decode cX5_readLane 88 = .ok (.invokevirtual 85, 3) := by decide +kernel
theorem dX5_readLane_91 : decode cX5_readLane 91 = .ok (.aload_n 0, 1) := by decide +kernel
theorem dX5_readLane_92 : decode cX5_readLane 92 = .ok (.iconst 0, 1) := by decide +kernel
theorem dX5_readLane_93 : decode cX5_readLane 93 = .ok (.bipush 9, 2) := by decide +kernel
theorem dX5_readLane_95 : decode cX5_readLane 95 = .ok (.invokevirtual 66, 3) := by decide +kernel
theorem dX5_readLane_98 : decode cX5_readLane 98 = .ok (.istore 7, 2) := by decide +kernel
theorem dX5_readLane_100 : decode cX5_readLane 100 = .ok (.aload_n 0, 1) := by decide +kernel
theorem dX5_readLane_101 : decode cX5_readLane 101 = .ok (.bipush 7, 2) := by decide +kernel
theorem dX5_readLane_103 : decode cX5_readLane 103 = .ok (.invokevirtual 85, 3) := by decide +kernel
theorem dX5_readLane_106 : decode cX5_readLane 106 = .ok (.aload_n 0, 1) := by decide +kernel
theorem dX5_readLane_107 : decode cX5_readLane 107 = .ok (.iconst 1, 1) := by decide +kernel
theorem dX5_readLane_108 : decode cX5_readLane 108 = .ok (.bipush 60, 2) := by decide +kernel
theorem dX5_readLane_110 : decode cX5_readLane 110 = .ok (.invokevirtual 66, 3) := by decide +kernel
theorem dX5_readLane_113 : decode cX5_readLane 113 = .ok (.istore 8, 2) := by decide +kernel
theorem dX5_readLane_115 : decode cX5_readLane 115 = .ok (.aload_n 0, 1) := by decide +kernel
theorem dX5_readLane_116 : decode cX5_readLane 116 = .ok (.bipush 8, 2) := by decide +kernel
theorem dX5_readLane_118 : decode cX5_readLane 118 = .ok (.invokevirtual 85, 3) := by decide +kernel
theorem dX5_readLane_121 : decode cX5_readLane 121 = .ok (.aload_n 0, 1) := by decide +kernel
theorem dX5_readLane_122 : decode cX5_readLane 122 = .ok (.bipush 9, 2) := by decide +kernel
theorem dX5_readLane_124 : decode cX5_readLane 124 = .ok (.invokevirtual 95, 3) := by decide +kernel
theorem dX5_readLane_127 : decode cX5_readLane 127 = .ok (.istore 9, 2) := by decide +kernel
theorem dX5_readLane_129 : decode cX5_readLane 129 = .ok (.iload 9, 2) := by decide +kernel
theorem dX5_readLane_131 : decode cX5_readLane 131 = .ok (.ifCond .ne 9, 3) := by decide +kernel
theorem dX5_readLane_134 : decode cX5_readLane 134 = .ok (.aload_n 0, 1) := by decide +kernel
theorem dX5_readLane_135 : decode cX5_readLane 135 = .ok (.bipush 10, 2) := by decide +kernel
theorem dX5_readLane_137 : decode cX5_readLane 137 = .ok (.invokevirtual 85, 3) := by decide +kernel
theorem dX5_readLane_140 : decode cX5_readLane 140 = .ok (.aload_n 0, 1) := by decide +kernel
theorem dX5_readLane_141 : decode cX5_readLane 141 = .ok (.getfield 17, 3) := by decide +kernel
theorem dX5_readLane_144 : decode cX5_readLane 144 = .ok (.invokevirtual 102, 3) := by decide +kernel
theorem dX5_readLane_147 : decode cX5_readLane 147 = .ok (.astore 10, 2) := by decide +kernel
theorem dX5_readLane_149 : decode cX5_readLane 149 = .ok (.aload 10, 2) := by decide +kernel
theorem dX5_readLane_151 : decode cX5_readLane 151 = .ok (.ifnull 41, 3) := by decide +kernel
theorem dX5_readLane_154 : decode cX5_readLane 154 = .ok (.aload_n 0, 1) := by decide +kernel
theorem dX5_readLane_155 : decode cX5_readLane 155 = .ok (.getfield 30, 3) := by decide +kernel
theorem dX5_readLane_158 : decode cX5_readLane 158 = .ok (.aload 10, 2) := by decide +kernel
theorem dX5_readLane_160 : decode cX5_readLane 160 = .ok (.getfield 106, 3) := by decide +kernel
theorem dX5_readLane_163 : decode cX5_readLane 163 = .ok (.lload_n 1, 1) := by decide +kernel
theorem dX5_readLane_164 : decode cX5_readLane 164 = .ok (.invokestatic 110, 3) := by decide +kernel
theorem dX5_readLane_167 : decode cX5_readLane 167 = .ok (.aload 10, 2) := by decide +kernel
theorem dX5_readLane_169 : decode cX5_readLane 169 = .ok (.aload_n 0, 1) := by decide +kernel
theorem dX5_readLane_170 : decode cX5_readLane 170 = .ok (.getfield 17, 3) := by decide +kernel
theorem dX5_readLane_173 : decode cX5_readLane 173 = .ok (.iload_n 3, 1) := by decide +kernel
theorem dX5_readLane_174 : decode cX5_readLane 174 = .ok (.invokevirtual 114, 3) := by decide +kernel
theorem dX5_readLane_177 : decode cX5_readLane 177 = .ok (.iload 4, 2) := by decide +kernel
theorem dX5_readLane_179 : decode cX5_readLane 179 = .ok (.iload 5, 2) := by decide +kernel
theorem dX5_readLane_181 : decode cX5_readLane 181 = .ok (.iload 6, 2) := by decide +kernel
theorem dX5_readLane_183 : decode cX5_readLane 183 = .ok (.iload 7, 2) := by decide +kernel
theorem dX5_readLane_185 : decode cX5_readLane 185 = .ok (.iload 8, 2) := by decide +kernel
theorem dX5_readLane_187 : decode cX5_readLane 187 = .ok (.iload 9, 2) := by decide +kernel
theorem dX5_readLane_189 : decode cX5_readLane 189 = .ok (.invokevirtual 118, 3) := by decide +kernel
theorem dX5_readLane_192 : decode cX5_readLane 192 = .ok (.return_, 1) := by decide +kernel
abbrev m_X5_readLane : Mt := (cX5_readLane, RX5, "readLane", 11, .return_, 4)
def f_X5_readLane_b140 (N : Nat) (z : Nat → Nat) (o : Nat) (v1 : Int64) (v3 : Int32) (v4 : Int32) (v5 : Int32) (v6 : Int32) (v7 : Int32) (v8 : Int32) (v9 : Int32) (x0 : Hp) : Option (Unit × Hp) :=
  getr (some o) x0 8 140 fun r1 =>
  obj r1 x0 9 fun q4 => bnd (f_X6_addLane N z q4 x0) fun r3 x2 =>
  if r3 = none then (some ((), x2)) else (getr (some o) x2 8 143 fun r5 =>
  geti r3 x2 5 80 fun i6 =>
  bnd (f_X5_keepName N z r5 i6 v1 x2) fun _ x7 =>
  getr (some o) x7 8 140 fun r8 =>
  obj r8 x7 9 fun q11 => bnd (f_X6_laneAt N z q11 v3 x7) fun r10 x9 =>
  obj r3 x9 5 fun q13 => bnd (f_X2_tell N z q13 r10 v4 v5 v6 v7 v8 v9 x9) fun _ x12 =>
  some ((), x12))
def f_X5_readLane_b42 (N : Nat) (z : Nat → Nat) (o : Nat) (v1 : Int64) (s0 : Int32) (x0 : Hp) : Option (Unit × Hp) :=
  obj (some o) x0 8 fun q15 => bnd (f_X5_need N z q15 (3 : Int32) x0) fun _ x14 =>
  obj (some o) x14 8 fun q18 => bnd (f_X5_number N z q18 (0 : Int32) (30 : Int32) x14) fun i17 x16 =>
  obj (some o) x16 8 fun q20 => bnd (f_X5_need N z q20 (4 : Int32) x16) fun _ x19 =>
  obj (some o) x19 8 fun q23 => bnd (f_X5_number N z q23 (0 : Int32) (30 : Int32) x19) fun i22 x21 =>
  obj (some o) x21 8 fun q25 => bnd (f_X5_need N z q25 (5 : Int32) x21) fun _ x24 =>
  obj (some o) x24 8 fun q28 => bnd (f_X5_number N z q28 (0 : Int32) (99 : Int32) x24) fun i27 x26 =>
  obj (some o) x26 8 fun q30 => bnd (f_X5_need N z q30 (6 : Int32) x26) fun _ x29 =>
  obj (some o) x29 8 fun q33 => bnd (f_X5_number N z q33 (0 : Int32) (9 : Int32) x29) fun i32 x31 =>
  obj (some o) x31 8 fun q35 => bnd (f_X5_need N z q35 (7 : Int32) x31) fun _ x34 =>
  obj (some o) x34 8 fun q38 => bnd (f_X5_number N z q38 (1 : Int32) (60 : Int32) x34) fun i37 x36 =>
  obj (some o) x36 8 fun q40 => bnd (f_X5_need N z q40 (8 : Int32) x36) fun _ x39 =>
  obj (some o) x39 8 fun q43 => bnd (f_X5_takes N z q43 (9 : Int32) x39) fun i42 x41 =>
  if i42 = 0 then (obj (some o) x41 8 fun q45 => bnd (f_X5_need N z q45 (10 : Int32) x41) fun _ x44 =>
  f_X5_readLane_b140 N z o v1 s0 i17 i22 i27 i32 i37 i42 x44) else (f_X5_readLane_b140 N z o v1 s0 i17 i22 i27 i32 i37 i42 x41)
def f_X5_readLane (N : Nat) (z : Nat → Nat) (o : Nat) (x0 : Hp) : Option (Unit × Hp) :=
  geti (some o) x0 8 145 fun i46 =>
  puti (some o) x0 8 145 (i46 + (1 : Int32)) fun x47 =>
  getr (some o) x47 8 143 fun r48 =>
  getr (some o) x47 8 140 fun r49 =>
  geti r49 x47 9 163 fun i50 =>
  obj (some o) x47 8 fun q53 => bnd (f_X5_newName N z q53 r48 i50 x47) fun i52 x51 =>
  obj (some o) x51 8 fun q56 => bnd (f_X5_takes N z q56 (2 : Int32) x51) fun i55 x54 =>
  if i55 = 0 then (f_X5_readLane_b42 N z o i52 (-1 : Int32) x54) else (obj (some o) x54 8 fun q59 => bnd (f_X5_toldLane N z q59 x54) fun i58 x57 =>
  f_X5_readLane_b42 N z o i52 i58 x57)
set_option maxRecDepth 100000 in
set_option maxHeartbeats 4000000 in
theorem g_X5_readLane_b140 (l : Launch) (N : Nat) (z : Nat → Nat) (o : Nat) (v1 : Int64) (v3 : Int32) (v4 : Int32) (v5 : Int32) (v6 : Int32) (v7 : Int32) (v8 : Int32) (v9 : Int32) (x0 : Hp) : G l z m_X5_readLane okT enV 140 [(0, va_rf (some o)), (1, .long v1), (3, .int v3), (4, .int v4), (5, .int v5), (6, .int v6), (7, .int v7), (8, .int v8), (9, .int v9)] [] x0 (f_X5_readLane_b140 N z o v1 v3 v4 v5 v6 v7 v8 v9 x0) := by
  unfold f_X5_readLane_b140
  refine G_aload_n 0 dX5_readLane_140 rfl rfl ?_
  refine G_getr (k := 0) K_7 (by decide) rfl rfl rfl gw_426 rfl dX5_readLane_141 (fun r1 => ?_)
  refine G_callV (av := []) [] (fun q4 => ct_X6_addLane l N z q4) K_8 rfl yn_X6_addLane (by decide) (by decide) gw_1259 gw_750 gw_751 gw_42 gw_752 rfl (by decide) dX5_readLane_144 (fun r3 x2 => ?_)
  refine G_astore (i := 10) (l2 := [(0, va_rf (some o)), (1, .long v1), (3, .int v3), (4, .int v4), (5, .int v5), (6, .int v6), (7, .int v7), (8, .int v8), (9, .int v9)]) [0, 1, 2, 3, 4, 5, 6, 7, 8] dX5_readLane_147 (by decide) rfl (sok_a (by decide) (by decide) (sok_a (by decide) (by decide) (sok_a (by decide) (by decide) (sok_a (by decide) (by decide) (sok_a (by decide) (by decide) (sok_a (by decide) (by decide) (sok_a (by decide) (by decide) (sok_a (by decide) (by decide) (sok_b (by decide) rfl trivial))))))))) ?_
  refine G_aload 0 dX5_readLane_149 rfl ?_
  refine G_ifnull (tgt := 192) dX5_readLane_151 (by decide) (fun _ => ?_) (fun _ => ?_)
  · exact G_ret trivial dX5_readLane_192 rfl
  · refine G_aload_n 1 dX5_readLane_154 rfl rfl ?_
    refine G_getr (k := 3) K_7 (by decide) rfl rfl rfl gw_431 rfl dX5_readLane_155 (fun r5 => ?_)
    refine G_aload 0 dX5_readLane_158 rfl ?_
    refine G_geti (k := 0) K_4 (by decide) rfl rfl rfl gw_209 rfl dX5_readLane_160 (fun i6 => ?_)
    refine G_lload_n 2 dX5_readLane_163 rfl rfl ?_
    refine G_callS (av := [va_rf r5, .int i6, .long v1]) [] (ct_X5_keepName l N z r5 i6 v1) yn_X5_keepName (by decide) (by decide) gw_1260 gw_1261 gw_41 gw_1262 rfl (by decide) dX5_readLane_164 (fun _ x7 => ?_)
    refine G_aload 0 dX5_readLane_167 rfl ?_
    refine G_aload_n 1 dX5_readLane_169 rfl rfl ?_
    refine G_getr (k := 0) K_7 (by decide) rfl rfl rfl gw_426 rfl dX5_readLane_170 (fun r8 => ?_)
    refine G_iload_n 3 dX5_readLane_173 rfl rfl ?_
    refine G_callV (av := [.int v3]) [va_rf r3] (fun q11 => ct_X6_laneAt l N z q11 v3) K_8 rfl yn_X6_laneAt (by decide) (by decide) gw_1263 gw_554 gw_555 gw_42 gw_556 rfl (by simp only [hw_n, hw_i, hw_r, hw_j, hw_d]; decide) dX5_readLane_174 (fun r10 x9 => ?_)
    refine G_iload 4 dX5_readLane_177 rfl ?_
    refine G_iload 5 dX5_readLane_179 rfl ?_
    refine G_iload 6 dX5_readLane_181 rfl ?_
    refine G_iload 7 dX5_readLane_183 rfl ?_
    refine G_iload 8 dX5_readLane_185 rfl ?_
    refine G_iload 9 dX5_readLane_187 rfl ?_
    refine G_callV (av := [va_rf r10, .int v4, .int v5, .int v6, .int v7, .int v8, .int v9]) [] (fun q13 => ct_X2_tell l N z q13 r10 v4 v5 v6 v7 v8 v9) K_4 rfl yn_X2_tell (by decide) (by decide) gw_1264 gw_758 gw_759 gw_46 gw_760 rfl (by decide) dX5_readLane_189 (fun _ x12 => ?_)
    exact G_ret trivial dX5_readLane_192 rfl

set_option maxRecDepth 100000 in
set_option maxHeartbeats 4000000 in
theorem g_X5_readLane_b42 (l : Launch) (N : Nat) (z : Nat → Nat) (o : Nat) (v1 : Int64) (s0 : Int32) (x0 : Hp) : G l z m_X5_readLane okT enV 42 [(0, va_rf (some o)), (1, .long v1)] [.int s0] x0 (f_X5_readLane_b42 N z o v1 s0 x0) := by
  unfold f_X5_readLane_b42
  refine G_istore_n (i := 3) (l2 := [(0, va_rf (some o)), (1, .long v1)]) [0, 1] dX5_readLane_42 rfl (by decide) rfl (sok_a (by decide) (by decide) (sok_a (by decide) (by decide) trivial)) ?_
  refine G_aload_n 1 dX5_readLane_43 rfl rfl ?_
  refine G_iconst (v := (3 : Int32)) dX5_readLane_44 rfl ?_
  refine G_callV (av := [.int (3 : Int32)]) [] (fun q15 => ct_X5_need l N z q15 (3 : Int32)) K_7 rfl yn_X5_need (by decide) (by decide) gw_1255 gw_1257 gw_s27 gw_41 gw_1258 rfl (by decide) dX5_readLane_45 (fun _ x14 => ?_)
  refine G_aload_n 1 dX5_readLane_48 rfl rfl ?_
  refine G_iconst (v := (0 : Int32)) dX5_readLane_49 rfl ?_
  refine G_bipush (v := (30 : Int32)) dX5_readLane_50 (by decide) ?_
  refine G_callV (av := [.int (0 : Int32), .int (30 : Int32)]) [] (fun q18 => ct_X5_number l N z q18 (0 : Int32) (30 : Int32)) K_7 rfl yn_X5_number (by decide) (by decide) gw_1216 gw_1218 gw_s20 gw_41 gw_1219 rfl (by decide) dX5_readLane_52 (fun i17 x16 => ?_)
  refine G_istore (i := 4) (l2 := [(3, .int s0), (0, va_rf (some o)), (1, .long v1)]) [0, 1, 2] dX5_readLane_55 (by decide) rfl (sok_b (by decide) rfl (sok_a (by decide) (by decide) (sok_a (by decide) (by decide) trivial))) ?_
  refine G_aload_n 2 dX5_readLane_57 rfl rfl ?_
  refine G_iconst (v := (4 : Int32)) dX5_readLane_58 rfl ?_
  refine G_callV (av := [.int (4 : Int32)]) [] (fun q20 => ct_X5_need l N z q20 (4 : Int32)) K_7 rfl yn_X5_need (by decide) (by decide) gw_1255 gw_1257 gw_s27 gw_41 gw_1258 rfl (by decide) dX5_readLane_59 (fun _ x19 => ?_)
  refine G_aload_n 2 dX5_readLane_62 rfl rfl ?_
  refine G_iconst (v := (0 : Int32)) dX5_readLane_63 rfl ?_
  refine G_bipush (v := (30 : Int32)) dX5_readLane_64 (by decide) ?_
  refine G_callV (av := [.int (0 : Int32), .int (30 : Int32)]) [] (fun q23 => ct_X5_number l N z q23 (0 : Int32) (30 : Int32)) K_7 rfl yn_X5_number (by decide) (by decide) gw_1216 gw_1218 gw_s20 gw_41 gw_1219 rfl (by decide) dX5_readLane_66 (fun i22 x21 => ?_)
  refine G_istore (i := 5) (l2 := [(4, .int i17), (3, .int s0), (0, va_rf (some o)), (1, .long v1)]) [0, 1, 2, 3] dX5_readLane_69 (by decide) rfl (sok_b (by decide) rfl (sok_a (by decide) (by decide) (sok_a (by decide) (by decide) (sok_a (by decide) (by decide) trivial)))) ?_
  refine G_aload_n 3 dX5_readLane_71 rfl rfl ?_
  refine G_iconst (v := (5 : Int32)) dX5_readLane_72 rfl ?_
  refine G_callV (av := [.int (5 : Int32)]) [] (fun q25 => ct_X5_need l N z q25 (5 : Int32)) K_7 rfl yn_X5_need (by decide) (by decide) gw_1255 gw_1257 gw_s27 gw_41 gw_1258 rfl (by decide) dX5_readLane_73 (fun _ x24 => ?_)
  refine G_aload_n 3 dX5_readLane_76 rfl rfl ?_
  refine G_iconst (v := (0 : Int32)) dX5_readLane_77 rfl ?_
  refine G_bipush (v := (99 : Int32)) dX5_readLane_78 (by decide) ?_
  refine G_callV (av := [.int (0 : Int32), .int (99 : Int32)]) [] (fun q28 => ct_X5_number l N z q28 (0 : Int32) (99 : Int32)) K_7 rfl yn_X5_number (by decide) (by decide) gw_1216 gw_1218 gw_s20 gw_41 gw_1219 rfl (by decide) dX5_readLane_80 (fun i27 x26 => ?_)
  refine G_istore (i := 6) (l2 := [(5, .int i22), (4, .int i17), (3, .int s0), (0, va_rf (some o)), (1, .long v1)]) [0, 1, 2, 3, 4] dX5_readLane_83 (by decide) rfl (sok_b (by decide) rfl (sok_a (by decide) (by decide) (sok_a (by decide) (by decide) (sok_a (by decide) (by decide) (sok_a (by decide) (by decide) trivial))))) ?_
  refine G_aload_n 4 dX5_readLane_85 rfl rfl ?_
  refine G_bipush (v := (6 : Int32)) dX5_readLane_86 (by decide) ?_
  refine G_callV (av := [.int (6 : Int32)]) [] (fun q30 => ct_X5_need l N z q30 (6 : Int32)) K_7 rfl yn_X5_need (by decide) (by decide) gw_1255 gw_1257 gw_s27 gw_41 gw_1258 rfl (by decide) dX5_readLane_88 (fun _ x29 => ?_)
  refine G_aload_n 4 dX5_readLane_91 rfl rfl ?_
  refine G_iconst (v := (0 : Int32)) dX5_readLane_92 rfl ?_
  refine G_bipush (v := (9 : Int32)) dX5_readLane_93 (by decide) ?_
  refine G_callV (av := [.int (0 : Int32), .int (9 : Int32)]) [] (fun q33 => ct_X5_number l N z q33 (0 : Int32) (9 : Int32)) K_7 rfl yn_X5_number (by decide) (by decide) gw_1216 gw_1218 gw_s20 gw_41 gw_1219 rfl (by decide) dX5_readLane_95 (fun i32 x31 => ?_)
  refine G_istore (i := 7) (l2 := [(6, .int i27), (5, .int i22), (4, .int i17), (3, .int s0), (0, va_rf (some o)), (1, .long v1)]) [0, 1, 2, 3, 4, 5] dX5_readLane_98 (by decide) rfl (sok_b (by decide) rfl (sok_a (by decide) (by decide) (sok_a (by decide) (by decide) (sok_a (by decide) (by decide) (sok_a (by decide) (by decide) (sok_a (by decide) (by decide) trivial)))))) ?_
  refine G_aload_n 5 dX5_readLane_100 rfl rfl ?_
  refine G_bipush (v := (7 : Int32)) dX5_readLane_101 (by decide) ?_
  refine G_callV (av := [.int (7 : Int32)]) [] (fun q35 => ct_X5_need l N z q35 (7 : Int32)) K_7 rfl yn_X5_need (by decide) (by decide) gw_1255 gw_1257 gw_s27 gw_41 gw_1258 rfl (by decide) dX5_readLane_103 (fun _ x34 => ?_)
  refine G_aload_n 5 dX5_readLane_106 rfl rfl ?_
  refine G_iconst (v := (1 : Int32)) dX5_readLane_107 rfl ?_
  refine G_bipush (v := (60 : Int32)) dX5_readLane_108 (by decide) ?_
  refine G_callV (av := [.int (1 : Int32), .int (60 : Int32)]) [] (fun q38 => ct_X5_number l N z q38 (1 : Int32) (60 : Int32)) K_7 rfl yn_X5_number (by decide) (by decide) gw_1216 gw_1218 gw_s20 gw_41 gw_1219 rfl (by decide) dX5_readLane_110 (fun i37 x36 => ?_)
  refine G_istore (i := 8) (l2 := [(7, .int i32), (6, .int i27), (5, .int i22), (4, .int i17), (3, .int s0), (0, va_rf (some o)), (1, .long v1)]) [0, 1, 2, 3, 4, 5, 6] dX5_readLane_113 (by decide) rfl (sok_b (by decide) rfl (sok_a (by decide) (by decide) (sok_a (by decide) (by decide) (sok_a (by decide) (by decide) (sok_a (by decide) (by decide) (sok_a (by decide) (by decide) (sok_a (by decide) (by decide) trivial))))))) ?_
  refine G_aload_n 6 dX5_readLane_115 rfl rfl ?_
  refine G_bipush (v := (8 : Int32)) dX5_readLane_116 (by decide) ?_
  refine G_callV (av := [.int (8 : Int32)]) [] (fun q40 => ct_X5_need l N z q40 (8 : Int32)) K_7 rfl yn_X5_need (by decide) (by decide) gw_1255 gw_1257 gw_s27 gw_41 gw_1258 rfl (by decide) dX5_readLane_118 (fun _ x39 => ?_)
  refine G_aload_n 6 dX5_readLane_121 rfl rfl ?_
  refine G_bipush (v := (9 : Int32)) dX5_readLane_122 (by decide) ?_
  refine G_callV (av := [.int (9 : Int32)]) [] (fun q43 => ct_X5_takes l N z q43 (9 : Int32)) K_7 rfl yn_X5_takes (by decide) (by decide) gw_1247 gw_1249 gw_s25 gw_41 gw_1250 rfl (by decide) dX5_readLane_124 (fun i42 x41 => ?_)
  refine G_istore (i := 9) (l2 := [(8, .int i37), (7, .int i32), (6, .int i27), (5, .int i22), (4, .int i17), (3, .int s0), (0, va_rf (some o)), (1, .long v1)]) [0, 1, 2, 3, 4, 5, 6, 7] dX5_readLane_127 (by decide) rfl (sok_b (by decide) rfl (sok_a (by decide) (by decide) (sok_a (by decide) (by decide) (sok_a (by decide) (by decide) (sok_a (by decide) (by decide) (sok_a (by decide) (by decide) (sok_a (by decide) (by decide) (sok_a (by decide) (by decide) trivial)))))))) ?_
  refine G_iload 0 dX5_readLane_129 rfl ?_
  refine G_if_ne (tgt := 140) dX5_readLane_131 (by decide) (fun _ => ?_) (fun _ => ?_)
  · refine G_aload_n 7 dX5_readLane_134 rfl rfl ?_
    refine G_bipush (v := (10 : Int32)) dX5_readLane_135 (by decide) ?_
    refine G_callV (av := [.int (10 : Int32)]) [] (fun q45 => ct_X5_need l N z q45 (10 : Int32)) K_7 rfl yn_X5_need (by decide) (by decide) gw_1255 gw_1257 gw_s27 gw_41 gw_1258 rfl (by decide) dX5_readLane_137 (fun _ x44 => ?_)
    refine G_lv [7, 8, 6, 5, 4, 3, 2, 1, 0] rfl ?_
    exact g_X5_readLane_b140 l N z o v1 s0 i17 i22 i27 i32 i37 i42 x44
  · refine G_lv [7, 8, 6, 5, 4, 3, 2, 1, 0] rfl ?_
    exact g_X5_readLane_b140 l N z o v1 s0 i17 i22 i27 i32 i37 i42 x41

set_option maxRecDepth 100000 in
set_option maxHeartbeats 4000000 in
theorem g_X5_readLane (l : Launch) (N : Nat) (z : Nat → Nat) (o : Nat) (x0 : Hp) : G l z m_X5_readLane okT enV 0 [(0, va_rf (some o))] [] x0 (f_X5_readLane N z o x0) := by
  unfold f_X5_readLane
  refine G_aload_n 0 dX5_readLane_0 rfl rfl ?_
  refine G_dup dX5_readLane_1 (rf_cat _) ?_
  refine G_geti (k := 5) K_7 (by decide) rfl rfl rfl gw_433 rfl dX5_readLane_2 (fun i46 => ?_)
  refine G_iconst (v := (1 : Int32)) dX5_readLane_5 rfl ?_
  refine G_iadd dX5_readLane_6 ?_
  refine G_puti (k := 5) K_7 (by decide) rfl rfl rfl gw_433 rfl (Or.inl rfl) nar_int.1 nar_int.2 dX5_readLane_7 (fun x47 => ?_)
  refine G_aload_n 0 dX5_readLane_10 rfl rfl ?_
  refine G_aload_n 0 dX5_readLane_11 rfl rfl ?_
  refine G_getr (k := 3) K_7 (by decide) rfl rfl rfl gw_431 rfl dX5_readLane_12 (fun r48 => ?_)
  refine G_aload_n 0 dX5_readLane_15 rfl rfl ?_
  refine G_getr (k := 0) K_7 (by decide) rfl rfl rfl gw_426 rfl dX5_readLane_16 (fun r49 => ?_)
  refine G_geti (k := 3) K_8 (by decide) rfl rfl rfl gw_314 rfl dX5_readLane_19 (fun i50 => ?_)
  refine G_callV (av := [va_rf r48, .int i50]) [] (fun q53 => ct_X5_newName l N z q53 r48 i50) K_7 rfl yn_X5_newName (by decide) (by decide) gw_1240 gw_1242 gw_s24 gw_41 gw_1243 rfl (by decide) dX5_readLane_22 (fun i52 x51 => ?_)
  refine G_lstore_n (i := 1) (l2 := [(0, va_rf (some o))]) [0] dX5_readLane_25 rfl (by decide) rfl (sok_b (by decide) (rf_cat _) trivial) (sok2_a (by decide) trivial) ?_
  refine G_aload_n 1 dX5_readLane_26 rfl rfl ?_
  refine G_iconst (v := (2 : Int32)) dX5_readLane_27 rfl ?_
  refine G_callV (av := [.int (2 : Int32)]) [] (fun q56 => ct_X5_takes l N z q56 (2 : Int32)) K_7 rfl yn_X5_takes (by decide) (by decide) gw_1247 gw_1249 gw_s25 gw_41 gw_1250 rfl (by decide) dX5_readLane_28 (fun i55 x54 => ?_)
  refine G_if_eq (tgt := 41) dX5_readLane_31 (by decide) (fun _ => ?_) (fun _ => ?_)
  · refine G_iconst (v := (-1 : Int32)) dX5_readLane_41 rfl ?_
    refine G_lv [1, 0] rfl ?_
    exact g_X5_readLane_b42 l N z o i52 (-1 : Int32) x54
  · refine G_aload_n 1 dX5_readLane_34 rfl rfl ?_
    refine G_callV (av := []) [] (fun q59 => ct_X5_toldLane l N z q59) K_7 rfl yn_X5_toldLane (by decide) (by decide) gw_1251 gw_1253 gw_s26 gw_41 gw_1254 rfl (by decide) dX5_readLane_35 (fun i58 x57 => ?_)
    refine G_goto (tgt := 42) dX5_readLane_38 (by decide) ?_
    refine G_lv [1, 0] rfl ?_
    exact g_X5_readLane_b42 l N z o i52 i58 x57

theorem yn_X5_readLane : Yn yX5_readLane 0 := ⟨by decide +kernel, by decide +kernel, by decide +kernel⟩
theorem ct_X5_readLane (l : Launch) (N : Nat) (z : Nat → Nat) (o : Nat) : Ct l z yX5_readLane cX5_readLane 11 none 4 enV [.ref o] (f_X5_readLane N z o) :=
  Ct_v (fun x => G_lv0 (by simp only [lva_n, lva_i, lva_o, lva_r, lva_j]) (g_X5_readLane l N z o x)) (by decide +kernel) (by simp only [lgl_n, lgl_i, lgl_o, lgl_r, lgl_j]; decide)

theorem dX5_readFolk_0 : decode cX5_readFolk 0 = .ok (.aload_n 0, 1) := by decide +kernel
theorem dX5_readFolk_1 : decode cX5_readFolk 1 = .ok (.dup, 1) := by decide +kernel
theorem dX5_readFolk_2 : decode cX5_readFolk 2 = .ok (.getfield 52, 3) := by decide +kernel
theorem dX5_readFolk_5 : decode cX5_readFolk 5 = .ok (.iconst 1, 1) := by decide +kernel
theorem dX5_readFolk_6 : decode cX5_readFolk 6 = .ok (.iadd, 1) := by decide +kernel
theorem dX5_readFolk_7 : decode cX5_readFolk 7 = .ok (.putfield 52, 3) := by decide +kernel
theorem dX5_readFolk_10 : decode cX5_readFolk 10 = .ok (.aload_n 0, 1) := by decide +kernel
theorem dX5_readFolk_11 : decode cX5_readFolk 11 = .ok (.aload_n 0, 1) := by decide +kernel
theorem dX5_readFolk_12 : decode cX5_readFolk 12 = .ok (.getfield 34, 3) := by decide +kernel
theorem dX5_readFolk_15 : decode cX5_readFolk 15 = .ok (.aload_n 0, 1) := by decide +kernel
theorem dX5_readFolk_16 : decode cX5_readFolk 16 = .ok (.getfield 17, 3) := by decide +kernel
theorem dX5_readFolk_19 : decode cX5_readFolk 19 = .ok (.getfield 122, 3) := by decide +kernel
theorem dX5_readFolk_22 : decode cX5_readFolk 22 = .ok (.invokevirtual 91, 3) := by decide +kernel
theorem dX5_readFolk_25 : decode cX5_readFolk 25 = .ok (.lstore_n 1, 1) := by decide +kernel
theorem dX5_readFolk_26 : decode cX5_readFolk 26 = .ok (.aload_n 0, 1) := by decide +kernel
theorem dX5_readFolk_27 : decode cX5_readFolk 27 = .ok (.bipush 12, 2) := by decide +kernel
theorem dX5_readFolk_29 : decode cX5_readFolk 29 = .ok (.invokevirtual 85, 3) := by decide +kernel
theorem dX5_readFolk_32 : decode cX5_readFolk 32 = .ok (.aload_n 0, 1) := by decide +kernel
theorem dX5_readFolk_33 : decode cX5_readFolk 33 = .ok (.invokevirtual 99, 3) := by decide +kernel
theorem dX5_readFolk_36 : decode cX5_readFolk 36 = .ok (.istore_n 3, 1) := by decide +kernel
theorem dX5_readFolk_37 : decode cX5_readFolk 37 = .ok (.aload_n 0, 1) := by decide +kernel
theorem dX5_readFolk_38 : decode cX5_readFolk 38 = .ok (.bipush 13, 2) := by decide +kernel
theorem dX5_readFolk_40 : decode cX5_readFolk 40 = .ok (.invokevirtual 85, 3) := by decide +kernel
theorem dX5_readFolk_43 : decode cX5_readFolk 43 = .ok (.aload_n 0, 1) := by decide +kernel
theorem dX5_readFolk_44 : decode cX5_readFolk 44 = .ok (.iconst 1, 1) := by decide +kernel
theorem dX5_readFolk_45 : decode cX5_readFolk 45 = .ok (.bipush 30, 2) := by decide +kernel
theorem dX5_readFolk_47 : decode cX5_readFolk 47 = .ok (.invokevirtual 66, 3) := by decide +kernel
theorem dX5_readFolk_50 : decode cX5_readFolk 50 = .ok (.istore 4, 2) := by decide +kernel
theorem dX5_readFolk_52 : decode cX5_readFolk 52 = .ok (.aload_n 0, 1) := by decide +kernel
theorem dX5_readFolk_53 : decode cX5_readFolk 53 = .ok (.bipush 14, 2) := by decide +kernel
theorem dX5_readFolk_55 : decode cX5_readFolk 55 = .ok (.invokevirtual 85, 3) := by decide +kernel
theorem dX5_readFolk_58 : decode cX5_readFolk 58 = .ok (.aload_n 0, 1) := by decide +kernel
theorem dX5_readFolk_59 : decode cX5_readFolk 59 = .ok (.iconst 1, 1) := by decide +kernel
theorem dX5_readFolk_60 : decode cX5_readFolk 60 = .ok (.bipush 30, 2) := by decide +kernel
theorem dX5_readFolk_62 : decode cX5_readFolk 62 = .ok (.invokevirtual 66, 3) := by decide +kernel
theorem dX5_readFolk_65 : decode cX5_readFolk 65 = .ok (.istore 5, 2) := by decide +kernel
theorem dX5_readFolk_67 : decode cX5_readFolk 67 = .ok (.aload_n 0, 1) := by decide +kernel
theorem dX5_readFolk_68 : decode cX5_readFolk 68 = .ok (.bipush 15, 2) := by decide +kernel
theorem dX5_readFolk_70 : decode cX5_readFolk 70 = .ok (.invokevirtual 85, 3) := by decide +kernel
theorem dX5_readFolk_73 : decode cX5_readFolk 73 = .ok (.aload_n 0, 1) := by decide +kernel
theorem dX5_readFolk_74 : decode cX5_readFolk 74 = .ok (.iconst 0, 1) := by decide +kernel
theorem dX5_readFolk_75 : decode cX5_readFolk 75 = .ok (.bipush 99, 2) := by decide +kernel
theorem dX5_readFolk_77 : decode cX5_readFolk 77 = .ok (.invokevirtual 66, 3) := by decide +kernel
theorem dX5_readFolk_80 : decode cX5_readFolk 80 = .ok (.istore 6, 2) := by decide +kernel
theorem dX5_readFolk_82 : decode cX5_readFolk 82 = .ok (.aload_n 0, 1) := by decide +kernel
theorem dX5_readFolk_83 : decode cX5_readFolk 83 = .ok (.getfield 34, 3) := by decide +kernel
theorem dX5_readFolk_86 : decode cX5_readFolk 86 = .ok (.aload_n 0, 1) := by decide +kernel
theorem dX5_readFolk_87 : decode cX5_readFolk 87 = .ok (.getfield 17, 3) := by decide +kernel
theorem dX5_readFolk_90 : decode cX5_readFolk 90 = .ok (.getfield 122, 3) := by decide +kernel
theorem dX5_readFolk_93 : decode cX5_readFolk 93 = .ok (.lload_n 1, 1) := by decide +kernel
theorem dX5_readFolk_94 : decode cX5_readFolk 94 = .ok (.invokestatic 110, 3) := by decide +kernel
theorem dX5_readFolk_97 : decode cX5_readFolk 97 = .ok (.aload_n 0, 1) := by decide +kernel
theorem dX5_readFolk_98 : decode cX5_readFolk 98 = .ok (.getfield 17, 3) := by decide +kernel
theorem dX5_readFolk_101 : decode cX5_readFolk 101 = .ok (.invokevirtual 125, 3) := by decide +kernel
theorem dX5_readFolk_104 : decode cX5_readFolk 104 = .ok (.astore 7, 2) := by decide +kernel
theorem dX5_readFolk_106 : decode cX5_readFolk 106 = .ok (.aload 7, 2) := by decide +kernel
theorem dX5_readFolk_108 : decode cX5_readFolk 108 = .ok (.ifnull 15, 3) := by decide +kernel
theorem dX5_readFolk_111 : decode cX5_readFolk 111 = .ok (.aload 7, 2) := by decide +kernel
theorem dX5_readFolk_113 : decode cX5_readFolk 113 = .ok (.iload_n 3, 1) := by decide +kernel
theorem dX5_readFolk_114 : decode cX5_readFolk 114 = .ok (.iload 4, 2) := by decide +kernel
theorem dX5_readFolk_116 : decode cX5_readFolk 116 = .ok (.iload 5, 2) := by decide +kernel
theorem dX5_readFolk_118 : decode cX5_readFolk 118 = .ok (.iload 6, 2) := by decide +kernel
theorem dX5_readFolk_120 : decode cX5_readFolk 120 = .ok (.invokevirtual 129, 3) := by decide +kernel
theorem dX5_readFolk_123 : decode cX5_readFolk 123 = .ok (.return_, 1) := by decide +kernel
abbrev m_X5_readFolk : Mt := (cX5_readFolk, RX5, "readFolk", 8, .return_, 4)
def f_X5_readFolk (N : Nat) (z : Nat → Nat) (o : Nat) (x0 : Hp) : Option (Unit × Hp) :=
  geti (some o) x0 8 145 fun i1 =>
  puti (some o) x0 8 145 (i1 + (1 : Int32)) fun x2 =>
  getr (some o) x2 8 144 fun r3 =>
  getr (some o) x2 8 140 fun r4 =>
  geti r4 x2 9 164 fun i5 =>
  obj (some o) x2 8 fun q8 => bnd (f_X5_newName N z q8 r3 i5 x2) fun i7 x6 =>
  obj (some o) x6 8 fun q10 => bnd (f_X5_need N z q10 (12 : Int32) x6) fun _ x9 =>
  obj (some o) x9 8 fun q13 => bnd (f_X5_toldLane N z q13 x9) fun i12 x11 =>
  obj (some o) x11 8 fun q15 => bnd (f_X5_need N z q15 (13 : Int32) x11) fun _ x14 =>
  obj (some o) x14 8 fun q18 => bnd (f_X5_number N z q18 (1 : Int32) (30 : Int32) x14) fun i17 x16 =>
  obj (some o) x16 8 fun q20 => bnd (f_X5_need N z q20 (14 : Int32) x16) fun _ x19 =>
  obj (some o) x19 8 fun q23 => bnd (f_X5_number N z q23 (1 : Int32) (30 : Int32) x19) fun i22 x21 =>
  obj (some o) x21 8 fun q25 => bnd (f_X5_need N z q25 (15 : Int32) x21) fun _ x24 =>
  obj (some o) x24 8 fun q28 => bnd (f_X5_number N z q28 (0 : Int32) (99 : Int32) x24) fun i27 x26 =>
  getr (some o) x26 8 144 fun r29 =>
  getr (some o) x26 8 140 fun r30 =>
  geti r30 x26 9 164 fun i31 =>
  bnd (f_X5_keepName N z r29 i31 i7 x26) fun _ x32 =>
  getr (some o) x32 8 140 fun r33 =>
  obj r33 x32 9 fun q36 => bnd (f_X6_addFolk N z q36 x32) fun r35 x34 =>
  if r35 = none then (some ((), x34)) else (obj r35 x34 4 fun q38 => bnd (f_X1_tell N z q38 i12 i17 i22 i27 x34) fun _ x37 =>
  some ((), x37))
set_option maxRecDepth 100000 in
set_option maxHeartbeats 4000000 in
theorem g_X5_readFolk (l : Launch) (N : Nat) (z : Nat → Nat) (o : Nat) (x0 : Hp) : G l z m_X5_readFolk okT enV 0 [(0, va_rf (some o))] [] x0 (f_X5_readFolk N z o x0) := by
  unfold f_X5_readFolk
  refine G_aload_n 0 dX5_readFolk_0 rfl rfl ?_
  refine G_dup dX5_readFolk_1 (rf_cat _) ?_
  refine G_geti (k := 5) K_7 (by decide) rfl rfl rfl gw_433 rfl dX5_readFolk_2 (fun i1 => ?_)
  refine G_iconst (v := (1 : Int32)) dX5_readFolk_5 rfl ?_
  refine G_iadd dX5_readFolk_6 ?_
  refine G_puti (k := 5) K_7 (by decide) rfl rfl rfl gw_433 rfl (Or.inl rfl) nar_int.1 nar_int.2 dX5_readFolk_7 (fun x2 => ?_)
  refine G_aload_n 0 dX5_readFolk_10 rfl rfl ?_
  refine G_aload_n 0 dX5_readFolk_11 rfl rfl ?_
  refine G_getr (k := 4) K_7 (by decide) rfl rfl rfl gw_432 rfl dX5_readFolk_12 (fun r3 => ?_)
  refine G_aload_n 0 dX5_readFolk_15 rfl rfl ?_
  refine G_getr (k := 0) K_7 (by decide) rfl rfl rfl gw_426 rfl dX5_readFolk_16 (fun r4 => ?_)
  refine G_geti (k := 4) K_8 (by decide) rfl rfl rfl gw_317 rfl dX5_readFolk_19 (fun i5 => ?_)
  refine G_callV (av := [va_rf r3, .int i5]) [] (fun q8 => ct_X5_newName l N z q8 r3 i5) K_7 rfl yn_X5_newName (by decide) (by decide) gw_1240 gw_1242 gw_s24 gw_41 gw_1243 rfl (by decide) dX5_readFolk_22 (fun i7 x6 => ?_)
  refine G_lstore_n (i := 1) (l2 := [(0, va_rf (some o))]) [0] dX5_readFolk_25 rfl (by decide) rfl (sok_b (by decide) (rf_cat _) trivial) (sok2_a (by decide) trivial) ?_
  refine G_aload_n 1 dX5_readFolk_26 rfl rfl ?_
  refine G_bipush (v := (12 : Int32)) dX5_readFolk_27 (by decide) ?_
  refine G_callV (av := [.int (12 : Int32)]) [] (fun q10 => ct_X5_need l N z q10 (12 : Int32)) K_7 rfl yn_X5_need (by decide) (by decide) gw_1255 gw_1257 gw_s27 gw_41 gw_1258 rfl (by decide) dX5_readFolk_29 (fun _ x9 => ?_)
  refine G_aload_n 1 dX5_readFolk_32 rfl rfl ?_
  refine G_callV (av := []) [] (fun q13 => ct_X5_toldLane l N z q13) K_7 rfl yn_X5_toldLane (by decide) (by decide) gw_1251 gw_1253 gw_s26 gw_41 gw_1254 rfl (by decide) dX5_readFolk_33 (fun i12 x11 => ?_)
  refine G_istore_n (i := 3) (l2 := [(1, .long i7), (0, va_rf (some o))]) [0, 1] dX5_readFolk_36 rfl (by decide) rfl (sok_a (by decide) (by decide) (sok_a (by decide) (by decide) trivial)) ?_
  refine G_aload_n 2 dX5_readFolk_37 rfl rfl ?_
  refine G_bipush (v := (13 : Int32)) dX5_readFolk_38 (by decide) ?_
  refine G_callV (av := [.int (13 : Int32)]) [] (fun q15 => ct_X5_need l N z q15 (13 : Int32)) K_7 rfl yn_X5_need (by decide) (by decide) gw_1255 gw_1257 gw_s27 gw_41 gw_1258 rfl (by decide) dX5_readFolk_40 (fun _ x14 => ?_)
  refine G_aload_n 2 dX5_readFolk_43 rfl rfl ?_
  refine G_iconst (v := (1 : Int32)) dX5_readFolk_44 rfl ?_
  refine G_bipush (v := (30 : Int32)) dX5_readFolk_45 (by decide) ?_
  refine G_callV (av := [.int (1 : Int32), .int (30 : Int32)]) [] (fun q18 => ct_X5_number l N z q18 (1 : Int32) (30 : Int32)) K_7 rfl yn_X5_number (by decide) (by decide) gw_1216 gw_1218 gw_s20 gw_41 gw_1219 rfl (by decide) dX5_readFolk_47 (fun i17 x16 => ?_)
  refine G_istore (i := 4) (l2 := [(3, .int i12), (1, .long i7), (0, va_rf (some o))]) [0, 1, 2] dX5_readFolk_50 (by decide) rfl (sok_b (by decide) rfl (sok_a (by decide) (by decide) (sok_a (by decide) (by decide) trivial))) ?_
  refine G_aload_n 3 dX5_readFolk_52 rfl rfl ?_
  refine G_bipush (v := (14 : Int32)) dX5_readFolk_53 (by decide) ?_
  refine G_callV (av := [.int (14 : Int32)]) [] (fun q20 => ct_X5_need l N z q20 (14 : Int32)) K_7 rfl yn_X5_need (by decide) (by decide) gw_1255 gw_1257 gw_s27 gw_41 gw_1258 rfl (by decide) dX5_readFolk_55 (fun _ x19 => ?_)
  refine G_aload_n 3 dX5_readFolk_58 rfl rfl ?_
  refine G_iconst (v := (1 : Int32)) dX5_readFolk_59 rfl ?_
  refine G_bipush (v := (30 : Int32)) dX5_readFolk_60 (by decide) ?_
  refine G_callV (av := [.int (1 : Int32), .int (30 : Int32)]) [] (fun q23 => ct_X5_number l N z q23 (1 : Int32) (30 : Int32)) K_7 rfl yn_X5_number (by decide) (by decide) gw_1216 gw_1218 gw_s20 gw_41 gw_1219 rfl (by decide) dX5_readFolk_62 (fun i22 x21 => ?_)
  refine G_istore (i := 5) (l2 := [(4, .int i17), (3, .int i12), (1, .long i7), (0, va_rf (some o))]) [0, 1, 2, 3] dX5_readFolk_65 (by decide) rfl (sok_b (by decide) rfl (sok_a (by decide) (by decide) (sok_a (by decide) (by decide) (sok_a (by decide) (by decide) trivial)))) ?_
  refine G_aload_n 4 dX5_readFolk_67 rfl rfl ?_
  refine G_bipush (v := (15 : Int32)) dX5_readFolk_68 (by decide) ?_
  refine G_callV (av := [.int (15 : Int32)]) [] (fun q25 => ct_X5_need l N z q25 (15 : Int32)) K_7 rfl yn_X5_need (by decide) (by decide) gw_1255 gw_1257 gw_s27 gw_41 gw_1258 rfl (by decide) dX5_readFolk_70 (fun _ x24 => ?_)
  refine G_aload_n 4 dX5_readFolk_73 rfl rfl ?_
  refine G_iconst (v := (0 : Int32)) dX5_readFolk_74 rfl ?_
  refine G_bipush (v := (99 : Int32)) dX5_readFolk_75 (by decide) ?_
  refine G_callV (av := [.int (0 : Int32), .int (99 : Int32)]) [] (fun q28 => ct_X5_number l N z q28 (0 : Int32) (99 : Int32)) K_7 rfl yn_X5_number (by decide) (by decide) gw_1216 gw_1218 gw_s20 gw_41 gw_1219 rfl (by decide) dX5_readFolk_77 (fun i27 x26 => ?_)
  refine G_istore (i := 6) (l2 := [(5, .int i22), (4, .int i17), (3, .int i12), (1, .long i7), (0, va_rf (some o))]) [0, 1, 2, 3, 4] dX5_readFolk_80 (by decide) rfl (sok_b (by decide) rfl (sok_a (by decide) (by decide) (sok_a (by decide) (by decide) (sok_a (by decide) (by decide) (sok_a (by decide) (by decide) trivial))))) ?_
  refine G_aload_n 5 dX5_readFolk_82 rfl rfl ?_
  refine G_getr (k := 4) K_7 (by decide) rfl rfl rfl gw_432 rfl dX5_readFolk_83 (fun r29 => ?_)
  refine G_aload_n 5 dX5_readFolk_86 rfl rfl ?_
  refine G_getr (k := 0) K_7 (by decide) rfl rfl rfl gw_426 rfl dX5_readFolk_87 (fun r30 => ?_)
  refine G_geti (k := 4) K_8 (by decide) rfl rfl rfl gw_317 rfl dX5_readFolk_90 (fun i31 => ?_)
  refine G_lload_n 4 dX5_readFolk_93 rfl rfl ?_
  refine G_callS (av := [va_rf r29, .int i31, .long i7]) [] (ct_X5_keepName l N z r29 i31 i7) yn_X5_keepName (by decide) (by decide) gw_1260 gw_1261 gw_41 gw_1262 rfl (by decide) dX5_readFolk_94 (fun _ x32 => ?_)
  refine G_aload_n 5 dX5_readFolk_97 rfl rfl ?_
  refine G_getr (k := 0) K_7 (by decide) rfl rfl rfl gw_426 rfl dX5_readFolk_98 (fun r33 => ?_)
  refine G_callV (av := []) [] (fun q36 => ct_X6_addFolk l N z q36) K_8 rfl yn_X6_addFolk (by decide) (by decide) gw_1269 gw_774 gw_775 gw_42 gw_776 rfl (by decide) dX5_readFolk_101 (fun r35 x34 => ?_)
  refine G_astore (i := 7) (l2 := [(6, .int i27), (5, .int i22), (4, .int i17), (3, .int i12), (1, .long i7), (0, va_rf (some o))]) [0, 1, 2, 3, 4, 5] dX5_readFolk_104 (by decide) rfl (sok_b (by decide) rfl (sok_a (by decide) (by decide) (sok_a (by decide) (by decide) (sok_a (by decide) (by decide) (sok_a (by decide) (by decide) (sok_a (by decide) (by decide) trivial)))))) ?_
  refine G_aload 0 dX5_readFolk_106 rfl ?_
  refine G_ifnull (tgt := 123) dX5_readFolk_108 (by decide) (fun _ => ?_) (fun _ => ?_)
  · exact G_ret trivial dX5_readFolk_123 rfl
  · refine G_aload 0 dX5_readFolk_111 rfl ?_
    refine G_iload_n 4 dX5_readFolk_113 rfl rfl ?_
    refine G_iload 3 dX5_readFolk_114 rfl ?_
    refine G_iload 2 dX5_readFolk_116 rfl ?_
    refine G_iload 1 dX5_readFolk_118 rfl ?_
    refine G_callV (av := [.int i12, .int i17, .int i22, .int i27]) [] (fun q38 => ct_X1_tell l N z q38 i12 i17 i22 i27) K_3 rfl yn_X1_tell (by decide) (by decide) gw_1270 gw_782 gw_783 gw_48 gw_784 rfl (by decide) dX5_readFolk_120 (fun _ x37 => ?_)
    exact G_ret trivial dX5_readFolk_123 rfl

theorem yn_X5_readFolk : Yn yX5_readFolk 0 := ⟨by decide +kernel, by decide +kernel, by decide +kernel⟩
theorem ct_X5_readFolk (l : Launch) (N : Nat) (z : Nat → Nat) (o : Nat) : Ct l z yX5_readFolk cX5_readFolk 8 none 4 enV [.ref o] (f_X5_readFolk N z o) :=
  Ct_v (fun x => G_lv0 (by simp only [lva_n, lva_i, lva_o, lva_r, lva_j]) (g_X5_readFolk l N z o x)) (by decide +kernel) (by simp only [lgl_n, lgl_i, lgl_o, lgl_r, lgl_j]; decide)

theorem dX5_enters_0 : decode cX5_enters 0 = .ok (.iload_n 1, 1) := by decide +kernel
theorem dX5_enters_1 : decode cX5_enters 1 = .ok (.bipush 8, 2) := by decide +kernel
theorem dX5_enters_3 : decode cX5_enters 3 = .ok (.if_icmp .lt 9, 3) := by decide +kernel
theorem dX5_enters_6 : decode cX5_enters 6 = .ok (.aload_n 0, 1) := by decide +kernel
theorem dX5_enters_7 : decode cX5_enters 7 = .ok (.invokevirtual 82, 3) := by decide +kernel
theorem dX5_enters_10 : decode cX5_enters 10 = .ok (.iconst 0, 1) := by decide +kernel
theorem dX5_enters_11 : decode cX5_enters 11 = .ok (.ireturn, 1) := by decide +kernel
theorem dX5_enters_12 : decode cX5_enters 12 = .ok (.aload_n 0, 1) := by decide +kernel
theorem dX5_enters_13 : decode cX5_enters 13 = .ok (.dup, 1) := by decide +kernel
theorem dX5_enters_14 : decode cX5_enters 14 = .ok (.getfield 52, 3) := by decide +kernel
theorem dX5_enters_17 : decode cX5_enters 17 = .ok (.iconst 1, 1) := by decide +kernel
theorem dX5_enters_18 : decode cX5_enters 18 = .ok (.iadd, 1) := by decide +kernel
theorem dX5_enters_19 : decode cX5_enters 19 = .ok (.putfield 52, 3) := by decide +kernel
theorem dX5_enters_22 : decode cX5_enters 22 = .ok (.iconst 1, 1) := by decide +kernel
theorem dX5_enters_23 : decode cX5_enters 23 = .ok (.ireturn, 1) := by decide +kernel
abbrev m_X5_enters : Mt := (cX5_enters, RX5, "enters", 2, .ireturn, 3)
def f_X5_enters (N : Nat) (z : Nat → Nat) (o : Nat) (v1 : Int32) (x0 : Hp) : Option (Int32 × Hp) :=
  if v1 < (8 : Int32) then (geti (some o) x0 8 145 fun i1 =>
  puti (some o) x0 8 145 (i1 + (1 : Int32)) fun x2 =>
  some ((1 : Int32), x2)) else (obj (some o) x0 8 fun q4 => bnd (f_X5_fail N z q4 x0) fun _ x3 =>
  some ((0 : Int32), x3))
set_option maxRecDepth 100000 in
set_option maxHeartbeats 4000000 in
theorem g_X5_enters (l : Launch) (N : Nat) (z : Nat → Nat) (o : Nat) (v1 : Int32) (x0 : Hp) : G l z m_X5_enters okZ enI 0 [(0, va_rf (some o)), (1, .int v1)] [] x0 (f_X5_enters N z o v1 x0) := by
  unfold f_X5_enters
  refine G_iload_n 1 dX5_enters_0 rfl rfl ?_
  refine G_bipush (v := (8 : Int32)) dX5_enters_1 (by decide) ?_
  refine G_icmp_lt (tgt := 12) dX5_enters_3 (by decide) (fun _ => ?_) (fun _ => ?_)
  · refine G_aload_n 0 dX5_enters_12 rfl rfl ?_
    refine G_dup dX5_enters_13 (rf_cat _) ?_
    refine G_geti (k := 5) K_7 (by decide) rfl rfl rfl gw_433 rfl dX5_enters_14 (fun i1 => ?_)
    refine G_iconst (v := (1 : Int32)) dX5_enters_17 rfl ?_
    refine G_iadd dX5_enters_18 ?_
    refine G_puti (k := 5) K_7 (by decide) rfl rfl rfl gw_433 rfl (Or.inl rfl) nar_int.1 nar_int.2 dX5_enters_19 (fun x2 => ?_)
    refine G_iconst (v := (1 : Int32)) dX5_enters_22 rfl ?_
    exact G_ret (Or.inr rfl) dX5_enters_23 rfl
  · refine G_aload_n 0 dX5_enters_6 rfl rfl ?_
    refine G_callV (av := []) [] (fun q4 => ct_X5_fail l N z q4) K_7 rfl yn_X5_fail (by decide) (by decide) gw_1220 gw_1222 gw_s21 gw_41 gw_1223 rfl (by decide) dX5_enters_7 (fun _ x3 => ?_)
    refine G_iconst (v := (0 : Int32)) dX5_enters_10 rfl ?_
    exact G_ret (Or.inl rfl) dX5_enters_11 rfl

theorem yn_X5_enters : Yn yX5_enters 1 := ⟨by decide +kernel, by decide +kernel, by decide +kernel⟩
theorem ct_X5_enters (l : Launch) (N : Nat) (z : Nat → Nat) (o : Nat) (v1 : Int32) : Ct l z yX5_enters cX5_enters 2 (some .boolean) 3 enI [.ref o, .int v1] (f_X5_enters N z o v1) :=
  Ct_z (fun x => G_lv0 (by simp only [lva_n, lva_i, lva_o, lva_r, lva_j]) (g_X5_enters l N z o v1 x)) (by decide +kernel) (by simp only [lgl_n, lgl_i, lgl_o, lgl_r, lgl_j]; decide)

theorem dX5_compares_0 : decode cX5_compares 0 = .ok (.iload_n 0, 1) := by decide +kernel
theorem dX5_compares_1 : decode cX5_compares 1 = .ok (.bipush 60, 2) := by decide +kernel
theorem dX5_compares_3 : decode cX5_compares 3 = .ok (.if_icmp .eq 27, 3) := by decide +kernel
theorem dX5_compares_6 : decode cX5_compares 6 = .ok (.iload_n 0, 1) := by decide +kernel
theorem dX5_compares_7 : decode cX5_compares 7 = .ok (.bipush 62, 2) := by decide +kernel
theorem dX5_compares_9 : decode cX5_compares 9 = .ok (.if_icmp .eq 21, 3) := by decide +kernel
theorem dX5_compares_12 : decode cX5_compares 12 = .ok (.iload_n 0, 1) := by decide +kernel
theorem dX5_compares_13 : decode cX5_compares 13 = .ok (.bipush 61, 2) := by decide +kernel
theorem dX5_compares_15 : decode cX5_compares 15 = .ok (.if_icmp .eq 15, 3) := by decide +kernel
theorem dX5_compares_18 : decode cX5_compares 18 = .ok (.iload_n 0, 1) := by decide +kernel
theorem dX5_compares_19 : decode cX5_compares 19 = .ok (.bipush 36, 2) := by decide +kernel
theorem dX5_compares_21 : decode cX5_compares 21 = .ok (.if_icmp .eq 9, 3) := by decide +kernel
theorem dX5_compares_24 : decode cX5_compares 24 = .ok (.iload_n 0, 1) := by decide +kernel
theorem dX5_compares_25 : decode cX5_compares 25 = .ok (.bipush 37, 2) := by decide +kernel
theorem dX5_compares_27 : decode cX5_compares 27 = .ok (.if_icmp .ne 7, 3) := by decide +kernel
theorem dX5_compares_30 : decode cX5_compares 30 = .ok (.iconst 1, 1) := by decide +kernel
theorem dX5_compares_31 : decode cX5_compares 31 = .ok (.goto 4, 3) := by decide +kernel
theorem dX5_compares_34 : decode cX5_compares 34 = .ok (.iconst 0, 1) := by decide +kernel
theorem dX5_compares_35 : decode cX5_compares 35 = .ok (.ireturn, 1) := by decide +kernel
abbrev m_X5_compares : Mt := (cX5_compares, RX5, "compares", 1, .ireturn, 1)
def f_X5_compares_b30 (N : Nat) (z : Nat → Nat) (x0 : Hp) : Option (Int32 × Hp) :=
  some ((1 : Int32), x0)
def f_X5_compares (N : Nat) (z : Nat → Nat) (v0 : Int32) (x0 : Hp) : Option (Int32 × Hp) :=
  if v0 = (60 : Int32) then (f_X5_compares_b30 N z x0) else (if v0 = (62 : Int32) then (f_X5_compares_b30 N z x0) else (if v0 = (61 : Int32) then (f_X5_compares_b30 N z x0) else (if v0 = (36 : Int32) then (f_X5_compares_b30 N z x0) else (if v0 = (37 : Int32) then (f_X5_compares_b30 N z x0) else (some ((0 : Int32), x0))))))
set_option maxRecDepth 100000 in
set_option maxHeartbeats 4000000 in
theorem g_X5_compares_b30 (l : Launch) (N : Nat) (z : Nat → Nat) (x0 : Hp) : G l z m_X5_compares okZ enI 30 [] [] x0 (f_X5_compares_b30 N z  x0) := by
  unfold f_X5_compares_b30
  refine G_iconst (v := (1 : Int32)) dX5_compares_30 rfl ?_
  refine G_goto (tgt := 35) dX5_compares_31 (by decide) ?_
  exact G_ret (Or.inr rfl) dX5_compares_35 rfl

set_option maxRecDepth 100000 in
set_option maxHeartbeats 4000000 in
theorem g_X5_compares (l : Launch) (N : Nat) (z : Nat → Nat) (v0 : Int32) (x0 : Hp) : G l z m_X5_compares okZ enI 0 [(0, .int v0)] [] x0 (f_X5_compares N z v0 x0) := by
  unfold f_X5_compares
  refine G_iload_n 0 dX5_compares_0 rfl rfl ?_
  refine G_bipush (v := (60 : Int32)) dX5_compares_1 (by decide) ?_
  refine G_icmp_eq (tgt := 30) dX5_compares_3 (by decide) (fun _ => ?_) (fun _ => ?_)
  · refine G_lv [] rfl ?_
    exact g_X5_compares_b30 l N z x0
  · refine G_iload_n 0 dX5_compares_6 rfl rfl ?_
    refine G_bipush (v := (62 : Int32)) dX5_compares_7 (by decide) ?_
    refine G_icmp_eq (tgt := 30) dX5_compares_9 (by decide) (fun _ => ?_) (fun _ => ?_)
    · refine G_lv [] rfl ?_
      exact g_X5_compares_b30 l N z x0
    · refine G_iload_n 0 dX5_compares_12 rfl rfl ?_
      refine G_bipush (v := (61 : Int32)) dX5_compares_13 (by decide) ?_
      refine G_icmp_eq (tgt := 30) dX5_compares_15 (by decide) (fun _ => ?_) (fun _ => ?_)
      · refine G_lv [] rfl ?_
        exact g_X5_compares_b30 l N z x0
      · refine G_iload_n 0 dX5_compares_18 rfl rfl ?_
        refine G_bipush (v := (36 : Int32)) dX5_compares_19 (by decide) ?_
        refine G_icmp_eq (tgt := 30) dX5_compares_21 (by decide) (fun _ => ?_) (fun _ => ?_)
        · refine G_lv [] rfl ?_
          exact g_X5_compares_b30 l N z x0
        · refine G_iload_n 0 dX5_compares_24 rfl rfl ?_
          refine G_bipush (v := (37 : Int32)) dX5_compares_25 (by decide) ?_
          refine G_icmp_ne (tgt := 34) dX5_compares_27 (by decide) (fun _ => ?_) (fun _ => ?_)
          · refine G_lv [] rfl ?_
            exact g_X5_compares_b30 l N z x0
          · refine G_iconst (v := (0 : Int32)) dX5_compares_34 rfl ?_
            exact G_ret (Or.inl rfl) dX5_compares_35 rfl

theorem yn_X5_compares : Yn yX5_compares 1 := ⟨by decide +kernel, by decide +kernel, by decide +kernel⟩
theorem ct_X5_compares (l : Launch) (N : Nat) (z : Nat → Nat) (v0 : Int32) : Ct l z yX5_compares cX5_compares 1 (some .boolean) 1 enI [.int v0] (f_X5_compares N z v0) :=
  Ct_z (fun x => G_lv0 (by simp only [lva_n, lva_i, lva_o, lva_r, lva_j]) (g_X5_compares l N z v0 x)) (by decide +kernel) (by simp only [lgl_n, lgl_i, lgl_o, lgl_r, lgl_j]; decide)
