theorem dX1_init_0 : decode cX1_init 0 = .ok (.aload_n 0, 1) := by decide +kernel
theorem dX1_init_1 : decode cX1_init 1 = .ok (.invokespecial 1, 3) := by decide +kernel
theorem dX1_init_4 : decode cX1_init 4 = .ok (.return_, 1) := by decide +kernel
abbrev m_X1_init : Mt := (cX1_init, RX1, "<init>", 1, .return_, 2)
def f_X1_init (N : Nat) (z : Nat → Nat) (o : Nat) (x0 : Hp) : Option (Unit × Hp) :=
  nn (some o) fun _ =>
  some ((), x0)
set_option maxRecDepth 100000 in
set_option maxHeartbeats 4000000 in
theorem g_X1_init (l : Launch) (N : Nat) (z : Nat → Nat) (o : Nat) (x0 : Hp) : G l z m_X1_init okT enV 0 [(0, va_rf (some o))] [] x0 (f_X1_init N z o x0) := by
  unfold f_X1_init
  refine G_aload_n 0 dX1_init_0 rfl rfl ?_
  refine G_objInit (st := []) gw_285 gw_75 gw_76 (by decide) (by decide) dX1_init_1 (fun _ => ?_)
  exact G_ret trivial dX1_init_4 rfl

theorem yn_X1_init : Yn yX1_init 0 := ⟨by decide +kernel, by decide +kernel, by decide +kernel⟩
theorem ct_X1_init (l : Launch) (N : Nat) (z : Nat → Nat) (o : Nat) : Ct l z yX1_init cX1_init 1 none 2 enV [.ref o] (f_X1_init N z o) :=
  Ct_v (fun x => G_lv0 (by simp only [lva_n, lva_i, lva_o, lva_r, lva_j]) (g_X1_init l N z o x)) (by decide +kernel) (by simp only [lgl_n, lgl_i, lgl_o, lgl_r, lgl_j]; decide)

theorem dX1_tell_0 : decode cX1_tell 0 = .ok (.aload_n 0, 1) := by decide +kernel
theorem dX1_tell_1 : decode cX1_tell 1 = .ok (.iload_n 1, 1) := by decide +kernel
theorem dX1_tell_2 : decode cX1_tell 2 = .ok (.putfield 7, 3) := by decide +kernel
theorem dX1_tell_5 : decode cX1_tell 5 = .ok (.aload_n 0, 1) := by decide +kernel
theorem dX1_tell_6 : decode cX1_tell 6 = .ok (.iload_n 2, 1) := by decide +kernel
theorem dX1_tell_7 : decode cX1_tell 7 = .ok (.putfield 13, 3) := by decide +kernel
theorem dX1_tell_10 : decode cX1_tell 10 = .ok (.aload_n 0, 1) := by decide +kernel
theorem dX1_tell_11 : decode cX1_tell 11 = .ok (.iload_n 3, 1) := by decide +kernel
theorem dX1_tell_12 : decode cX1_tell 12 = .ok (.putfield 16, 3) := by decide +kernel
theorem dX1_tell_15 : decode cX1_tell 15 = .ok (.aload_n 0, 1) := by decide +kernel
theorem dX1_tell_16 : decode cX1_tell 16 = .ok (.iload 4, 2) := by decide +kernel
theorem dX1_tell_18 : decode cX1_tell 18 = .ok (.putfield 19, 3) := by decide +kernel
theorem dX1_tell_21 : decode cX1_tell 21 = .ok (.aload_n 0, 1) := by decide +kernel
theorem dX1_tell_22 : decode cX1_tell 22 = .ok (.iconst 0, 1) := by decide +kernel
theorem dX1_tell_23 : decode cX1_tell 23 = .ok (.putfield 22, 3) := by decide +kernel
theorem dX1_tell_26 : decode cX1_tell 26 = .ok (.return_, 1) := by decide +kernel
abbrev m_X1_tell : Mt := (cX1_tell, RX1, "tell", 5, .return_, 1)
def f_X1_tell (N : Nat) (z : Nat → Nat) (o : Nat) (v1 : Int32) (v2 : Int32) (v3 : Int32) (v4 : Int32) (x0 : Hp) : Option (Unit × Hp) :=
  puti (some o) x0 4 60 v1 fun x1 =>
  puti (some o) x1 4 61 v2 fun x2 =>
  puti (some o) x2 4 63 v3 fun x3 =>
  puti (some o) x3 4 64 v4 fun x4 =>
  puti (some o) x4 4 62 (0 : Int32) fun x5 =>
  some ((), x5)
set_option maxRecDepth 100000 in
set_option maxHeartbeats 4000000 in
theorem g_X1_tell (l : Launch) (N : Nat) (z : Nat → Nat) (o : Nat) (v1 : Int32) (v2 : Int32) (v3 : Int32) (v4 : Int32) (x0 : Hp) : G l z m_X1_tell okT enV 0 [(0, va_rf (some o)), (1, .int v1), (2, .int v2), (3, .int v3), (4, .int v4)] [] x0 (f_X1_tell N z o v1 v2 v3 v4 x0) := by
  unfold f_X1_tell
  refine G_aload_n 0 dX1_tell_0 rfl rfl ?_
  refine G_iload_n 1 dX1_tell_1 rfl rfl ?_
  refine G_puti (k := 0) K_3 (by decide) rfl rfl rfl gw_286 rfl (Or.inl rfl) nar_int.1 nar_int.2 dX1_tell_2 (fun x1 => ?_)
  refine G_aload_n 0 dX1_tell_5 rfl rfl ?_
  refine G_iload_n 2 dX1_tell_6 rfl rfl ?_
  refine G_puti (k := 1) K_3 (by decide) rfl rfl rfl gw_288 rfl (Or.inl rfl) nar_int.1 nar_int.2 dX1_tell_7 (fun x2 => ?_)
  refine G_aload_n 0 dX1_tell_10 rfl rfl ?_
  refine G_iload_n 3 dX1_tell_11 rfl rfl ?_
  refine G_puti (k := 3) K_3 (by decide) rfl rfl rfl gw_292 rfl (Or.inl rfl) nar_int.1 nar_int.2 dX1_tell_12 (fun x3 => ?_)
  refine G_aload_n 0 dX1_tell_15 rfl rfl ?_
  refine G_iload 4 dX1_tell_16 rfl ?_
  refine G_puti (k := 4) K_3 (by decide) rfl rfl rfl gw_293 rfl (Or.inl rfl) nar_int.1 nar_int.2 dX1_tell_18 (fun x4 => ?_)
  refine G_aload_n 0 dX1_tell_21 rfl rfl ?_
  refine G_iconst (v := (0 : Int32)) dX1_tell_22 rfl ?_
  refine G_puti (k := 2) K_3 (by decide) rfl rfl rfl gw_290 rfl (Or.inl rfl) nar_int.1 nar_int.2 dX1_tell_23 (fun x5 => ?_)
  exact G_ret trivial dX1_tell_26 rfl

theorem yn_X1_tell : Yn yX1_tell 4 := ⟨by decide +kernel, by decide +kernel, by decide +kernel⟩
theorem ct_X1_tell (l : Launch) (N : Nat) (z : Nat → Nat) (o : Nat) (v1 : Int32) (v2 : Int32) (v3 : Int32) (v4 : Int32) : Ct l z yX1_tell cX1_tell 5 none 1 enV [.ref o, .int v1, .int v2, .int v3, .int v4] (f_X1_tell N z o v1 v2 v3 v4) :=
  Ct_v (fun x => G_lv0 (by simp only [lva_n, lva_i, lva_o, lva_r, lva_j]) (g_X1_tell l N z o v1 v2 v3 v4 x)) (by decide +kernel) (by simp only [lgl_n, lgl_i, lgl_o, lgl_r, lgl_j]; decide)

theorem dX1_copyFrom_0 : decode cX1_copyFrom 0 = .ok (.aload_n 0, 1) := by decide +kernel
theorem dX1_copyFrom_1 : decode cX1_copyFrom 1 = .ok (.aload_n 1, 1) := by decide +kernel
theorem dX1_copyFrom_2 : decode cX1_copyFrom 2 = .ok (.getfield 7, 3) := by decide +kernel
theorem dX1_copyFrom_5 : decode cX1_copyFrom 5 = .ok (.aload_n 1, 1) := by decide +kernel
theorem dX1_copyFrom_6 : decode cX1_copyFrom 6 = .ok (.getfield 13, 3) := by decide +kernel
theorem dX1_copyFrom_9 : decode cX1_copyFrom 9 = .ok (.aload_n 1, 1) := by decide +kernel
theorem dX1_copyFrom_10 : decode cX1_copyFrom 10 = .ok (.getfield 16, 3) := by decide +kernel
theorem dX1_copyFrom_13 : decode cX1_copyFrom 13 = .ok (.aload_n 1, 1) := by decide +kernel
theorem dX1_copyFrom_14 : decode cX1_copyFrom 14 = .ok (.getfield 19, 3) := by decide +kernel
theorem dX1_copyFrom_17 : decode cX1_copyFrom 17 = .ok (.invokevirtual 25, 3) := by decide +kernel
theorem dX1_copyFrom_20 : decode cX1_copyFrom 20 = .ok (.aload_n 0, 1) := by decide +kernel
theorem dX1_copyFrom_21 : decode cX1_copyFrom 21 = .ok (.aload_n 1, 1) := by decide +kernel
theorem dX1_copyFrom_22 : decode cX1_copyFrom 22 = .ok (.getfield 22, 3) := by decide +kernel
theorem dX1_copyFrom_25 : decode cX1_copyFrom 25 = .ok (.putfield 22, 3) := by decide +kernel
theorem dX1_copyFrom_28 : decode cX1_copyFrom 28 = .ok (.return_, 1) := by decide +kernel
abbrev m_X1_copyFrom : Mt := (cX1_copyFrom, RX1, "copyFrom", 2, .return_, 2)
def f_X1_copyFrom (N : Nat) (z : Nat → Nat) (o : Nat) (v1 : Option Nat) (x0 : Hp) : Option (Unit × Hp) :=
  geti v1 x0 4 60 fun i1 =>
  geti v1 x0 4 61 fun i2 =>
  geti v1 x0 4 63 fun i3 =>
  geti v1 x0 4 64 fun i4 =>
  obj (some o) x0 4 fun q6 => bnd (f_X1_tell N z q6 i1 i2 i3 i4 x0) fun _ x5 =>
  geti v1 x5 4 62 fun i7 =>
  puti (some o) x5 4 62 i7 fun x8 =>
  some ((), x8)
set_option maxRecDepth 100000 in
set_option maxHeartbeats 4000000 in
theorem g_X1_copyFrom (l : Launch) (N : Nat) (z : Nat → Nat) (o : Nat) (v1 : Option Nat) (x0 : Hp) : G l z m_X1_copyFrom okT enV 0 [(0, va_rf (some o)), (1, va_rf v1)] [] x0 (f_X1_copyFrom N z o v1 x0) := by
  unfold f_X1_copyFrom
  refine G_aload_n 0 dX1_copyFrom_0 rfl rfl ?_
  refine G_aload_n 1 dX1_copyFrom_1 rfl rfl ?_
  refine G_geti (k := 0) K_3 (by decide) rfl rfl rfl gw_286 rfl dX1_copyFrom_2 (fun i1 => ?_)
  refine G_aload_n 1 dX1_copyFrom_5 rfl rfl ?_
  refine G_geti (k := 1) K_3 (by decide) rfl rfl rfl gw_288 rfl dX1_copyFrom_6 (fun i2 => ?_)
  refine G_aload_n 1 dX1_copyFrom_9 rfl rfl ?_
  refine G_geti (k := 3) K_3 (by decide) rfl rfl rfl gw_292 rfl dX1_copyFrom_10 (fun i3 => ?_)
  refine G_aload_n 1 dX1_copyFrom_13 rfl rfl ?_
  refine G_geti (k := 4) K_3 (by decide) rfl rfl rfl gw_293 rfl dX1_copyFrom_14 (fun i4 => ?_)
  refine G_callV (av := [.int i1, .int i2, .int i3, .int i4]) [] (fun q6 => ct_X1_tell l N z q6 i1 i2 i3 i4) K_3 rfl yn_X1_tell (Nat.le_of_ble_eq_true rfl) (by decide) gw_781 gw_782 gw_783 gw_48 gw_784 rfl (by decide) dX1_copyFrom_17 (fun _ x5 => ?_)
  refine G_aload_n 0 dX1_copyFrom_20 rfl rfl ?_
  refine G_aload_n 1 dX1_copyFrom_21 rfl rfl ?_
  refine G_geti (k := 2) K_3 (by decide) rfl rfl rfl gw_290 rfl dX1_copyFrom_22 (fun i7 => ?_)
  refine G_puti (k := 2) K_3 (by decide) rfl rfl rfl gw_290 rfl (Or.inl rfl) nar_int.1 nar_int.2 dX1_copyFrom_25 (fun x8 => ?_)
  exact G_ret trivial dX1_copyFrom_28 rfl

theorem yn_X1_copyFrom : Yn yX1_copyFrom 1 := ⟨by decide +kernel, by decide +kernel, by decide +kernel⟩
theorem ct_X1_copyFrom (l : Launch) (N : Nat) (z : Nat → Nat) (o : Nat) (v1 : Option Nat) : Ct l z yX1_copyFrom cX1_copyFrom 2 none 2 enV [.ref o, va_rf v1] (f_X1_copyFrom N z o v1) :=
  Ct_v (fun x => G_lv0 (by simp only [lva_n, lva_i, lva_o, lva_r, lva_j]) (g_X1_copyFrom l N z o v1 x)) (by decide +kernel) (by simp only [lgl_n, lgl_i, lgl_o, lgl_r, lgl_j]; decide)

theorem dX1_comeIn_0 : decode cX1_comeIn 0 = .ok (.iload_n 1, 1) := by decide +kernel
theorem dX1_comeIn_1 : decode cX1_comeIn 1 = .ok (.aload_n 0, 1) := by decide +kernel
theorem dX1_comeIn_2 : decode cX1_comeIn 2 = .ok (.getfield 19, 3) := by decide +kernel
theorem dX1_comeIn_5 : decode cX1_comeIn 5 = .ok (.if_icmp .lt 28, 3) := by decide +kernel
theorem dX1_comeIn_8 : decode cX1_comeIn 8 = .ok (.aload_n 0, 1) := by decide +kernel
theorem dX1_comeIn_9 : decode cX1_comeIn 9 = .ok (.getfield 16, 3) := by decide +kernel
theorem dX1_comeIn_12 : decode cX1_comeIn 12 = .ok (.ifCond .le 21, 3) := by decide +kernel
theorem dX1_comeIn_15 : decode cX1_comeIn 15 = .ok (.iload_n 1, 1) := by decide +kernel
theorem dX1_comeIn_16 : decode cX1_comeIn 16 = .ok (.aload_n 0, 1) := by decide +kernel
theorem dX1_comeIn_17 : decode cX1_comeIn 17 = .ok (.getfield 19, 3) := by decide +kernel
theorem dX1_comeIn_20 : decode cX1_comeIn 20 = .ok (.isub, 1) := by decide +kernel
theorem dX1_comeIn_21 : decode cX1_comeIn 21 = .ok (.aload_n 0, 1) := by decide +kernel
theorem dX1_comeIn_22 : decode cX1_comeIn 22 = .ok (.getfield 16, 3) := by decide +kernel
theorem dX1_comeIn_25 : decode cX1_comeIn 25 = .ok (.irem, 1) := by decide +kernel
theorem dX1_comeIn_26 : decode cX1_comeIn 26 = .ok (.ifCond .ne 7, 3) := by decide +kernel
theorem dX1_comeIn_29 : decode cX1_comeIn 29 = .ok (.iconst 1, 1) := by decide +kernel
theorem dX1_comeIn_30 : decode cX1_comeIn 30 = .ok (.goto 4, 3) := by decide +kernel
theorem dX1_comeIn_33 : decode cX1_comeIn 33 = .ok (.iconst 0, 1) := by decide +kernel
theorem dX1_comeIn_34 : decode cX1_comeIn 34 = .ok (.ireturn, 1) := by decide +kernel
abbrev m_X1_comeIn : Mt := (cX1_comeIn, RX1, "comeIn", 2, .ireturn, 1)
def f_X1_comeIn (N : Nat) (z : Nat → Nat) (o : Nat) (v1 : Int32) (x0 : Hp) : Option (Int32 × Hp) :=
  geti (some o) x0 4 64 fun i1 =>
  if v1 < i1 then (some ((0 : Int32), x0)) else (geti (some o) x0 4 63 fun i2 =>
  if i2 ≤ 0 then (some ((0 : Int32), x0)) else (geti (some o) x0 4 64 fun i3 =>
  geti (some o) x0 4 63 fun i4 =>
  nz i4 <|
  if ((v1 - i3) - (v1 - i3) / i4 * i4) = 0 then (some ((1 : Int32), x0)) else (some ((0 : Int32), x0))))
set_option maxRecDepth 100000 in
set_option maxHeartbeats 4000000 in
theorem g_X1_comeIn (l : Launch) (N : Nat) (z : Nat → Nat) (o : Nat) (v1 : Int32) (x0 : Hp) : G l z m_X1_comeIn okZ enI 0 [(0, va_rf (some o)), (1, .int v1)] [] x0 (f_X1_comeIn N z o v1 x0) := by
  unfold f_X1_comeIn
  refine G_iload_n 1 dX1_comeIn_0 rfl rfl ?_
  refine G_aload_n 0 dX1_comeIn_1 rfl rfl ?_
  refine G_geti (k := 4) K_3 (by decide) rfl rfl rfl gw_293 rfl dX1_comeIn_2 (fun i1 => ?_)
  refine G_icmp_lt (tgt := 33) dX1_comeIn_5 (by decide) (fun _ => ?_) (fun _ => ?_)
  · refine G_iconst (v := (0 : Int32)) dX1_comeIn_33 rfl ?_
    exact G_ret (Or.inl rfl) dX1_comeIn_34 rfl
  · refine G_aload_n 0 dX1_comeIn_8 rfl rfl ?_
    refine G_geti (k := 3) K_3 (by decide) rfl rfl rfl gw_292 rfl dX1_comeIn_9 (fun i2 => ?_)
    refine G_if_le (tgt := 33) dX1_comeIn_12 (by decide) (fun _ => ?_) (fun _ => ?_)
    · refine G_iconst (v := (0 : Int32)) dX1_comeIn_33 rfl ?_
      exact G_ret (Or.inl rfl) dX1_comeIn_34 rfl
    · refine G_iload_n 1 dX1_comeIn_15 rfl rfl ?_
      refine G_aload_n 0 dX1_comeIn_16 rfl rfl ?_
      refine G_geti (k := 4) K_3 (by decide) rfl rfl rfl gw_293 rfl dX1_comeIn_17 (fun i3 => ?_)
      refine G_isub dX1_comeIn_20 ?_
      refine G_aload_n 0 dX1_comeIn_21 rfl rfl ?_
      refine G_geti (k := 3) K_3 (by decide) rfl rfl rfl gw_292 rfl dX1_comeIn_22 (fun i4 => ?_)
      refine G_irem dX1_comeIn_25 ?_
      refine G_if_ne (tgt := 33) dX1_comeIn_26 (by decide) (fun _ => ?_) (fun _ => ?_)
      · refine G_iconst (v := (1 : Int32)) dX1_comeIn_29 rfl ?_
        refine G_goto (tgt := 34) dX1_comeIn_30 (by decide) ?_
        exact G_ret (Or.inr rfl) dX1_comeIn_34 rfl
      · refine G_iconst (v := (0 : Int32)) dX1_comeIn_33 rfl ?_
        exact G_ret (Or.inl rfl) dX1_comeIn_34 rfl

theorem yn_X1_comeIn : Yn yX1_comeIn 1 := ⟨by decide +kernel, by decide +kernel, by decide +kernel⟩
theorem ct_X1_comeIn (l : Launch) (N : Nat) (z : Nat → Nat) (o : Nat) (v1 : Int32) : Ct l z yX1_comeIn cX1_comeIn 2 (some .boolean) 1 enI [.ref o, .int v1] (f_X1_comeIn N z o v1) :=
  Ct_z (fun x => G_lv0 (by simp only [lva_n, lva_i, lva_o, lva_r, lva_j]) (g_X1_comeIn l N z o v1 x)) (by decide +kernel) (by simp only [lgl_n, lgl_i, lgl_o, lgl_r, lgl_j]; decide)

theorem dX1_fact_0 : decode cX1_fact 0 = .ok (.iload_n 1, 1) := by decide +kernel
theorem dX1_fact_1 : decode cX1_fact 1 = .ok (.tableswitch 51 0 3 #[31, 36, 41, 46], 31) := by decide +kernel
theorem dX1_fact_32 : decode cX1_fact 32 = .ok (.aload_n 0, 1) := by decide +kernel
theorem dX1_fact_33 : decode cX1_fact 33 = .ok (.getfield 7, 3) := by decide +kernel
theorem dX1_fact_36 : decode cX1_fact 36 = .ok (.ireturn, 1) := by decide +kernel
theorem dX1_fact_37 : decode cX1_fact 37 = .ok (.aload_n 0, 1) := by decide +kernel
theorem dX1_fact_38 : decode cX1_fact 38 = .ok (.getfield 13, 3) := by decide +kernel
theorem dX1_fact_41 : decode cX1_fact 41 = .ok (.ireturn, 1) := by decide +kernel
theorem dX1_fact_42 : decode cX1_fact 42 = .ok (.aload_n 0, 1) := by decide +kernel
theorem dX1_fact_43 : decode cX1_fact 43 = .ok (.getfield 16, 3) := by decide +kernel
theorem dX1_fact_46 : decode cX1_fact 46 = .ok (.ireturn, 1) := by decide +kernel
theorem dX1_fact_47 : decode cX1_fact 47 = .ok (.aload_n 0, 1) := by decide +kernel
theorem dX1_fact_48 : decode cX1_fact 48 = .ok (.getfield 19, 3) := by decide +kernel
theorem dX1_fact_51 : decode cX1_fact 51 = .ok (.ireturn, 1) := by decide +kernel
theorem dX1_fact_52 : decode cX1_fact 52 = .ok (.aload_n 0, 1) := by decide +kernel
theorem dX1_fact_53 : decode cX1_fact 53 = .ok (.getfield 22, 3) := by decide +kernel
theorem dX1_fact_56 : decode cX1_fact 56 = .ok (.ireturn, 1) := by decide +kernel
abbrev m_X1_fact : Mt := (cX1_fact, RX1, "fact", 2, .ireturn, 1)
def f_X1_fact (N : Nat) (z : Nat → Nat) (o : Nat) (v1 : Int32) (x0 : Hp) : Option (Int32 × Hp) :=
  if v1 = (0 : Int32) then (geti (some o) x0 4 60 fun i2 =>
  some (i2, x0)) else (if v1 = (1 : Int32) then (geti (some o) x0 4 61 fun i4 =>
  some (i4, x0)) else (if v1 = (2 : Int32) then (geti (some o) x0 4 63 fun i6 =>
  some (i6, x0)) else (if v1 = (3 : Int32) then (geti (some o) x0 4 64 fun i8 =>
  some (i8, x0)) else (geti (some o) x0 4 62 fun i9 =>
  some (i9, x0)))))
set_option maxRecDepth 100000 in
set_option maxHeartbeats 4000000 in
theorem g_X1_fact (l : Launch) (N : Nat) (z : Nat → Nat) (o : Nat) (v1 : Int32) (x0 : Hp) : G l z m_X1_fact okT enI 0 [(0, va_rf (some o)), (1, .int v1)] [] x0 (f_X1_fact N z o v1 x0) := by
  unfold f_X1_fact
  refine G_iload_n 1 dX1_fact_0 rfl rfl ?_
  refine G_if (fun hs1 => ?_) (fun hs1 => ?_)
  · refine G_tableIn (tgt := 32) dX1_fact_1 (by rw [hs1]; decide) (by rw [hs1]; decide) (by rw [hs1]; rfl) (by decide) ?_
    refine G_aload_n 0 dX1_fact_32 rfl rfl ?_
    refine G_geti (k := 0) K_3 (by decide) rfl rfl rfl gw_286 rfl dX1_fact_33 (fun i2 => ?_)
    exact G_ret trivial dX1_fact_36 rfl
  refine G_if (fun hs3 => ?_) (fun hs3 => ?_)
  · refine G_tableIn (tgt := 37) dX1_fact_1 (by rw [hs3]; decide) (by rw [hs3]; decide) (by rw [hs3]; rfl) (by decide) ?_
    refine G_aload_n 0 dX1_fact_37 rfl rfl ?_
    refine G_geti (k := 1) K_3 (by decide) rfl rfl rfl gw_288 rfl dX1_fact_38 (fun i4 => ?_)
    exact G_ret trivial dX1_fact_41 rfl
  refine G_if (fun hs5 => ?_) (fun hs5 => ?_)
  · refine G_tableIn (tgt := 42) dX1_fact_1 (by rw [hs5]; decide) (by rw [hs5]; decide) (by rw [hs5]; rfl) (by decide) ?_
    refine G_aload_n 0 dX1_fact_42 rfl rfl ?_
    refine G_geti (k := 3) K_3 (by decide) rfl rfl rfl gw_292 rfl dX1_fact_43 (fun i6 => ?_)
    exact G_ret trivial dX1_fact_46 rfl
  refine G_if (fun hs7 => ?_) (fun hs7 => ?_)
  · refine G_tableIn (tgt := 47) dX1_fact_1 (by rw [hs7]; decide) (by rw [hs7]; decide) (by rw [hs7]; rfl) (by decide) ?_
    refine G_aload_n 0 dX1_fact_47 rfl rfl ?_
    refine G_geti (k := 4) K_3 (by decide) rfl rfl rfl gw_293 rfl dX1_fact_48 (fun i8 => ?_)
    exact G_ret trivial dX1_fact_51 rfl
  refine G_tableOut (tgt := 52) dX1_fact_1 (by have q0 := i32_ne hs1; rw [show (0 : Int32).toInt = 0 from by decide] at q0; have q1 := i32_ne hs3; rw [show (1 : Int32).toInt = 1 from by decide] at q1; have q2 := i32_ne hs5; rw [show (2 : Int32).toInt = 2 from by decide] at q2; have q3 := i32_ne hs7; rw [show (3 : Int32).toInt = 3 from by decide] at q3; omega) (by decide) ?_
  refine G_aload_n 0 dX1_fact_52 rfl rfl ?_
  refine G_geti (k := 2) K_3 (by decide) rfl rfl rfl gw_290 rfl dX1_fact_53 (fun i9 => ?_)
  exact G_ret trivial dX1_fact_56 rfl

theorem yn_X1_fact : Yn yX1_fact 1 := ⟨by decide +kernel, by decide +kernel, by decide +kernel⟩
theorem ct_X1_fact (l : Launch) (N : Nat) (z : Nat → Nat) (o : Nat) (v1 : Int32) : Ct l z yX1_fact cX1_fact 2 (some .int) 1 enI [.ref o, .int v1] (f_X1_fact N z o v1) :=
  Ct_i (fun x => G_lv0 (by simp only [lva_n, lva_i, lva_o, lva_r, lva_j]) (g_X1_fact l N z o v1 x)) (by decide +kernel) (by simp only [lgl_n, lgl_i, lgl_o, lgl_r, lgl_j]; decide)
