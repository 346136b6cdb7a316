theorem dX7_init_0 : decode cX7_init 0 = .ok (.aload_n 0, 1) := by decide +kernel
theorem dX7_init_1 : decode cX7_init 1 = .ok (.invokespecial 3, 3) := by decide +kernel
theorem dX7_init_4 : decode cX7_init 4 = .ok (.aload_n 0, 1) := by decide +kernel
theorem dX7_init_5 : decode cX7_init 5 = .ok (.sipush 400, 3) := by decide +kernel
theorem dX7_init_8 : decode cX7_init 8 = .ok (.newarray .int, 2) := by decide +kernel
theorem dX7_init_10 : decode cX7_init 10 = .ok (.putfield 9, 3) := by decide +kernel
theorem dX7_init_13 : decode cX7_init 13 = .ok (.return_, 1) := by decide +kernel
abbrev m_X7_init : Mt := (cX7_init, RX7, "<init>", 1, .return_, 2)
def f_X7_init (N : Nat) (z : Nat → Nat) (o : Nat) (x0 : Hp) : Option (Unit × Hp) :=
  nn (some o) fun _ =>
  newa x0 101 (400 : Int32) fun r2 x3 =>
  putr (some o) x3 10 180 r2 fun x4 =>
  some ((), x4)
set_option maxRecDepth 100000 in
set_option maxHeartbeats 4000000 in
theorem g_X7_init (l : Launch) (N : Nat) (z : Nat → Nat) (o : Nat) (x0 : Hp) : G l z m_X7_init okT enV 0 [(0, va_rf (some o))] [] x0 (f_X7_init N z o x0) := by
  unfold f_X7_init
  refine G_aload_n 0 dX7_init_0 rfl rfl ?_
  refine G_objInit (st := []) gw_175 gw_75 gw_76 (by decide) (by decide) dX7_init_1 (fun _ => ?_)
  refine G_aload_n 0 dX7_init_4 rfl rfl ?_
  refine G_sipush (v := (400 : Int32)) dX7_init_5 (by decide) ?_
  refine G_newa (t := 1) rfl (Or.inr (Or.inl ⟨rfl, rfl⟩)) gw_140 dX7_init_8 (fun r2 x3 => ?_)
  refine G_putr (k := 0) K_9 (by decide) rfl rfl rfl gw_176 rfl (Or.inr ⟨rfl, rfl, rfl⟩) nar_arr.1 nar_arr.2 dX7_init_10 (fun x4 => ?_)
  exact G_ret trivial dX7_init_13 rfl

theorem yn_X7_init : Yn yX7_init 0 := ⟨by decide +kernel, by decide +kernel, by decide +kernel⟩
theorem ct_X7_init (l : Launch) (N : Nat) (z : Nat → Nat) (o : Nat) : Ct l z yX7_init cX7_init 1 none 2 enV [.ref o] (f_X7_init N z o) :=
  Ct_v (fun x => G_lv0 (by simp only [lva_n, lva_i, lva_o, lva_r, lva_j]) (g_X7_init l N z o x)) (by decide +kernel) (by simp only [lgl_n, lgl_i, lgl_o, lgl_r, lgl_j]; decide)

theorem dX7_clear_0 : decode cX7_clear 0 = .ok (.aload_n 0, 1) := by decide +kernel
theorem dX7_clear_1 : decode cX7_clear 1 = .ok (.iconst 0, 1) := by decide +kernel
theorem dX7_clear_2 : decode cX7_clear 2 = .ok (.putfield 15, 3) := by decide +kernel
theorem dX7_clear_5 : decode cX7_clear 5 = .ok (.return_, 1) := by decide +kernel
abbrev m_X7_clear : Mt := (cX7_clear, RX7, "clear", 1, .return_, 1)
def f_X7_clear (N : Nat) (z : Nat → Nat) (o : Nat) (x0 : Hp) : Option (Unit × Hp) :=
  puti (some o) x0 10 181 (0 : Int32) fun x1 =>
  some ((), x1)
set_option maxRecDepth 100000 in
set_option maxHeartbeats 4000000 in
theorem g_X7_clear (l : Launch) (N : Nat) (z : Nat → Nat) (o : Nat) (x0 : Hp) : G l z m_X7_clear okT enV 0 [(0, va_rf (some o))] [] x0 (f_X7_clear N z o x0) := by
  unfold f_X7_clear
  refine G_aload_n 0 dX7_clear_0 rfl rfl ?_
  refine G_iconst (v := (0 : Int32)) dX7_clear_1 rfl ?_
  refine G_puti (k := 1) K_9 (by decide) rfl rfl rfl gw_177 rfl (Or.inl rfl) nar_int.1 nar_int.2 dX7_clear_2 (fun x1 => ?_)
  exact G_ret trivial dX7_clear_5 rfl

theorem yn_X7_clear : Yn yX7_clear 0 := ⟨by decide +kernel, by decide +kernel, by decide +kernel⟩
theorem ct_X7_clear (l : Launch) (N : Nat) (z : Nat → Nat) (o : Nat) : Ct l z yX7_clear cX7_clear 1 none 1 enV [.ref o] (f_X7_clear N z o) :=
  Ct_v (fun x => G_lv0 (by simp only [lva_n, lva_i, lva_o, lva_r, lva_j]) (g_X7_clear l N z o x)) (by decide +kernel) (by simp only [lgl_n, lgl_i, lgl_o, lgl_r, lgl_j]; decide)

theorem dX7_push_0 : decode cX7_push 0 = .ok (.aload_n 0, 1) := by decide +kernel
theorem dX7_push_1 : decode cX7_push 1 = .ok (.getfield 15, 3) := by decide +kernel
theorem dX7_push_4 : decode cX7_push 4 = .ok (.ifCond .lt 35, 3) := by decide +kernel
theorem dX7_push_7 : decode cX7_push 7 = .ok (.aload_n 0, 1) := by decide +kernel
theorem dX7_push_8 : decode cX7_push 8 = .ok (.getfield 15, 3) := by decide +kernel
theorem dX7_push_11 : decode cX7_push 11 = .ok (.aload_n 0, 1) := by decide +kernel
theorem dX7_push_12 : decode cX7_push 12 = .ok (.getfield 9, 3) := by decide +kernel
theorem dX7_push_15 : decode cX7_push 15 = .ok (.arraylength, 1) := by decide +kernel
theorem dX7_push_16 : decode cX7_push 16 = .ok (.if_icmp .ge 23, 3) := by decide +kernel
theorem dX7_push_19 : decode cX7_push 19 = .ok (.aload_n 0, 1) := by decide +kernel
theorem dX7_push_20 : decode cX7_push 20 = .ok (.getfield 9, 3) := by decide +kernel
theorem dX7_push_23 : decode cX7_push 23 = .ok (.aload_n 0, 1) := by decide +kernel
theorem dX7_push_24 : decode cX7_push 24 = .ok (.getfield 15, 3) := by decide +kernel
theorem dX7_push_27 : decode cX7_push 27 = .ok (.iload_n 1, 1) := by decide +kernel
theorem dX7_push_28 : decode cX7_push 28 = .ok (.iastore, 1) := by decide +kernel
theorem dX7_push_29 : decode cX7_push 29 = .ok (.aload_n 0, 1) := by decide +kernel
theorem dX7_push_30 : decode cX7_push 30 = .ok (.dup, 1) := by decide +kernel
theorem dX7_push_31 : decode cX7_push 31 = .ok (.getfield 15, 3) := by decide +kernel
theorem dX7_push_34 : decode cX7_push 34 = .ok (.iconst 1, 1) := by decide +kernel
theorem dX7_push_35 : decode cX7_push 35 = .ok (.iadd, 1) := by decide +kernel
theorem dX7_push_36 : decode cX7_push 36 = .ok (.putfield 15, 3) := by decide +kernel
theorem dX7_push_39 : decode cX7_push 39 = .ok (.return_, 1) := by decide +kernel
abbrev m_X7_push : Mt := (cX7_push, RX7, "push", 2, .return_, 1)
def f_X7_push (N : Nat) (z : Nat → Nat) (o : Nat) (v1 : Int32) (x0 : Hp) : Option (Unit × Hp) :=
  geti (some o) x0 10 181 fun i1 =>
  if i1 < 0 then (some ((), x0)) else (geti (some o) x0 10 181 fun i2 =>
  getr (some o) x0 10 180 fun r3 =>
  alen r3 x0 101 fun i4 =>
  if i4 ≤ i2 then (some ((), x0)) else (getr (some o) x0 10 180 fun r5 =>
  geti (some o) x0 10 181 fun i6 =>
  asti r5 x0 101 i6 v1 fun x7 =>
  geti (some o) x7 10 181 fun i8 =>
  puti (some o) x7 10 181 (i8 + (1 : Int32)) fun x9 =>
  some ((), x9)))
set_option maxRecDepth 100000 in
set_option maxHeartbeats 4000000 in
theorem g_X7_push (l : Launch) (N : Nat) (z : Nat → Nat) (o : Nat) (v1 : Int32) (x0 : Hp) : G l z m_X7_push okT enV 0 [(0, va_rf (some o)), (1, .int v1)] [] x0 (f_X7_push N z o v1 x0) := by
  unfold f_X7_push
  refine G_aload_n 0 dX7_push_0 rfl rfl ?_
  refine G_geti (k := 1) K_9 (by decide) rfl rfl rfl gw_177 rfl dX7_push_1 (fun i1 => ?_)
  refine G_if_lt (tgt := 39) dX7_push_4 (by decide) (fun _ => ?_) (fun _ => ?_)
  · exact G_ret trivial dX7_push_39 rfl
  · refine G_aload_n 0 dX7_push_7 rfl rfl ?_
    refine G_geti (k := 1) K_9 (by decide) rfl rfl rfl gw_177 rfl dX7_push_8 (fun i2 => ?_)
    refine G_aload_n 0 dX7_push_11 rfl rfl ?_
    refine G_getr (k := 0) K_9 (by decide) rfl rfl rfl gw_176 rfl dX7_push_12 (fun r3 => ?_)
    refine G_alen (t := 1) rfl (by decide) dX7_push_15 (fun i4 => ?_)
    refine G_icmp_ge (tgt := 39) dX7_push_16 (by decide) (fun _ => ?_) (fun _ => ?_)
    · exact G_ret trivial dX7_push_39 rfl
    · refine G_aload_n 0 dX7_push_19 rfl rfl ?_
      refine G_getr (k := 0) K_9 (by decide) rfl rfl rfl gw_176 rfl dX7_push_20 (fun r5 => ?_)
      refine G_aload_n 0 dX7_push_23 rfl rfl ?_
      refine G_geti (k := 1) K_9 (by decide) rfl rfl rfl gw_177 rfl dX7_push_24 (fun i6 => ?_)
      refine G_iload_n 1 dX7_push_27 rfl rfl ?_
      refine G_iast dX7_push_28 (fun x7 => ?_)
      refine G_aload_n 0 dX7_push_29 rfl rfl ?_
      refine G_dup dX7_push_30 (rf_cat _) ?_
      refine G_geti (k := 1) K_9 (by decide) rfl rfl rfl gw_177 rfl dX7_push_31 (fun i8 => ?_)
      refine G_iconst (v := (1 : Int32)) dX7_push_34 rfl ?_
      refine G_iadd dX7_push_35 ?_
      refine G_puti (k := 1) K_9 (by decide) rfl rfl rfl gw_177 rfl (Or.inl rfl) nar_int.1 nar_int.2 dX7_push_36 (fun x9 => ?_)
      exact G_ret trivial dX7_push_39 rfl

theorem yn_X7_push : Yn yX7_push 1 := ⟨by decide +kernel, by decide +kernel, by decide +kernel⟩
theorem ct_X7_push (l : Launch) (N : Nat) (z : Nat → Nat) (o : Nat) (v1 : Int32) : Ct l z yX7_push cX7_push 2 none 1 enV [.ref o, .int v1] (f_X7_push N z o v1) :=
  Ct_v (fun x => G_lv0 (by simp only [lva_n, lva_i, lva_o, lva_r, lva_j]) (g_X7_push l N z o v1 x)) (by decide +kernel) (by simp only [lgl_n, lgl_i, lgl_o, lgl_r, lgl_j]; decide)

theorem dX7_pop_0 : decode cX7_pop 0 = .ok (.aload_n 0, 1) := by decide +kernel
theorem dX7_pop_1 : decode cX7_pop 1 = .ok (.getfield 15, 3) := by decide +kernel
theorem dX7_pop_4 : decode cX7_pop 4 = .ok (.iconst 1, 1) := by decide +kernel
theorem dX7_pop_5 : decode cX7_pop 5 = .ok (.if_icmp .lt 15, 3) := by decide +kernel
theorem dX7_pop_8 : decode cX7_pop 8 = .ok (.aload_n 0, 1) := by decide +kernel
theorem dX7_pop_9 : decode cX7_pop 9 = .ok (.getfield 15, 3) := by decide +kernel
theorem dX7_pop_12 : decode cX7_pop 12 = .ok (.aload_n 0, 1) := by decide +kernel
theorem dX7_pop_13 : decode cX7_pop 13 = .ok (.getfield 9, 3) := by decide +kernel
theorem dX7_pop_16 : decode cX7_pop 16 = .ok (.arraylength, 1) := by decide +kernel
theorem dX7_pop_17 : decode cX7_pop 17 = .ok (.if_icmp .le 5, 3) := by decide +kernel
theorem dX7_pop_20 : decode cX7_pop 20 = .ok (.iconst 0, 1) := by decide +kernel
theorem dX7_pop_21 : decode cX7_pop 21 = .ok (.ireturn, 1) := by decide +kernel
theorem dX7_pop_22 : decode cX7_pop 22 = .ok (.aload_n 0, 1) := by decide +kernel
theorem dX7_pop_23 : decode cX7_pop 23 = .ok (.dup, 1) := by decide +kernel
theorem dX7_pop_24 : decode cX7_pop 24 = .ok (.getfield 15, 3) := by decide +kernel
theorem dX7_pop_27 : decode cX7_pop 27 = .ok (.iconst 1, 1) := by decide +kernel
theorem dX7_pop_28 : decode cX7_pop 28 = .ok (.isub, 1) := by decide +kernel
theorem dX7_pop_29 : decode cX7_pop 29 = .ok (.putfield 15, 3) := by decide +kernel
theorem dX7_pop_32 : decode cX7_pop 32 = .ok (.aload_n 0, 1) := by decide +kernel
theorem dX7_pop_33 : decode cX7_pop 33 = .ok (.getfield 9, 3) := by decide +kernel
theorem dX7_pop_36 : decode cX7_pop 36 = .ok (.aload_n 0, 1) := by decide +kernel
theorem dX7_pop_37 : decode cX7_pop 37 = .ok (.getfield 15, 3) := by decide +kernel
theorem dX7_pop_40 : decode cX7_pop 40 = .ok (.iaload, 1) := by decide +kernel
theorem dX7_pop_41 : decode cX7_pop 41 = .ok (.ireturn, 1) := by decide +kernel
abbrev m_X7_pop : Mt := (cX7_pop, RX7, "pop", 1, .ireturn, 1)
def f_X7_pop (N : Nat) (z : Nat → Nat) (o : Nat) (x0 : Hp) : Option (Int32 × Hp) :=
  geti (some o) x0 10 181 fun i1 =>
  if i1 < (1 : Int32) then (some ((0 : Int32), x0)) else (geti (some o) x0 10 181 fun i2 =>
  getr (some o) x0 10 180 fun r3 =>
  alen r3 x0 101 fun i4 =>
  if i2 ≤ i4 then (geti (some o) x0 10 181 fun i5 =>
  puti (some o) x0 10 181 (i5 - (1 : Int32)) fun x6 =>
  getr (some o) x6 10 180 fun r7 =>
  geti (some o) x6 10 181 fun i8 =>
  aldi r7 x6 101 i8 fun i9 =>
  some (i9, x6)) else (some ((0 : Int32), x0)))
set_option maxRecDepth 100000 in
set_option maxHeartbeats 4000000 in
theorem g_X7_pop (l : Launch) (N : Nat) (z : Nat → Nat) (o : Nat) (x0 : Hp) : G l z m_X7_pop okT enI 0 [(0, va_rf (some o))] [] x0 (f_X7_pop N z o x0) := by
  unfold f_X7_pop
  refine G_aload_n 0 dX7_pop_0 rfl rfl ?_
  refine G_geti (k := 1) K_9 (by decide) rfl rfl rfl gw_177 rfl dX7_pop_1 (fun i1 => ?_)
  refine G_iconst (v := (1 : Int32)) dX7_pop_4 rfl ?_
  refine G_icmp_lt (tgt := 20) dX7_pop_5 (by decide) (fun _ => ?_) (fun _ => ?_)
  · refine G_iconst (v := (0 : Int32)) dX7_pop_20 rfl ?_
    exact G_ret trivial dX7_pop_21 rfl
  · refine G_aload_n 0 dX7_pop_8 rfl rfl ?_
    refine G_geti (k := 1) K_9 (by decide) rfl rfl rfl gw_177 rfl dX7_pop_9 (fun i2 => ?_)
    refine G_aload_n 0 dX7_pop_12 rfl rfl ?_
    refine G_getr (k := 0) K_9 (by decide) rfl rfl rfl gw_176 rfl dX7_pop_13 (fun r3 => ?_)
    refine G_alen (t := 1) rfl (by decide) dX7_pop_16 (fun i4 => ?_)
    refine G_icmp_le (tgt := 22) dX7_pop_17 (by decide) (fun _ => ?_) (fun _ => ?_)
    · refine G_aload_n 0 dX7_pop_22 rfl rfl ?_
      refine G_dup dX7_pop_23 (rf_cat _) ?_
      refine G_geti (k := 1) K_9 (by decide) rfl rfl rfl gw_177 rfl dX7_pop_24 (fun i5 => ?_)
      refine G_iconst (v := (1 : Int32)) dX7_pop_27 rfl ?_
      refine G_isub dX7_pop_28 ?_
      refine G_puti (k := 1) K_9 (by decide) rfl rfl rfl gw_177 rfl (Or.inl rfl) nar_int.1 nar_int.2 dX7_pop_29 (fun x6 => ?_)
      refine G_aload_n 0 dX7_pop_32 rfl rfl ?_
      refine G_getr (k := 0) K_9 (by decide) rfl rfl rfl gw_176 rfl dX7_pop_33 (fun r7 => ?_)
      refine G_aload_n 0 dX7_pop_36 rfl rfl ?_
      refine G_geti (k := 1) K_9 (by decide) rfl rfl rfl gw_177 rfl dX7_pop_37 (fun i8 => ?_)
      refine G_iald dX7_pop_40 (fun i9 => ?_)
      exact G_ret trivial dX7_pop_41 rfl
    · refine G_iconst (v := (0 : Int32)) dX7_pop_20 rfl ?_
      exact G_ret trivial dX7_pop_21 rfl

theorem yn_X7_pop : Yn yX7_pop 0 := ⟨by decide +kernel, by decide +kernel, by decide +kernel⟩
theorem ct_X7_pop (l : Launch) (N : Nat) (z : Nat → Nat) (o : Nat) : Ct l z yX7_pop cX7_pop 1 (some .int) 1 enI [.ref o] (f_X7_pop N z o) :=
  Ct_i (fun x => G_lv0 (by simp only [lva_n, lva_i, lva_o, lva_r, lva_j]) (g_X7_pop l N z o x)) (by decide +kernel) (by simp only [lgl_n, lgl_i, lgl_o, lgl_r, lgl_j]; decide)
