theorem dX4_init_0 : decode cX4_init 0 = .ok (.aload_n 0, 1) := by decide +kernel
theorem dX4_init_1 : decode cX4_init 1 = .ok (.invokespecial 3, 3) := by decide +kernel
theorem dX4_init_4 : decode cX4_init 4 = .ok (.aload_n 0, 1) := by decide +kernel
theorem dX4_init_5 : decode cX4_init 5 = .ok (.bipush 60, 2) := by decide +kernel
theorem dX4_init_7 : decode cX4_init 7 = .ok (.newarray .int, 2) := by decide +kernel
theorem dX4_init_9 : decode cX4_init 9 = .ok (.putfield 9, 3) := by decide +kernel
theorem dX4_init_12 : decode cX4_init 12 = .ok (.return_, 1) := by decide +kernel
abbrev m_X4_init : Mt := (cX4_init, RX4, "<init>", 1, .return_, 2)
def f_X4_init (N : Nat) (z : Nat → Nat) (o : Nat) (x0 : Hp) : Option (Unit × Hp) :=
  nn (some o) fun _ =>
  newa x0 101 (60 : Int32) fun r2 x3 =>
  putr (some o) x3 7 121 r2 fun x4 =>
  some ((), x4)
set_option maxRecDepth 100000 in
set_option maxHeartbeats 4000000 in
theorem g_X4_init (l : Launch) (N : Nat) (z : Nat → Nat) (o : Nat) (x0 : Hp) : G l z m_X4_init okT enV 0 [(0, va_rf (some o))] [] x0 (f_X4_init N z o x0) := by
  unfold f_X4_init
  refine G_aload_n 0 dX4_init_0 rfl rfl ?_
  refine G_objInit (st := []) gw_193 gw_75 gw_76 (by decide) (by decide) dX4_init_1 (fun _ => ?_)
  refine G_aload_n 0 dX4_init_4 rfl rfl ?_
  refine G_bipush (v := (60 : Int32)) dX4_init_5 (by decide) ?_
  refine G_newa (t := 1) rfl (Or.inr (Or.inl ⟨rfl, rfl⟩)) gw_140 dX4_init_7 (fun r2 x3 => ?_)
  refine G_putr (k := 1) K_6 (by decide) rfl rfl rfl gw_198 rfl (Or.inr ⟨rfl, rfl, rfl⟩) nar_arr.1 nar_arr.2 dX4_init_9 (fun x4 => ?_)
  exact G_ret trivial dX4_init_12 rfl

theorem yn_X4_init : Yn yX4_init 0 := ⟨by decide +kernel, by decide +kernel, by decide +kernel⟩
theorem ct_X4_init (l : Launch) (N : Nat) (z : Nat → Nat) (o : Nat) : Ct l z yX4_init cX4_init 1 none 2 enV [.ref o] (f_X4_init N z o) :=
  Ct_v (fun x => G_lv0 (by simp only [lva_n, lva_i, lva_o, lva_r, lva_j]) (g_X4_init l N z o x)) (by decide +kernel) (by simp only [lgl_n, lgl_i, lgl_o, lgl_r, lgl_j]; decide)

theorem dX4_clear_0 : decode cX4_clear 0 = .ok (.aload_n 0, 1) := by decide +kernel
theorem dX4_clear_1 : decode cX4_clear 1 = .ok (.iconst 0, 1) := by decide +kernel
theorem dX4_clear_2 : decode cX4_clear 2 = .ok (.putfield 15, 3) := by decide +kernel
theorem dX4_clear_5 : decode cX4_clear 5 = .ok (.aload_n 0, 1) := by decide +kernel
theorem dX4_clear_6 : decode cX4_clear 6 = .ok (.iconst 0, 1) := by decide +kernel
theorem dX4_clear_7 : decode cX4_clear 7 = .ok (.putfield 19, 3) := by decide +kernel
theorem dX4_clear_10 : decode cX4_clear 10 = .ok (.return_, 1) := by decide +kernel
abbrev m_X4_clear : Mt := (cX4_clear, RX4, "clear", 1, .return_, 1)
def f_X4_clear (N : Nat) (z : Nat → Nat) (o : Nat) (x0 : Hp) : Option (Unit × Hp) :=
  puti (some o) x0 7 120 (0 : Int32) fun x1 =>
  puti (some o) x1 7 122 (0 : Int32) fun x2 =>
  some ((), x2)
set_option maxRecDepth 100000 in
set_option maxHeartbeats 4000000 in
theorem g_X4_clear (l : Launch) (N : Nat) (z : Nat → Nat) (o : Nat) (x0 : Hp) : G l z m_X4_clear okT enV 0 [(0, va_rf (some o))] [] x0 (f_X4_clear N z o x0) := by
  unfold f_X4_clear
  refine G_aload_n 0 dX4_clear_0 rfl rfl ?_
  refine G_iconst (v := (0 : Int32)) dX4_clear_1 rfl ?_
  refine G_puti (k := 0) K_6 (by decide) rfl rfl rfl gw_194 rfl (Or.inl rfl) nar_int.1 nar_int.2 dX4_clear_2 (fun x1 => ?_)
  refine G_aload_n 0 dX4_clear_5 rfl rfl ?_
  refine G_iconst (v := (0 : Int32)) dX4_clear_6 rfl ?_
  refine G_puti (k := 2) K_6 (by decide) rfl rfl rfl gw_199 rfl (Or.inl rfl) nar_int.1 nar_int.2 dX4_clear_7 (fun x2 => ?_)
  exact G_ret trivial dX4_clear_10 rfl

theorem yn_X4_clear : Yn yX4_clear 0 := ⟨by decide +kernel, by decide +kernel, by decide +kernel⟩
theorem ct_X4_clear (l : Launch) (N : Nat) (z : Nat → Nat) (o : Nat) : Ct l z yX4_clear cX4_clear 1 none 1 enV [.ref o] (f_X4_clear N z o) :=
  Ct_v (fun x => G_lv0 (by simp only [lva_n, lva_i, lva_o, lva_r, lva_j]) (g_X4_clear l N z o x)) (by decide +kernel) (by simp only [lgl_n, lgl_i, lgl_o, lgl_r, lgl_j]; decide)

theorem dX4_slotOf_0 : decode cX4_slotOf 0 = .ok (.aload_n 0, 1) := by decide +kernel
theorem dX4_slotOf_1 : decode cX4_slotOf 1 = .ok (.getfield 19, 3) := by decide +kernel
theorem dX4_slotOf_4 : decode cX4_slotOf 4 = .ok (.iload_n 1, 1) := by decide +kernel
theorem dX4_slotOf_5 : decode cX4_slotOf 5 = .ok (.iadd, 1) := by decide +kernel
theorem dX4_slotOf_6 : decode cX4_slotOf 6 = .ok (.istore_n 2, 1) := by decide +kernel
theorem dX4_slotOf_7 : decode cX4_slotOf 7 = .ok (.iload_n 2, 1) := by decide +kernel
theorem dX4_slotOf_8 : decode cX4_slotOf 8 = .ok (.aload_n 0, 1) := by decide +kernel
theorem dX4_slotOf_9 : decode cX4_slotOf 9 = .ok (.getfield 9, 3) := by decide +kernel
theorem dX4_slotOf_12 : decode cX4_slotOf 12 = .ok (.arraylength, 1) := by decide +kernel
theorem dX4_slotOf_13 : decode cX4_slotOf 13 = .ok (.if_icmp .lt 13, 3) := by decide +kernel
theorem dX4_slotOf_16 : decode cX4_slotOf 16 = .ok (.iload_n 2, 1) := by decide +kernel
theorem dX4_slotOf_17 : decode cX4_slotOf 17 = .ok (.aload_n 0, 1) := by decide +kernel
theorem dX4_slotOf_18 : decode cX4_slotOf 18 = .ok (.getfield 9, 3) := by decide +kernel
theorem dX4_slotOf_21 : decode cX4_slotOf 21 = .ok (.arraylength, 1) := by decide +kernel
theorem dX4_slotOf_22 : decode cX4_slotOf 22 = .ok (.isub, 1) := by decide +kernel
theorem dX4_slotOf_23 : decode cX4_slotOf 23 = .ok (.goto 4, 3) := by decide +kernel
theorem dX4_slotOf_26 : decode cX4_slotOf 26 = .ok (.iload_n 2, 1) := by decide +kernel
theorem dX4_slotOf_27 : decode cX4_slotOf 27 = .ok (.ireturn, 1) := by decide +kernel
abbrev m_X4_slotOf : Mt := (cX4_slotOf, RX4, "slotOf", 3, .ireturn, 1)
def f_X4_slotOf (N : Nat) (z : Nat → Nat) (o : Nat) (v1 : Int32) (x0 : Hp) : Option (Int32 × Hp) :=
  geti (some o) x0 7 122 fun i1 =>
  getr (some o) x0 7 121 fun r2 =>
  alen r2 x0 101 fun i3 =>
  if (i1 + v1) < i3 then (some (i1 + v1, x0)) else (getr (some o) x0 7 121 fun r4 =>
  alen r4 x0 101 fun i5 =>
  some ((i1 + v1) - i5, x0))
set_option maxRecDepth 100000 in
set_option maxHeartbeats 4000000 in
theorem g_X4_slotOf (l : Launch) (N : Nat) (z : Nat → Nat) (o : Nat) (v1 : Int32) (x0 : Hp) : G l z m_X4_slotOf okT enI 0 [(0, va_rf (some o)), (1, .int v1)] [] x0 (f_X4_slotOf N z o v1 x0) := by
  unfold f_X4_slotOf
  refine G_aload_n 0 dX4_slotOf_0 rfl rfl ?_
  refine G_geti (k := 2) K_6 (by decide) rfl rfl rfl gw_199 rfl dX4_slotOf_1 (fun i1 => ?_)
  refine G_iload_n 1 dX4_slotOf_4 rfl rfl ?_
  refine G_iadd dX4_slotOf_5 ?_
  refine G_istore_n (i := 2) (l2 := [(0, va_rf (some o)), (1, .int v1)]) [0, 1] dX4_slotOf_6 rfl (Nat.le_of_ble_eq_true rfl) rfl (sok_a (by decide) (by decide) (sok_b (by decide) rfl trivial)) ?_
  refine G_iload_n 0 dX4_slotOf_7 rfl rfl ?_
  refine G_aload_n 1 dX4_slotOf_8 rfl rfl ?_
  refine G_getr (k := 1) K_6 (by decide) rfl rfl rfl gw_198 rfl dX4_slotOf_9 (fun r2 => ?_)
  refine G_alen (t := 1) rfl (by decide) dX4_slotOf_12 (fun i3 => ?_)
  refine G_icmp_lt (tgt := 26) dX4_slotOf_13 (by decide) (fun _ => ?_) (fun _ => ?_)
  · refine G_iload_n 0 dX4_slotOf_26 rfl rfl ?_
    exact G_ret trivial dX4_slotOf_27 rfl
  · refine G_iload_n 0 dX4_slotOf_16 rfl rfl ?_
    refine G_aload_n 1 dX4_slotOf_17 rfl rfl ?_
    refine G_getr (k := 1) K_6 (by decide) rfl rfl rfl gw_198 rfl dX4_slotOf_18 (fun r4 => ?_)
    refine G_alen (t := 1) rfl (by decide) dX4_slotOf_21 (fun i5 => ?_)
    refine G_isub dX4_slotOf_22 ?_
    refine G_goto (tgt := 27) dX4_slotOf_23 (by decide) ?_
    exact G_ret trivial dX4_slotOf_27 rfl

theorem yn_X4_slotOf : Yn yX4_slotOf 1 := ⟨by decide +kernel, by decide +kernel, by decide +kernel⟩
theorem ct_X4_slotOf (l : Launch) (N : Nat) (z : Nat → Nat) (o : Nat) (v1 : Int32) : Ct l z yX4_slotOf cX4_slotOf 3 (some .int) 1 enI [.ref o, .int v1] (f_X4_slotOf N z o v1) :=
  Ct_i (fun x => G_lv0 (by simp only [lva_n, lva_i, lva_o, lva_r, lva_j]) (g_X4_slotOf l N z o v1 x)) (by decide +kernel) (by simp only [lgl_n, lgl_i, lgl_o, lgl_r, lgl_j]; decide)

theorem dX4_add_0 : decode cX4_add 0 = .ok (.aload_n 0, 1) := by decide +kernel
theorem dX4_add_1 : decode cX4_add 1 = .ok (.aload_n 0, 1) := by decide +kernel
theorem dX4_add_2 : decode cX4_add 2 = .ok (.getfield 15, 3) := by decide +kernel
theorem dX4_add_5 : decode cX4_add 5 = .ok (.invokevirtual 22, 3) := by decide +kernel
theorem dX4_add_8 : decode cX4_add 8 = .ok (.istore_n 2, 1) := by decide +kernel
theorem dX4_add_9 : decode cX4_add 9 = .ok (.aload_n 0, 1) := by decide +kernel
theorem dX4_add_10 : decode cX4_add 10 = .ok (.getfield 15, 3) := by decide +kernel
theorem dX4_add_13 : decode cX4_add 13 = .ok (.aload_n 0, 1) := by decide +kernel
theorem dX4_add_14 : decode cX4_add 14 = .ok (.getfield 9, 3) := by decide +kernel
theorem dX4_add_17 : decode cX4_add 17 = .ok (.arraylength, 1) := by decide +kernel
theorem dX4_add_18 : decode cX4_add 18 = .ok (.if_icmp .ge 33, 3) := by decide +kernel
theorem dX4_add_21 : decode cX4_add 21 = .ok (.iload_n 2, 1) := by decide +kernel
theorem dX4_add_22 : decode cX4_add 22 = .ok (.ifCond .lt 29, 3) := by decide +kernel
theorem dX4_add_25 : decode cX4_add 25 = .ok (.iload_n 2, 1) := by decide +kernel
theorem dX4_add_26 : decode cX4_add 26 = .ok (.aload_n 0, 1) := by decide +kernel
theorem dX4_add_27 : decode cX4_add 27 = .ok (.getfield 9, 3) := by decide +kernel
theorem dX4_add_30 : decode cX4_add 30 = .ok (.arraylength, 1) := by decide +kernel
theorem dX4_add_31 : decode cX4_add 31 = .ok (.if_icmp .ge 20, 3) := by decide +kernel
theorem dX4_add_34 : decode cX4_add 34 = .ok (.aload_n 0, 1) := by decide +kernel
theorem dX4_add_35 : decode cX4_add 35 = .ok (.getfield 9, 3) := by decide +kernel
theorem dX4_add_38 : decode cX4_add 38 = .ok (.iload_n 2, 1) := by decide +kernel
theorem dX4_add_39 : decode cX4_add 39 = .ok (.iload_n 1, 1) := by decide +kernel
theorem dX4_add_40 : decode cX4_add 40 = .ok (.iastore, 1) := by decide +kernel
theorem dX4_add_41 : decode cX4_add 41 = .ok (.aload_n 0, 1) := by decide +kernel
theorem dX4_add_42 : decode cX4_add 42 = .ok (.dup, 1) := by decide +kernel
theorem dX4_add_43 : decode cX4_add 43 = .ok (.getfield 15, 3) := by decide +kernel
theorem dX4_add_46 : decode cX4_add 46 = .ok (.iconst 1, 1) := by decide +kernel
theorem dX4_add_47 : decode cX4_add 47 = .ok (.iadd, 1) := by decide +kernel
theorem dX4_add_48 : decode cX4_add 48 = .ok (.putfield 15, 3) := by decide +kernel
theorem dX4_add_51 : decode cX4_add 51 = .ok (.return_, 1) := by decide +kernel
abbrev m_X4_add : Mt := (cX4_add, RX4, "add", 3, .return_, 2)
def f_X4_add (N : Nat) (z : Nat → Nat) (o : Nat) (v1 : Int32) (x0 : Hp) : Option (Unit × Hp) :=
  geti (some o) x0 7 120 fun i1 =>
  obj (some o) x0 7 fun q4 => bnd (f_X4_slotOf N z q4 i1 x0) fun i3 x2 =>
  geti (some o) x2 7 120 fun i5 =>
  getr (some o) x2 7 121 fun r6 =>
  alen r6 x2 101 fun i7 =>
  if i7 ≤ i5 then (some ((), x2)) else (if i3 < 0 then (some ((), x2)) else (getr (some o) x2 7 121 fun r8 =>
  alen r8 x2 101 fun i9 =>
  if i9 ≤ i3 then (some ((), x2)) else (getr (some o) x2 7 121 fun r10 =>
  asti r10 x2 101 i3 v1 fun x11 =>
  geti (some o) x11 7 120 fun i12 =>
  puti (some o) x11 7 120 (i12 + (1 : Int32)) fun x13 =>
  some ((), x13))))
set_option maxRecDepth 100000 in
set_option maxHeartbeats 4000000 in
theorem g_X4_add (l : Launch) (N : Nat) (z : Nat → Nat) (o : Nat) (v1 : Int32) (x0 : Hp) : G l z m_X4_add okT enV 0 [(0, va_rf (some o)), (1, .int v1)] [] x0 (f_X4_add N z o v1 x0) := by
  unfold f_X4_add
  refine G_aload_n 0 dX4_add_0 rfl rfl ?_
  refine G_aload_n 0 dX4_add_1 rfl rfl ?_
  refine G_geti (k := 0) K_6 (by decide) rfl rfl rfl gw_194 rfl dX4_add_2 (fun i1 => ?_)
  refine G_callV (av := [.int i1]) [] (fun q4 => ct_X4_slotOf l N z q4 i1) K_6 rfl yn_X4_slotOf (Nat.le_of_ble_eq_true rfl) (by decide) gw_579 gw_581 gw_s3 gw_47 gw_582 rfl (by decide) dX4_add_5 (fun i3 x2 => ?_)
  refine G_istore_n (i := 2) (l2 := [(0, va_rf (some o)), (1, .int v1)]) [0, 1] dX4_add_8 rfl (Nat.le_of_ble_eq_true rfl) rfl (sok_a (by decide) (by decide) (sok_b (by decide) rfl trivial)) ?_
  refine G_aload_n 1 dX4_add_9 rfl rfl ?_
  refine G_geti (k := 0) K_6 (by decide) rfl rfl rfl gw_194 rfl dX4_add_10 (fun i5 => ?_)
  refine G_aload_n 1 dX4_add_13 rfl rfl ?_
  refine G_getr (k := 1) K_6 (by decide) rfl rfl rfl gw_198 rfl dX4_add_14 (fun r6 => ?_)
  refine G_alen (t := 1) rfl (by decide) dX4_add_17 (fun i7 => ?_)
  refine G_icmp_ge (tgt := 51) dX4_add_18 (by decide) (fun _ => ?_) (fun _ => ?_)
  · exact G_ret trivial dX4_add_51 rfl
  · refine G_iload_n 0 dX4_add_21 rfl rfl ?_
    refine G_if_lt (tgt := 51) dX4_add_22 (by decide) (fun _ => ?_) (fun _ => ?_)
    · exact G_ret trivial dX4_add_51 rfl
    · refine G_iload_n 0 dX4_add_25 rfl rfl ?_
      refine G_aload_n 1 dX4_add_26 rfl rfl ?_
      refine G_getr (k := 1) K_6 (by decide) rfl rfl rfl gw_198 rfl dX4_add_27 (fun r8 => ?_)
      refine G_alen (t := 1) rfl (by decide) dX4_add_30 (fun i9 => ?_)
      refine G_icmp_ge (tgt := 51) dX4_add_31 (by decide) (fun _ => ?_) (fun _ => ?_)
      · exact G_ret trivial dX4_add_51 rfl
      · refine G_aload_n 1 dX4_add_34 rfl rfl ?_
        refine G_getr (k := 1) K_6 (by decide) rfl rfl rfl gw_198 rfl dX4_add_35 (fun r10 => ?_)
        refine G_iload_n 0 dX4_add_38 rfl rfl ?_
        refine G_iload_n 2 dX4_add_39 rfl rfl ?_
        refine G_iast dX4_add_40 (fun x11 => ?_)
        refine G_aload_n 1 dX4_add_41 rfl rfl ?_
        refine G_dup dX4_add_42 (rf_cat _) ?_
        refine G_geti (k := 0) K_6 (by decide) rfl rfl rfl gw_194 rfl dX4_add_43 (fun i12 => ?_)
        refine G_iconst (v := (1 : Int32)) dX4_add_46 rfl ?_
        refine G_iadd dX4_add_47 ?_
        refine G_puti (k := 0) K_6 (by decide) rfl rfl rfl gw_194 rfl (Or.inl rfl) nar_int.1 nar_int.2 dX4_add_48 (fun x13 => ?_)
        exact G_ret trivial dX4_add_51 rfl

theorem yn_X4_add : Yn yX4_add 1 := ⟨by decide +kernel, by decide +kernel, by decide +kernel⟩
theorem ct_X4_add (l : Launch) (N : Nat) (z : Nat → Nat) (o : Nat) (v1 : Int32) : Ct l z yX4_add cX4_add 3 none 2 enV [.ref o, .int v1] (f_X4_add N z o v1) :=
  Ct_v (fun x => G_lv0 (by simp only [lva_n, lva_i, lva_o, lva_r, lva_j]) (g_X4_add l N z o v1 x)) (by decide +kernel) (by simp only [lgl_n, lgl_i, lgl_o, lgl_r, lgl_j]; decide)

theorem dX4_at_0 : decode cX4_at 0 = .ok (.aload_n 0, 1) := by decide +kernel
theorem dX4_at_1 : decode cX4_at 1 = .ok (.iload_n 1, 1) := by decide +kernel
theorem dX4_at_2 : decode cX4_at 2 = .ok (.invokevirtual 22, 3) := by decide +kernel
theorem dX4_at_5 : decode cX4_at 5 = .ok (.istore_n 2, 1) := by decide +kernel
theorem dX4_at_6 : decode cX4_at 6 = .ok (.iload_n 2, 1) := by decide +kernel
theorem dX4_at_7 : decode cX4_at 7 = .ok (.ifCond .lt 21, 3) := by decide +kernel
theorem dX4_at_10 : decode cX4_at 10 = .ok (.iload_n 2, 1) := by decide +kernel
theorem dX4_at_11 : decode cX4_at 11 = .ok (.aload_n 0, 1) := by decide +kernel
theorem dX4_at_12 : decode cX4_at 12 = .ok (.getfield 9, 3) := by decide +kernel
theorem dX4_at_15 : decode cX4_at 15 = .ok (.arraylength, 1) := by decide +kernel
theorem dX4_at_16 : decode cX4_at 16 = .ok (.if_icmp .ge 12, 3) := by decide +kernel
theorem dX4_at_19 : decode cX4_at 19 = .ok (.aload_n 0, 1) := by decide +kernel
theorem dX4_at_20 : decode cX4_at 20 = .ok (.getfield 9, 3) := by decide +kernel
theorem dX4_at_23 : decode cX4_at 23 = .ok (.iload_n 2, 1) := by decide +kernel
theorem dX4_at_24 : decode cX4_at 24 = .ok (.iaload, 1) := by decide +kernel
theorem dX4_at_25 : decode cX4_at 25 = .ok (.goto 4, 3) := by decide +kernel
theorem dX4_at_28 : decode cX4_at 28 = .ok (.iconst 0, 1) := by decide +kernel
theorem dX4_at_29 : decode cX4_at 29 = .ok (.ireturn, 1) := by decide +kernel
abbrev m_X4_at : Mt := (cX4_at, RX4, "at", 3, .ireturn, 2)
def f_X4_at (N : Nat) (z : Nat → Nat) (o : Nat) (v1 : Int32) (x0 : Hp) : Option (Int32 × Hp) :=
  obj (some o) x0 7 fun q3 => bnd (f_X4_slotOf N z q3 v1 x0) fun i2 x1 =>
  if i2 < 0 then (some ((0 : Int32), x1)) else (getr (some o) x1 7 121 fun r4 =>
  alen r4 x1 101 fun i5 =>
  if i5 ≤ i2 then (some ((0 : Int32), x1)) else (getr (some o) x1 7 121 fun r6 =>
  aldi r6 x1 101 i2 fun i7 =>
  some (i7, x1)))
set_option maxRecDepth 100000 in
set_option maxHeartbeats 4000000 in
theorem g_X4_at (l : Launch) (N : Nat) (z : Nat → Nat) (o : Nat) (v1 : Int32) (x0 : Hp) : G l z m_X4_at okT enI 0 [(0, va_rf (some o)), (1, .int v1)] [] x0 (f_X4_at N z o v1 x0) := by
  unfold f_X4_at
  refine G_aload_n 0 dX4_at_0 rfl rfl ?_
  refine G_iload_n 1 dX4_at_1 rfl rfl ?_
  refine G_callV (av := [.int v1]) [] (fun q3 => ct_X4_slotOf l N z q3 v1) K_6 rfl yn_X4_slotOf (Nat.le_of_ble_eq_true rfl) (by decide) gw_579 gw_581 gw_s3 gw_47 gw_582 rfl (by decide) dX4_at_2 (fun i2 x1 => ?_)
  refine G_istore_n (i := 2) (l2 := [(0, va_rf (some o)), (1, .int v1)]) [0, 1] dX4_at_5 rfl (Nat.le_of_ble_eq_true rfl) rfl (sok_a (by decide) (by decide) (sok_b (by decide) rfl trivial)) ?_
  refine G_iload_n 0 dX4_at_6 rfl rfl ?_
  refine G_if_lt (tgt := 28) dX4_at_7 (by decide) (fun _ => ?_) (fun _ => ?_)
  · refine G_iconst (v := (0 : Int32)) dX4_at_28 rfl ?_
    exact G_ret trivial dX4_at_29 rfl
  · refine G_iload_n 0 dX4_at_10 rfl rfl ?_
    refine G_aload_n 1 dX4_at_11 rfl rfl ?_
    refine G_getr (k := 1) K_6 (by decide) rfl rfl rfl gw_198 rfl dX4_at_12 (fun r4 => ?_)
    refine G_alen (t := 1) rfl (by decide) dX4_at_15 (fun i5 => ?_)
    refine G_icmp_ge (tgt := 28) dX4_at_16 (by decide) (fun _ => ?_) (fun _ => ?_)
    · refine G_iconst (v := (0 : Int32)) dX4_at_28 rfl ?_
      exact G_ret trivial dX4_at_29 rfl
    · refine G_aload_n 1 dX4_at_19 rfl rfl ?_
      refine G_getr (k := 1) K_6 (by decide) rfl rfl rfl gw_198 rfl dX4_at_20 (fun r6 => ?_)
      refine G_iload_n 0 dX4_at_23 rfl rfl ?_
      refine G_iald dX4_at_24 (fun i7 => ?_)
      refine G_goto (tgt := 29) dX4_at_25 (by decide) ?_
      exact G_ret trivial dX4_at_29 rfl

theorem yn_X4_at : Yn yX4_at 1 := ⟨by decide +kernel, by decide +kernel, by decide +kernel⟩
theorem ct_X4_at (l : Launch) (N : Nat) (z : Nat → Nat) (o : Nat) (v1 : Int32) : Ct l z yX4_at cX4_at 3 (some .int) 2 enI [.ref o, .int v1] (f_X4_at N z o v1) :=
  Ct_i (fun x => G_lv0 (by simp only [lva_n, lva_i, lva_o, lva_r, lva_j]) (g_X4_at l N z o v1 x)) (by decide +kernel) (by simp only [lgl_n, lgl_i, lgl_o, lgl_r, lgl_j]; decide)

theorem dX4_dropFront_0 : decode cX4_dropFront 0 = .ok (.aload_n 0, 1) := by decide +kernel
theorem dX4_dropFront_1 : decode cX4_dropFront 1 = .ok (.getfield 15, 3) := by decide +kernel
theorem dX4_dropFront_4 : decode cX4_dropFront 4 = .ok (.ifCond .le 22, 3) := by decide +kernel
theorem dX4_dropFront_7 : decode cX4_dropFront 7 = .ok (.aload_n 0, 1) := by decide +kernel
theorem dX4_dropFront_8 : decode cX4_dropFront 8 = .ok (.aload_n 0, 1) := by decide +kernel
theorem dX4_dropFront_9 : decode cX4_dropFront 9 = .ok (.iconst 1, 1) := by decide +kernel
theorem dX4_dropFront_10 : decode cX4_dropFront 10 = .ok (.invokevirtual 22, 3) := by decide +kernel
theorem dX4_dropFront_13 : decode cX4_dropFront 13 = .ok (.putfield 19, 3) := by decide +kernel
theorem dX4_dropFront_16 : decode cX4_dropFront 16 = .ok (.aload_n 0, 1) := by decide +kernel
theorem dX4_dropFront_17 : decode cX4_dropFront 17 = .ok (.dup, 1) := by decide +kernel
theorem dX4_dropFront_18 : decode cX4_dropFront 18 = .ok (.getfield 15, 3) := by decide +kernel
theorem dX4_dropFront_21 : decode cX4_dropFront 21 = .ok (.iconst 1, 1) := by decide +kernel
theorem dX4_dropFront_22 : decode cX4_dropFront 22 = .ok (.isub, 1) := by decide +kernel
theorem dX4_dropFront_23 : decode cX4_dropFront 23 = .ok (.putfield 15, 3) := by decide +kernel
theorem dX4_dropFront_26 : decode cX4_dropFront 26 = .ok (.return_, 1) := by decide +kernel
abbrev m_X4_dropFront : Mt := (cX4_dropFront, RX4, "dropFront", 1, .return_, 2)
def f_X4_dropFront (N : Nat) (z : Nat → Nat) (o : Nat) (x0 : Hp) : Option (Unit × Hp) :=
  geti (some o) x0 7 120 fun i1 =>
  if i1 ≤ 0 then (some ((), x0)) else (obj (some o) x0 7 fun q4 => bnd (f_X4_slotOf N z q4 (1 : Int32) x0) fun i3 x2 =>
  puti (some o) x2 7 122 i3 fun x5 =>
  geti (some o) x5 7 120 fun i6 =>
  puti (some o) x5 7 120 (i6 - (1 : Int32)) fun x7 =>
  some ((), x7))
set_option maxRecDepth 100000 in
set_option maxHeartbeats 4000000 in
theorem g_X4_dropFront (l : Launch) (N : Nat) (z : Nat → Nat) (o : Nat) (x0 : Hp) : G l z m_X4_dropFront okT enV 0 [(0, va_rf (some o))] [] x0 (f_X4_dropFront N z o x0) := by
  unfold f_X4_dropFront
  refine G_aload_n 0 dX4_dropFront_0 rfl rfl ?_
  refine G_geti (k := 0) K_6 (by decide) rfl rfl rfl gw_194 rfl dX4_dropFront_1 (fun i1 => ?_)
  refine G_if_le (tgt := 26) dX4_dropFront_4 (by decide) (fun _ => ?_) (fun _ => ?_)
  · exact G_ret trivial dX4_dropFront_26 rfl
  · refine G_aload_n 0 dX4_dropFront_7 rfl rfl ?_
    refine G_aload_n 0 dX4_dropFront_8 rfl rfl ?_
    refine G_iconst (v := (1 : Int32)) dX4_dropFront_9 rfl ?_
    refine G_callV (av := [.int (1 : Int32)]) [va_rf (some o)] (fun q4 => ct_X4_slotOf l N z q4 (1 : Int32)) K_6 rfl yn_X4_slotOf (Nat.le_of_ble_eq_true rfl) (by decide) gw_579 gw_581 gw_s3 gw_47 gw_582 rfl (by simp only [hw_n, hw_i, hw_r, hw_j, hw_d]; decide) dX4_dropFront_10 (fun i3 x2 => ?_)
    refine G_puti (k := 2) K_6 (by decide) rfl rfl rfl gw_199 rfl (Or.inl rfl) nar_int.1 nar_int.2 dX4_dropFront_13 (fun x5 => ?_)
    refine G_aload_n 0 dX4_dropFront_16 rfl rfl ?_
    refine G_dup dX4_dropFront_17 (rf_cat _) ?_
    refine G_geti (k := 0) K_6 (by decide) rfl rfl rfl gw_194 rfl dX4_dropFront_18 (fun i6 => ?_)
    refine G_iconst (v := (1 : Int32)) dX4_dropFront_21 rfl ?_
    refine G_isub dX4_dropFront_22 ?_
    refine G_puti (k := 0) K_6 (by decide) rfl rfl rfl gw_194 rfl (Or.inl rfl) nar_int.1 nar_int.2 dX4_dropFront_23 (fun x7 => ?_)
    exact G_ret trivial dX4_dropFront_26 rfl

theorem yn_X4_dropFront : Yn yX4_dropFront 0 := ⟨by decide +kernel, by decide +kernel, by decide +kernel⟩
theorem ct_X4_dropFront (l : Launch) (N : Nat) (z : Nat → Nat) (o : Nat) : Ct l z yX4_dropFront cX4_dropFront 1 none 2 enV [.ref o] (f_X4_dropFront N z o) :=
  Ct_v (fun x => G_lv0 (by simp only [lva_n, lva_i, lva_o, lva_r, lva_j]) (g_X4_dropFront l N z o x)) (by decide +kernel) (by simp only [lgl_n, lgl_i, lgl_o, lgl_r, lgl_j]; decide)

theorem dX4_copyFrom_0 : decode cX4_copyFrom 0 = .ok (.aload_n 0, 1) := by decide +kernel
theorem dX4_copyFrom_1 : decode cX4_copyFrom 1 = .ok (.invokevirtual 26, 3) := by decide +kernel
theorem dX4_copyFrom_4 : decode cX4_copyFrom 4 = .ok (.iconst 0, 1) := by decide +kernel
theorem dX4_copyFrom_5 : decode cX4_copyFrom 5 = .ok (.istore_n 2, 1) := by decide +kernel
theorem dX4_copyFrom_6 : decode cX4_copyFrom 6 = .ok (.iload_n 2, 1) := by decide +kernel
theorem dX4_copyFrom_7 : decode cX4_copyFrom 7 = .ok (.aload_n 1, 1) := by decide +kernel
theorem dX4_copyFrom_8 : decode cX4_copyFrom 8 = .ok (.getfield 15, 3) := by decide +kernel
theorem dX4_copyFrom_11 : decode cX4_copyFrom 11 = .ok (.if_icmp .ge 18, 3) := by decide +kernel
theorem dX4_copyFrom_14 : decode cX4_copyFrom 14 = .ok (.aload_n 0, 1) := by decide +kernel
theorem dX4_copyFrom_15 : decode cX4_copyFrom 15 = .ok (.aload_n 1, 1) := by decide +kernel
theorem dX4_copyFrom_16 : decode cX4_copyFrom 16 = .ok (.iload_n 2, 1) := by decide +kernel
theorem dX4_copyFrom_17 : decode cX4_copyFrom 17 = .ok (.invokevirtual 29, 3) := by decide +kernel
theorem dX4_copyFrom_20 : decode cX4_copyFrom 20 = .ok (.invokevirtual 32, 3) := by decide +kernel
theorem dX4_copyFrom_23 : decode cX4_copyFrom 23 = .ok (.iinc 2 1, 3) := by decide +kernel
theorem dX4_copyFrom_26 : decode cX4_copyFrom 26 = .ok (.goto (-20), 3) := by decide +kernel
theorem dX4_copyFrom_29 : decode cX4_copyFrom 29 = .ok (.return_, 1) := by decide +kernel
abbrev m_X4_copyFrom : Mt := (cX4_copyFrom, RX4, "copyFrom", 3, .return_, 3)
def f_X4_copyFrom_b6 (N : Nat) (z : Nat → Nat) : Nat → Nat → Option Nat → Int32 → Hp → Option (Unit × Hp)
  | 0, _, _, _, _ => none
  | n + 1, o, v1, v2, x0 => geti v1 x0 7 120 fun i1 =>
  if i1 ≤ v2 then (some ((), x0)) else (obj v1 x0 7 fun q4 => bnd (f_X4_at N z q4 v2 x0) fun i3 x2 =>
  obj (some o) x2 7 fun q6 => bnd (f_X4_add N z q6 i3 x2) fun _ x5 =>
  f_X4_copyFrom_b6 N z n o v1 (v2 + (1 : Int32)) x5)
def f_X4_copyFrom (N : Nat) (z : Nat → Nat) (o : Nat) (v1 : Option Nat) (x0 : Hp) : Option (Unit × Hp) :=
  obj (some o) x0 7 fun q8 => bnd (f_X4_clear N z q8 x0) fun _ x7 =>
  f_X4_copyFrom_b6 N z N o v1 (0 : Int32) x7
set_option maxRecDepth 100000 in
set_option maxHeartbeats 4000000 in
theorem g_X4_copyFrom_b6 (l : Launch) (N : Nat) (z : Nat → Nat) : ∀ (n : Nat) (o : Nat) (v1 : Option Nat) (v2 : Int32) (x0 : Hp), G l z m_X4_copyFrom okT enV 6 [(0, va_rf (some o)), (1, va_rf v1), (2, .int v2)] [] x0 (f_X4_copyFrom_b6 N z n o v1 v2 x0) := by
  intro n
  induction n with
  | zero => intro o v1 v2 x0; exact G_none
  | succ n ih =>
  intro o v1 v2 x0
  rw [f_X4_copyFrom_b6]
  refine G_iload_n 2 dX4_copyFrom_6 rfl rfl ?_
  refine G_aload_n 1 dX4_copyFrom_7 rfl rfl ?_
  refine G_geti (k := 0) K_6 (by decide) rfl rfl rfl gw_194 rfl dX4_copyFrom_8 (fun i1 => ?_)
  refine G_icmp_ge (tgt := 29) dX4_copyFrom_11 (by decide) (fun _ => ?_) (fun _ => ?_)
  · exact G_ret trivial dX4_copyFrom_29 rfl
  · refine G_aload_n 0 dX4_copyFrom_14 rfl rfl ?_
    refine G_aload_n 1 dX4_copyFrom_15 rfl rfl ?_
    refine G_iload_n 2 dX4_copyFrom_16 rfl rfl ?_
    refine G_callV (av := [.int v2]) [va_rf (some o)] (fun q4 => ct_X4_at l N z q4 v2) K_6 rfl yn_X4_at (Nat.le_of_ble_eq_true rfl) (by decide) gw_771 gw_576 gw_577 gw_47 gw_578 rfl (by simp only [hw_n, hw_i, hw_r, hw_j, hw_d]; decide) dX4_copyFrom_17 (fun i3 x2 => ?_)
    refine G_callV (av := [.int i3]) [] (fun q6 => ct_X4_add l N z q6 i3) K_6 rfl yn_X4_add (Nat.le_of_ble_eq_true rfl) (by decide) gw_772 gw_697 gw_698 gw_47 gw_699 rfl (by decide) dX4_copyFrom_20 (fun _ x5 => ?_)
    refine G_iinc (i := 2) (l2 := [(0, va_rf (some o)), (1, va_rf v1)]) 2 [0, 1] dX4_copyFrom_23 rfl rfl (Nat.le_of_ble_eq_true rfl) rfl (sok_a (by decide) (by decide) (sok_b (by decide) (rf_cat _) trivial)) ?_
    refine G_goto (tgt := 6) dX4_copyFrom_26 (by decide) ?_
    refine G_lv [1, 2, 0] rfl ?_
    exact ih o v1 (v2 + (1 : Int32)) x5

set_option maxRecDepth 100000 in
set_option maxHeartbeats 4000000 in
theorem g_X4_copyFrom (l : Launch) (N : Nat) (z : Nat → Nat) (o : Nat) (v1 : Option Nat) (x0 : Hp) : G l z m_X4_copyFrom okT enV 0 [(0, va_rf (some o)), (1, va_rf v1)] [] x0 (f_X4_copyFrom N z o v1 x0) := by
  unfold f_X4_copyFrom
  refine G_aload_n 0 dX4_copyFrom_0 rfl rfl ?_
  refine G_callV (av := []) [] (fun q8 => ct_X4_clear l N z q8) K_6 rfl yn_X4_clear (Nat.le_of_ble_eq_true rfl) (by decide) gw_770 gw_763 gw_764 gw_47 gw_765 rfl (by decide) dX4_copyFrom_1 (fun _ x7 => ?_)
  refine G_iconst (v := (0 : Int32)) dX4_copyFrom_4 rfl ?_
  refine G_istore_n (i := 2) (l2 := [(0, va_rf (some o)), (1, va_rf v1)]) [0, 1] dX4_copyFrom_5 rfl (Nat.le_of_ble_eq_true rfl) rfl (sok_a (by decide) (by decide) (sok_b (by decide) (rf_cat _) trivial)) ?_
  refine G_lv [1, 2, 0] rfl ?_
  exact g_X4_copyFrom_b6 l N z N o v1 (0 : Int32) x7

theorem yn_X4_copyFrom : Yn yX4_copyFrom 1 := ⟨by decide +kernel, by decide +kernel, by decide +kernel⟩
theorem ct_X4_copyFrom (l : Launch) (N : Nat) (z : Nat → Nat) (o : Nat) (v1 : Option Nat) : Ct l z yX4_copyFrom cX4_copyFrom 3 none 3 enV [.ref o, va_rf v1] (f_X4_copyFrom N z o v1) :=
  Ct_v (fun x => G_lv0 (by simp only [lva_n, lva_i, lva_o, lva_r, lva_j]) (g_X4_copyFrom l N z o v1 x)) (by decide +kernel) (by simp only [lgl_n, lgl_i, lgl_o, lgl_r, lgl_j]; decide)
