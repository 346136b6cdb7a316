theorem dX0_init_0 : decode cX0_init 0 = .ok (.aload_n 0, 1) := by decide +kernel
theorem dX0_init_1 : decode cX0_init 1 = .ok (.invokespecial 3, 3) := by decide +kernel
theorem dX0_init_4 : decode cX0_init 4 = .ok (.aload_n 0, 1) := by decide +kernel
theorem dX0_init_5 : decode cX0_init 5 = .ok (.sipush 400, 3) := by decide +kernel
theorem dX0_init_8 : decode cX0_init 8 = .ok (.newarray .int, 2) := by decide +kernel
theorem dX0_init_10 : decode cX0_init 10 = .ok (.putfield 9, 3) := by decide +kernel
theorem dX0_init_13 : decode cX0_init 13 = .ok (.aload_n 0, 1) := by decide +kernel
theorem dX0_init_14 : decode cX0_init 14 = .ok (.sipush 400, 3) := by decide +kernel
theorem dX0_init_17 : decode cX0_init 17 = .ok (.newarray .int, 2) := by decide +kernel
theorem dX0_init_19 : decode cX0_init 19 = .ok (.putfield 15, 3) := by decide +kernel
theorem dX0_init_22 : decode cX0_init 22 = .ok (.aload_n 0, 1) := by decide +kernel
theorem dX0_init_23 : decode cX0_init 23 = .ok (.bipush 20, 2) := by decide +kernel
theorem dX0_init_25 : decode cX0_init 25 = .ok (.anewarray 18, 3) := by decide +kernel
theorem dX0_init_28 : decode cX0_init 28 = .ok (.putfield 20, 3) := by decide +kernel
theorem dX0_init_31 : decode cX0_init 31 = .ok (.iconst 0, 1) := by decide +kernel
theorem dX0_init_32 : decode cX0_init 32 = .ok (.istore_n 1, 1) := by decide +kernel
theorem dX0_init_33 : decode cX0_init 33 = .ok (.iload_n 1, 1) := by decide +kernel
theorem dX0_init_34 : decode cX0_init 34 = .ok (.aload_n 0, 1) := by decide +kernel
theorem dX0_init_35 : decode cX0_init 35 = .ok (.getfield 20, 3) := by decide +kernel
theorem dX0_init_38 : decode cX0_init 38 = .ok (.arraylength, 1) := by decide +kernel
theorem dX0_init_39 : decode cX0_init 39 = .ok (.if_icmp .ge 22, 3) := by decide +kernel
theorem dX0_init_42 : decode cX0_init 42 = .ok (.aload_n 0, 1) := by decide +kernel
theorem dX0_init_43 : decode cX0_init 43 = .ok (.getfield 20, 3) := by decide +kernel
theorem dX0_init_46 : decode cX0_init 46 = .ok (.iload_n 1, 1) := by decide +kernel
theorem dX0_init_47 : decode cX0_init 47 = .ok (.new 18, 3) := by decide +kernel
theorem dX0_init_50 : decode cX0_init 50 = .ok (.dup, 1) := by decide +kernel
theorem dX0_init_51 : decode cX0_init 51 = .ok (.invokespecial 24, 3) := by decide +kernel
theorem dX0_init_54 : decode cX0_init 54 = .ok (.aastore, 1) := by decide +kernel
theorem dX0_init_55 : decode cX0_init 55 = .ok (.iinc 1 1, 3) := by decide +kernel
theorem dX0_init_58 : decode cX0_init 58 = .ok (.goto (-25), 3) := by decide +kernel
theorem dX0_init_61 : decode cX0_init 61 = .ok (.return_, 1) := by decide +kernel
abbrev m_X0_init : Mt := (cX0_init, RX0, "<init>", 2, .return_, 3)
def f_X0_init_b33 (N : Nat) (z : Nat → Nat) : Nat → Nat → Int32 → Hp → Option (Unit × Hp)
  | 0, _, _, _ => none
  | n + 1, o, v1, x0 => getr (some o) x0 3 44 fun r1 =>
  alen r1 x0 105 fun i2 =>
  if i2 ≤ v1 then (some ((), x0)) else (getr (some o) x0 3 44 fun r3 =>
  newo x0 6 5 fun r4 x5 =>
  obj r4 x5 6 fun q7 => bnd (f_X3_init N z q7 x5) fun _ x6 =>
  astr r3 x6 105 6 v1 r4 fun x8 =>
  f_X0_init_b33 N z n o (v1 + (1 : Int32)) x8)
def f_X0_init (N : Nat) (z : Nat → Nat) (o : Nat) (x0 : Hp) : Option (Unit × Hp) :=
  nn (some o) fun _ =>
  newa x0 101 (400 : Int32) fun r10 x11 =>
  putr (some o) x11 3 40 r10 fun x12 =>
  newa x12 101 (400 : Int32) fun r13 x14 =>
  putr (some o) x14 3 41 r13 fun x15 =>
  newa x15 105 (20 : Int32) fun r16 x17 =>
  putr (some o) x17 3 44 r16 fun x18 =>
  f_X0_init_b33 N z N o (0 : Int32) x18
set_option maxRecDepth 100000 in
set_option maxHeartbeats 4000000 in
theorem g_X0_init_b33 (l : Launch) (N : Nat) (z : Nat → Nat) : ∀ (n : Nat) (o : Nat) (v1 : Int32) (x0 : Hp), G l z m_X0_init okT enV 33 [(0, va_rf (some o)), (1, .int v1)] [] x0 (f_X0_init_b33 N z n o v1 x0) := by
  intro n
  induction n with
  | zero => intro o v1 x0; exact G_none
  | succ n ih =>
  intro o v1 x0
  rw [f_X0_init_b33]
  refine G_iload_n 1 dX0_init_33 rfl rfl ?_
  refine G_aload_n 0 dX0_init_34 rfl rfl ?_
  refine G_getr (k := 4) K_2 (by decide) rfl rfl rfl gw_150 rfl dX0_init_35 (fun r1 => ?_)
  refine G_alen (t := 5) rfl (by decide) dX0_init_38 (fun i2 => ?_)
  refine G_icmp_ge (tgt := 61) dX0_init_39 (by decide) (fun _ => ?_) (fun _ => ?_)
  · exact G_ret trivial dX0_init_61 rfl
  · refine G_aload_n 0 dX0_init_42 rfl rfl ?_
    refine G_getr (k := 4) K_2 (by decide) rfl rfl rfl gw_150 rfl dX0_init_43 (fun r3 => ?_)
    refine G_iload_n 1 dX0_init_46 rfl rfl ?_
    refine G_new K_5 rfl gw_107 gw_109 gw_44 dX0_init_47 (fun r4 x5 => ?_)
    refine G_dup dX0_init_50 (rf_cat _) ?_
    refine G_callN (av := []) [va_rf r4, .int v1, va_rf r3] (fun q7 => ct_X3_init l N z q7) rfl yn_X3_init (Nat.le_of_ble_eq_true rfl) (by decide) gn_110 gw_111 gw_44 gw_112 rfl (by simp only [hw_n, hw_i, hw_r, hw_j, hw_d]; decide) dX0_init_51 (fun x6 => ?_)
    refine G_aast (t := 5) K_5 rfl rfl (by decide) (by decide) (fun _ => rfl) dX0_init_54 (fun x8 => ?_)
    refine G_iinc (i := 1) (l2 := [(0, va_rf (some o))]) 1 [0] dX0_init_55 rfl rfl (Nat.le_of_ble_eq_true rfl) rfl (sok_b (by decide) (rf_cat _) trivial) ?_
    refine G_goto (tgt := 33) dX0_init_58 (by decide) ?_
    refine G_lv [1, 0] rfl ?_
    exact ih o (v1 + (1 : Int32)) x8

set_option maxRecDepth 100000 in
set_option maxHeartbeats 4000000 in
theorem g_X0_init (l : Launch) (N : Nat) (z : Nat → Nat) (o : Nat) (x0 : Hp) : G l z m_X0_init okT enV 0 [(0, va_rf (some o))] [] x0 (f_X0_init N z o x0) := by
  unfold f_X0_init
  refine G_aload_n 0 dX0_init_0 rfl rfl ?_
  refine G_objInit (st := []) gw_106 gw_75 gw_76 (by decide) (by decide) dX0_init_1 (fun _ => ?_)
  refine G_aload_n 0 dX0_init_4 rfl rfl ?_
  refine G_sipush (v := (400 : Int32)) dX0_init_5 (by decide) ?_
  refine G_newa (t := 1) rfl (Or.inr (Or.inl ⟨rfl, rfl⟩)) gw_140 dX0_init_8 (fun r10 x11 => ?_)
  refine G_putr (k := 0) K_2 (by decide) rfl rfl rfl gw_141 rfl (Or.inr ⟨rfl, rfl, rfl⟩) nar_arr.1 nar_arr.2 dX0_init_10 (fun x12 => ?_)
  refine G_aload_n 0 dX0_init_13 rfl rfl ?_
  refine G_sipush (v := (400 : Int32)) dX0_init_14 (by decide) ?_
  refine G_newa (t := 1) rfl (Or.inr (Or.inl ⟨rfl, rfl⟩)) gw_140 dX0_init_17 (fun r13 x14 => ?_)
  refine G_putr (k := 1) K_2 (by decide) rfl rfl rfl gw_143 rfl (Or.inr ⟨rfl, rfl, rfl⟩) nar_arr.1 nar_arr.2 dX0_init_19 (fun x15 => ?_)
  refine G_aload_n 0 dX0_init_22 rfl rfl ?_
  refine G_bipush (v := (20 : Int32)) dX0_init_23 (by decide) ?_
  refine G_anew (t := 5) rfl (by decide) (by decide) (fun _ => rfl) gw_107 (by decide) dX0_init_25 (fun r16 x17 => ?_)
  refine G_putr (k := 4) K_2 (by decide) rfl rfl rfl gw_150 rfl (Or.inr ⟨rfl, rfl, rfl⟩) nar_arr.1 nar_arr.2 dX0_init_28 (fun x18 => ?_)
  refine G_iconst (v := (0 : Int32)) dX0_init_31 rfl ?_
  refine G_istore_n (i := 1) (l2 := [(0, va_rf (some o))]) [0] dX0_init_32 rfl (Nat.le_of_ble_eq_true rfl) rfl (sok_b (by decide) (rf_cat _) trivial) ?_
  refine G_lv [1, 0] rfl ?_
  exact g_X0_init_b33 l N z N o (0 : Int32) x18

theorem yn_X0_init : Yn yX0_init 0 := ⟨by decide +kernel, by decide +kernel, by decide +kernel⟩
theorem ct_X0_init (l : Launch) (N : Nat) (z : Nat → Nat) (o : Nat) : Ct l z yX0_init cX0_init 2 none 3 enV [.ref o] (f_X0_init N z o) :=
  Ct_v (fun x => G_lv0 (by simp only [lva_n, lva_i, lva_o, lva_r, lva_j]) (g_X0_init l N z o x)) (by decide +kernel) (by simp only [lgl_n, lgl_i, lgl_o, lgl_r, lgl_j]; decide)

theorem dX0_clear_0 : decode cX0_clear 0 = .ok (.aload_n 0, 1) := by decide +kernel
theorem dX0_clear_1 : decode cX0_clear 1 = .ok (.iconst 0, 1) := by decide +kernel
theorem dX0_clear_2 : decode cX0_clear 2 = .ok (.putfield 25, 3) := by decide +kernel
theorem dX0_clear_5 : decode cX0_clear 5 = .ok (.aload_n 0, 1) := by decide +kernel
theorem dX0_clear_6 : decode cX0_clear 6 = .ok (.iconst 0, 1) := by decide +kernel
theorem dX0_clear_7 : decode cX0_clear 7 = .ok (.putfield 29, 3) := by decide +kernel
theorem dX0_clear_10 : decode cX0_clear 10 = .ok (.return_, 1) := by decide +kernel
abbrev m_X0_clear : Mt := (cX0_clear, RX0, "clear", 1, .return_, 1)
def f_X0_clear (N : Nat) (z : Nat → Nat) (o : Nat) (x0 : Hp) : Option (Unit × Hp) :=
  puti (some o) x0 3 42 (0 : Int32) fun x1 =>
  puti (some o) x1 3 43 (0 : Int32) fun x2 =>
  some ((), x2)
set_option maxRecDepth 100000 in
set_option maxHeartbeats 4000000 in
theorem g_X0_clear (l : Launch) (N : Nat) (z : Nat → Nat) (o : Nat) (x0 : Hp) : G l z m_X0_clear okT enV 0 [(0, va_rf (some o))] [] x0 (f_X0_clear N z o x0) := by
  unfold f_X0_clear
  refine G_aload_n 0 dX0_clear_0 rfl rfl ?_
  refine G_iconst (v := (0 : Int32)) dX0_clear_1 rfl ?_
  refine G_puti (k := 2) K_2 (by decide) rfl rfl rfl gw_145 rfl (Or.inl rfl) nar_int.1 nar_int.2 dX0_clear_2 (fun x1 => ?_)
  refine G_aload_n 0 dX0_clear_5 rfl rfl ?_
  refine G_iconst (v := (0 : Int32)) dX0_clear_6 rfl ?_
  refine G_puti (k := 3) K_2 (by decide) rfl rfl rfl gw_147 rfl (Or.inl rfl) nar_int.1 nar_int.2 dX0_clear_7 (fun x2 => ?_)
  exact G_ret trivial dX0_clear_10 rfl

theorem yn_X0_clear : Yn yX0_clear 0 := ⟨by decide +kernel, by decide +kernel, by decide +kernel⟩
theorem ct_X0_clear (l : Launch) (N : Nat) (z : Nat → Nat) (o : Nat) : Ct l z yX0_clear cX0_clear 1 none 1 enV [.ref o] (f_X0_clear N z o) :=
  Ct_v (fun x => G_lv0 (by simp only [lva_n, lva_i, lva_o, lva_r, lva_j]) (g_X0_clear l N z o x)) (by decide +kernel) (by simp only [lgl_n, lgl_i, lgl_o, lgl_r, lgl_j]; decide)

theorem dX0_add_0 : decode cX0_add 0 = .ok (.aload_n 0, 1) := by decide +kernel
theorem dX0_add_1 : decode cX0_add 1 = .ok (.getfield 25, 3) := by decide +kernel
theorem dX0_add_4 : decode cX0_add 4 = .ok (.ifCond .lt 57, 3) := by decide +kernel
theorem dX0_add_7 : decode cX0_add 7 = .ok (.aload_n 0, 1) := by decide +kernel
theorem dX0_add_8 : decode cX0_add 8 = .ok (.getfield 25, 3) := by decide +kernel
theorem dX0_add_11 : decode cX0_add 11 = .ok (.aload_n 0, 1) := by decide +kernel
theorem dX0_add_12 : decode cX0_add 12 = .ok (.getfield 9, 3) := by decide +kernel
theorem dX0_add_15 : decode cX0_add 15 = .ok (.arraylength, 1) := by decide +kernel
theorem dX0_add_16 : decode cX0_add 16 = .ok (.if_icmp .ge 45, 3) := by decide +kernel
theorem dX0_add_19 : decode cX0_add 19 = .ok (.aload_n 0, 1) := by decide +kernel
theorem dX0_add_20 : decode cX0_add 20 = .ok (.getfield 25, 3) := by decide +kernel
theorem dX0_add_23 : decode cX0_add 23 = .ok (.aload_n 0, 1) := by decide +kernel
theorem dX0_add_24 : decode cX0_add 24 = .ok (.getfield 15, 3) := by decide +kernel
theorem dX0_add_27 : decode cX0_add 27 = .ok (.arraylength, 1) := by decide +kernel
theorem dX0_add_28 : decode cX0_add 28 = .ok (.if_icmp .ge 33, 3) := by decide +kernel
theorem dX0_add_31 : decode cX0_add 31 = .ok (.aload_n 0, 1) := by decide +kernel
theorem dX0_add_32 : decode cX0_add 32 = .ok (.getfield 9, 3) := by decide +kernel
theorem dX0_add_35 : decode cX0_add 35 = .ok (.aload_n 0, 1) := by decide +kernel
theorem dX0_add_36 : decode cX0_add 36 = .ok (.getfield 25, 3) := by decide +kernel
theorem dX0_add_39 : decode cX0_add 39 = .ok (.iload_n 1, 1) := by decide +kernel
theorem dX0_add_40 : decode cX0_add 40 = .ok (.iastore, 1) := by decide +kernel
theorem dX0_add_41 : decode cX0_add 41 = .ok (.aload_n 0, 1) := by decide +kernel
theorem dX0_add_42 : decode cX0_add 42 = .ok (.getfield 15, 3) := by decide +kernel
theorem dX0_add_45 : decode cX0_add 45 = .ok (.aload_n 0, 1) := by decide +kernel
theorem dX0_add_46 : decode cX0_add 46 = .ok (.getfield 25, 3) := by decide +kernel
theorem dX0_add_49 : decode cX0_add 49 = .ok (.iload_n 2, 1) := by decide +kernel
theorem dX0_add_50 : decode cX0_add 50 = .ok (.iastore, 1) := by decide +kernel
theorem dX0_add_51 : decode cX0_add 51 = .ok (.aload_n 0, 1) := by decide +kernel
theorem dX0_add_52 : decode cX0_add 52 = .ok (.dup, 1) := by decide +kernel
theorem dX0_add_53 : decode cX0_add 53 = .ok (.getfield 25, 3) := by decide +kernel
theorem dX0_add_56 : decode cX0_add 56 = .ok (.iconst 1, 1) := by decide +kernel
theorem dX0_add_57 : decode cX0_add 57 = .ok (.iadd, 1) := by decide +kernel
theorem dX0_add_58 : decode cX0_add 58 = .ok (.putfield 25, 3) := by decide +kernel
theorem dX0_add_61 : decode cX0_add 61 = .ok (.return_, 1) := by decide +kernel
abbrev m_X0_add : Mt := (cX0_add, RX0, "add", 3, .return_, 1)
def f_X0_add (N : Nat) (z : Nat → Nat) (o : Nat) (v1 : Int32) (v2 : Int32) (x0 : Hp) : Option (Unit × Hp) :=
  geti (some o) x0 3 42 fun i1 =>
  if i1 < 0 then (some ((), x0)) else (geti (some o) x0 3 42 fun i2 =>
  getr (some o) x0 3 40 fun r3 =>
  alen r3 x0 101 fun i4 =>
  if i4 ≤ i2 then (some ((), x0)) else (geti (some o) x0 3 42 fun i5 =>
  getr (some o) x0 3 41 fun r6 =>
  alen r6 x0 101 fun i7 =>
  if i7 ≤ i5 then (some ((), x0)) else (getr (some o) x0 3 40 fun r8 =>
  geti (some o) x0 3 42 fun i9 =>
  asti r8 x0 101 i9 v1 fun x10 =>
  getr (some o) x10 3 41 fun r11 =>
  geti (some o) x10 3 42 fun i12 =>
  asti r11 x10 101 i12 v2 fun x13 =>
  geti (some o) x13 3 42 fun i14 =>
  puti (some o) x13 3 42 (i14 + (1 : Int32)) fun x15 =>
  some ((), x15))))
set_option maxRecDepth 100000 in
set_option maxHeartbeats 4000000 in
theorem g_X0_add (l : Launch) (N : Nat) (z : Nat → Nat) (o : Nat) (v1 : Int32) (v2 : Int32) (x0 : Hp) : G l z m_X0_add okT enV 0 [(0, va_rf (some o)), (1, .int v1), (2, .int v2)] [] x0 (f_X0_add N z o v1 v2 x0) := by
  unfold f_X0_add
  refine G_aload_n 0 dX0_add_0 rfl rfl ?_
  refine G_geti (k := 2) K_2 (by decide) rfl rfl rfl gw_145 rfl dX0_add_1 (fun i1 => ?_)
  refine G_if_lt (tgt := 61) dX0_add_4 (by decide) (fun _ => ?_) (fun _ => ?_)
  · exact G_ret trivial dX0_add_61 rfl
  · refine G_aload_n 0 dX0_add_7 rfl rfl ?_
    refine G_geti (k := 2) K_2 (by decide) rfl rfl rfl gw_145 rfl dX0_add_8 (fun i2 => ?_)
    refine G_aload_n 0 dX0_add_11 rfl rfl ?_
    refine G_getr (k := 0) K_2 (by decide) rfl rfl rfl gw_141 rfl dX0_add_12 (fun r3 => ?_)
    refine G_alen (t := 1) rfl (by decide) dX0_add_15 (fun i4 => ?_)
    refine G_icmp_ge (tgt := 61) dX0_add_16 (by decide) (fun _ => ?_) (fun _ => ?_)
    · exact G_ret trivial dX0_add_61 rfl
    · refine G_aload_n 0 dX0_add_19 rfl rfl ?_
      refine G_geti (k := 2) K_2 (by decide) rfl rfl rfl gw_145 rfl dX0_add_20 (fun i5 => ?_)
      refine G_aload_n 0 dX0_add_23 rfl rfl ?_
      refine G_getr (k := 1) K_2 (by decide) rfl rfl rfl gw_143 rfl dX0_add_24 (fun r6 => ?_)
      refine G_alen (t := 1) rfl (by decide) dX0_add_27 (fun i7 => ?_)
      refine G_icmp_ge (tgt := 61) dX0_add_28 (by decide) (fun _ => ?_) (fun _ => ?_)
      · exact G_ret trivial dX0_add_61 rfl
      · refine G_aload_n 0 dX0_add_31 rfl rfl ?_
        refine G_getr (k := 0) K_2 (by decide) rfl rfl rfl gw_141 rfl dX0_add_32 (fun r8 => ?_)
        refine G_aload_n 0 dX0_add_35 rfl rfl ?_
        refine G_geti (k := 2) K_2 (by decide) rfl rfl rfl gw_145 rfl dX0_add_36 (fun i9 => ?_)
        refine G_iload_n 1 dX0_add_39 rfl rfl ?_
        refine G_iast dX0_add_40 (fun x10 => ?_)
        refine G_aload_n 0 dX0_add_41 rfl rfl ?_
        refine G_getr (k := 1) K_2 (by decide) rfl rfl rfl gw_143 rfl dX0_add_42 (fun r11 => ?_)
        refine G_aload_n 0 dX0_add_45 rfl rfl ?_
        refine G_geti (k := 2) K_2 (by decide) rfl rfl rfl gw_145 rfl dX0_add_46 (fun i12 => ?_)
        refine G_iload_n 2 dX0_add_49 rfl rfl ?_
        refine G_iast dX0_add_50 (fun x13 => ?_)
        refine G_aload_n 0 dX0_add_51 rfl rfl ?_
        refine G_dup dX0_add_52 (rf_cat _) ?_
        refine G_geti (k := 2) K_2 (by decide) rfl rfl rfl gw_145 rfl dX0_add_53 (fun i14 => ?_)
        refine G_iconst (v := (1 : Int32)) dX0_add_56 rfl ?_
        refine G_iadd dX0_add_57 ?_
        refine G_puti (k := 2) K_2 (by decide) rfl rfl rfl gw_145 rfl (Or.inl rfl) nar_int.1 nar_int.2 dX0_add_58 (fun x15 => ?_)
        exact G_ret trivial dX0_add_61 rfl

theorem yn_X0_add : Yn yX0_add 2 := ⟨by decide +kernel, by decide +kernel, by decide +kernel⟩
theorem ct_X0_add (l : Launch) (N : Nat) (z : Nat → Nat) (o : Nat) (v1 : Int32) (v2 : Int32) : Ct l z yX0_add cX0_add 3 none 1 enV [.ref o, .int v1, .int v2] (f_X0_add N z o v1 v2) :=
  Ct_v (fun x => G_lv0 (by simp only [lva_n, lva_i, lva_o, lva_r, lva_j]) (g_X0_add l N z o v1 v2 x)) (by decide +kernel) (by simp only [lgl_n, lgl_i, lgl_o, lgl_r, lgl_j]; decide)

theorem dX0_orderAt_0 : decode cX0_orderAt 0 = .ok (.iload_n 1, 1) := by decide +kernel
theorem dX0_orderAt_1 : decode cX0_orderAt 1 = .ok (.ifCond .lt 29, 3) := by decide +kernel
theorem dX0_orderAt_4 : decode cX0_orderAt 4 = .ok (.iload_n 1, 1) := by decide +kernel
theorem dX0_orderAt_5 : decode cX0_orderAt 5 = .ok (.aload_n 0, 1) := by decide +kernel
theorem dX0_orderAt_6 : decode cX0_orderAt 6 = .ok (.getfield 29, 3) := by decide +kernel
theorem dX0_orderAt_9 : decode cX0_orderAt 9 = .ok (.if_icmp .ge 21, 3) := by decide +kernel
theorem dX0_orderAt_12 : decode cX0_orderAt 12 = .ok (.iload_n 1, 1) := by decide +kernel
theorem dX0_orderAt_13 : decode cX0_orderAt 13 = .ok (.aload_n 0, 1) := by decide +kernel
theorem dX0_orderAt_14 : decode cX0_orderAt 14 = .ok (.getfield 20, 3) := by decide +kernel
theorem dX0_orderAt_17 : decode cX0_orderAt 17 = .ok (.arraylength, 1) := by decide +kernel
theorem dX0_orderAt_18 : decode cX0_orderAt 18 = .ok (.if_icmp .ge 12, 3) := by decide +kernel
theorem dX0_orderAt_21 : decode cX0_orderAt 21 = .ok (.aload_n 0, 1) := by decide +kernel
theorem dX0_orderAt_22 : decode cX0_orderAt 22 = .ok (.getfield 20, 3) := by decide +kernel
theorem dX0_orderAt_25 : decode cX0_orderAt 25 = .ok (.iload_n 1, 1) := by decide +kernel
theorem dX0_orderAt_26 : decode cX0_orderAt 26 = .ok (.aaload, 1) := by decide +kernel
theorem dX0_orderAt_27 : decode cX0_orderAt 27 = .ok (.goto 4, 3) := by decide +kernel
theorem dX0_orderAt_30 : decode cX0_orderAt 30 = .ok (.aconst_null, 1) := by decide +kernel
theorem dX0_orderAt_31 : decode cX0_orderAt 31 = .ok (.areturn, 1) := by decide +kernel
abbrev m_X0_orderAt : Mt := (cX0_orderAt, RX0, "orderAt", 2, .areturn, 1)
def f_X0_orderAt (N : Nat) (z : Nat → Nat) (o : Nat) (v1 : Int32) (x0 : Hp) : Option (Option Nat × Hp) :=
  if v1 < 0 then (some (none, x0)) else (geti (some o) x0 3 43 fun i1 =>
  if i1 ≤ v1 then (some (none, x0)) else (getr (some o) x0 3 44 fun r2 =>
  alen r2 x0 105 fun i3 =>
  if i3 ≤ v1 then (some (none, x0)) else (getr (some o) x0 3 44 fun r4 =>
  aldr r4 x0 105 v1 fun r5 =>
  some (r5, x0))))
set_option maxRecDepth 100000 in
set_option maxHeartbeats 4000000 in
theorem g_X0_orderAt (l : Launch) (N : Nat) (z : Nat → Nat) (o : Nat) (v1 : Int32) (x0 : Hp) : G l z m_X0_orderAt okT enR 0 [(0, va_rf (some o)), (1, .int v1)] [] x0 (f_X0_orderAt N z o v1 x0) := by
  unfold f_X0_orderAt
  refine G_iload_n 1 dX0_orderAt_0 rfl rfl ?_
  refine G_if_lt (tgt := 30) dX0_orderAt_1 (by decide) (fun _ => ?_) (fun _ => ?_)
  · refine G_null dX0_orderAt_30 ?_
    exact G_ret trivial dX0_orderAt_31 rfl
  · refine G_iload_n 1 dX0_orderAt_4 rfl rfl ?_
    refine G_aload_n 0 dX0_orderAt_5 rfl rfl ?_
    refine G_geti (k := 3) K_2 (by decide) rfl rfl rfl gw_147 rfl dX0_orderAt_6 (fun i1 => ?_)
    refine G_icmp_ge (tgt := 30) dX0_orderAt_9 (by decide) (fun _ => ?_) (fun _ => ?_)
    · refine G_null dX0_orderAt_30 ?_
      exact G_ret trivial dX0_orderAt_31 rfl
    · refine G_iload_n 1 dX0_orderAt_12 rfl rfl ?_
      refine G_aload_n 0 dX0_orderAt_13 rfl rfl ?_
      refine G_getr (k := 4) K_2 (by decide) rfl rfl rfl gw_150 rfl dX0_orderAt_14 (fun r2 => ?_)
      refine G_alen (t := 5) rfl (by decide) dX0_orderAt_17 (fun i3 => ?_)
      refine G_icmp_ge (tgt := 30) dX0_orderAt_18 (by decide) (fun _ => ?_) (fun _ => ?_)
      · refine G_null dX0_orderAt_30 ?_
        exact G_ret trivial dX0_orderAt_31 rfl
      · refine G_aload_n 0 dX0_orderAt_21 rfl rfl ?_
        refine G_getr (k := 4) K_2 (by decide) rfl rfl rfl gw_150 rfl dX0_orderAt_22 (fun r4 => ?_)
        refine G_iload_n 1 dX0_orderAt_25 rfl rfl ?_
        refine G_aald (t := 5) rfl (by decide) (by decide) dX0_orderAt_26 (fun r5 => ?_)
        refine G_goto (tgt := 31) dX0_orderAt_27 (by decide) ?_
        exact G_ret trivial dX0_orderAt_31 rfl

theorem yn_X0_orderAt : Yn yX0_orderAt 1 := ⟨by decide +kernel, by decide +kernel, by decide +kernel⟩
theorem ct_X0_orderAt (l : Launch) (N : Nat) (z : Nat → Nat) (o : Nat) (v1 : Int32) : Ct l z yX0_orderAt cX0_orderAt 2 (some (.object "BucketBrigade$Order")) 1 enR [.ref o, .int v1] (f_X0_orderAt N z o v1) :=
  Ct_r (fun x => G_lv0 (by simp only [lva_n, lva_i, lva_o, lva_r, lva_j]) (g_X0_orderAt l N z o v1 x)) (by decide +kernel) (by simp only [lgl_n, lgl_i, lgl_o, lgl_r, lgl_j]; decide)

theorem dX0_addOrder_0 : decode cX0_addOrder 0 = .ok (.aload_n 0, 1) := by decide +kernel
theorem dX0_addOrder_1 : decode cX0_addOrder 1 = .ok (.getfield 29, 3) := by decide +kernel
theorem dX0_addOrder_4 : decode cX0_addOrder 4 = .ok (.aload_n 0, 1) := by decide +kernel
theorem dX0_addOrder_5 : decode cX0_addOrder 5 = .ok (.getfield 20, 3) := by decide +kernel
theorem dX0_addOrder_8 : decode cX0_addOrder 8 = .ok (.arraylength, 1) := by decide +kernel
theorem dX0_addOrder_9 : decode cX0_addOrder 9 = .ok (.if_icmp .lt 5, 3) := by decide +kernel
theorem dX0_addOrder_12 : decode cX0_addOrder 12 = .ok (.aconst_null, 1) := by decide +kernel
theorem dX0_addOrder_13 : decode cX0_addOrder 13 = .ok (.areturn, 1) := by decide +kernel
theorem dX0_addOrder_14 : decode cX0_addOrder 14 = .ok (.aload_n 0, 1) := by decide +kernel
theorem dX0_addOrder_15 : decode cX0_addOrder 15 = .ok (.dup, 1) := by decide +kernel
theorem dX0_addOrder_16 : decode cX0_addOrder 16 = .ok (.getfield 29, 3) := by decide +kernel
theorem dX0_addOrder_19 : decode cX0_addOrder 19 = .ok (.iconst 1, 1) := by decide +kernel
theorem dX0_addOrder_20 : decode cX0_addOrder 20 = .ok (.iadd, 1) := by decide +kernel
theorem dX0_addOrder_21 : decode cX0_addOrder 21 = .ok (.putfield 29, 3) := by decide +kernel
theorem dX0_addOrder_24 : decode cX0_addOrder 24 = .ok (.aload_n 0, 1) := by decide +kernel
theorem dX0_addOrder_25 : decode cX0_addOrder 25 = .ok (.aload_n 0, 1) := by decide +kernel
theorem dX0_addOrder_26 : decode cX0_addOrder 26 = .ok (.getfield 29, 3) := by decide +kernel
theorem dX0_addOrder_29 : decode cX0_addOrder 29 = .ok (.iconst 1, 1) := by decide +kernel
theorem dX0_addOrder_30 : decode cX0_addOrder 30 = .ok (.isub, 1) := by decide +kernel
theorem dX0_addOrder_31 : decode cX0_addOrder 31 = .ok (.invokevirtual 32, 3) := by decide +kernel
theorem dX0_addOrder_34 : decode cX0_addOrder 34 = .ok (.areturn, 1) := by decide +kernel
abbrev m_X0_addOrder : Mt := (cX0_addOrder, RX0, "addOrder", 1, .areturn, 2)
def f_X0_addOrder (N : Nat) (z : Nat → Nat) (o : Nat) (x0 : Hp) : Option (Option Nat × Hp) :=
  geti (some o) x0 3 43 fun i1 =>
  getr (some o) x0 3 44 fun r2 =>
  alen r2 x0 105 fun i3 =>
  if i1 < i3 then (geti (some o) x0 3 43 fun i4 =>
  puti (some o) x0 3 43 (i4 + (1 : Int32)) fun x5 =>
  geti (some o) x5 3 43 fun i6 =>
  obj (some o) x5 3 fun q9 => bnd (f_X0_orderAt N z q9 (i6 - (1 : Int32)) x5) fun r8 x7 =>
  some (r8, x7)) else (some (none, x0))
set_option maxRecDepth 100000 in
set_option maxHeartbeats 4000000 in
theorem g_X0_addOrder (l : Launch) (N : Nat) (z : Nat → Nat) (o : Nat) (x0 : Hp) : G l z m_X0_addOrder okT enR 0 [(0, va_rf (some o))] [] x0 (f_X0_addOrder N z o x0) := by
  unfold f_X0_addOrder
  refine G_aload_n 0 dX0_addOrder_0 rfl rfl ?_
  refine G_geti (k := 3) K_2 (by decide) rfl rfl rfl gw_147 rfl dX0_addOrder_1 (fun i1 => ?_)
  refine G_aload_n 0 dX0_addOrder_4 rfl rfl ?_
  refine G_getr (k := 4) K_2 (by decide) rfl rfl rfl gw_150 rfl dX0_addOrder_5 (fun r2 => ?_)
  refine G_alen (t := 5) rfl (by decide) dX0_addOrder_8 (fun i3 => ?_)
  refine G_icmp_lt (tgt := 14) dX0_addOrder_9 (by decide) (fun _ => ?_) (fun _ => ?_)
  · refine G_aload_n 0 dX0_addOrder_14 rfl rfl ?_
    refine G_dup dX0_addOrder_15 (rf_cat _) ?_
    refine G_geti (k := 3) K_2 (by decide) rfl rfl rfl gw_147 rfl dX0_addOrder_16 (fun i4 => ?_)
    refine G_iconst (v := (1 : Int32)) dX0_addOrder_19 rfl ?_
    refine G_iadd dX0_addOrder_20 ?_
    refine G_puti (k := 3) K_2 (by decide) rfl rfl rfl gw_147 rfl (Or.inl rfl) nar_int.1 nar_int.2 dX0_addOrder_21 (fun x5 => ?_)
    refine G_aload_n 0 dX0_addOrder_24 rfl rfl ?_
    refine G_aload_n 0 dX0_addOrder_25 rfl rfl ?_
    refine G_geti (k := 3) K_2 (by decide) rfl rfl rfl gw_147 rfl dX0_addOrder_26 (fun i6 => ?_)
    refine G_iconst (v := (1 : Int32)) dX0_addOrder_29 rfl ?_
    refine G_isub dX0_addOrder_30 ?_
    refine G_callV (av := [.int (i6 - (1 : Int32))]) [] (fun q9 => ct_X0_orderAt l N z q9 (i6 - (1 : Int32))) K_2 rfl yn_X0_orderAt (Nat.le_of_ble_eq_true rfl) (by decide) gw_1318 gw_628 gw_629 gw_43 gw_630 rfl (by decide) dX0_addOrder_31 (fun r8 x7 => ?_)
    exact G_ret trivial dX0_addOrder_34 rfl
  · refine G_null dX0_addOrder_12 ?_
    exact G_ret trivial dX0_addOrder_13 rfl

theorem yn_X0_addOrder : Yn yX0_addOrder 0 := ⟨by decide +kernel, by decide +kernel, by decide +kernel⟩
theorem ct_X0_addOrder (l : Launch) (N : Nat) (z : Nat → Nat) (o : Nat) : Ct l z yX0_addOrder cX0_addOrder 1 (some (.object "BucketBrigade$Order")) 2 enR [.ref o] (f_X0_addOrder N z o) :=
  Ct_r (fun x => G_lv0 (by simp only [lva_n, lva_i, lva_o, lva_r, lva_j]) (g_X0_addOrder l N z o x)) (by decide +kernel) (by simp only [lgl_n, lgl_i, lgl_o, lgl_r, lgl_j]; decide)

theorem dX0_copyFrom_0 : decode cX0_copyFrom 0 = .ok (.aload_n 0, 1) := by decide +kernel
theorem dX0_copyFrom_1 : decode cX0_copyFrom 1 = .ok (.invokevirtual 36, 3) := by decide +kernel
theorem dX0_copyFrom_4 : decode cX0_copyFrom 4 = .ok (.iconst 0, 1) := by decide +kernel
theorem dX0_copyFrom_5 : decode cX0_copyFrom 5 = .ok (.istore_n 2, 1) := by decide +kernel
theorem dX0_copyFrom_6 : decode cX0_copyFrom 6 = .ok (.iload_n 2, 1) := by decide +kernel
theorem dX0_copyFrom_7 : decode cX0_copyFrom 7 = .ok (.aload_n 1, 1) := by decide +kernel
theorem dX0_copyFrom_8 : decode cX0_copyFrom 8 = .ok (.getfield 25, 3) := by decide +kernel
theorem dX0_copyFrom_11 : decode cX0_copyFrom 11 = .ok (.if_icmp .ge 43, 3) := by decide +kernel
theorem dX0_copyFrom_14 : decode cX0_copyFrom 14 = .ok (.iload_n 2, 1) := by decide +kernel
theorem dX0_copyFrom_15 : decode cX0_copyFrom 15 = .ok (.aload_n 1, 1) := by decide +kernel
theorem dX0_copyFrom_16 : decode cX0_copyFrom 16 = .ok (.getfield 9, 3) := by decide +kernel
theorem dX0_copyFrom_19 : decode cX0_copyFrom 19 = .ok (.arraylength, 1) := by decide +kernel
theorem dX0_copyFrom_20 : decode cX0_copyFrom 20 = .ok (.if_icmp .ge 34, 3) := by decide +kernel
theorem dX0_copyFrom_23 : decode cX0_copyFrom 23 = .ok (.iload_n 2, 1) := by decide +kernel
theorem dX0_copyFrom_24 : decode cX0_copyFrom 24 = .ok (.aload_n 1, 1) := by decide +kernel
theorem dX0_copyFrom_25 : decode cX0_copyFrom 25 = .ok (.getfield 15, 3) := by decide +kernel
theorem dX0_copyFrom_28 : decode cX0_copyFrom 28 = .ok (.arraylength, 1) := by decide +kernel
theorem dX0_copyFrom_29 : decode cX0_copyFrom 29 = .ok (.if_icmp .ge 25, 3) := by decide +kernel
theorem dX0_copyFrom_32 : decode cX0_copyFrom 32 = .ok (.aload_n 0, 1) := by decide +kernel
theorem dX0_copyFrom_33 : decode cX0_copyFrom 33 = .ok (.aload_n 1, 1) := by decide +kernel
theorem dX0_copyFrom_34 : decode cX0_copyFrom 34 = .ok (.getfield 9, 3) := by decide +kernel
theorem dX0_copyFrom_37 : decode cX0_copyFrom 37 = .ok (.iload_n 2, 1) := by decide +kernel
theorem dX0_copyFrom_38 : decode cX0_copyFrom 38 = .ok (.iaload, 1) := by decide +kernel
theorem dX0_copyFrom_39 : decode cX0_copyFrom 39 = .ok (.aload_n 1, 1) := by decide +kernel
theorem dX0_copyFrom_40 : decode cX0_copyFrom 40 = .ok (.getfield 15, 3) := by decide +kernel
theorem dX0_copyFrom_43 : decode cX0_copyFrom 43 = .ok (.iload_n 2, 1) := by decide +kernel
theorem dX0_copyFrom_44 : decode cX0_copyFrom 44 = .ok (.iaload, 1) := by decide +kernel
theorem dX0_copyFrom_45 : decode cX0_copyFrom 45 = .ok (.invokevirtual 39, 3) := by decide +kernel
theorem dX0_copyFrom_48 : decode cX0_copyFrom 48 = .ok (.iinc 2 1, 3) := by decide +kernel
theorem dX0_copyFrom_51 : decode cX0_copyFrom 51 = .ok (.goto (-45), 3) := by decide +kernel
theorem dX0_copyFrom_54 : decode cX0_copyFrom 54 = .ok (.iconst 0, 1) := by decide +kernel
theorem dX0_copyFrom_55 : decode cX0_copyFrom 55 = .ok (.istore_n 2, 1) := by decide +kernel
theorem dX0_copyFrom_56 : decode cX0_copyFrom 56 = .ok (.iload_n 2, 1) := by decide +kernel
theorem dX0_copyFrom_57 : decode cX0_copyFrom 57 = .ok (.aload_n 1, 1) := by decide +kernel
theorem dX0_copyFrom_58 : decode cX0_copyFrom 58 = .ok (.getfield 29, 3) := by decide +kernel
theorem dX0_copyFrom_61 : decode cX0_copyFrom 61 = .ok (.if_icmp .ge 55, 3) := by decide +kernel
theorem dX0_copyFrom_64 : decode cX0_copyFrom 64 = .ok (.aload_n 1, 1) := by decide +kernel
theorem dX0_copyFrom_65 : decode cX0_copyFrom 65 = .ok (.iload_n 2, 1) := by decide +kernel
theorem dX0_copyFrom_66 : decode cX0_copyFrom 66 = .ok (.invokevirtual 32, 3) := by decide +kernel
theorem dX0_copyFrom_69 : decode cX0_copyFrom 69 = .ok (.astore_n 3, 1) := by decide +kernel
theorem dX0_copyFrom_70 : decode cX0_copyFrom 70 = .ok (.aload_n 0, 1) := by decide +kernel
theorem dX0_copyFrom_71 : decode cX0_copyFrom 71 = .ok (.invokevirtual 43, 3) := by decide +kernel
theorem dX0_copyFrom_74 : decode cX0_copyFrom 74 = .ok (.astore 4, 2) := by decide +kernel
theorem dX0_copyFrom_76 : decode cX0_copyFrom 76 = .ok (.aload_n 3, 1) := by decide +kernel
theorem dX0_copyFrom_77 : decode cX0_copyFrom 77 = .ok (.ifnull 33, 3) := by decide +kernel
theorem dX0_copyFrom_80 : decode cX0_copyFrom 80 = .ok (.aload 4, 2) := by decide +kernel
theorem dX0_copyFrom_82 : decode cX0_copyFrom 82 = .ok (.ifnull 28, 3) := by decide +kernel
theorem dX0_copyFrom_85 : decode cX0_copyFrom 85 = .ok (.aload 4, 2) := by decide +kernel
theorem dX0_copyFrom_87 : decode cX0_copyFrom 87 = .ok (.aload_n 3, 1) := by decide +kernel
theorem dX0_copyFrom_88 : decode cX0_copyFrom 88 = .ok (.getfield 47, 3) := by decide +kernel
theorem dX0_copyFrom_91 : decode cX0_copyFrom 91 = .ok (.aload_n 3, 1) := by decide +kernel
theorem dX0_copyFrom_92 : decode cX0_copyFrom 92 = .ok (.getfield 50, 3) := by decide +kernel
theorem dX0_copyFrom_95 : decode cX0_copyFrom 95 = .ok (.aload_n 3, 1) := by decide +kernel
theorem dX0_copyFrom_96 : decode cX0_copyFrom 96 = .ok (.getfield 53, 3) := by decide +kernel
theorem dX0_copyFrom_99 : decode cX0_copyFrom 99 = .ok (.aload_n 3, 1) := by decide +kernel
theorem dX0_copyFrom_100 : decode cX0_copyFrom 100 = .ok (.getfield 56, 3) := by decide +kernel
theorem dX0_copyFrom_103 : decode cX0_copyFrom 103 = .ok (.aload_n 3, 1) := by decide +kernel
theorem dX0_copyFrom_104 : decode cX0_copyFrom 104 = .ok (.getfield 59, 3) := by decide +kernel
theorem dX0_copyFrom_107 : decode cX0_copyFrom 107 = .ok (.invokevirtual 62, 3) := by decide +kernel
theorem dX0_copyFrom_110 : decode cX0_copyFrom 110 = .ok (.iinc 2 1, 3) := by decide +kernel
theorem dX0_copyFrom_113 : decode cX0_copyFrom 113 = .ok (.goto (-57), 3) := by decide +kernel
theorem dX0_copyFrom_116 : decode cX0_copyFrom 116 = .ok (.return_, 1) := by decide +kernel
abbrev m_X0_copyFrom : Mt := (cX0_copyFrom, RX0, "copyFrom", 5, .return_, 3)
def f_X0_copyFrom_b110 (N : Nat) (z : Nat → Nat) (k56 : Nat → Option Nat → Int32 → Hp → Option (Unit × Hp)) (o : Nat) (v1 : Option Nat) (v2 : Int32) (x0 : Hp) : Option (Unit × Hp) :=
  k56 o v1 (v2 + (1 : Int32)) x0
def f_X0_copyFrom_b56 (N : Nat) (z : Nat → Nat) : Nat → Nat → Option Nat → Int32 → Hp → Option (Unit × Hp)
  | 0, _, _, _, _ => none
  | n + 1, o, v1, v2, x0 => geti v1 x0 3 43 fun i1 =>
  if i1 ≤ v2 then (some ((), x0)) else (obj v1 x0 3 fun q4 => bnd (f_X0_orderAt N z q4 v2 x0) fun r3 x2 =>
  obj (some o) x2 3 fun q7 => bnd (f_X0_addOrder N z q7 x2) fun r6 x5 =>
  if r3 = none then (f_X0_copyFrom_b110 N z (f_X0_copyFrom_b56 N z n) o v1 v2 x5) else (if r6 = none then (f_X0_copyFrom_b110 N z (f_X0_copyFrom_b56 N z n) o v1 v2 x5) else (geti r3 x5 6 100 fun i8 =>
  geti r3 x5 6 101 fun i9 =>
  geti r3 x5 6 102 fun i10 =>
  geti r3 x5 6 103 fun i11 =>
  geti r3 x5 6 104 fun i12 =>
  obj r6 x5 6 fun q14 => bnd (f_X3_tell N z q14 i8 i9 i10 i11 i12 x5) fun _ x13 =>
  f_X0_copyFrom_b110 N z (f_X0_copyFrom_b56 N z n) o v1 v2 x13)))
def f_X0_copyFrom_b54 (N : Nat) (z : Nat → Nat) (o : Nat) (v1 : Option Nat) (x0 : Hp) : Option (Unit × Hp) :=
  f_X0_copyFrom_b56 N z N o v1 (0 : Int32) x0
def f_X0_copyFrom_b6 (N : Nat) (z : Nat → Nat) : Nat → Nat → Option Nat → Int32 → Hp → Option (Unit × Hp)
  | 0, _, _, _, _ => none
  | n + 1, o, v1, v2, x0 => geti v1 x0 3 42 fun i15 =>
  if i15 ≤ v2 then (f_X0_copyFrom_b54 N z o v1 x0) else (getr v1 x0 3 40 fun r16 =>
  alen r16 x0 101 fun i17 =>
  if i17 ≤ v2 then (f_X0_copyFrom_b54 N z o v1 x0) else (getr v1 x0 3 41 fun r18 =>
  alen r18 x0 101 fun i19 =>
  if i19 ≤ v2 then (f_X0_copyFrom_b54 N z o v1 x0) else (getr v1 x0 3 40 fun r20 =>
  aldi r20 x0 101 v2 fun i21 =>
  getr v1 x0 3 41 fun r22 =>
  aldi r22 x0 101 v2 fun i23 =>
  obj (some o) x0 3 fun q25 => bnd (f_X0_add N z q25 i21 i23 x0) fun _ x24 =>
  f_X0_copyFrom_b6 N z n o v1 (v2 + (1 : Int32)) x24)))
def f_X0_copyFrom (N : Nat) (z : Nat → Nat) (o : Nat) (v1 : Option Nat) (x0 : Hp) : Option (Unit × Hp) :=
  obj (some o) x0 3 fun q27 => bnd (f_X0_clear N z q27 x0) fun _ x26 =>
  f_X0_copyFrom_b6 N z N o v1 (0 : Int32) x26
set_option maxRecDepth 100000 in
set_option maxHeartbeats 4000000 in
theorem g_X0_copyFrom_b110 (l : Launch) (N : Nat) (z : Nat → Nat) {k56 : Nat → Option Nat → Int32 → Hp → Option (Unit × Hp)} (hk56 : ∀ o v1 v2 x, G l z m_X0_copyFrom okT enV 56 [(0, va_rf (some o)), (1, va_rf v1), (2, .int v2)] [] x (k56 o v1 v2 x)) (o : Nat) (v1 : Option Nat) (v2 : Int32) (x0 : Hp) : G l z m_X0_copyFrom okT enV 110 [(0, va_rf (some o)), (1, va_rf v1), (2, .int v2)] [] x0 (f_X0_copyFrom_b110 N z k56 o v1 v2 x0) := by
  unfold f_X0_copyFrom_b110
  refine G_iinc (i := 2) (l2 := [(0, va_rf (some o)), (1, va_rf v1)]) 2 [0, 1] dX0_copyFrom_110 rfl rfl (Nat.le_of_ble_eq_true rfl) rfl (sok_a (by decide) (by decide) (sok_b (by decide) (rf_cat _) trivial)) ?_
  refine G_goto (tgt := 56) dX0_copyFrom_113 (by decide) ?_
  refine G_lv [1, 2, 0] rfl ?_
  exact hk56 o v1 (v2 + (1 : Int32)) x0

set_option maxRecDepth 100000 in
set_option maxHeartbeats 4000000 in
theorem g_X0_copyFrom_b56 (l : Launch) (N : Nat) (z : Nat → Nat) : ∀ (n : Nat) (o : Nat) (v1 : Option Nat) (v2 : Int32) (x0 : Hp), G l z m_X0_copyFrom okT enV 56 [(0, va_rf (some o)), (1, va_rf v1), (2, .int v2)] [] x0 (f_X0_copyFrom_b56 N z n o v1 v2 x0) := by
  intro n
  induction n with
  | zero => intro o v1 v2 x0; exact G_none
  | succ n ih =>
  intro o v1 v2 x0
  rw [f_X0_copyFrom_b56]
  refine G_iload_n 2 dX0_copyFrom_56 rfl rfl ?_
  refine G_aload_n 1 dX0_copyFrom_57 rfl rfl ?_
  refine G_geti (k := 3) K_2 (by decide) rfl rfl rfl gw_147 rfl dX0_copyFrom_58 (fun i1 => ?_)
  refine G_icmp_ge (tgt := 116) dX0_copyFrom_61 (by decide) (fun _ => ?_) (fun _ => ?_)
  · exact G_ret trivial dX0_copyFrom_116 rfl
  · refine G_aload_n 1 dX0_copyFrom_64 rfl rfl ?_
    refine G_iload_n 2 dX0_copyFrom_65 rfl rfl ?_
    refine G_callV (av := [.int v2]) [] (fun q4 => ct_X0_orderAt l N z q4 v2) K_2 rfl yn_X0_orderAt (Nat.le_of_ble_eq_true rfl) (by decide) gw_1318 gw_628 gw_629 gw_43 gw_630 rfl (by decide) dX0_copyFrom_66 (fun r3 x2 => ?_)
    refine G_astore_n (i := 3) (l2 := [(0, va_rf (some o)), (1, va_rf v1), (2, .int v2)]) [0, 1, 2] dX0_copyFrom_69 rfl (Nat.le_of_ble_eq_true rfl) rfl (sok_a (by decide) (by decide) (sok_a (by decide) (by decide) (sok_b (by decide) rfl trivial))) ?_
    refine G_aload_n 1 dX0_copyFrom_70 rfl rfl ?_
    refine G_callV (av := []) [] (fun q7 => ct_X0_addOrder l N z q7) K_2 rfl yn_X0_addOrder (Nat.le_of_ble_eq_true rfl) (by decide) gw_1329 gw_1315 gw_1316 gw_43 gw_1317 rfl (by decide) dX0_copyFrom_71 (fun r6 x5 => ?_)
    refine G_astore (i := 4) (l2 := [(3, va_rf r3), (0, va_rf (some o)), (1, va_rf v1), (2, .int v2)]) [0, 1, 2, 3] dX0_copyFrom_74 (Nat.le_of_ble_eq_true rfl) rfl (sok_b (by decide) (rf_cat _) (sok_a (by decide) (by decide) (sok_a (by decide) (by decide) (sok_a (by decide) (by decide) trivial)))) ?_
    refine G_aload_n 1 dX0_copyFrom_76 rfl rfl ?_
    refine G_ifnull (tgt := 110) dX0_copyFrom_77 (by decide) (fun _ => ?_) (fun _ => ?_)
    · refine G_lv [2, 3, 4] rfl ?_
      exact g_X0_copyFrom_b110 l N z ih o v1 v2 x5
    · refine G_aload 0 dX0_copyFrom_80 rfl ?_
      refine G_ifnull (tgt := 110) dX0_copyFrom_82 (by decide) (fun _ => ?_) (fun _ => ?_)
      · refine G_lv [2, 3, 4] rfl ?_
        exact g_X0_copyFrom_b110 l N z ih o v1 v2 x5
      · refine G_aload 0 dX0_copyFrom_85 rfl ?_
        refine G_aload_n 1 dX0_copyFrom_87 rfl rfl ?_
        refine G_geti (k := 0) K_5 (by decide) rfl rfl rfl gw_115 rfl dX0_copyFrom_88 (fun i8 => ?_)
        refine G_aload_n 1 dX0_copyFrom_91 rfl rfl ?_
        refine G_geti (k := 1) K_5 (by decide) rfl rfl rfl gw_118 rfl dX0_copyFrom_92 (fun i9 => ?_)
        refine G_aload_n 1 dX0_copyFrom_95 rfl rfl ?_
        refine G_geti (k := 2) K_5 (by decide) rfl rfl rfl gw_121 rfl dX0_copyFrom_96 (fun i10 => ?_)
        refine G_aload_n 1 dX0_copyFrom_99 rfl rfl ?_
        refine G_geti (k := 3) K_5 (by decide) rfl rfl rfl gw_124 rfl dX0_copyFrom_100 (fun i11 => ?_)
        refine G_aload_n 1 dX0_copyFrom_103 rfl rfl ?_
        refine G_geti (k := 4) K_5 (by decide) rfl rfl rfl gw_127 rfl dX0_copyFrom_104 (fun i12 => ?_)
        refine G_callV (av := [.int i8, .int i9, .int i10, .int i11, .int i12]) [] (fun q14 => ct_X3_tell l N z q14 i8 i9 i10 i11 i12) K_5 rfl yn_X3_tell (Nat.le_of_ble_eq_true rfl) (by decide) gw_1330 gw_1320 gw_1321 gw_44 gw_1322 rfl (by decide) dX0_copyFrom_107 (fun _ x13 => ?_)
        refine G_lv [2, 3, 4] rfl ?_
        exact g_X0_copyFrom_b110 l N z ih o v1 v2 x13

set_option maxRecDepth 100000 in
set_option maxHeartbeats 4000000 in
theorem g_X0_copyFrom_b54 (l : Launch) (N : Nat) (z : Nat → Nat) (o : Nat) (v1 : Option Nat) (x0 : Hp) : G l z m_X0_copyFrom okT enV 54 [(0, va_rf (some o)), (1, va_rf v1)] [] x0 (f_X0_copyFrom_b54 N z o v1 x0) := by
  unfold f_X0_copyFrom_b54
  refine G_iconst (v := (0 : Int32)) dX0_copyFrom_54 rfl ?_
  refine G_istore_n (i := 2) (l2 := [(0, va_rf (some o)), (1, va_rf v1)]) [0, 1] dX0_copyFrom_55 rfl (Nat.le_of_ble_eq_true rfl) rfl (sok_a (by decide) (by decide) (sok_b (by decide) (rf_cat _) trivial)) ?_
  refine G_lv [1, 2, 0] rfl ?_
  exact g_X0_copyFrom_b56 l N z N o v1 (0 : Int32) x0

set_option maxRecDepth 100000 in
set_option maxHeartbeats 4000000 in
theorem g_X0_copyFrom_b6 (l : Launch) (N : Nat) (z : Nat → Nat) : ∀ (n : Nat) (o : Nat) (v1 : Option Nat) (v2 : Int32) (x0 : Hp), G l z m_X0_copyFrom okT enV 6 [(0, va_rf (some o)), (1, va_rf v1), (2, .int v2)] [] x0 (f_X0_copyFrom_b6 N z n o v1 v2 x0) := by
  intro n
  induction n with
  | zero => intro o v1 v2 x0; exact G_none
  | succ n ih =>
  intro o v1 v2 x0
  rw [f_X0_copyFrom_b6]
  refine G_iload_n 2 dX0_copyFrom_6 rfl rfl ?_
  refine G_aload_n 1 dX0_copyFrom_7 rfl rfl ?_
  refine G_geti (k := 2) K_2 (by decide) rfl rfl rfl gw_145 rfl dX0_copyFrom_8 (fun i15 => ?_)
  refine G_icmp_ge (tgt := 54) dX0_copyFrom_11 (by decide) (fun _ => ?_) (fun _ => ?_)
  · refine G_lv [0, 1] rfl ?_
    exact g_X0_copyFrom_b54 l N z o v1 x0
  · refine G_iload_n 2 dX0_copyFrom_14 rfl rfl ?_
    refine G_aload_n 1 dX0_copyFrom_15 rfl rfl ?_
    refine G_getr (k := 0) K_2 (by decide) rfl rfl rfl gw_141 rfl dX0_copyFrom_16 (fun r16 => ?_)
    refine G_alen (t := 1) rfl (by decide) dX0_copyFrom_19 (fun i17 => ?_)
    refine G_icmp_ge (tgt := 54) dX0_copyFrom_20 (by decide) (fun _ => ?_) (fun _ => ?_)
    · refine G_lv [0, 1] rfl ?_
      exact g_X0_copyFrom_b54 l N z o v1 x0
    · refine G_iload_n 2 dX0_copyFrom_23 rfl rfl ?_
      refine G_aload_n 1 dX0_copyFrom_24 rfl rfl ?_
      refine G_getr (k := 1) K_2 (by decide) rfl rfl rfl gw_143 rfl dX0_copyFrom_25 (fun r18 => ?_)
      refine G_alen (t := 1) rfl (by decide) dX0_copyFrom_28 (fun i19 => ?_)
      refine G_icmp_ge (tgt := 54) dX0_copyFrom_29 (by decide) (fun _ => ?_) (fun _ => ?_)
      · refine G_lv [0, 1] rfl ?_
        exact g_X0_copyFrom_b54 l N z o v1 x0
      · refine G_aload_n 0 dX0_copyFrom_32 rfl rfl ?_
        refine G_aload_n 1 dX0_copyFrom_33 rfl rfl ?_
        refine G_getr (k := 0) K_2 (by decide) rfl rfl rfl gw_141 rfl dX0_copyFrom_34 (fun r20 => ?_)
        refine G_iload_n 2 dX0_copyFrom_37 rfl rfl ?_
        refine G_iald dX0_copyFrom_38 (fun i21 => ?_)
        refine G_aload_n 1 dX0_copyFrom_39 rfl rfl ?_
        refine G_getr (k := 1) K_2 (by decide) rfl rfl rfl gw_143 rfl dX0_copyFrom_40 (fun r22 => ?_)
        refine G_iload_n 2 dX0_copyFrom_43 rfl rfl ?_
        refine G_iald dX0_copyFrom_44 (fun i23 => ?_)
        refine G_callV (av := [.int i21, .int i23]) [] (fun q25 => ct_X0_add l N z q25 i21 i23) K_2 rfl yn_X0_add (Nat.le_of_ble_eq_true rfl) (by decide) gw_1328 gw_1288 gw_1289 gw_43 gw_1290 rfl (by decide) dX0_copyFrom_45 (fun _ x24 => ?_)
        refine G_iinc (i := 2) (l2 := [(0, va_rf (some o)), (1, va_rf v1)]) 2 [0, 1] dX0_copyFrom_48 rfl rfl (Nat.le_of_ble_eq_true rfl) rfl (sok_a (by decide) (by decide) (sok_b (by decide) (rf_cat _) trivial)) ?_
        refine G_goto (tgt := 6) dX0_copyFrom_51 (by decide) ?_
        refine G_lv [1, 2, 0] rfl ?_
        exact ih o v1 (v2 + (1 : Int32)) x24

set_option maxRecDepth 100000 in
set_option maxHeartbeats 4000000 in
theorem g_X0_copyFrom (l : Launch) (N : Nat) (z : Nat → Nat) (o : Nat) (v1 : Option Nat) (x0 : Hp) : G l z m_X0_copyFrom okT enV 0 [(0, va_rf (some o)), (1, va_rf v1)] [] x0 (f_X0_copyFrom N z o v1 x0) := by
  unfold f_X0_copyFrom
  refine G_aload_n 0 dX0_copyFrom_0 rfl rfl ?_
  refine G_callV (av := []) [] (fun q27 => ct_X0_clear l N z q27) K_2 rfl yn_X0_clear (Nat.le_of_ble_eq_true rfl) (by decide) gw_1327 gw_1208 gw_1209 gw_43 gw_1210 rfl (by decide) dX0_copyFrom_1 (fun _ x26 => ?_)
  refine G_iconst (v := (0 : Int32)) dX0_copyFrom_4 rfl ?_
  refine G_istore_n (i := 2) (l2 := [(0, va_rf (some o)), (1, va_rf v1)]) [0, 1] dX0_copyFrom_5 rfl (Nat.le_of_ble_eq_true rfl) rfl (sok_a (by decide) (by decide) (sok_b (by decide) (rf_cat _) trivial)) ?_
  refine G_lv [1, 2, 0] rfl ?_
  exact g_X0_copyFrom_b6 l N z N o v1 (0 : Int32) x26

theorem yn_X0_copyFrom : Yn yX0_copyFrom 1 := ⟨by decide +kernel, by decide +kernel, by decide +kernel⟩
theorem ct_X0_copyFrom (l : Launch) (N : Nat) (z : Nat → Nat) (o : Nat) (v1 : Option Nat) : Ct l z yX0_copyFrom cX0_copyFrom 5 none 3 enV [.ref o, va_rf v1] (f_X0_copyFrom N z o v1) :=
  Ct_v (fun x => G_lv0 (by simp only [lva_n, lva_i, lva_o, lva_r, lva_j]) (g_X0_copyFrom l N z o v1 x)) (by decide +kernel) (by simp only [lgl_n, lgl_i, lgl_o, lgl_r, lgl_j]; decide)
