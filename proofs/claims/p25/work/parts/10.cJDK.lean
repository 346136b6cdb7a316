theorem dJ5_init_d00df_0 : decode cJ5_init_d00df 0 = .ok (.aload_n 0, 1) := by decide +kernel
theorem dJ5_init_d00df_1 : decode cJ5_init_d00df 1 = .ok (.invokespecial 3, 3) := by decide +kernel
theorem dJ5_init_d00df_4 : decode cJ5_init_d00df 4 = .ok (.getstatic 18, 3) := by decide +kernel
theorem dJ5_init_d00df_7 : decode cJ5_init_d00df 7 = .ok (.ifCond .eq 18, 3) := by decide +kernel
theorem dJ5_init_d00df_10 : decode cJ5_init_d00df 10 = .ok (.aload_n 0, 1) := by decide +kernel
theorem dJ5_init_d00df_11 : decode cJ5_init_d00df 11 = .ok (.iload_n 1, 1) := by decide +kernel
theorem dJ5_init_d00df_12 : decode cJ5_init_d00df 12 = .ok (.newarray .byte, 2) := by decide +kernel
theorem dJ5_init_d00df_14 : decode cJ5_init_d00df 14 = .ok (.putfield 15, 3) := by decide +kernel
theorem dJ5_init_d00df_17 : decode cJ5_init_d00df 17 = .ok (.aload_n 0, 1) := by decide +kernel
theorem dJ5_init_d00df_18 : decode cJ5_init_d00df 18 = .ok (.iconst 0, 1) := by decide +kernel
theorem dJ5_init_d00df_19 : decode cJ5_init_d00df 19 = .ok (.putfield 22, 3) := by decide +kernel
theorem dJ5_init_d00df_22 : decode cJ5_init_d00df 22 = .ok (.goto 16, 3) := by decide +kernel
theorem dJ5_init_d00df_25 : decode cJ5_init_d00df 25 = .ok (.aload_n 0, 1) := by decide +kernel
theorem dJ5_init_d00df_26 : decode cJ5_init_d00df 26 = .ok (.iload_n 1, 1) := by decide +kernel
theorem dJ5_init_d00df_27 : decode cJ5_init_d00df 27 = .ok (.invokestatic 26, 3) := by decide +kernel
theorem dJ5_init_d00df_38 : decode cJ5_init_d00df 38 = .ok (.return_, 1) := by decide +kernel
abbrev m_J5_init_d00df : Mt := (cJ5_init_d00df, RJ5, "<init>", 2, .return_, 2)
def f_J5_init_d00df (N : Nat) (z : Nat → Nat) (o : Nat) (v1 : Int32) (x0 : Hp) : Option (Unit × Hp) :=
  nn (some o) fun _ =>
  if (1 : Int32) = 0 then (none) else (newa x0 100 v1 fun r2 x3 =>
  putr (some o) x3 2 20 r2 fun x4 =>
  puti (some o) x4 2 21 (0 : Int32) fun x5 =>
  some ((), x5))
set_option maxRecDepth 100000 in
set_option maxHeartbeats 4000000 in
theorem g_J5_init_d00df (l : Launch) (N : Nat) (z : Nat → Nat) (o : Nat) (v1 : Int32) (x0 : Hp) : G l z m_J5_init_d00df okT enV 0 [(0, va_rf (some o)), (1, .int v1)] [] x0 (f_J5_init_d00df N z o v1 x0) := by
  unfold f_J5_init_d00df
  refine G_aload_n 0 dJ5_init_d00df_0 rfl rfl ?_
  refine G_objInit (st := []) gw_862 gw_75 gw_76 (by decide) (by decide) dJ5_init_d00df_1 (fun _ => ?_)
  refine G_getsi 0 (fun _ => rfl) gw_863 rfl dJ5_init_d00df_4 ?_
  refine G_if_eq (tgt := 25) dJ5_init_d00df_7 (by decide) (fun _ => ?_) (fun _ => ?_)
  · refine G_aload_n 0 dJ5_init_d00df_25 rfl rfl ?_
    refine G_iload_n 1 dJ5_init_d00df_26 rfl rfl ?_
    exact G_none
  · refine G_aload_n 0 dJ5_init_d00df_10 rfl rfl ?_
    refine G_iload_n 1 dJ5_init_d00df_11 rfl rfl ?_
    refine G_newa (t := 0) rfl (Or.inl ⟨rfl, rfl⟩) gw_92 dJ5_init_d00df_12 (fun r2 x3 => ?_)
    refine G_putr (k := 0) K_1 (by decide) rfl rfl rfl gw_871 rfl (Or.inl rfl) nar_arr.1 nar_arr.2 dJ5_init_d00df_14 (fun x4 => ?_)
    refine G_aload_n 0 dJ5_init_d00df_17 rfl rfl ?_
    refine G_iconst (v := (0 : Int32)) dJ5_init_d00df_18 rfl ?_
    refine G_puti (k := 1) K_1 (by decide) rfl rfl rfl gw_872 rfl (Or.inl rfl) (by decide) (by decide) dJ5_init_d00df_19 (fun x5 => ?_)
    refine G_goto (tgt := 38) dJ5_init_d00df_22 (by decide) ?_
    exact G_ret trivial dJ5_init_d00df_38 rfl

theorem yn_J5_init_d00df : Yn yJ5_init_d00df 1 := ⟨by decide +kernel, by decide +kernel, by decide +kernel⟩
theorem ct_J5_init_d00df (l : Launch) (N : Nat) (z : Nat → Nat) (o : Nat) (v1 : Int32) : Ct l z yJ5_init_d00df cJ5_init_d00df 2 none 2 enV [.ref o, .int v1] (f_J5_init_d00df N z o v1) :=
  Ct_v (fun x => G_lv0 (by simp only [lva_n, lva_i, lva_o, lva_r, lva_j]) (g_J5_init_d00df l N z o v1 x)) (by decide +kernel) (by simp only [lgl_n, lgl_i, lgl_o, lgl_r, lgl_j]; decide)

theorem dJ6_stringSize_0f7a4_0 : decode cJ6_stringSize_0f7a4 0 = .ok (.iconst 1, 1) := by decide +kernel
theorem dJ6_stringSize_0f7a4_1 : decode cJ6_stringSize_0f7a4 1 = .ok (.istore_n 1, 1) := by decide +kernel
theorem dJ6_stringSize_0f7a4_2 : decode cJ6_stringSize_0f7a4 2 = .ok (.iload_n 0, 1) := by decide +kernel
theorem dJ6_stringSize_0f7a4_3 : decode cJ6_stringSize_0f7a4 3 = .ok (.ifCond .lt 8, 3) := by decide +kernel
theorem dJ6_stringSize_0f7a4_6 : decode cJ6_stringSize_0f7a4 6 = .ok (.iconst 0, 1) := by decide +kernel
theorem dJ6_stringSize_0f7a4_7 : decode cJ6_stringSize_0f7a4 7 = .ok (.istore_n 1, 1) := by decide +kernel
theorem dJ6_stringSize_0f7a4_8 : decode cJ6_stringSize_0f7a4 8 = .ok (.iload_n 0, 1) := by decide +kernel
theorem dJ6_stringSize_0f7a4_9 : decode cJ6_stringSize_0f7a4 9 = .ok (.ineg, 1) := by decide +kernel
theorem dJ6_stringSize_0f7a4_10 : decode cJ6_stringSize_0f7a4 10 = .ok (.istore_n 0, 1) := by decide +kernel
theorem dJ6_stringSize_0f7a4_11 : decode cJ6_stringSize_0f7a4 11 = .ok (.bipush (-10), 2) := by decide +kernel
theorem dJ6_stringSize_0f7a4_13 : decode cJ6_stringSize_0f7a4 13 = .ok (.istore_n 2, 1) := by decide +kernel
theorem dJ6_stringSize_0f7a4_14 : decode cJ6_stringSize_0f7a4 14 = .ok (.iconst 1, 1) := by decide +kernel
theorem dJ6_stringSize_0f7a4_15 : decode cJ6_stringSize_0f7a4 15 = .ok (.istore_n 3, 1) := by decide +kernel
theorem dJ6_stringSize_0f7a4_16 : decode cJ6_stringSize_0f7a4 16 = .ok (.iload_n 3, 1) := by decide +kernel
theorem dJ6_stringSize_0f7a4_17 : decode cJ6_stringSize_0f7a4 17 = .ok (.bipush 10, 2) := by decide +kernel
theorem dJ6_stringSize_0f7a4_19 : decode cJ6_stringSize_0f7a4 19 = .ok (.if_icmp .ge 23, 3) := by decide +kernel
theorem dJ6_stringSize_0f7a4_22 : decode cJ6_stringSize_0f7a4 22 = .ok (.iload_n 0, 1) := by decide +kernel
theorem dJ6_stringSize_0f7a4_23 : decode cJ6_stringSize_0f7a4 23 = .ok (.iload_n 2, 1) := by decide +kernel
theorem dJ6_stringSize_0f7a4_24 : decode cJ6_stringSize_0f7a4 24 = .ok (.if_icmp .le 7, 3) := by decide +kernel
theorem dJ6_stringSize_0f7a4_27 : decode cJ6_stringSize_0f7a4 27 = .ok (.iload_n 3, 1) := by decide +kernel
theorem dJ6_stringSize_0f7a4_28 : decode cJ6_stringSize_0f7a4 28 = .ok (.iload_n 1, 1) := by decide +kernel
theorem dJ6_stringSize_0f7a4_29 : decode cJ6_stringSize_0f7a4 29 = .ok (.iadd, 1) := by decide +kernel
theorem dJ6_stringSize_0f7a4_30 : decode cJ6_stringSize_0f7a4 30 = .ok (.ireturn, 1) := by decide +kernel
theorem dJ6_stringSize_0f7a4_31 : decode cJ6_stringSize_0f7a4 31 = .ok (.bipush 10, 2) := by decide +kernel
theorem dJ6_stringSize_0f7a4_33 : decode cJ6_stringSize_0f7a4 33 = .ok (.iload_n 2, 1) := by decide +kernel
theorem dJ6_stringSize_0f7a4_34 : decode cJ6_stringSize_0f7a4 34 = .ok (.imul, 1) := by decide +kernel
theorem dJ6_stringSize_0f7a4_35 : decode cJ6_stringSize_0f7a4 35 = .ok (.istore_n 2, 1) := by decide +kernel
theorem dJ6_stringSize_0f7a4_36 : decode cJ6_stringSize_0f7a4 36 = .ok (.iinc 3 1, 3) := by decide +kernel
theorem dJ6_stringSize_0f7a4_39 : decode cJ6_stringSize_0f7a4 39 = .ok (.goto (-23), 3) := by decide +kernel
theorem dJ6_stringSize_0f7a4_42 : decode cJ6_stringSize_0f7a4 42 = .ok (.bipush 10, 2) := by decide +kernel
theorem dJ6_stringSize_0f7a4_44 : decode cJ6_stringSize_0f7a4 44 = .ok (.iload_n 1, 1) := by decide +kernel
theorem dJ6_stringSize_0f7a4_45 : decode cJ6_stringSize_0f7a4 45 = .ok (.iadd, 1) := by decide +kernel
theorem dJ6_stringSize_0f7a4_46 : decode cJ6_stringSize_0f7a4 46 = .ok (.ireturn, 1) := by decide +kernel
abbrev m_J6_stringSize_0f7a4 : Mt := (cJ6_stringSize_0f7a4, RJ6, "stringSize", 4, .ireturn, 1)
def f_J6_stringSize_0f7a4_b16 (N : Nat) (z : Nat → Nat) : Nat → Int32 → Int32 → Int32 → Int32 → Hp → Option (Int32 × Hp)
  | 0, _, _, _, _, _ => none
  | n + 1, v0, v1, v2, v3, x0 => if (10 : Int32) ≤ v3 then (some ((10 : Int32) + v1, x0)) else (if v0 ≤ v2 then (f_J6_stringSize_0f7a4_b16 N z n v0 v1 ((10 : Int32) * v2) (v3 + (1 : Int32)) x0) else (some (v3 + v1, x0)))
def f_J6_stringSize_0f7a4_b11 (N : Nat) (z : Nat → Nat) (v0 : Int32) (v1 : Int32) (x0 : Hp) : Option (Int32 × Hp) :=
  f_J6_stringSize_0f7a4_b16 N z N v0 v1 (-10 : Int32) (1 : Int32) x0
def f_J6_stringSize_0f7a4 (N : Nat) (z : Nat → Nat) (v0 : Int32) (x0 : Hp) : Option (Int32 × Hp) :=
  if v0 < 0 then (f_J6_stringSize_0f7a4_b11 N z v0 (1 : Int32) x0) else (f_J6_stringSize_0f7a4_b11 N z (-v0) (0 : Int32) x0)
set_option maxRecDepth 100000 in
set_option maxHeartbeats 4000000 in
theorem g_J6_stringSize_0f7a4_b16 (l : Launch) (N : Nat) (z : Nat → Nat) : ∀ (n : Nat) (v0 : Int32) (v1 : Int32) (v2 : Int32) (v3 : Int32) (x0 : Hp), G l z m_J6_stringSize_0f7a4 okT enI 16 [(0, .int v0), (1, .int v1), (2, .int v2), (3, .int v3)] [] x0 (f_J6_stringSize_0f7a4_b16 N z n v0 v1 v2 v3 x0) := by
  intro n
  induction n with
  | zero => intro v0 v1 v2 v3 x0; exact G_none
  | succ n ih =>
  intro v0 v1 v2 v3 x0
  rw [f_J6_stringSize_0f7a4_b16]
  refine G_iload_n 3 dJ6_stringSize_0f7a4_16 rfl rfl ?_
  refine G_bipush (v := (10 : Int32)) dJ6_stringSize_0f7a4_17 (by decide) ?_
  refine G_icmp_ge (tgt := 42) dJ6_stringSize_0f7a4_19 (by decide) (fun _ => ?_) (fun _ => ?_)
  · refine G_bipush (v := (10 : Int32)) dJ6_stringSize_0f7a4_42 (by decide) ?_
    refine G_iload_n 1 dJ6_stringSize_0f7a4_44 rfl rfl ?_
    refine G_iadd dJ6_stringSize_0f7a4_45 ?_
    exact G_ret trivial dJ6_stringSize_0f7a4_46 rfl
  · refine G_iload_n 0 dJ6_stringSize_0f7a4_22 rfl rfl ?_
    refine G_iload_n 2 dJ6_stringSize_0f7a4_23 rfl rfl ?_
    refine G_icmp_le (tgt := 31) dJ6_stringSize_0f7a4_24 (by decide) (fun _ => ?_) (fun _ => ?_)
    · refine G_bipush (v := (10 : Int32)) dJ6_stringSize_0f7a4_31 (by decide) ?_
      refine G_iload_n 2 dJ6_stringSize_0f7a4_33 rfl rfl ?_
      refine G_imul dJ6_stringSize_0f7a4_34 ?_
      refine G_istore_n (i := 2) (l2 := [(0, .int v0), (1, .int v1), (3, .int v3)]) [0, 1, 3] dJ6_stringSize_0f7a4_35 rfl (Nat.le_of_ble_eq_true rfl) rfl (sok_a (by decide) (by decide) (sok_b (by decide) rfl (sok_a (by decide) (by decide) trivial))) ?_
      refine G_iinc (i := 3) (l2 := [(2, .int ((10 : Int32) * v2)), (0, .int v0), (1, .int v1)]) 3 [0, 1, 2] dJ6_stringSize_0f7a4_36 rfl rfl (Nat.le_of_ble_eq_true rfl) rfl (sok_b (by decide) rfl (sok_a (by decide) (by decide) (sok_a (by decide) (by decide) trivial))) ?_
      refine G_goto (tgt := 16) dJ6_stringSize_0f7a4_39 (by decide) ?_
      refine G_lv [2, 3, 1, 0] rfl ?_
      exact ih v0 v1 ((10 : Int32) * v2) (v3 + (1 : Int32)) x0
    · refine G_iload_n 3 dJ6_stringSize_0f7a4_27 rfl rfl ?_
      refine G_iload_n 1 dJ6_stringSize_0f7a4_28 rfl rfl ?_
      refine G_iadd dJ6_stringSize_0f7a4_29 ?_
      exact G_ret trivial dJ6_stringSize_0f7a4_30 rfl

set_option maxRecDepth 100000 in
set_option maxHeartbeats 4000000 in
theorem g_J6_stringSize_0f7a4_b11 (l : Launch) (N : Nat) (z : Nat → Nat) (v0 : Int32) (v1 : Int32) (x0 : Hp) : G l z m_J6_stringSize_0f7a4 okT enI 11 [(0, .int v0), (1, .int v1)] [] x0 (f_J6_stringSize_0f7a4_b11 N z v0 v1 x0) := by
  unfold f_J6_stringSize_0f7a4_b11
  refine G_bipush (v := (-10 : Int32)) dJ6_stringSize_0f7a4_11 (by decide) ?_
  refine G_istore_n (i := 2) (l2 := [(0, .int v0), (1, .int v1)]) [0, 1] dJ6_stringSize_0f7a4_13 rfl (Nat.le_of_ble_eq_true rfl) rfl (sok_a (by decide) (by decide) (sok_b (by decide) rfl trivial)) ?_
  refine G_iconst (v := (1 : Int32)) dJ6_stringSize_0f7a4_14 rfl ?_
  refine G_istore_n (i := 3) (l2 := [(2, .int (-10 : Int32)), (0, .int v0), (1, .int v1)]) [0, 1, 2] dJ6_stringSize_0f7a4_15 rfl (Nat.le_of_ble_eq_true rfl) rfl (sok_b (by decide) rfl (sok_a (by decide) (by decide) (sok_a (by decide) (by decide) trivial))) ?_
  refine G_lv [2, 3, 1, 0] rfl ?_
  exact g_J6_stringSize_0f7a4_b16 l N z N v0 v1 (-10 : Int32) (1 : Int32) x0

set_option maxRecDepth 100000 in
set_option maxHeartbeats 4000000 in
theorem g_J6_stringSize_0f7a4 (l : Launch) (N : Nat) (z : Nat → Nat) (v0 : Int32) (x0 : Hp) : G l z m_J6_stringSize_0f7a4 okT enI 0 [(0, .int v0)] [] x0 (f_J6_stringSize_0f7a4 N z v0 x0) := by
  unfold f_J6_stringSize_0f7a4
  refine G_iconst (v := (1 : Int32)) dJ6_stringSize_0f7a4_0 rfl ?_
  refine G_istore_n (i := 1) (l2 := [(0, .int v0)]) [0] dJ6_stringSize_0f7a4_1 rfl (Nat.le_of_ble_eq_true rfl) rfl (sok_b (by decide) rfl trivial) ?_
  refine G_iload_n 1 dJ6_stringSize_0f7a4_2 rfl rfl ?_
  refine G_if_lt (tgt := 11) dJ6_stringSize_0f7a4_3 (by decide) (fun _ => ?_) (fun _ => ?_)
  · refine G_lv [1, 0] rfl ?_
    exact g_J6_stringSize_0f7a4_b11 l N z v0 (1 : Int32) x0
  · refine G_iconst (v := (0 : Int32)) dJ6_stringSize_0f7a4_6 rfl ?_
    refine G_istore_n (i := 1) (l2 := [(0, .int v0)]) [1] dJ6_stringSize_0f7a4_7 rfl (Nat.le_of_ble_eq_true rfl) rfl (sok_b (by decide) rfl trivial) ?_
    refine G_iload_n 1 dJ6_stringSize_0f7a4_8 rfl rfl ?_
    refine G_ineg dJ6_stringSize_0f7a4_9 ?_
    refine G_istore_n (i := 0) (l2 := [(1, .int (0 : Int32))]) [0] dJ6_stringSize_0f7a4_10 rfl (Nat.le_of_ble_eq_true rfl) rfl (sok_a (by decide) (by decide) trivial) ?_
    refine G_lv [0, 1] rfl ?_
    exact g_J6_stringSize_0f7a4_b11 l N z (-v0) (0 : Int32) x0

theorem yn_J6_stringSize_0f7a4 : Yn yJ6_stringSize_0f7a4 1 := ⟨by decide +kernel, by decide +kernel, by decide +kernel⟩
theorem ct_J6_stringSize_0f7a4 (l : Launch) (N : Nat) (z : Nat → Nat) (v0 : Int32) : Ct l z yJ6_stringSize_0f7a4 cJ6_stringSize_0f7a4 4 (some .int) 1 enI [.int v0] (f_J6_stringSize_0f7a4 N z v0) :=
  Ct_i (fun x => G_lv0 (by simp only [lva_n, lva_i, lva_o, lva_r, lva_j]) (g_J6_stringSize_0f7a4 l N z v0 x)) (by decide +kernel) (by simp only [lgl_n, lgl_i, lgl_o, lgl_r, lgl_j]; decide)

theorem dJ8_newLength_cabcc_0 : decode cJ8_newLength_cabcc 0 = .ok (.iload_n 0, 1) := by decide +kernel
theorem dJ8_newLength_cabcc_1 : decode cJ8_newLength_cabcc 1 = .ok (.iload_n 1, 1) := by decide +kernel
theorem dJ8_newLength_cabcc_2 : decode cJ8_newLength_cabcc 2 = .ok (.iload_n 2, 1) := by decide +kernel
theorem dJ8_newLength_cabcc_3 : decode cJ8_newLength_cabcc 3 = .ok (.invokestatic 194, 3) := by decide +kernel
theorem dJ8_newLength_cabcc_6 : decode cJ8_newLength_cabcc 6 = .ok (.iadd, 1) := by decide +kernel
theorem dJ8_newLength_cabcc_7 : decode cJ8_newLength_cabcc 7 = .ok (.istore_n 3, 1) := by decide +kernel
theorem dJ8_newLength_cabcc_8 : decode cJ8_newLength_cabcc 8 = .ok (.iconst 0, 1) := by decide +kernel
theorem dJ8_newLength_cabcc_9 : decode cJ8_newLength_cabcc 9 = .ok (.iload_n 3, 1) := by decide +kernel
theorem dJ8_newLength_cabcc_10 : decode cJ8_newLength_cabcc 10 = .ok (.if_icmp .ge 11, 3) := by decide +kernel
theorem dJ8_newLength_cabcc_13 : decode cJ8_newLength_cabcc 13 = .ok (.iload_n 3, 1) := by decide +kernel
theorem dJ8_newLength_cabcc_14 : decode cJ8_newLength_cabcc 14 = .ok (.ldc 200, 2) := by decide +kernel
theorem dJ8_newLength_cabcc_16 : decode cJ8_newLength_cabcc 16 = .ok (.if_icmp .gt 5, 3) := by decide +kernel
theorem dJ8_newLength_cabcc_19 : decode cJ8_newLength_cabcc 19 = .ok (.iload_n 3, 1) := by decide +kernel
theorem dJ8_newLength_cabcc_20 : decode cJ8_newLength_cabcc 20 = .ok (.ireturn, 1) := by decide +kernel
theorem dJ8_newLength_cabcc_21 : decode cJ8_newLength_cabcc 21 = .ok (.iload_n 0, 1) := by decide +kernel
theorem dJ8_newLength_cabcc_22 : decode cJ8_newLength_cabcc 22 = .ok (.iload_n 1, 1) := by decide +kernel
theorem dJ8_newLength_cabcc_23 : decode cJ8_newLength_cabcc 23 = .ok (.invokestatic 201, 3) := by decide +kernel
abbrev m_J8_newLength_cabcc : Mt := (cJ8_newLength_cabcc, RJ8, "newLength", 4, .ireturn, 2)
def f_J8_newLength_cabcc (N : Nat) (z : Nat → Nat) (v0 : Int32) (v1 : Int32) (v2 : Int32) (x0 : Hp) : Option (Int32 × Hp) :=
  if (v0 + (if v1 < v2 then v2 else v1)) ≤ (0 : Int32) then (none) else (if (2147483639 : Int32) < (v0 + (if v1 < v2 then v2 else v1)) then (none) else (some (v0 + (if v1 < v2 then v2 else v1), x0)))
set_option maxRecDepth 100000 in
set_option maxHeartbeats 4000000 in
theorem g_J8_newLength_cabcc (l : Launch) (N : Nat) (z : Nat → Nat) (v0 : Int32) (v1 : Int32) (v2 : Int32) (x0 : Hp) : G l z m_J8_newLength_cabcc okT enI 0 [(0, .int v0), (1, .int v1), (2, .int v2)] [] x0 (f_J8_newLength_cabcc N z v0 v1 v2 x0) := by
  unfold f_J8_newLength_cabcc
  refine G_iload_n 0 dJ8_newLength_cabcc_0 rfl rfl ?_
  refine G_iload_n 1 dJ8_newLength_cabcc_1 rfl rfl ?_
  refine G_iload_n 2 dJ8_newLength_cabcc_2 rfl rfl ?_
  refine G_mmax (st := [.int v0]) gw_907 gw_644 gw_59 gw_645 (by decide) (by simp only [hw_n, hw_i, hw_r, hw_j, hw_d]; decide) dJ8_newLength_cabcc_3 ?_
  refine G_iadd dJ8_newLength_cabcc_6 ?_
  refine G_istore_n (i := 3) (l2 := [(0, .int v0), (1, .int v1), (2, .int v2)]) [0, 1, 2] dJ8_newLength_cabcc_7 rfl (Nat.le_of_ble_eq_true rfl) rfl (sok_a (by decide) (by decide) (sok_a (by decide) (by decide) (sok_b (by decide) rfl trivial))) ?_
  refine G_iconst (v := (0 : Int32)) dJ8_newLength_cabcc_8 rfl ?_
  refine G_iload_n 0 dJ8_newLength_cabcc_9 rfl rfl ?_
  refine G_icmp_ge (tgt := 21) dJ8_newLength_cabcc_10 (by decide) (fun _ => ?_) (fun _ => ?_)
  · refine G_iload_n 1 dJ8_newLength_cabcc_21 rfl rfl ?_
    refine G_iload_n 2 dJ8_newLength_cabcc_22 rfl rfl ?_
    exact G_none
  · refine G_iload_n 0 dJ8_newLength_cabcc_13 rfl rfl ?_
    refine G_ldc (v := (2147483639 : Int32)) gw_908 dJ8_newLength_cabcc_14 ?_
    refine G_icmp_gt (tgt := 21) dJ8_newLength_cabcc_16 (by decide) (fun _ => ?_) (fun _ => ?_)
    · refine G_iload_n 1 dJ8_newLength_cabcc_21 rfl rfl ?_
      refine G_iload_n 2 dJ8_newLength_cabcc_22 rfl rfl ?_
      exact G_none
    · refine G_iload_n 0 dJ8_newLength_cabcc_19 rfl rfl ?_
      exact G_ret trivial dJ8_newLength_cabcc_20 rfl

theorem yn_J8_newLength_cabcc : Yn yJ8_newLength_cabcc 3 := ⟨by decide +kernel, by decide +kernel, by decide +kernel⟩
theorem ct_J8_newLength_cabcc (l : Launch) (N : Nat) (z : Nat → Nat) (v0 : Int32) (v1 : Int32) (v2 : Int32) : Ct l z yJ8_newLength_cabcc cJ8_newLength_cabcc 4 (some .int) 2 enI [.int v0, .int v1, .int v2] (f_J8_newLength_cabcc N z v0 v1 v2) :=
  Ct_i (fun x => G_lv0 (by simp only [lva_n, lva_i, lva_o, lva_r, lva_j]) (g_J8_newLength_cabcc l N z v0 v1 v2 x)) (by decide +kernel) (by simp only [lgl_n, lgl_i, lgl_o, lgl_r, lgl_j]; decide)

theorem dJ5_newCapacity_0f7a4_0 : decode cJ5_newCapacity_0f7a4 0 = .ok (.aload_n 0, 1) := by decide +kernel
theorem dJ5_newCapacity_0f7a4_1 : decode cJ5_newCapacity_0f7a4 1 = .ok (.getfield 15, 3) := by decide +kernel
theorem dJ5_newCapacity_0f7a4_4 : decode cJ5_newCapacity_0f7a4 4 = .ok (.arraylength, 1) := by decide +kernel
theorem dJ5_newCapacity_0f7a4_5 : decode cJ5_newCapacity_0f7a4 5 = .ok (.istore_n 2, 1) := by decide +kernel
theorem dJ5_newCapacity_0f7a4_6 : decode cJ5_newCapacity_0f7a4 6 = .ok (.iload_n 1, 1) := by decide +kernel
theorem dJ5_newCapacity_0f7a4_7 : decode cJ5_newCapacity_0f7a4 7 = .ok (.aload_n 0, 1) := by decide +kernel
theorem dJ5_newCapacity_0f7a4_8 : decode cJ5_newCapacity_0f7a4 8 = .ok (.getfield 22, 3) := by decide +kernel
theorem dJ5_newCapacity_0f7a4_11 : decode cJ5_newCapacity_0f7a4 11 = .ok (.ishl, 1) := by decide +kernel
theorem dJ5_newCapacity_0f7a4_12 : decode cJ5_newCapacity_0f7a4 12 = .ok (.istore_n 3, 1) := by decide +kernel
theorem dJ5_newCapacity_0f7a4_13 : decode cJ5_newCapacity_0f7a4 13 = .ok (.iload_n 3, 1) := by decide +kernel
theorem dJ5_newCapacity_0f7a4_14 : decode cJ5_newCapacity_0f7a4 14 = .ok (.iload_n 2, 1) := by decide +kernel
theorem dJ5_newCapacity_0f7a4_15 : decode cJ5_newCapacity_0f7a4 15 = .ok (.isub, 1) := by decide +kernel
theorem dJ5_newCapacity_0f7a4_16 : decode cJ5_newCapacity_0f7a4 16 = .ok (.istore 4, 2) := by decide +kernel
theorem dJ5_newCapacity_0f7a4_18 : decode cJ5_newCapacity_0f7a4 18 = .ok (.iload_n 2, 1) := by decide +kernel
theorem dJ5_newCapacity_0f7a4_19 : decode cJ5_newCapacity_0f7a4 19 = .ok (.iload 4, 2) := by decide +kernel
theorem dJ5_newCapacity_0f7a4_21 : decode cJ5_newCapacity_0f7a4 21 = .ok (.iload_n 2, 1) := by decide +kernel
theorem dJ5_newCapacity_0f7a4_22 : decode cJ5_newCapacity_0f7a4 22 = .ok (.iconst 2, 1) := by decide +kernel
theorem dJ5_newCapacity_0f7a4_23 : decode cJ5_newCapacity_0f7a4 23 = .ok (.aload_n 0, 1) := by decide +kernel
theorem dJ5_newCapacity_0f7a4_24 : decode cJ5_newCapacity_0f7a4 24 = .ok (.getfield 22, 3) := by decide +kernel
theorem dJ5_newCapacity_0f7a4_27 : decode cJ5_newCapacity_0f7a4 27 = .ok (.ishl, 1) := by decide +kernel
theorem dJ5_newCapacity_0f7a4_28 : decode cJ5_newCapacity_0f7a4 28 = .ok (.iadd, 1) := by decide +kernel
theorem dJ5_newCapacity_0f7a4_29 : decode cJ5_newCapacity_0f7a4 29 = .ok (.invokestatic 114, 3) := by decide +kernel
theorem dJ5_newCapacity_0f7a4_32 : decode cJ5_newCapacity_0f7a4 32 = .ok (.istore 5, 2) := by decide +kernel
theorem dJ5_newCapacity_0f7a4_34 : decode cJ5_newCapacity_0f7a4 34 = .ok (.iload 5, 2) := by decide +kernel
theorem dJ5_newCapacity_0f7a4_36 : decode cJ5_newCapacity_0f7a4 36 = .ok (.ldc 39, 2) := by decide +kernel
theorem dJ5_newCapacity_0f7a4_38 : decode cJ5_newCapacity_0f7a4 38 = .ok (.if_icmp .ne 13, 3) := by decide +kernel
theorem dJ5_newCapacity_0f7a4_41 : decode cJ5_newCapacity_0f7a4 41 = .ok (.new 120, 3) := by decide +kernel
theorem dJ5_newCapacity_0f7a4_51 : decode cJ5_newCapacity_0f7a4 51 = .ok (.iload 5, 2) := by decide +kernel
theorem dJ5_newCapacity_0f7a4_53 : decode cJ5_newCapacity_0f7a4 53 = .ok (.aload_n 0, 1) := by decide +kernel
theorem dJ5_newCapacity_0f7a4_54 : decode cJ5_newCapacity_0f7a4 54 = .ok (.getfield 22, 3) := by decide +kernel
theorem dJ5_newCapacity_0f7a4_57 : decode cJ5_newCapacity_0f7a4 57 = .ok (.ishr, 1) := by decide +kernel
theorem dJ5_newCapacity_0f7a4_58 : decode cJ5_newCapacity_0f7a4 58 = .ok (.ireturn, 1) := by decide +kernel
abbrev m_J5_newCapacity_0f7a4 : Mt := (cJ5_newCapacity_0f7a4, RJ5, "newCapacity", 6, .ireturn, 3)
def f_J5_newCapacity_0f7a4 (N : Nat) (z : Nat → Nat) (o : Nat) (v1 : Int32) (x0 : Hp) : Option (Int32 × Hp) :=
  getr (some o) x0 2 20 fun r1 =>
  alen r1 x0 100 fun i2 =>
  geti (some o) x0 2 21 fun i3 =>
  geti (some o) x0 2 21 fun i4 =>
  bnd (f_J8_newLength_cabcc N z i2 ((v1 <<< (i3 &&& 31)) - i2) (i2 + ((2 : Int32) <<< (i4 &&& 31))) x0) fun i6 x5 =>
  if i6 = (2147483647 : Int32) then (none) else (geti (some o) x5 2 21 fun i7 =>
  some (i6 >>> (i7 &&& 31), x5))
set_option maxRecDepth 100000 in
set_option maxHeartbeats 4000000 in
theorem g_J5_newCapacity_0f7a4 (l : Launch) (N : Nat) (z : Nat → Nat) (o : Nat) (v1 : Int32) (x0 : Hp) : G l z m_J5_newCapacity_0f7a4 okT enI 0 [(0, va_rf (some o)), (1, .int v1)] [] x0 (f_J5_newCapacity_0f7a4 N z o v1 x0) := by
  unfold f_J5_newCapacity_0f7a4
  refine G_aload_n 0 dJ5_newCapacity_0f7a4_0 rfl rfl ?_
  refine G_getr (k := 0) K_1 (by decide) rfl rfl rfl gw_871 rfl dJ5_newCapacity_0f7a4_1 (fun r1 => ?_)
  refine G_alen (t := 0) rfl (by decide) dJ5_newCapacity_0f7a4_4 (fun i2 => ?_)
  refine G_istore_n (i := 2) (l2 := [(0, va_rf (some o)), (1, .int v1)]) [0, 1] dJ5_newCapacity_0f7a4_5 rfl (Nat.le_of_ble_eq_true rfl) rfl (sok_a (by decide) (by decide) (sok_b (by decide) rfl trivial)) ?_
  refine G_iload_n 2 dJ5_newCapacity_0f7a4_6 rfl rfl ?_
  refine G_aload_n 1 dJ5_newCapacity_0f7a4_7 rfl rfl ?_
  refine G_geti (k := 1) K_1 (by decide) rfl rfl rfl gw_872 rfl dJ5_newCapacity_0f7a4_8 (fun i3 => ?_)
  refine G_ishl dJ5_newCapacity_0f7a4_11 ?_
  refine G_istore_n (i := 3) (l2 := [(2, .int i2), (0, va_rf (some o)), (1, .int v1)]) [0, 1, 2] dJ5_newCapacity_0f7a4_12 rfl (Nat.le_of_ble_eq_true rfl) rfl (sok_b (by decide) rfl (sok_a (by decide) (by decide) (sok_a (by decide) (by decide) trivial))) ?_
  refine G_iload_n 0 dJ5_newCapacity_0f7a4_13 rfl rfl ?_
  refine G_iload_n 1 dJ5_newCapacity_0f7a4_14 rfl rfl ?_
  refine G_isub dJ5_newCapacity_0f7a4_15 ?_
  refine G_istore (i := 4) (l2 := [(3, .int (v1 <<< (i3 &&& 31))), (2, .int i2), (0, va_rf (some o)), (1, .int v1)]) [0, 1, 2, 3] dJ5_newCapacity_0f7a4_16 (Nat.le_of_ble_eq_true rfl) rfl (sok_b (by decide) rfl (sok_a (by decide) (by decide) (sok_a (by decide) (by decide) (sok_a (by decide) (by decide) trivial)))) ?_
  refine G_iload_n 2 dJ5_newCapacity_0f7a4_18 rfl rfl ?_
  refine G_iload 0 dJ5_newCapacity_0f7a4_19 rfl ?_
  refine G_iload_n 2 dJ5_newCapacity_0f7a4_21 rfl rfl ?_
  refine G_iconst (v := (2 : Int32)) dJ5_newCapacity_0f7a4_22 rfl ?_
  refine G_aload_n 3 dJ5_newCapacity_0f7a4_23 rfl rfl ?_
  refine G_geti (k := 1) K_1 (by decide) rfl rfl rfl gw_872 rfl dJ5_newCapacity_0f7a4_24 (fun i4 => ?_)
  refine G_ishl dJ5_newCapacity_0f7a4_27 ?_
  refine G_iadd dJ5_newCapacity_0f7a4_28 ?_
  refine G_callS (av := [.int i2, .int ((v1 <<< (i3 &&& 31)) - i2), .int (i2 + ((2 : Int32) <<< (i4 &&& 31)))]) [] (ct_J8_newLength_cabcc l N z i2 ((v1 <<< (i3 &&& 31)) - i2) (i2 + ((2 : Int32) <<< (i4 &&& 31)))) yn_J8_newLength_cabcc (Nat.le_of_ble_eq_true rfl) (by decide) gw_904 gw_905 gw_58 gw_906 rfl (by decide) dJ5_newCapacity_0f7a4_29 (fun i6 x5 => ?_)
  refine G_istore (i := 5) (l2 := [(4, .int ((v1 <<< (i3 &&& 31)) - i2)), (3, .int (v1 <<< (i3 &&& 31))), (2, .int i2), (0, va_rf (some o)), (1, .int v1)]) [0, 1, 2, 3, 4] dJ5_newCapacity_0f7a4_32 (Nat.le_of_ble_eq_true rfl) rfl (sok_b (by decide) rfl (sok_a (by decide) (by decide) (sok_a (by decide) (by decide) (sok_a (by decide) (by decide) (sok_a (by decide) (by decide) trivial))))) ?_
  refine G_iload 0 dJ5_newCapacity_0f7a4_34 rfl ?_
  refine G_ldc (v := (2147483647 : Int32)) gw_912 dJ5_newCapacity_0f7a4_36 ?_
  refine G_icmp_ne (tgt := 51) dJ5_newCapacity_0f7a4_38 (by decide) (fun _ => ?_) (fun _ => ?_)
  · exact G_none
  · refine G_iload 0 dJ5_newCapacity_0f7a4_51 rfl ?_
    refine G_aload_n 4 dJ5_newCapacity_0f7a4_53 rfl rfl ?_
    refine G_geti (k := 1) K_1 (by decide) rfl rfl rfl gw_872 rfl dJ5_newCapacity_0f7a4_54 (fun i7 => ?_)
    refine G_ishr dJ5_newCapacity_0f7a4_57 ?_
    exact G_ret trivial dJ5_newCapacity_0f7a4_58 rfl

theorem yn_J5_newCapacity_0f7a4 : Yn yJ5_newCapacity_0f7a4 1 := ⟨by decide +kernel, by decide +kernel, by decide +kernel⟩
theorem ct_J5_newCapacity_0f7a4 (l : Launch) (N : Nat) (z : Nat → Nat) (o : Nat) (v1 : Int32) : Ct l z yJ5_newCapacity_0f7a4 cJ5_newCapacity_0f7a4 6 (some .int) 3 enI [.ref o, .int v1] (f_J5_newCapacity_0f7a4 N z o v1) :=
  Ct_i (fun x => G_lv0 (by simp only [lva_n, lva_i, lva_o, lva_r, lva_j]) (g_J5_newCapacity_0f7a4 l N z o v1 x)) (by decide +kernel) (by simp only [lgl_n, lgl_i, lgl_o, lgl_r, lgl_j]; decide)

theorem dJ7_copyOf_9075b_0 : decode cJ7_copyOf_9075b 0 = .ok (.iload_n 1, 1) := by decide +kernel
theorem dJ7_copyOf_9075b_1 : decode cJ7_copyOf_9075b 1 = .ok (.aload_n 0, 1) := by decide +kernel
theorem dJ7_copyOf_9075b_2 : decode cJ7_copyOf_9075b 2 = .ok (.arraylength, 1) := by decide +kernel
theorem dJ7_copyOf_9075b_3 : decode cJ7_copyOf_9075b 3 = .ok (.if_icmp .ne 11, 3) := by decide +kernel
theorem dJ7_copyOf_9075b_6 : decode cJ7_copyOf_9075b 6 = .ok (.aload_n 0, 1) := by decide +kernel
theorem dJ7_copyOf_9075b_7 : decode cJ7_copyOf_9075b 7 = .ok (.invokevirtual 310, 3) := by decide +kernel
theorem dJ7_copyOf_9075b_10 : decode cJ7_copyOf_9075b 10 = .ok (.checkcast 311, 3) := by decide +kernel
theorem dJ7_copyOf_9075b_13 : decode cJ7_copyOf_9075b 13 = .ok (.areturn, 1) := by decide +kernel
theorem dJ7_copyOf_9075b_14 : decode cJ7_copyOf_9075b 14 = .ok (.iload_n 1, 1) := by decide +kernel
theorem dJ7_copyOf_9075b_15 : decode cJ7_copyOf_9075b 15 = .ok (.newarray .byte, 2) := by decide +kernel
theorem dJ7_copyOf_9075b_17 : decode cJ7_copyOf_9075b 17 = .ok (.astore_n 2, 1) := by decide +kernel
theorem dJ7_copyOf_9075b_18 : decode cJ7_copyOf_9075b 18 = .ok (.aload_n 0, 1) := by decide +kernel
theorem dJ7_copyOf_9075b_19 : decode cJ7_copyOf_9075b 19 = .ok (.iconst 0, 1) := by decide +kernel
theorem dJ7_copyOf_9075b_20 : decode cJ7_copyOf_9075b 20 = .ok (.aload_n 2, 1) := by decide +kernel
theorem dJ7_copyOf_9075b_21 : decode cJ7_copyOf_9075b 21 = .ok (.iconst 0, 1) := by decide +kernel
theorem dJ7_copyOf_9075b_22 : decode cJ7_copyOf_9075b 22 = .ok (.aload_n 0, 1) := by decide +kernel
theorem dJ7_copyOf_9075b_23 : decode cJ7_copyOf_9075b 23 = .ok (.arraylength, 1) := by decide +kernel
theorem dJ7_copyOf_9075b_24 : decode cJ7_copyOf_9075b 24 = .ok (.iload_n 1, 1) := by decide +kernel
theorem dJ7_copyOf_9075b_25 : decode cJ7_copyOf_9075b 25 = .ok (.invokestatic 304, 3) := by decide +kernel
theorem dJ7_copyOf_9075b_28 : decode cJ7_copyOf_9075b 28 = .ok (.invokestatic 150, 3) := by decide +kernel
theorem dJ7_copyOf_9075b_31 : decode cJ7_copyOf_9075b 31 = .ok (.aload_n 2, 1) := by decide +kernel
theorem dJ7_copyOf_9075b_32 : decode cJ7_copyOf_9075b 32 = .ok (.areturn, 1) := by decide +kernel
abbrev m_J7_copyOf_9075b : Mt := (cJ7_copyOf_9075b, RJ7, "copyOf", 3, .areturn, 2)
def f_J7_copyOf_9075b (N : Nat) (z : Nat → Nat) (v0 : Option Nat) (v1 : Int32) (x0 : Hp) : Option (Option Nat × Hp) :=
  alen v0 x0 100 fun i1 =>
  if v1 = i1 then (clonb v0 x0 fun r6 x7 =>
  castb r6 x7 <|
  some (r6, x7)) else (newa x0 100 v1 fun r2 x3 =>
  alen v0 x3 100 fun i4 =>
  acpy v0 x3 (0 : Int32) r2 (0 : Int32) (if v1 < i4 then v1 else i4) fun x5 =>
  some (r2, x5))
set_option maxRecDepth 100000 in
set_option maxHeartbeats 4000000 in
theorem g_J7_copyOf_9075b (l : Launch) (N : Nat) (z : Nat → Nat) (v0 : Option Nat) (v1 : Int32) (x0 : Hp) : G l z m_J7_copyOf_9075b okT enR 0 [(0, va_rf v0), (1, .int v1)] [] x0 (f_J7_copyOf_9075b N z v0 v1 x0) := by
  unfold f_J7_copyOf_9075b
  refine G_iload_n 1 dJ7_copyOf_9075b_0 rfl rfl ?_
  refine G_aload_n 0 dJ7_copyOf_9075b_1 rfl rfl ?_
  refine G_alen (t := 0) rfl (by decide) dJ7_copyOf_9075b_2 (fun i1 => ?_)
  refine G_icmp_ne (tgt := 14) dJ7_copyOf_9075b_3 (by decide) (fun _ => ?_) (fun _ => ?_)
  · refine G_aload_n 0 dJ7_copyOf_9075b_6 rfl rfl ?_
    refine G_clonb (st := []) gw_916 gw_917 gw_918 gw_919 gw_920 (by decide) (by decide) dJ7_copyOf_9075b_7 (fun r6 x7 => ?_)
    refine G_castb gw_922 dJ7_copyOf_9075b_10 ?_
    exact G_ret trivial dJ7_copyOf_9075b_13 rfl
  · refine G_iload_n 1 dJ7_copyOf_9075b_14 rfl rfl ?_
    refine G_newa (t := 0) rfl (Or.inl ⟨rfl, rfl⟩) gw_92 dJ7_copyOf_9075b_15 (fun r2 x3 => ?_)
    refine G_astore_n (i := 2) (l2 := [(0, va_rf v0), (1, .int v1)]) [0, 1] dJ7_copyOf_9075b_17 rfl (Nat.le_of_ble_eq_true rfl) rfl (sok_a (by decide) (by decide) (sok_b (by decide) rfl trivial)) ?_
    refine G_aload_n 1 dJ7_copyOf_9075b_18 rfl rfl ?_
    refine G_iconst (v := (0 : Int32)) dJ7_copyOf_9075b_19 rfl ?_
    refine G_aload_n 0 dJ7_copyOf_9075b_20 rfl rfl ?_
    refine G_iconst (v := (0 : Int32)) dJ7_copyOf_9075b_21 rfl ?_
    refine G_aload_n 1 dJ7_copyOf_9075b_22 rfl rfl ?_
    refine G_alen (t := 0) rfl (by decide) dJ7_copyOf_9075b_23 (fun i4 => ?_)
    refine G_iload_n 2 dJ7_copyOf_9075b_24 rfl rfl ?_
    refine G_mmin (st := [.int (0 : Int32), va_rf r2, .int (0 : Int32), va_rf v0]) gw_923 gw_670 gw_59 gw_671 (by decide) (by simp only [hw_n, hw_i, hw_r, hw_j, hw_d]; decide) dJ7_copyOf_9075b_25 ?_
    refine G_acpy (st := []) gw_924 gw_926 gw_925 gw_61 (by decide) (by decide) dJ7_copyOf_9075b_28 (fun x5 => ?_)
    refine G_aload_n 0 dJ7_copyOf_9075b_31 rfl rfl ?_
    exact G_ret trivial dJ7_copyOf_9075b_32 rfl

theorem yn_J7_copyOf_9075b : Yn yJ7_copyOf_9075b 2 := ⟨by decide +kernel, by decide +kernel, by decide +kernel⟩
theorem ct_J7_copyOf_9075b (l : Launch) (N : Nat) (z : Nat → Nat) (v0 : Option Nat) (v1 : Int32) : Ct l z yJ7_copyOf_9075b cJ7_copyOf_9075b 3 (some (.array .byte)) 2 enR [va_rf v0, .int v1] (f_J7_copyOf_9075b N z v0 v1) :=
  Ct_ra (fun x => G_lv0 (by simp only [lva_n, lva_i, lva_o, lva_r, lva_j]) (g_J7_copyOf_9075b l N z v0 v1 x)) (by decide +kernel) (by simp only [lgl_n, lgl_i, lgl_o, lgl_r, lgl_j]; decide)

theorem dJ5_ensureCapacityInternal_d00df_0 : decode cJ5_ensureCapacityInternal_d00df 0 = .ok (.aload_n 0, 1) := by decide +kernel
theorem dJ5_ensureCapacityInternal_d00df_1 : decode cJ5_ensureCapacityInternal_d00df 1 = .ok (.getfield 15, 3) := by decide +kernel
theorem dJ5_ensureCapacityInternal_d00df_4 : decode cJ5_ensureCapacityInternal_d00df 4 = .ok (.arraylength, 1) := by decide +kernel
theorem dJ5_ensureCapacityInternal_d00df_5 : decode cJ5_ensureCapacityInternal_d00df 5 = .ok (.aload_n 0, 1) := by decide +kernel
theorem dJ5_ensureCapacityInternal_d00df_6 : decode cJ5_ensureCapacityInternal_d00df 6 = .ok (.getfield 22, 3) := by decide +kernel
theorem dJ5_ensureCapacityInternal_d00df_9 : decode cJ5_ensureCapacityInternal_d00df 9 = .ok (.ishr, 1) := by decide +kernel
theorem dJ5_ensureCapacityInternal_d00df_10 : decode cJ5_ensureCapacityInternal_d00df 10 = .ok (.istore_n 2, 1) := by decide +kernel
theorem dJ5_ensureCapacityInternal_d00df_11 : decode cJ5_ensureCapacityInternal_d00df 11 = .ok (.iload_n 1, 1) := by decide +kernel
theorem dJ5_ensureCapacityInternal_d00df_12 : decode cJ5_ensureCapacityInternal_d00df 12 = .ok (.iload_n 2, 1) := by decide +kernel
theorem dJ5_ensureCapacityInternal_d00df_13 : decode cJ5_ensureCapacityInternal_d00df 13 = .ok (.isub, 1) := by decide +kernel
theorem dJ5_ensureCapacityInternal_d00df_14 : decode cJ5_ensureCapacityInternal_d00df 14 = .ok (.ifCond .le 24, 3) := by decide +kernel
theorem dJ5_ensureCapacityInternal_d00df_17 : decode cJ5_ensureCapacityInternal_d00df 17 = .ok (.aload_n 0, 1) := by decide +kernel
theorem dJ5_ensureCapacityInternal_d00df_18 : decode cJ5_ensureCapacityInternal_d00df 18 = .ok (.aload_n 0, 1) := by decide +kernel
theorem dJ5_ensureCapacityInternal_d00df_19 : decode cJ5_ensureCapacityInternal_d00df 19 = .ok (.getfield 15, 3) := by decide +kernel
theorem dJ5_ensureCapacityInternal_d00df_22 : decode cJ5_ensureCapacityInternal_d00df 22 = .ok (.aload_n 0, 1) := by decide +kernel
theorem dJ5_ensureCapacityInternal_d00df_23 : decode cJ5_ensureCapacityInternal_d00df 23 = .ok (.iload_n 1, 1) := by decide +kernel
theorem dJ5_ensureCapacityInternal_d00df_24 : decode cJ5_ensureCapacityInternal_d00df 24 = .ok (.invokevirtual 104, 3) := by decide +kernel
theorem dJ5_ensureCapacityInternal_d00df_27 : decode cJ5_ensureCapacityInternal_d00df 27 = .ok (.aload_n 0, 1) := by decide +kernel
theorem dJ5_ensureCapacityInternal_d00df_28 : decode cJ5_ensureCapacityInternal_d00df 28 = .ok (.getfield 22, 3) := by decide +kernel
theorem dJ5_ensureCapacityInternal_d00df_31 : decode cJ5_ensureCapacityInternal_d00df 31 = .ok (.ishl, 1) := by decide +kernel
theorem dJ5_ensureCapacityInternal_d00df_32 : decode cJ5_ensureCapacityInternal_d00df 32 = .ok (.invokestatic 108, 3) := by decide +kernel
theorem dJ5_ensureCapacityInternal_d00df_35 : decode cJ5_ensureCapacityInternal_d00df 35 = .ok (.putfield 15, 3) := by decide +kernel
theorem dJ5_ensureCapacityInternal_d00df_38 : decode cJ5_ensureCapacityInternal_d00df 38 = .ok (.return_, 1) := by decide +kernel
abbrev m_J5_ensureCapacityInternal_d00df : Mt := (cJ5_ensureCapacityInternal_d00df, RJ5, "ensureCapacityInternal", 3, .return_, 4)
def f_J5_ensureCapacityInternal_d00df (N : Nat) (z : Nat → Nat) (o : Nat) (v1 : Int32) (x0 : Hp) : Option (Unit × Hp) :=
  getr (some o) x0 2 20 fun r1 =>
  alen r1 x0 100 fun i2 =>
  geti (some o) x0 2 21 fun i3 =>
  if (v1 - (i2 >>> (i3 &&& 31))) ≤ 0 then (some ((), x0)) else (getr (some o) x0 2 20 fun r4 =>
  obj (some o) x0 2 fun q7 => bnd (f_J5_newCapacity_0f7a4 N z q7 v1 x0) fun i6 x5 =>
  geti (some o) x5 2 21 fun i8 =>
  bnd (f_J7_copyOf_9075b N z r4 (i6 <<< (i8 &&& 31)) x5) fun r10 x9 =>
  putr (some o) x9 2 20 r10 fun x11 =>
  some ((), x11))
set_option maxRecDepth 100000 in
set_option maxHeartbeats 4000000 in
theorem g_J5_ensureCapacityInternal_d00df (l : Launch) (N : Nat) (z : Nat → Nat) (o : Nat) (v1 : Int32) (x0 : Hp) : G l z m_J5_ensureCapacityInternal_d00df okT enV 0 [(0, va_rf (some o)), (1, .int v1)] [] x0 (f_J5_ensureCapacityInternal_d00df N z o v1 x0) := by
  unfold f_J5_ensureCapacityInternal_d00df
  refine G_aload_n 0 dJ5_ensureCapacityInternal_d00df_0 rfl rfl ?_
  refine G_getr (k := 0) K_1 (by decide) rfl rfl rfl gw_871 rfl dJ5_ensureCapacityInternal_d00df_1 (fun r1 => ?_)
  refine G_alen (t := 0) rfl (by decide) dJ5_ensureCapacityInternal_d00df_4 (fun i2 => ?_)
  refine G_aload_n 0 dJ5_ensureCapacityInternal_d00df_5 rfl rfl ?_
  refine G_geti (k := 1) K_1 (by decide) rfl rfl rfl gw_872 rfl dJ5_ensureCapacityInternal_d00df_6 (fun i3 => ?_)
  refine G_ishr dJ5_ensureCapacityInternal_d00df_9 ?_
  refine G_istore_n (i := 2) (l2 := [(0, va_rf (some o)), (1, .int v1)]) [0, 1] dJ5_ensureCapacityInternal_d00df_10 rfl (Nat.le_of_ble_eq_true rfl) rfl (sok_a (by decide) (by decide) (sok_b (by decide) rfl trivial)) ?_
  refine G_iload_n 2 dJ5_ensureCapacityInternal_d00df_11 rfl rfl ?_
  refine G_iload_n 0 dJ5_ensureCapacityInternal_d00df_12 rfl rfl ?_
  refine G_isub dJ5_ensureCapacityInternal_d00df_13 ?_
  refine G_if_le (tgt := 38) dJ5_ensureCapacityInternal_d00df_14 (by decide) (fun _ => ?_) (fun _ => ?_)
  · exact G_ret trivial dJ5_ensureCapacityInternal_d00df_38 rfl
  · refine G_aload_n 1 dJ5_ensureCapacityInternal_d00df_17 rfl rfl ?_
    refine G_aload_n 1 dJ5_ensureCapacityInternal_d00df_18 rfl rfl ?_
    refine G_getr (k := 0) K_1 (by decide) rfl rfl rfl gw_871 rfl dJ5_ensureCapacityInternal_d00df_19 (fun r4 => ?_)
    refine G_aload_n 1 dJ5_ensureCapacityInternal_d00df_22 rfl rfl ?_
    refine G_iload_n 2 dJ5_ensureCapacityInternal_d00df_23 rfl rfl ?_
    refine G_callP (C := RJ4) (w := yJ5_isLatin1_aae02) (av := [.int v1]) [va_rf r4, va_rf (some o)] (fun q7 => ct_J5_newCapacity_0f7a4 l N z q7 v1) K_1 rfl yn_J5_newCapacity_0f7a4 (Nat.le_of_ble_eq_true rfl) (by decide) gw_900 gw_902 (by decide +kernel) gw_56 gw_903 gw_930 rfl rfl (by simp only [hw_n, hw_i, hw_r, hw_j, hw_d]; decide) dJ5_ensureCapacityInternal_d00df_24 (fun i6 x5 => ?_)
    refine G_aload_n 1 dJ5_ensureCapacityInternal_d00df_27 rfl rfl ?_
    refine G_geti (k := 1) K_1 (by decide) rfl rfl rfl gw_872 rfl dJ5_ensureCapacityInternal_d00df_28 (fun i8 => ?_)
    refine G_ishl dJ5_ensureCapacityInternal_d00df_31 ?_
    refine G_callS (av := [va_rf r4, .int (i6 <<< (i8 &&& 31))]) [va_rf (some o)] (ct_J7_copyOf_9075b l N z r4 (i6 <<< (i8 &&& 31))) yn_J7_copyOf_9075b (Nat.le_of_ble_eq_true rfl) (by decide) gw_913 gw_914 gw_60 gw_915 rfl (by simp only [hw_n, hw_i, hw_r, hw_j, hw_d]; decide) dJ5_ensureCapacityInternal_d00df_32 (fun r10 x9 => ?_)
    refine G_putr (k := 0) K_1 (by decide) rfl rfl rfl gw_871 rfl (Or.inl rfl) nar_arr.1 nar_arr.2 dJ5_ensureCapacityInternal_d00df_35 (fun x11 => ?_)
    exact G_ret trivial dJ5_ensureCapacityInternal_d00df_38 rfl

theorem yn_J5_ensureCapacityInternal_d00df : Yn yJ5_ensureCapacityInternal_d00df 1 := ⟨by decide +kernel, by decide +kernel, by decide +kernel⟩
theorem ct_J5_ensureCapacityInternal_d00df (l : Launch) (N : Nat) (z : Nat → Nat) (o : Nat) (v1 : Int32) : Ct l z yJ5_ensureCapacityInternal_d00df cJ5_ensureCapacityInternal_d00df 3 none 4 enV [.ref o, .int v1] (f_J5_ensureCapacityInternal_d00df N z o v1) :=
  Ct_v (fun x => G_lv0 (by simp only [lva_n, lva_i, lva_o, lva_r, lva_j]) (g_J5_ensureCapacityInternal_d00df l N z o v1 x)) (by decide +kernel) (by simp only [lgl_n, lgl_i, lgl_o, lgl_r, lgl_j]; decide)

theorem dJ5_isLatin1_aae02_0 : decode cJ5_isLatin1_aae02 0 = .ok (.getstatic 18, 3) := by decide +kernel
theorem dJ5_isLatin1_aae02_3 : decode cJ5_isLatin1_aae02 3 = .ok (.ifCond .eq 14, 3) := by decide +kernel
theorem dJ5_isLatin1_aae02_6 : decode cJ5_isLatin1_aae02 6 = .ok (.aload_n 0, 1) := by decide +kernel
theorem dJ5_isLatin1_aae02_7 : decode cJ5_isLatin1_aae02 7 = .ok (.getfield 22, 3) := by decide +kernel
theorem dJ5_isLatin1_aae02_10 : decode cJ5_isLatin1_aae02 10 = .ok (.ifCond .ne 7, 3) := by decide +kernel
theorem dJ5_isLatin1_aae02_13 : decode cJ5_isLatin1_aae02 13 = .ok (.iconst 1, 1) := by decide +kernel
theorem dJ5_isLatin1_aae02_14 : decode cJ5_isLatin1_aae02 14 = .ok (.goto 4, 3) := by decide +kernel
theorem dJ5_isLatin1_aae02_17 : decode cJ5_isLatin1_aae02 17 = .ok (.iconst 0, 1) := by decide +kernel
theorem dJ5_isLatin1_aae02_18 : decode cJ5_isLatin1_aae02 18 = .ok (.ireturn, 1) := by decide +kernel
abbrev m_J5_isLatin1_aae02 : Mt := (cJ5_isLatin1_aae02, RJ5, "isLatin1", 1, .ireturn, 1)
def f_J5_isLatin1_aae02 (N : Nat) (z : Nat → Nat) (o : Nat) (x0 : Hp) : Option (Int32 × Hp) :=
  if (1 : Int32) = 0 then (some ((0 : Int32), x0)) else (geti (some o) x0 2 21 fun i1 =>
  if i1 = 0 then (some ((1 : Int32), x0)) else (some ((0 : Int32), x0)))
set_option maxRecDepth 100000 in
set_option maxHeartbeats 4000000 in
theorem g_J5_isLatin1_aae02 (l : Launch) (N : Nat) (z : Nat → Nat) (o : Nat) (x0 : Hp) : G l z m_J5_isLatin1_aae02 okZ enI 0 [(0, va_rf (some o))] [] x0 (f_J5_isLatin1_aae02 N z o x0) := by
  unfold f_J5_isLatin1_aae02
  refine G_getsi 0 (fun _ => rfl) gw_863 rfl dJ5_isLatin1_aae02_0 ?_
  refine G_if_eq (tgt := 17) dJ5_isLatin1_aae02_3 (by decide) (fun _ => ?_) (fun _ => ?_)
  · refine G_iconst (v := (0 : Int32)) dJ5_isLatin1_aae02_17 rfl ?_
    exact G_ret (Or.inl rfl) dJ5_isLatin1_aae02_18 rfl
  · refine G_aload_n 0 dJ5_isLatin1_aae02_6 rfl rfl ?_
    refine G_geti (k := 1) K_1 (by decide) rfl rfl rfl gw_872 rfl dJ5_isLatin1_aae02_7 (fun i1 => ?_)
    refine G_if_ne (tgt := 17) dJ5_isLatin1_aae02_10 (by decide) (fun _ => ?_) (fun _ => ?_)
    · refine G_iconst (v := (1 : Int32)) dJ5_isLatin1_aae02_13 rfl ?_
      refine G_goto (tgt := 18) dJ5_isLatin1_aae02_14 (by decide) ?_
      exact G_ret (Or.inr rfl) dJ5_isLatin1_aae02_18 rfl
    · refine G_iconst (v := (0 : Int32)) dJ5_isLatin1_aae02_17 rfl ?_
      exact G_ret (Or.inl rfl) dJ5_isLatin1_aae02_18 rfl

theorem yn_J5_isLatin1_aae02 : Yn yJ5_isLatin1_aae02 0 := ⟨by decide +kernel, by decide +kernel, by decide +kernel⟩
theorem ct_J5_isLatin1_aae02 (l : Launch) (N : Nat) (z : Nat → Nat) (o : Nat) : Ct l z yJ5_isLatin1_aae02 cJ5_isLatin1_aae02 1 (some .boolean) 1 enI [.ref o] (f_J5_isLatin1_aae02 N z o) :=
  Ct_z (fun x => G_lv0 (by simp only [lva_n, lva_i, lva_o, lva_r, lva_j]) (g_J5_isLatin1_aae02 l N z o x)) (by decide +kernel) (by simp only [lgl_n, lgl_i, lgl_o, lgl_r, lgl_j]; decide)

theorem dJ6_getChars_ba4f3_0 : decode cJ6_getChars_ba4f3 0 = .ok (.iload_n 1, 1) := by decide +kernel
theorem dJ6_getChars_ba4f3_1 : decode cJ6_getChars_ba4f3 1 = .ok (.istore 5, 2) := by decide +kernel
theorem dJ6_getChars_ba4f3_3 : decode cJ6_getChars_ba4f3 3 = .ok (.iload_n 0, 1) := by decide +kernel
theorem dJ6_getChars_ba4f3_4 : decode cJ6_getChars_ba4f3 4 = .ok (.ifCond .ge 7, 3) := by decide +kernel
theorem dJ6_getChars_ba4f3_7 : decode cJ6_getChars_ba4f3 7 = .ok (.iconst 1, 1) := by decide +kernel
theorem dJ6_getChars_ba4f3_8 : decode cJ6_getChars_ba4f3 8 = .ok (.goto 4, 3) := by decide +kernel
theorem dJ6_getChars_ba4f3_11 : decode cJ6_getChars_ba4f3 11 = .ok (.iconst 0, 1) := by decide +kernel
theorem dJ6_getChars_ba4f3_12 : decode cJ6_getChars_ba4f3 12 = .ok (.istore 6, 2) := by decide +kernel
theorem dJ6_getChars_ba4f3_14 : decode cJ6_getChars_ba4f3 14 = .ok (.iload 6, 2) := by decide +kernel
theorem dJ6_getChars_ba4f3_16 : decode cJ6_getChars_ba4f3 16 = .ok (.ifCond .ne 6, 3) := by decide +kernel
theorem dJ6_getChars_ba4f3_19 : decode cJ6_getChars_ba4f3 19 = .ok (.iload_n 0, 1) := by decide +kernel
theorem dJ6_getChars_ba4f3_20 : decode cJ6_getChars_ba4f3 20 = .ok (.ineg, 1) := by decide +kernel
theorem dJ6_getChars_ba4f3_21 : decode cJ6_getChars_ba4f3 21 = .ok (.istore_n 0, 1) := by decide +kernel
theorem dJ6_getChars_ba4f3_22 : decode cJ6_getChars_ba4f3 22 = .ok (.iload_n 0, 1) := by decide +kernel
theorem dJ6_getChars_ba4f3_23 : decode cJ6_getChars_ba4f3 23 = .ok (.bipush (-100), 2) := by decide +kernel
theorem dJ6_getChars_ba4f3_25 : decode cJ6_getChars_ba4f3 25 = .ok (.if_icmp .gt 47, 3) := by decide +kernel
theorem dJ6_getChars_ba4f3_28 : decode cJ6_getChars_ba4f3 28 = .ok (.iload_n 0, 1) := by decide +kernel
theorem dJ6_getChars_ba4f3_29 : decode cJ6_getChars_ba4f3 29 = .ok (.bipush 100, 2) := by decide +kernel
theorem dJ6_getChars_ba4f3_31 : decode cJ6_getChars_ba4f3 31 = .ok (.idiv, 1) := by decide +kernel
theorem dJ6_getChars_ba4f3_32 : decode cJ6_getChars_ba4f3 32 = .ok (.istore_n 3, 1) := by decide +kernel
theorem dJ6_getChars_ba4f3_33 : decode cJ6_getChars_ba4f3 33 = .ok (.iload_n 3, 1) := by decide +kernel
theorem dJ6_getChars_ba4f3_34 : decode cJ6_getChars_ba4f3 34 = .ok (.bipush 100, 2) := by decide +kernel
theorem dJ6_getChars_ba4f3_36 : decode cJ6_getChars_ba4f3 36 = .ok (.imul, 1) := by decide +kernel
theorem dJ6_getChars_ba4f3_37 : decode cJ6_getChars_ba4f3 37 = .ok (.iload_n 0, 1) := by decide +kernel
theorem dJ6_getChars_ba4f3_38 : decode cJ6_getChars_ba4f3 38 = .ok (.isub, 1) := by decide +kernel
theorem dJ6_getChars_ba4f3_39 : decode cJ6_getChars_ba4f3 39 = .ok (.istore 4, 2) := by decide +kernel
theorem dJ6_getChars_ba4f3_41 : decode cJ6_getChars_ba4f3 41 = .ok (.iload_n 3, 1) := by decide +kernel
theorem dJ6_getChars_ba4f3_42 : decode cJ6_getChars_ba4f3 42 = .ok (.istore_n 0, 1) := by decide +kernel
theorem dJ6_getChars_ba4f3_43 : decode cJ6_getChars_ba4f3 43 = .ok (.aload_n 2, 1) := by decide +kernel
theorem dJ6_getChars_ba4f3_44 : decode cJ6_getChars_ba4f3 44 = .ok (.iinc 5 (-1), 3) := by decide +kernel
theorem dJ6_getChars_ba4f3_47 : decode cJ6_getChars_ba4f3 47 = .ok (.iload 5, 2) := by decide +kernel
theorem dJ6_getChars_ba4f3_49 : decode cJ6_getChars_ba4f3 49 = .ok (.getstatic 83, 3) := by decide +kernel
theorem dJ6_getChars_ba4f3_52 : decode cJ6_getChars_ba4f3 52 = .ok (.iload 4, 2) := by decide +kernel
theorem dJ6_getChars_ba4f3_54 : decode cJ6_getChars_ba4f3 54 = .ok (.baload, 1) := by decide +kernel
theorem dJ6_getChars_ba4f3_55 : decode cJ6_getChars_ba4f3 55 = .ok (.bastore, 1) := by decide +kernel
theorem dJ6_getChars_ba4f3_56 : decode cJ6_getChars_ba4f3 56 = .ok (.aload_n 2, 1) := by decide +kernel
theorem dJ6_getChars_ba4f3_57 : decode cJ6_getChars_ba4f3 57 = .ok (.iinc 5 (-1), 3) := by decide +kernel
theorem dJ6_getChars_ba4f3_60 : decode cJ6_getChars_ba4f3 60 = .ok (.iload 5, 2) := by decide +kernel
theorem dJ6_getChars_ba4f3_62 : decode cJ6_getChars_ba4f3 62 = .ok (.getstatic 87, 3) := by decide +kernel
theorem dJ6_getChars_ba4f3_65 : decode cJ6_getChars_ba4f3 65 = .ok (.iload 4, 2) := by decide +kernel
theorem dJ6_getChars_ba4f3_67 : decode cJ6_getChars_ba4f3 67 = .ok (.baload, 1) := by decide +kernel
theorem dJ6_getChars_ba4f3_68 : decode cJ6_getChars_ba4f3 68 = .ok (.bastore, 1) := by decide +kernel
theorem dJ6_getChars_ba4f3_69 : decode cJ6_getChars_ba4f3 69 = .ok (.goto (-47), 3) := by decide +kernel
theorem dJ6_getChars_ba4f3_72 : decode cJ6_getChars_ba4f3 72 = .ok (.aload_n 2, 1) := by decide +kernel
theorem dJ6_getChars_ba4f3_73 : decode cJ6_getChars_ba4f3 73 = .ok (.iinc 5 (-1), 3) := by decide +kernel
theorem dJ6_getChars_ba4f3_76 : decode cJ6_getChars_ba4f3 76 = .ok (.iload 5, 2) := by decide +kernel
theorem dJ6_getChars_ba4f3_78 : decode cJ6_getChars_ba4f3 78 = .ok (.getstatic 83, 3) := by decide +kernel
theorem dJ6_getChars_ba4f3_81 : decode cJ6_getChars_ba4f3 81 = .ok (.iload_n 0, 1) := by decide +kernel
theorem dJ6_getChars_ba4f3_82 : decode cJ6_getChars_ba4f3 82 = .ok (.ineg, 1) := by decide +kernel
theorem dJ6_getChars_ba4f3_83 : decode cJ6_getChars_ba4f3 83 = .ok (.baload, 1) := by decide +kernel
theorem dJ6_getChars_ba4f3_84 : decode cJ6_getChars_ba4f3 84 = .ok (.bastore, 1) := by decide +kernel
theorem dJ6_getChars_ba4f3_85 : decode cJ6_getChars_ba4f3 85 = .ok (.iload_n 0, 1) := by decide +kernel
theorem dJ6_getChars_ba4f3_86 : decode cJ6_getChars_ba4f3 86 = .ok (.bipush (-9), 2) := by decide +kernel
theorem dJ6_getChars_ba4f3_88 : decode cJ6_getChars_ba4f3 88 = .ok (.if_icmp .ge 16, 3) := by decide +kernel
theorem dJ6_getChars_ba4f3_91 : decode cJ6_getChars_ba4f3 91 = .ok (.aload_n 2, 1) := by decide +kernel
theorem dJ6_getChars_ba4f3_92 : decode cJ6_getChars_ba4f3 92 = .ok (.iinc 5 (-1), 3) := by decide +kernel
theorem dJ6_getChars_ba4f3_95 : decode cJ6_getChars_ba4f3 95 = .ok (.iload 5, 2) := by decide +kernel
theorem dJ6_getChars_ba4f3_97 : decode cJ6_getChars_ba4f3 97 = .ok (.getstatic 87, 3) := by decide +kernel
theorem dJ6_getChars_ba4f3_100 : decode cJ6_getChars_ba4f3 100 = .ok (.iload_n 0, 1) := by decide +kernel
theorem dJ6_getChars_ba4f3_101 : decode cJ6_getChars_ba4f3 101 = .ok (.ineg, 1) := by decide +kernel
theorem dJ6_getChars_ba4f3_102 : decode cJ6_getChars_ba4f3 102 = .ok (.baload, 1) := by decide +kernel
theorem dJ6_getChars_ba4f3_103 : decode cJ6_getChars_ba4f3 103 = .ok (.bastore, 1) := by decide +kernel
theorem dJ6_getChars_ba4f3_104 : decode cJ6_getChars_ba4f3 104 = .ok (.iload 6, 2) := by decide +kernel
theorem dJ6_getChars_ba4f3_106 : decode cJ6_getChars_ba4f3 106 = .ok (.ifCond .eq 12, 3) := by decide +kernel
theorem dJ6_getChars_ba4f3_109 : decode cJ6_getChars_ba4f3 109 = .ok (.aload_n 2, 1) := by decide +kernel
theorem dJ6_getChars_ba4f3_110 : decode cJ6_getChars_ba4f3 110 = .ok (.iinc 5 (-1), 3) := by decide +kernel
theorem dJ6_getChars_ba4f3_113 : decode cJ6_getChars_ba4f3 113 = .ok (.iload 5, 2) := by decide +kernel
theorem dJ6_getChars_ba4f3_115 : decode cJ6_getChars_ba4f3 115 = .ok (.bipush 45, 2) := by decide +kernel
theorem dJ6_getChars_ba4f3_117 : decode cJ6_getChars_ba4f3 117 = .ok (.bastore, 1) := by decide +kernel
theorem dJ6_getChars_ba4f3_118 : decode cJ6_getChars_ba4f3 118 = .ok (.iload 5, 2) := by decide +kernel
theorem dJ6_getChars_ba4f3_120 : decode cJ6_getChars_ba4f3 120 = .ok (.ireturn, 1) := by decide +kernel
abbrev m_J6_getChars_ba4f3 : Mt := (cJ6_getChars_ba4f3, RJ6, "getChars", 7, .ireturn, 1)
def f_J6_getChars_ba4f3_b104 (N : Nat) (z : Nat → Nat) (v2 : Option Nat) (v5 : Int32) (v6 : Int32) (x0 : Hp) : Option (Int32 × Hp) :=
  if v6 = 0 then (some (v5, x0)) else (asti v2 x0 100 (v5 + (-1 : Int32)) (45 : Int32).toInt8.toInt32 fun x1 =>
  some (v5 + (-1 : Int32), x1))
def f_J6_getChars_ba4f3_b22 (N : Nat) (z : Nat → Nat) : Nat → Int32 → Option Nat → Int32 → Int32 → Hp → Option (Int32 × Hp)
  | 0, _, _, _, _, _ => none
  | n + 1, v0, v2, v5, v6, x0 => if (-100 : Int32) < v0 then (aldi (some (z 101)) x0 300 (-v0) fun i2 =>
  asti v2 x0 100 (v5 + (-1 : Int32)) i2.toInt8.toInt32 fun x3 =>
  if (-9 : Int32) ≤ v0 then (f_J6_getChars_ba4f3_b104 N z v2 (v5 + (-1 : Int32)) v6 x3) else (aldi (some (z 100)) x3 300 (-v0) fun i4 =>
  asti v2 x3 100 ((v5 + (-1 : Int32)) + (-1 : Int32)) i4.toInt8.toInt32 fun x5 =>
  f_J6_getChars_ba4f3_b104 N z v2 ((v5 + (-1 : Int32)) + (-1 : Int32)) v6 x5)) else (nz (100 : Int32) <|
  aldi (some (z 101)) x0 300 (((v0 / (100 : Int32)) * (100 : Int32)) - v0) fun i6 =>
  asti v2 x0 100 (v5 + (-1 : Int32)) i6.toInt8.toInt32 fun x7 =>
  aldi (some (z 100)) x7 300 (((v0 / (100 : Int32)) * (100 : Int32)) - v0) fun i8 =>
  asti v2 x7 100 ((v5 + (-1 : Int32)) + (-1 : Int32)) i8.toInt8.toInt32 fun x9 =>
  f_J6_getChars_ba4f3_b22 N z n (v0 / (100 : Int32)) v2 ((v5 + (-1 : Int32)) + (-1 : Int32)) v6 x9)
def f_J6_getChars_ba4f3_b12 (N : Nat) (z : Nat → Nat) (v0 : Int32) (v2 : Option Nat) (v5 : Int32) (s0 : Int32) (x0 : Hp) : Option (Int32 × Hp) :=
  if s0 = 0 then (f_J6_getChars_ba4f3_b22 N z N (-v0) v2 v5 s0 x0) else (f_J6_getChars_ba4f3_b22 N z N v0 v2 v5 s0 x0)
def f_J6_getChars_ba4f3 (N : Nat) (z : Nat → Nat) (v0 : Int32) (v1 : Int32) (v2 : Option Nat) (x0 : Hp) : Option (Int32 × Hp) :=
  if 0 ≤ v0 then (f_J6_getChars_ba4f3_b12 N z v0 v2 v1 (0 : Int32) x0) else (f_J6_getChars_ba4f3_b12 N z v0 v2 v1 (1 : Int32) x0)
set_option maxRecDepth 100000 in
set_option maxHeartbeats 4000000 in
theorem g_J6_getChars_ba4f3_b104 (l : Launch) (N : Nat) (z : Nat → Nat) (v2 : Option Nat) (v5 : Int32) (v6 : Int32) (x0 : Hp) : G l z m_J6_getChars_ba4f3 okT enI 104 [(2, va_rf v2), (5, .int v5), (6, .int v6)] [] x0 (f_J6_getChars_ba4f3_b104 N z v2 v5 v6 x0) := by
  unfold f_J6_getChars_ba4f3_b104
  refine G_iload 2 dJ6_getChars_ba4f3_104 rfl ?_
  refine G_if_eq (tgt := 118) dJ6_getChars_ba4f3_106 (by decide) (fun _ => ?_) (fun _ => ?_)
  · refine G_iload 1 dJ6_getChars_ba4f3_118 rfl ?_
    exact G_ret trivial dJ6_getChars_ba4f3_120 rfl
  · refine G_aload_n 0 dJ6_getChars_ba4f3_109 rfl rfl ?_
    refine G_iinc (i := 5) (l2 := [(2, va_rf v2), (6, .int v6)]) 1 [0, 2] dJ6_getChars_ba4f3_110 rfl rfl (Nat.le_of_ble_eq_true rfl) rfl (sok_a (by decide) (by decide) (sok_a (by decide) (by decide) trivial)) ?_
    refine G_iload 0 dJ6_getChars_ba4f3_113 rfl ?_
    refine G_bipush (v := (45 : Int32)) dJ6_getChars_ba4f3_115 (by decide) ?_
    refine G_bast dJ6_getChars_ba4f3_117 (fun x1 => ?_)
    refine G_iload 0 dJ6_getChars_ba4f3_118 rfl ?_
    exact G_ret trivial dJ6_getChars_ba4f3_120 rfl

set_option maxRecDepth 100000 in
set_option maxHeartbeats 4000000 in
theorem g_J6_getChars_ba4f3_b22 (l : Launch) (N : Nat) (z : Nat → Nat) : ∀ (n : Nat) (v0 : Int32) (v2 : Option Nat) (v5 : Int32) (v6 : Int32) (x0 : Hp), G l z m_J6_getChars_ba4f3 okT enI 22 [(0, .int v0), (2, va_rf v2), (5, .int v5), (6, .int v6)] [] x0 (f_J6_getChars_ba4f3_b22 N z n v0 v2 v5 v6 x0) := by
  intro n
  induction n with
  | zero => intro v0 v2 v5 v6 x0; exact G_none
  | succ n ih =>
  intro v0 v2 v5 v6 x0
  rw [f_J6_getChars_ba4f3_b22]
  refine G_iload_n 0 dJ6_getChars_ba4f3_22 rfl rfl ?_
  refine G_bipush (v := (-100 : Int32)) dJ6_getChars_ba4f3_23 (by decide) ?_
  refine G_icmp_gt (tgt := 72) dJ6_getChars_ba4f3_25 (by decide) (fun _ => ?_) (fun _ => ?_)
  · refine G_aload_n 1 dJ6_getChars_ba4f3_72 rfl rfl ?_
    refine G_iinc (i := 5) (l2 := [(0, .int v0), (2, va_rf v2), (6, .int v6)]) 2 [0, 1, 3] dJ6_getChars_ba4f3_73 rfl rfl (Nat.le_of_ble_eq_true rfl) rfl (sok_a (by decide) (by decide) (sok_a (by decide) (by decide) (sok_a (by decide) (by decide) trivial))) ?_
    refine G_iload 0 dJ6_getChars_ba4f3_76 rfl ?_
    refine G_getsr (v := some (z 101)) 2 rfl gw_995 rfl dJ6_getChars_ba4f3_78 ?_
    refine G_iload_n 1 dJ6_getChars_ba4f3_81 rfl rfl ?_
    refine G_ineg dJ6_getChars_ba4f3_82 ?_
    refine G_baldO dJ6_getChars_ba4f3_83 (fun i2 => ?_)
    refine G_bast dJ6_getChars_ba4f3_84 (fun x3 => ?_)
    refine G_iload_n 1 dJ6_getChars_ba4f3_85 rfl rfl ?_
    refine G_bipush (v := (-9 : Int32)) dJ6_getChars_ba4f3_86 (by decide) ?_
    refine G_icmp_ge (tgt := 104) dJ6_getChars_ba4f3_88 (by decide) (fun _ => ?_) (fun _ => ?_)
    · refine G_lv [2, 0, 3] rfl ?_
      exact g_J6_getChars_ba4f3_b104 l N z v2 (v5 + (-1 : Int32)) v6 x3
    · refine G_aload_n 2 dJ6_getChars_ba4f3_91 rfl rfl ?_
      refine G_iinc (i := 5) (l2 := [(0, .int v0), (2, va_rf v2), (6, .int v6)]) 0 [1, 2, 3] dJ6_getChars_ba4f3_92 rfl rfl (Nat.le_of_ble_eq_true rfl) rfl (sok_a (by decide) (by decide) (sok_a (by decide) (by decide) (sok_a (by decide) (by decide) trivial))) ?_
      refine G_iload 0 dJ6_getChars_ba4f3_95 rfl ?_
      refine G_getsr (v := some (z 100)) 1 rfl gw_997 rfl dJ6_getChars_ba4f3_97 ?_
      refine G_iload_n 1 dJ6_getChars_ba4f3_100 rfl rfl ?_
      refine G_ineg dJ6_getChars_ba4f3_101 ?_
      refine G_baldO dJ6_getChars_ba4f3_102 (fun i4 => ?_)
      refine G_bast dJ6_getChars_ba4f3_103 (fun x5 => ?_)
      refine G_lv [2, 0, 3] rfl ?_
      exact g_J6_getChars_ba4f3_b104 l N z v2 ((v5 + (-1 : Int32)) + (-1 : Int32)) v6 x5
  · refine G_iload_n 0 dJ6_getChars_ba4f3_28 rfl rfl ?_
    refine G_bipush (v := (100 : Int32)) dJ6_getChars_ba4f3_29 (by decide) ?_
    refine G_idiv dJ6_getChars_ba4f3_31 ?_
    refine G_istore_n (i := 3) (l2 := [(0, .int v0), (2, va_rf v2), (5, .int v5), (6, .int v6)]) [0, 1, 2, 3] dJ6_getChars_ba4f3_32 rfl (Nat.le_of_ble_eq_true rfl) rfl (sok_a (by decide) (by decide) (sok_b (by decide) (rf_cat _) (sok_a (by decide) (by decide) (sok_a (by decide) (by decide) trivial)))) ?_
    refine G_iload_n 0 dJ6_getChars_ba4f3_33 rfl rfl ?_
    refine G_bipush (v := (100 : Int32)) dJ6_getChars_ba4f3_34 (by decide) ?_
    refine G_imul dJ6_getChars_ba4f3_36 ?_
    refine G_iload_n 1 dJ6_getChars_ba4f3_37 rfl rfl ?_
    refine G_isub dJ6_getChars_ba4f3_38 ?_
    refine G_istore (i := 4) (l2 := [(3, .int (v0 / (100 : Int32))), (0, .int v0), (2, va_rf v2), (5, .int v5), (6, .int v6)]) [0, 1, 2, 3, 4] dJ6_getChars_ba4f3_39 (Nat.le_of_ble_eq_true rfl) rfl (sok_b (by decide) rfl (sok_a (by decide) (by decide) (sok_a (by decide) (by decide) (sok_a (by decide) (by decide) (sok_a (by decide) (by decide) trivial))))) ?_
    refine G_iload_n 1 dJ6_getChars_ba4f3_41 rfl rfl ?_
    refine G_istore_n (i := 0) (l2 := [(4, .int (((v0 / (100 : Int32)) * (100 : Int32)) - v0)), (3, .int (v0 / (100 : Int32))), (2, va_rf v2), (5, .int v5), (6, .int v6)]) [0, 1, 3, 4, 5] dJ6_getChars_ba4f3_42 rfl (Nat.le_of_ble_eq_true rfl) rfl (sok_a (by decide) (by decide) (sok_a (by decide) (by decide) (sok_a (by decide) (by decide) (sok_a (by decide) (by decide) (sok_a (by decide) (by decide) trivial))))) ?_
    refine G_aload_n 3 dJ6_getChars_ba4f3_43 rfl rfl ?_
    refine G_iinc (i := 5) (l2 := [(0, .int (v0 / (100 : Int32))), (4, .int (((v0 / (100 : Int32)) * (100 : Int32)) - v0)), (3, .int (v0 / (100 : Int32))), (2, va_rf v2), (6, .int v6)]) 4 [0, 1, 2, 3, 5] dJ6_getChars_ba4f3_44 rfl rfl (Nat.le_of_ble_eq_true rfl) rfl (sok_a (by decide) (by decide) (sok_b (by decide) rfl (sok_a (by decide) (by decide) (sok_a (by decide) (by decide) (sok_a (by decide) (by decide) trivial))))) ?_
    refine G_iload 0 dJ6_getChars_ba4f3_47 rfl ?_
    refine G_getsr (v := some (z 101)) 2 rfl gw_995 rfl dJ6_getChars_ba4f3_49 ?_
    refine G_iload 2 dJ6_getChars_ba4f3_52 rfl ?_
    refine G_baldO dJ6_getChars_ba4f3_54 (fun i6 => ?_)
    refine G_bast dJ6_getChars_ba4f3_55 (fun x7 => ?_)
    refine G_aload_n 4 dJ6_getChars_ba4f3_56 rfl rfl ?_
    refine G_iinc (i := 5) (l2 := [(0, .int (v0 / (100 : Int32))), (4, .int (((v0 / (100 : Int32)) * (100 : Int32)) - v0)), (3, .int (v0 / (100 : Int32))), (2, va_rf v2), (6, .int v6)]) 0 [1, 2, 3, 4, 5] dJ6_getChars_ba4f3_57 rfl rfl (Nat.le_of_ble_eq_true rfl) rfl (sok_a (by decide) (by decide) (sok_b (by decide) rfl (sok_a (by decide) (by decide) (sok_a (by decide) (by decide) (sok_a (by decide) (by decide) trivial))))) ?_
    refine G_iload 0 dJ6_getChars_ba4f3_60 rfl ?_
    refine G_getsr (v := some (z 100)) 1 rfl gw_997 rfl dJ6_getChars_ba4f3_62 ?_
    refine G_iload 2 dJ6_getChars_ba4f3_65 rfl ?_
    refine G_baldO dJ6_getChars_ba4f3_67 (fun i8 => ?_)
    refine G_bast dJ6_getChars_ba4f3_68 (fun x9 => ?_)
    refine G_goto (tgt := 22) dJ6_getChars_ba4f3_69 (by decide) ?_
    refine G_lv [1, 4, 0, 5] rfl ?_
    exact ih (v0 / (100 : Int32)) v2 ((v5 + (-1 : Int32)) + (-1 : Int32)) v6 x9

set_option maxRecDepth 100000 in
set_option maxHeartbeats 4000000 in
theorem g_J6_getChars_ba4f3_b12 (l : Launch) (N : Nat) (z : Nat → Nat) (v0 : Int32) (v2 : Option Nat) (v5 : Int32) (s0 : Int32) (x0 : Hp) : G l z m_J6_getChars_ba4f3 okT enI 12 [(0, .int v0), (2, va_rf v2), (5, .int v5)] [.int s0] x0 (f_J6_getChars_ba4f3_b12 N z v0 v2 v5 s0 x0) := by
  unfold f_J6_getChars_ba4f3_b12
  refine G_istore (i := 6) (l2 := [(0, .int v0), (2, va_rf v2), (5, .int v5)]) [0, 1, 2] dJ6_getChars_ba4f3_12 (Nat.le_of_ble_eq_true rfl) rfl (sok_a (by decide) (by decide) (sok_a (by decide) (by decide) (sok_b (by decide) rfl trivial))) ?_
  refine G_iload 0 dJ6_getChars_ba4f3_14 rfl ?_
  refine G_if_ne (tgt := 22) dJ6_getChars_ba4f3_16 (by decide) (fun _ => ?_) (fun _ => ?_)
  · refine G_iload_n 1 dJ6_getChars_ba4f3_19 rfl rfl ?_
    refine G_ineg dJ6_getChars_ba4f3_20 ?_
    refine G_istore_n (i := 0) (l2 := [(6, .int s0), (2, va_rf v2), (5, .int v5)]) [0, 2, 3] dJ6_getChars_ba4f3_21 rfl (Nat.le_of_ble_eq_true rfl) rfl (sok_a (by decide) (by decide) (sok_a (by decide) (by decide) (sok_a (by decide) (by decide) trivial))) ?_
    refine G_lv [0, 2, 3, 1] rfl ?_
    exact g_J6_getChars_ba4f3_b22 l N z N (-v0) v2 v5 s0 x0
  · refine G_lv [1, 2, 3, 0] rfl ?_
    exact g_J6_getChars_ba4f3_b22 l N z N v0 v2 v5 s0 x0

set_option maxRecDepth 100000 in
set_option maxHeartbeats 4000000 in
theorem g_J6_getChars_ba4f3 (l : Launch) (N : Nat) (z : Nat → Nat) (v0 : Int32) (v1 : Int32) (v2 : Option Nat) (x0 : Hp) : G l z m_J6_getChars_ba4f3 okT enI 0 [(0, .int v0), (1, .int v1), (2, va_rf v2)] [] x0 (f_J6_getChars_ba4f3 N z v0 v1 v2 x0) := by
  unfold f_J6_getChars_ba4f3
  refine G_iload_n 1 dJ6_getChars_ba4f3_0 rfl rfl ?_
  refine G_istore (i := 5) (l2 := [(0, .int v0), (1, .int v1), (2, va_rf v2)]) [0, 1, 2] dJ6_getChars_ba4f3_1 (Nat.le_of_ble_eq_true rfl) rfl (sok_a (by decide) (by decide) (sok_a (by decide) (by decide) (sok_a (by decide) (by decide) trivial))) ?_
  refine G_iload_n 1 dJ6_getChars_ba4f3_3 rfl rfl ?_
  refine G_if_ge (tgt := 11) dJ6_getChars_ba4f3_4 (by decide) (fun _ => ?_) (fun _ => ?_)
  · refine G_iconst (v := (0 : Int32)) dJ6_getChars_ba4f3_11 rfl ?_
    refine G_lv [1, 3, 0] rfl ?_
    exact g_J6_getChars_ba4f3_b12 l N z v0 v2 v1 (0 : Int32) x0
  · refine G_iconst (v := (1 : Int32)) dJ6_getChars_ba4f3_7 rfl ?_
    refine G_goto (tgt := 12) dJ6_getChars_ba4f3_8 (by decide) ?_
    refine G_lv [1, 3, 0] rfl ?_
    exact g_J6_getChars_ba4f3_b12 l N z v0 v2 v1 (1 : Int32) x0

theorem yn_J6_getChars_ba4f3 : Yn yJ6_getChars_ba4f3 3 := ⟨by decide +kernel, by decide +kernel, by decide +kernel⟩
theorem ct_J6_getChars_ba4f3 (l : Launch) (N : Nat) (z : Nat → Nat) (v0 : Int32) (v1 : Int32) (v2 : Option Nat) : Ct l z yJ6_getChars_ba4f3 cJ6_getChars_ba4f3 7 (some .int) 1 enI [.int v0, .int v1, va_rf v2] (f_J6_getChars_ba4f3 N z v0 v1 v2) :=
  Ct_i (fun x => G_lv0 (by simp only [lva_n, lva_i, lva_o, lva_r, lva_j]) (g_J6_getChars_ba4f3 l N z v0 v1 v2 x)) (by decide +kernel) (by simp only [lgl_n, lgl_i, lgl_o, lgl_r, lgl_j]; decide)

theorem dJ5_append_c97b9_0 : decode cJ5_append_c97b9 0 = .ok (.aload_n 0, 1) := by decide +kernel
theorem dJ5_append_c97b9_1 : decode cJ5_append_c97b9 1 = .ok (.getfield 79, 3) := by decide +kernel
theorem dJ5_append_c97b9_4 : decode cJ5_append_c97b9 4 = .ok (.istore_n 2, 1) := by decide +kernel
theorem dJ5_append_c97b9_5 : decode cJ5_append_c97b9 5 = .ok (.iload_n 2, 1) := by decide +kernel
theorem dJ5_append_c97b9_6 : decode cJ5_append_c97b9 6 = .ok (.iload_n 1, 1) := by decide +kernel
theorem dJ5_append_c97b9_7 : decode cJ5_append_c97b9 7 = .ok (.invokestatic 245, 3) := by decide +kernel
theorem dJ5_append_c97b9_10 : decode cJ5_append_c97b9 10 = .ok (.iadd, 1) := by decide +kernel
theorem dJ5_append_c97b9_11 : decode cJ5_append_c97b9 11 = .ok (.istore_n 3, 1) := by decide +kernel
theorem dJ5_append_c97b9_12 : decode cJ5_append_c97b9 12 = .ok (.aload_n 0, 1) := by decide +kernel
theorem dJ5_append_c97b9_13 : decode cJ5_append_c97b9 13 = .ok (.iload_n 3, 1) := by decide +kernel
theorem dJ5_append_c97b9_14 : decode cJ5_append_c97b9 14 = .ok (.invokevirtual 100, 3) := by decide +kernel
theorem dJ5_append_c97b9_17 : decode cJ5_append_c97b9 17 = .ok (.aload_n 0, 1) := by decide +kernel
theorem dJ5_append_c97b9_18 : decode cJ5_append_c97b9 18 = .ok (.invokevirtual 83, 3) := by decide +kernel
theorem dJ5_append_c97b9_21 : decode cJ5_append_c97b9 21 = .ok (.ifCond .eq 16, 3) := by decide +kernel
theorem dJ5_append_c97b9_24 : decode cJ5_append_c97b9 24 = .ok (.iload_n 1, 1) := by decide +kernel
theorem dJ5_append_c97b9_25 : decode cJ5_append_c97b9 25 = .ok (.iload_n 3, 1) := by decide +kernel
theorem dJ5_append_c97b9_26 : decode cJ5_append_c97b9 26 = .ok (.aload_n 0, 1) := by decide +kernel
theorem dJ5_append_c97b9_27 : decode cJ5_append_c97b9 27 = .ok (.getfield 15, 3) := by decide +kernel
theorem dJ5_append_c97b9_30 : decode cJ5_append_c97b9 30 = .ok (.invokestatic 248, 3) := by decide +kernel
theorem dJ5_append_c97b9_33 : decode cJ5_append_c97b9 33 = .ok (.pop, 1) := by decide +kernel
theorem dJ5_append_c97b9_34 : decode cJ5_append_c97b9 34 = .ok (.goto 14, 3) := by decide +kernel
theorem dJ5_append_c97b9_37 : decode cJ5_append_c97b9 37 = .ok (.iload_n 1, 1) := by decide +kernel
theorem dJ5_append_c97b9_38 : decode cJ5_append_c97b9 38 = .ok (.iload_n 2, 1) := by decide +kernel
theorem dJ5_append_c97b9_39 : decode cJ5_append_c97b9 39 = .ok (.iload_n 3, 1) := by decide +kernel
theorem dJ5_append_c97b9_40 : decode cJ5_append_c97b9 40 = .ok (.aload_n 0, 1) := by decide +kernel
theorem dJ5_append_c97b9_41 : decode cJ5_append_c97b9 41 = .ok (.getfield 15, 3) := by decide +kernel
theorem dJ5_append_c97b9_44 : decode cJ5_append_c97b9 44 = .ok (.invokestatic 251, 3) := by decide +kernel
theorem dJ5_append_c97b9_48 : decode cJ5_append_c97b9 48 = .ok (.aload_n 0, 1) := by decide +kernel
theorem dJ5_append_c97b9_49 : decode cJ5_append_c97b9 49 = .ok (.iload_n 3, 1) := by decide +kernel
theorem dJ5_append_c97b9_50 : decode cJ5_append_c97b9 50 = .ok (.putfield 79, 3) := by decide +kernel
theorem dJ5_append_c97b9_53 : decode cJ5_append_c97b9 53 = .ok (.aload_n 0, 1) := by decide +kernel
theorem dJ5_append_c97b9_54 : decode cJ5_append_c97b9 54 = .ok (.areturn, 1) := by decide +kernel
abbrev m_J5_append_c97b9 : Mt := (cJ5_append_c97b9, RJ5, "append", 4, .areturn, 5)
def f_J5_append_c97b9 (N : Nat) (z : Nat → Nat) (o : Nat) (v1 : Int32) (x0 : Hp) : Option (Option Nat × Hp) :=
  geti (some o) x0 2 23 fun i1 =>
  bnd (f_J6_stringSize_0f7a4 N z v1 x0) fun i3 x2 =>
  obj (some o) x2 2 fun q5 => bnd (f_J5_ensureCapacityInternal_d00df N z q5 (i1 + i3) x2) fun _ x4 =>
  obj (some o) x4 2 fun q8 => bnd (f_J5_isLatin1_aae02 N z q8 x4) fun i7 x6 =>
  if i7 = 0 then (getr (some o) x6 2 20 fun r9 =>
  none) else (getr (some o) x6 2 20 fun r10 =>
  bnd (f_J6_getChars_ba4f3 N z v1 (i1 + i3) r10 x6) fun i12 x11 =>
  puti (some o) x11 2 23 (i1 + i3) fun x13 =>
  some (some o, x13))
set_option maxRecDepth 100000 in
set_option maxHeartbeats 4000000 in
theorem g_J5_append_c97b9 (l : Launch) (N : Nat) (z : Nat → Nat) (o : Nat) (v1 : Int32) (x0 : Hp) : G l z m_J5_append_c97b9 okT enR 0 [(0, va_rf (some o)), (1, .int v1)] [] x0 (f_J5_append_c97b9 N z o v1 x0) := by
  unfold f_J5_append_c97b9
  refine G_aload_n 0 dJ5_append_c97b9_0 rfl rfl ?_
  refine G_geti (k := 3) K_1 (by decide) rfl rfl rfl gw_874 rfl dJ5_append_c97b9_1 (fun i1 => ?_)
  refine G_istore_n (i := 2) (l2 := [(0, va_rf (some o)), (1, .int v1)]) [0, 1] dJ5_append_c97b9_4 rfl (Nat.le_of_ble_eq_true rfl) rfl (sok_a (by decide) (by decide) (sok_b (by decide) rfl trivial)) ?_
  refine G_iload_n 0 dJ5_append_c97b9_5 rfl rfl ?_
  refine G_iload_n 2 dJ5_append_c97b9_6 rfl rfl ?_
  refine G_callS (av := [.int v1]) [.int i1] (ct_J6_stringSize_0f7a4 l N z v1) yn_J6_stringSize_0f7a4 (Nat.le_of_ble_eq_true rfl) (by decide) gw_989 gw_990 gw_62 gw_991 rfl (by simp only [hw_n, hw_i, hw_r, hw_j, hw_d]; decide) dJ5_append_c97b9_7 (fun i3 x2 => ?_)
  refine G_iadd dJ5_append_c97b9_10 ?_
  refine G_istore_n (i := 3) (l2 := [(2, .int i1), (0, va_rf (some o)), (1, .int v1)]) [0, 1, 2] dJ5_append_c97b9_11 rfl (Nat.le_of_ble_eq_true rfl) rfl (sok_b (by decide) rfl (sok_a (by decide) (by decide) (sok_a (by decide) (by decide) trivial))) ?_
  refine G_aload_n 2 dJ5_append_c97b9_12 rfl rfl ?_
  refine G_iload_n 0 dJ5_append_c97b9_13 rfl rfl ?_
  refine G_callP (C := RJ4) (w := yJ5_isLatin1_aae02) (av := [.int (i1 + i3)]) [] (fun q5 => ct_J5_ensureCapacityInternal_d00df l N z q5 (i1 + i3)) K_1 rfl yn_J5_ensureCapacityInternal_d00df (Nat.le_of_ble_eq_true rfl) (by decide) gw_896 gw_898 (by decide +kernel) gw_56 gw_899 gw_930 rfl rfl (by decide) dJ5_append_c97b9_14 (fun _ x4 => ?_)
  refine G_aload_n 2 dJ5_append_c97b9_17 rfl rfl ?_
  refine G_callU (C := RJ4) (owner := RJ5) (w := yJ5_isLatin1_aae02) (y := yJ5_isLatin1_aae02) (av := []) [] (fun q8 => ct_J5_isLatin1_aae02 l N z q8) K_1 rfl ⟨by decide +kernel, by decide +kernel, by decide +kernel⟩ (Nat.le_of_ble_eq_true rfl) (by decide) gw_927 gw_929 gw_928 gw_930 gw_928 gw_56 gw_931 gw_931 rfl (by decide) dJ5_append_c97b9_18 (fun i7 x6 => ?_)
  refine G_if_eq (tgt := 37) dJ5_append_c97b9_21 (by decide) (fun _ => ?_) (fun _ => ?_)
  · refine G_iload_n 3 dJ5_append_c97b9_37 rfl rfl ?_
    refine G_iload_n 1 dJ5_append_c97b9_38 rfl rfl ?_
    refine G_iload_n 0 dJ5_append_c97b9_39 rfl rfl ?_
    refine G_aload_n 2 dJ5_append_c97b9_40 rfl rfl ?_
    refine G_getr (k := 0) K_1 (by decide) rfl rfl rfl gw_871 rfl dJ5_append_c97b9_41 (fun r9 => ?_)
    exact G_none
  · refine G_iload_n 3 dJ5_append_c97b9_24 rfl rfl ?_
    refine G_iload_n 0 dJ5_append_c97b9_25 rfl rfl ?_
    refine G_aload_n 2 dJ5_append_c97b9_26 rfl rfl ?_
    refine G_getr (k := 0) K_1 (by decide) rfl rfl rfl gw_871 rfl dJ5_append_c97b9_27 (fun r10 => ?_)
    refine G_callS (av := [.int v1, .int (i1 + i3), va_rf r10]) [] (ct_J6_getChars_ba4f3 l N z v1 (i1 + i3) r10) yn_J6_getChars_ba4f3 (Nat.le_of_ble_eq_true rfl) (by decide) gw_992 gw_993 gw_62 gw_994 rfl (by decide) dJ5_append_c97b9_30 (fun i12 x11 => ?_)
    refine G_pop dJ5_append_c97b9_33 rfl ?_
    refine G_goto (tgt := 48) dJ5_append_c97b9_34 (by decide) ?_
    refine G_aload_n 2 dJ5_append_c97b9_48 rfl rfl ?_
    refine G_iload_n 0 dJ5_append_c97b9_49 rfl rfl ?_
    refine G_puti (k := 3) K_1 (by decide) rfl rfl rfl gw_874 rfl (Or.inl rfl) nar_int.1 nar_int.2 dJ5_append_c97b9_50 (fun x13 => ?_)
    refine G_aload_n 2 dJ5_append_c97b9_53 rfl rfl ?_
    exact G_ret trivial dJ5_append_c97b9_54 rfl

theorem yn_J5_append_c97b9 : Yn yJ5_append_c97b9 1 := ⟨by decide +kernel, by decide +kernel, by decide +kernel⟩
theorem ct_J5_append_c97b9 (l : Launch) (N : Nat) (z : Nat → Nat) (o : Nat) (v1 : Int32) : Ct l z yJ5_append_c97b9 cJ5_append_c97b9 4 (some (.object "java/lang/AbstractStringBuilder")) 5 enR [.ref o, .int v1] (f_J5_append_c97b9 N z o v1) :=
  Ct_r (fun x => G_lv0 (by simp only [lva_n, lva_i, lva_o, lva_r, lva_j]) (g_J5_append_c97b9 l N z o v1 x)) (by decide +kernel) (by simp only [lgl_n, lgl_i, lgl_o, lgl_r, lgl_j]; decide)

theorem dJ0_coder_7d493_0 : decode cJ0_coder_7d493 0 = .ok (.getstatic 38, 3) := by decide +kernel
theorem dJ0_coder_7d493_3 : decode cJ0_coder_7d493 3 = .ok (.ifCond .eq 10, 3) := by decide +kernel
theorem dJ0_coder_7d493_6 : decode cJ0_coder_7d493 6 = .ok (.aload_n 0, 1) := by decide +kernel
theorem dJ0_coder_7d493_7 : decode cJ0_coder_7d493 7 = .ok (.getfield 15, 3) := by decide +kernel
theorem dJ0_coder_7d493_10 : decode cJ0_coder_7d493 10 = .ok (.goto 4, 3) := by decide +kernel
theorem dJ0_coder_7d493_13 : decode cJ0_coder_7d493 13 = .ok (.iconst 1, 1) := by decide +kernel
theorem dJ0_coder_7d493_14 : decode cJ0_coder_7d493 14 = .ok (.ireturn, 1) := by decide +kernel
abbrev m_J0_coder_7d493 : Mt := (cJ0_coder_7d493, RJ0, "coder", 1, .ireturn, 1)
def f_J0_coder_7d493 (N : Nat) (z : Nat → Nat) (o : Nat) (x0 : Hp) : Option (Int32 × Hp) :=
  if (1 : Int32) = 0 then (byt (1 : Int32) (some ((1 : Int32), x0))) else (gsi (some o) x0 fun i1 =>
  byt i1 (some (i1, x0)))
set_option maxRecDepth 100000 in
set_option maxHeartbeats 4000000 in
theorem g_J0_coder_7d493 (l : Launch) (N : Nat) (z : Nat → Nat) (o : Nat) (x0 : Hp) : G l z m_J0_coder_7d493 okB enI 0 [(0, va_rf (some o))] [] x0 (f_J0_coder_7d493 N z o x0) := by
  unfold f_J0_coder_7d493
  refine G_getsi 0 (fun _ => rfl) gw_362 rfl dJ0_coder_7d493_0 ?_
  refine G_if_eq (tgt := 13) dJ0_coder_7d493_3 (by decide) (fun _ => ?_) (fun _ => ?_)
  · refine G_iconst (v := (1 : Int32)) dJ0_coder_7d493_13 rfl ?_
    exact G_byt (fun h => G_ret h dJ0_coder_7d493_14 rfl)
  · refine G_aload_n 0 dJ0_coder_7d493_6 rfl rfl ?_
    refine G_gsi gw_1079 K_0 dJ0_coder_7d493_7 (fun i1 => ?_)
    refine G_goto (tgt := 14) dJ0_coder_7d493_10 (by decide) ?_
    exact G_byt (fun h => G_ret h dJ0_coder_7d493_14 rfl)

theorem yn_J0_coder_7d493 : Yn yJ0_coder_7d493 0 := ⟨by decide +kernel, by decide +kernel, by decide +kernel⟩
theorem ct_J0_coder_7d493 (l : Launch) (N : Nat) (z : Nat → Nat) (o : Nat) : Ct l z yJ0_coder_7d493 cJ0_coder_7d493 1 (some .byte) 1 enI [.ref o] (f_J0_coder_7d493 N z o) :=
  Ct_b (fun x => G_lv0 (by simp only [lva_n, lva_i, lva_o, lva_r, lva_j]) (g_J0_coder_7d493 l N z o x)) (by decide +kernel) (by simp only [lgl_n, lgl_i, lgl_o, lgl_r, lgl_j]; decide)

theorem dJ0_length_8abf5_0 : decode cJ0_length_8abf5 0 = .ok (.aload_n 0, 1) := by decide +kernel
theorem dJ0_length_8abf5_1 : decode cJ0_length_8abf5 1 = .ok (.getfield 9, 3) := by decide +kernel
theorem dJ0_length_8abf5_4 : decode cJ0_length_8abf5 4 = .ok (.arraylength, 1) := by decide +kernel
theorem dJ0_length_8abf5_5 : decode cJ0_length_8abf5 5 = .ok (.aload_n 0, 1) := by decide +kernel
theorem dJ0_length_8abf5_6 : decode cJ0_length_8abf5 6 = .ok (.invokevirtual 335, 3) := by decide +kernel
theorem dJ0_length_8abf5_9 : decode cJ0_length_8abf5 9 = .ok (.ishr, 1) := by decide +kernel
theorem dJ0_length_8abf5_10 : decode cJ0_length_8abf5 10 = .ok (.ireturn, 1) := by decide +kernel
abbrev m_J0_length_8abf5 : Mt := (cJ0_length_8abf5, RJ0, "length", 1, .ireturn, 2)
def f_J0_length_8abf5 (N : Nat) (z : Nat → Nat) (o : Nat) (x0 : Hp) : Option (Int32 × Hp) :=
  gsr (some o) x0 fun r1 =>
  alenB r1 x0 fun i2 =>
  objS (some o) x0 fun q5 => bnd (f_J0_coder_7d493 N z q5 x0) fun i4 x3 =>
  some (i2 >>> (i4 &&& 31), x3)
set_option maxRecDepth 100000 in
set_option maxHeartbeats 4000000 in
theorem g_J0_length_8abf5 (l : Launch) (N : Nat) (z : Nat → Nat) (o : Nat) (x0 : Hp) : G l z m_J0_length_8abf5 okT enI 0 [(0, va_rf (some o))] [] x0 (f_J0_length_8abf5 N z o x0) := by
  unfold f_J0_length_8abf5
  refine G_aload_n 0 dJ0_length_8abf5_0 rfl rfl ?_
  refine G_gsr gw_1078 K_0 dJ0_length_8abf5_1 (fun r1 => ?_)
  refine G_alenB dJ0_length_8abf5_4 (fun i2 => ?_)
  refine G_aload_n 0 dJ0_length_8abf5_5 rfl rfl ?_
  refine G_callVS (av := []) [.int i2] (fun q5 => ct_J0_coder_7d493 l N z q5) K_0 yn_J0_coder_7d493 (Nat.le_of_ble_eq_true rfl) (by decide) gw_358 gw_359 gw_360 gw_50 gw_361 rfl (by simp only [hw_n, hw_i, hw_r, hw_j, hw_d]; decide) dJ0_length_8abf5_6 (fun i4 x3 => ?_)
  refine G_ishr dJ0_length_8abf5_9 ?_
  exact G_ret trivial dJ0_length_8abf5_10 rfl

theorem yn_J0_length_8abf5 : Yn yJ0_length_8abf5 0 := ⟨by decide +kernel, by decide +kernel, by decide +kernel⟩
theorem ct_J0_length_8abf5 (l : Launch) (N : Nat) (z : Nat → Nat) (o : Nat) : Ct l z yJ0_length_8abf5 cJ0_length_8abf5 1 (some .int) 2 enI [.ref o] (f_J0_length_8abf5 N z o) :=
  Ct_i (fun x => G_lv0 (by simp only [lva_n, lva_i, lva_o, lva_r, lva_j]) (g_J0_length_8abf5 l N z o x)) (by decide +kernel) (by simp only [lgl_n, lgl_i, lgl_o, lgl_r, lgl_j]; decide)

theorem dJ5_inflateIfNeededFor_a7421_0 : decode cJ5_inflateIfNeededFor_a7421 0 = .ok (.getstatic 18, 3) := by decide +kernel
theorem dJ5_inflateIfNeededFor_a7421_3 : decode cJ5_inflateIfNeededFor_a7421 3 = .ok (.ifCond .eq 18, 3) := by decide +kernel
theorem dJ5_inflateIfNeededFor_a7421_6 : decode cJ5_inflateIfNeededFor_a7421 6 = .ok (.aload_n 0, 1) := by decide +kernel
theorem dJ5_inflateIfNeededFor_a7421_7 : decode cJ5_inflateIfNeededFor_a7421 7 = .ok (.getfield 22, 3) := by decide +kernel
theorem dJ5_inflateIfNeededFor_a7421_10 : decode cJ5_inflateIfNeededFor_a7421 10 = .ok (.aload_n 1, 1) := by decide +kernel
theorem dJ5_inflateIfNeededFor_a7421_11 : decode cJ5_inflateIfNeededFor_a7421 11 = .ok (.invokevirtual 40, 3) := by decide +kernel
theorem dJ5_inflateIfNeededFor_a7421_14 : decode cJ5_inflateIfNeededFor_a7421 14 = .ok (.if_icmp .eq 7, 3) := by decide +kernel
theorem dJ5_inflateIfNeededFor_a7421_17 : decode cJ5_inflateIfNeededFor_a7421 17 = .ok (.aload_n 0, 1) := by decide +kernel
theorem dJ5_inflateIfNeededFor_a7421_18 : decode cJ5_inflateIfNeededFor_a7421 18 = .ok (.invokevirtual 195, 3) := by decide +kernel
theorem dJ5_inflateIfNeededFor_a7421_21 : decode cJ5_inflateIfNeededFor_a7421 21 = .ok (.return_, 1) := by decide +kernel
abbrev m_J5_inflateIfNeededFor_a7421 : Mt := (cJ5_inflateIfNeededFor_a7421, RJ5, "inflateIfNeededFor", 2, .return_, 2)
def f_J5_inflateIfNeededFor_a7421 (N : Nat) (z : Nat → Nat) (o : Nat) (v1 : Option Nat) (x0 : Hp) : Option (Unit × Hp) :=
  if (1 : Int32) = 0 then (some ((), x0)) else (geti (some o) x0 2 21 fun i1 =>
  objS v1 x0 fun q4 => bnd (f_J0_coder_7d493 N z q4 x0) fun i3 x2 =>
  if i1 = i3 then (some ((), x2)) else (none))
set_option maxRecDepth 100000 in
set_option maxHeartbeats 4000000 in
theorem g_J5_inflateIfNeededFor_a7421 (l : Launch) (N : Nat) (z : Nat → Nat) (o : Nat) (v1 : Option Nat) (x0 : Hp) : G l z m_J5_inflateIfNeededFor_a7421 okT enV 0 [(0, va_rf (some o)), (1, va_rf v1)] [] x0 (f_J5_inflateIfNeededFor_a7421 N z o v1 x0) := by
  unfold f_J5_inflateIfNeededFor_a7421
  refine G_getsi 0 (fun _ => rfl) gw_863 rfl dJ5_inflateIfNeededFor_a7421_0 ?_
  refine G_if_eq (tgt := 21) dJ5_inflateIfNeededFor_a7421_3 (by decide) (fun _ => ?_) (fun _ => ?_)
  · exact G_ret trivial dJ5_inflateIfNeededFor_a7421_21 rfl
  · refine G_aload_n 0 dJ5_inflateIfNeededFor_a7421_6 rfl rfl ?_
    refine G_geti (k := 1) K_1 (by decide) rfl rfl rfl gw_872 rfl dJ5_inflateIfNeededFor_a7421_7 (fun i1 => ?_)
    refine G_aload_n 1 dJ5_inflateIfNeededFor_a7421_10 rfl rfl ?_
    refine G_callVS (av := []) [.int i1] (fun q4 => ct_J0_coder_7d493 l N z q4) K_0 yn_J0_coder_7d493 (Nat.le_of_ble_eq_true rfl) (by decide) gw_956 gw_359 gw_360 gw_50 gw_361 rfl (by simp only [hw_n, hw_i, hw_r, hw_j, hw_d]; decide) dJ5_inflateIfNeededFor_a7421_11 (fun i3 x2 => ?_)
    refine G_icmp_eq (tgt := 21) dJ5_inflateIfNeededFor_a7421_14 (by decide) (fun _ => ?_) (fun _ => ?_)
    · exact G_ret trivial dJ5_inflateIfNeededFor_a7421_21 rfl
    · refine G_aload_n 0 dJ5_inflateIfNeededFor_a7421_17 rfl rfl ?_
      exact G_none

theorem yn_J5_inflateIfNeededFor_a7421 : Yn yJ5_inflateIfNeededFor_a7421 1 := ⟨by decide +kernel, by decide +kernel, by decide +kernel⟩
theorem ct_J5_inflateIfNeededFor_a7421 (l : Launch) (N : Nat) (z : Nat → Nat) (o : Nat) (v1 : Option Nat) : Ct l z yJ5_inflateIfNeededFor_a7421 cJ5_inflateIfNeededFor_a7421 2 none 2 enV [.ref o, va_rf v1] (f_J5_inflateIfNeededFor_a7421 N z o v1) :=
  Ct_v (fun x => G_lv0 (by simp only [lva_n, lva_i, lva_o, lva_r, lva_j]) (g_J5_inflateIfNeededFor_a7421 l N z o v1 x)) (by decide +kernel) (by simp only [lgl_n, lgl_i, lgl_o, lgl_r, lgl_j]; decide)

theorem dJ0_getBytes_840e7_0 : decode cJ0_getBytes_840e7 0 = .ok (.aload_n 0, 1) := by decide +kernel
theorem dJ0_getBytes_840e7_1 : decode cJ0_getBytes_840e7 1 = .ok (.invokevirtual 335, 3) := by decide +kernel
theorem dJ0_getBytes_840e7_4 : decode cJ0_getBytes_840e7 4 = .ok (.iload_n 3, 1) := by decide +kernel
theorem dJ0_getBytes_840e7_5 : decode cJ0_getBytes_840e7 5 = .ok (.if_icmp .ne 23, 3) := by decide +kernel
theorem dJ0_getBytes_840e7_8 : decode cJ0_getBytes_840e7 8 = .ok (.aload_n 0, 1) := by decide +kernel
theorem dJ0_getBytes_840e7_9 : decode cJ0_getBytes_840e7 9 = .ok (.getfield 9, 3) := by decide +kernel
theorem dJ0_getBytes_840e7_12 : decode cJ0_getBytes_840e7 12 = .ok (.iconst 0, 1) := by decide +kernel
theorem dJ0_getBytes_840e7_13 : decode cJ0_getBytes_840e7 13 = .ok (.aload_n 1, 1) := by decide +kernel
theorem dJ0_getBytes_840e7_14 : decode cJ0_getBytes_840e7 14 = .ok (.iload_n 2, 1) := by decide +kernel
theorem dJ0_getBytes_840e7_15 : decode cJ0_getBytes_840e7 15 = .ok (.iload_n 3, 1) := by decide +kernel
theorem dJ0_getBytes_840e7_16 : decode cJ0_getBytes_840e7 16 = .ok (.ishl, 1) := by decide +kernel
theorem dJ0_getBytes_840e7_17 : decode cJ0_getBytes_840e7 17 = .ok (.aload_n 0, 1) := by decide +kernel
theorem dJ0_getBytes_840e7_18 : decode cJ0_getBytes_840e7 18 = .ok (.getfield 9, 3) := by decide +kernel
theorem dJ0_getBytes_840e7_21 : decode cJ0_getBytes_840e7 21 = .ok (.arraylength, 1) := by decide +kernel
theorem dJ0_getBytes_840e7_22 : decode cJ0_getBytes_840e7 22 = .ok (.invokestatic 212, 3) := by decide +kernel
theorem dJ0_getBytes_840e7_25 : decode cJ0_getBytes_840e7 25 = .ok (.goto 18, 3) := by decide +kernel
theorem dJ0_getBytes_840e7_28 : decode cJ0_getBytes_840e7 28 = .ok (.aload_n 0, 1) := by decide +kernel
theorem dJ0_getBytes_840e7_29 : decode cJ0_getBytes_840e7 29 = .ok (.getfield 9, 3) := by decide +kernel
theorem dJ0_getBytes_840e7_32 : decode cJ0_getBytes_840e7 32 = .ok (.iconst 0, 1) := by decide +kernel
theorem dJ0_getBytes_840e7_33 : decode cJ0_getBytes_840e7 33 = .ok (.aload_n 1, 1) := by decide +kernel
theorem dJ0_getBytes_840e7_34 : decode cJ0_getBytes_840e7 34 = .ok (.iload_n 2, 1) := by decide +kernel
theorem dJ0_getBytes_840e7_35 : decode cJ0_getBytes_840e7 35 = .ok (.aload_n 0, 1) := by decide +kernel
theorem dJ0_getBytes_840e7_36 : decode cJ0_getBytes_840e7 36 = .ok (.getfield 9, 3) := by decide +kernel
theorem dJ0_getBytes_840e7_39 : decode cJ0_getBytes_840e7 39 = .ok (.arraylength, 1) := by decide +kernel
theorem dJ0_getBytes_840e7_40 : decode cJ0_getBytes_840e7 40 = .ok (.invokestatic 106, 3) := by decide +kernel
theorem dJ0_getBytes_840e7_43 : decode cJ0_getBytes_840e7 43 = .ok (.return_, 1) := by decide +kernel
abbrev m_J0_getBytes_840e7 : Mt := (cJ0_getBytes_840e7, RJ0, "getBytes", 4, .return_, 2)
def f_J0_getBytes_840e7 (N : Nat) (z : Nat → Nat) (o : Nat) (v1 : Option Nat) (v2 : Int32) (v3 : Int32) (x0 : Hp) : Option (Unit × Hp) :=
  objS (some o) x0 fun q3 => bnd (f_J0_coder_7d493 N z q3 x0) fun i2 x1 =>
  if i2 = v3 then (gsr (some o) x1 fun r7 =>
  gsr (some o) x1 fun r8 =>
  alenB r8 x1 fun i9 =>
  acpy r7 x1 (0 : Int32) v1 (v2 <<< (v3 &&& 31)) i9 fun x10 =>
  some ((), x10)) else (gsr (some o) x1 fun r4 =>
  gsr (some o) x1 fun r5 =>
  alenB r5 x1 fun i6 =>
  none)
set_option maxRecDepth 100000 in
set_option maxHeartbeats 4000000 in
theorem g_J0_getBytes_840e7 (l : Launch) (N : Nat) (z : Nat → Nat) (o : Nat) (v1 : Option Nat) (v2 : Int32) (v3 : Int32) (x0 : Hp) : G l z m_J0_getBytes_840e7 okT enV 0 [(0, va_rf (some o)), (1, va_rf v1), (2, .int v2), (3, .int v3)] [] x0 (f_J0_getBytes_840e7 N z o v1 v2 v3 x0) := by
  unfold f_J0_getBytes_840e7
  refine G_aload_n 0 dJ0_getBytes_840e7_0 rfl rfl ?_
  refine G_callVS (av := []) [] (fun q3 => ct_J0_coder_7d493 l N z q3) K_0 yn_J0_coder_7d493 (Nat.le_of_ble_eq_true rfl) (by decide) gw_358 gw_359 gw_360 gw_50 gw_361 rfl (by decide) dJ0_getBytes_840e7_1 (fun i2 x1 => ?_)
  refine G_iload_n 3 dJ0_getBytes_840e7_4 rfl rfl ?_
  refine G_icmp_ne (tgt := 28) dJ0_getBytes_840e7_5 (by decide) (fun _ => ?_) (fun _ => ?_)
  · refine G_aload_n 0 dJ0_getBytes_840e7_8 rfl rfl ?_
    refine G_gsr gw_1078 K_0 dJ0_getBytes_840e7_9 (fun r7 => ?_)
    refine G_iconst (v := (0 : Int32)) dJ0_getBytes_840e7_12 rfl ?_
    refine G_aload_n 1 dJ0_getBytes_840e7_13 rfl rfl ?_
    refine G_iload_n 2 dJ0_getBytes_840e7_14 rfl rfl ?_
    refine G_iload_n 3 dJ0_getBytes_840e7_15 rfl rfl ?_
    refine G_ishl dJ0_getBytes_840e7_16 ?_
    refine G_aload_n 0 dJ0_getBytes_840e7_17 rfl rfl ?_
    refine G_gsr gw_1078 K_0 dJ0_getBytes_840e7_18 (fun r8 => ?_)
    refine G_alenB dJ0_getBytes_840e7_21 (fun i9 => ?_)
    refine G_acpy (st := []) gw_980 gw_926 gw_925 gw_61 (by decide) (by decide) dJ0_getBytes_840e7_22 (fun x10 => ?_)
    refine G_goto (tgt := 43) dJ0_getBytes_840e7_25 (by decide) ?_
    exact G_ret trivial dJ0_getBytes_840e7_43 rfl
  · refine G_aload_n 0 dJ0_getBytes_840e7_28 rfl rfl ?_
    refine G_gsr gw_1078 K_0 dJ0_getBytes_840e7_29 (fun r4 => ?_)
    refine G_iconst (v := (0 : Int32)) dJ0_getBytes_840e7_32 rfl ?_
    refine G_aload_n 1 dJ0_getBytes_840e7_33 rfl rfl ?_
    refine G_iload_n 2 dJ0_getBytes_840e7_34 rfl rfl ?_
    refine G_aload_n 0 dJ0_getBytes_840e7_35 rfl rfl ?_
    refine G_gsr gw_1078 K_0 dJ0_getBytes_840e7_36 (fun r5 => ?_)
    refine G_alenB dJ0_getBytes_840e7_39 (fun i6 => ?_)
    exact G_none

theorem yn_J0_getBytes_840e7 : Yn yJ0_getBytes_840e7 3 := ⟨by decide +kernel, by decide +kernel, by decide +kernel⟩
theorem ct_J0_getBytes_840e7 (l : Launch) (N : Nat) (z : Nat → Nat) (o : Nat) (v1 : Option Nat) (v2 : Int32) (v3 : Int32) : Ct l z yJ0_getBytes_840e7 cJ0_getBytes_840e7 4 none 2 enV [.ref o, va_rf v1, .int v2, .int v3] (f_J0_getBytes_840e7 N z o v1 v2 v3) :=
  Ct_v (fun x => G_lv0 (by simp only [lva_n, lva_i, lva_o, lva_r, lva_j]) (g_J0_getBytes_840e7 l N z o v1 v2 v3 x)) (by decide +kernel) (by simp only [lgl_n, lgl_i, lgl_o, lgl_r, lgl_j]; decide)

theorem dJ5_putStringAt_47b60_0 : decode cJ5_putStringAt_47b60 0 = .ok (.aload_n 0, 1) := by decide +kernel
theorem dJ5_putStringAt_47b60_1 : decode cJ5_putStringAt_47b60 1 = .ok (.aload_n 2, 1) := by decide +kernel
theorem dJ5_putStringAt_47b60_2 : decode cJ5_putStringAt_47b60 2 = .ok (.invokevirtual 397, 3) := by decide +kernel
theorem dJ5_putStringAt_47b60_5 : decode cJ5_putStringAt_47b60 5 = .ok (.aload_n 2, 1) := by decide +kernel
theorem dJ5_putStringAt_47b60_6 : decode cJ5_putStringAt_47b60 6 = .ok (.aload_n 0, 1) := by decide +kernel
theorem dJ5_putStringAt_47b60_7 : decode cJ5_putStringAt_47b60 7 = .ok (.getfield 15, 3) := by decide +kernel
theorem dJ5_putStringAt_47b60_10 : decode cJ5_putStringAt_47b60 10 = .ok (.iload_n 1, 1) := by decide +kernel
theorem dJ5_putStringAt_47b60_11 : decode cJ5_putStringAt_47b60 11 = .ok (.aload_n 0, 1) := by decide +kernel
theorem dJ5_putStringAt_47b60_12 : decode cJ5_putStringAt_47b60 12 = .ok (.getfield 22, 3) := by decide +kernel
theorem dJ5_putStringAt_47b60_15 : decode cJ5_putStringAt_47b60 15 = .ok (.invokevirtual 399, 3) := by decide +kernel
theorem dJ5_putStringAt_47b60_18 : decode cJ5_putStringAt_47b60 18 = .ok (.return_, 1) := by decide +kernel
abbrev m_J5_putStringAt_47b60 : Mt := (cJ5_putStringAt_47b60, RJ5, "putStringAt", 3, .return_, 3)
def f_J5_putStringAt_47b60 (N : Nat) (z : Nat → Nat) (o : Nat) (v1 : Int32) (v2 : Option Nat) (x0 : Hp) : Option (Unit × Hp) :=
  obj (some o) x0 2 fun q2 => bnd (f_J5_inflateIfNeededFor_a7421 N z q2 v2 x0) fun _ x1 =>
  getr (some o) x1 2 20 fun r3 =>
  geti (some o) x1 2 21 fun i4 =>
  objS v2 x1 fun q6 => bnd (f_J0_getBytes_840e7 N z q6 r3 v1 i4 x1) fun _ x5 =>
  some ((), x5)
set_option maxRecDepth 100000 in
set_option maxHeartbeats 4000000 in
theorem g_J5_putStringAt_47b60 (l : Launch) (N : Nat) (z : Nat → Nat) (o : Nat) (v1 : Int32) (v2 : Option Nat) (x0 : Hp) : G l z m_J5_putStringAt_47b60 okT enV 0 [(0, va_rf (some o)), (1, .int v1), (2, va_rf v2)] [] x0 (f_J5_putStringAt_47b60 N z o v1 v2 x0) := by
  unfold f_J5_putStringAt_47b60
  refine G_aload_n 0 dJ5_putStringAt_47b60_0 rfl rfl ?_
  refine G_aload_n 2 dJ5_putStringAt_47b60_1 rfl rfl ?_
  refine G_callP (C := RJ4) (w := yJ5_isLatin1_aae02) (av := [va_rf v2]) [] (fun q2 => ct_J5_inflateIfNeededFor_a7421 l N z q2 v2) K_1 rfl yn_J5_inflateIfNeededFor_a7421 (Nat.le_of_ble_eq_true rfl) (by decide) gw_952 gw_954 (by decide +kernel) gw_56 gw_955 gw_930 rfl rfl (by decide) dJ5_putStringAt_47b60_2 (fun _ x1 => ?_)
  refine G_aload_n 2 dJ5_putStringAt_47b60_5 rfl rfl ?_
  refine G_aload_n 0 dJ5_putStringAt_47b60_6 rfl rfl ?_
  refine G_getr (k := 0) K_1 (by decide) rfl rfl rfl gw_871 rfl dJ5_putStringAt_47b60_7 (fun r3 => ?_)
  refine G_iload_n 1 dJ5_putStringAt_47b60_10 rfl rfl ?_
  refine G_aload_n 0 dJ5_putStringAt_47b60_11 rfl rfl ?_
  refine G_geti (k := 1) K_1 (by decide) rfl rfl rfl gw_872 rfl dJ5_putStringAt_47b60_12 (fun i4 => ?_)
  refine G_callVS (av := [va_rf r3, .int v1, .int i4]) [] (fun q6 => ct_J0_getBytes_840e7 l N z q6 r3 v1 i4) K_0 yn_J0_getBytes_840e7 (Nat.le_of_ble_eq_true rfl) (by decide) gw_976 gw_977 gw_978 gw_50 gw_979 rfl (by decide) dJ5_putStringAt_47b60_15 (fun _ x5 => ?_)
  exact G_ret trivial dJ5_putStringAt_47b60_18 rfl

theorem yn_J5_putStringAt_47b60 : Yn yJ5_putStringAt_47b60 2 := ⟨by decide +kernel, by decide +kernel, by decide +kernel⟩
theorem ct_J5_putStringAt_47b60 (l : Launch) (N : Nat) (z : Nat → Nat) (o : Nat) (v1 : Int32) (v2 : Option Nat) : Ct l z yJ5_putStringAt_47b60 cJ5_putStringAt_47b60 3 none 3 enV [.ref o, .int v1, va_rf v2] (f_J5_putStringAt_47b60 N z o v1 v2) :=
  Ct_v (fun x => G_lv0 (by simp only [lva_n, lva_i, lva_o, lva_r, lva_j]) (g_J5_putStringAt_47b60 l N z o v1 v2 x)) (by decide +kernel) (by simp only [lgl_n, lgl_i, lgl_o, lgl_r, lgl_j]; decide)

theorem dJ5_append_cf1ce_0 : decode cJ5_append_cf1ce 0 = .ok (.aload_n 1, 1) := by decide +kernel
theorem dJ5_append_cf1ce_1 : decode cJ5_append_cf1ce 1 = .ok (.ifnonnull 8, 3) := by decide +kernel
theorem dJ5_append_cf1ce_4 : decode cJ5_append_cf1ce 4 = .ok (.aload_n 0, 1) := by decide +kernel
theorem dJ5_append_cf1ce_5 : decode cJ5_append_cf1ce 5 = .ok (.invokevirtual 204, 3) := by decide +kernel
theorem dJ5_append_cf1ce_9 : decode cJ5_append_cf1ce 9 = .ok (.aload_n 1, 1) := by decide +kernel
theorem dJ5_append_cf1ce_10 : decode cJ5_append_cf1ce 10 = .ok (.invokevirtual 32, 3) := by decide +kernel
theorem dJ5_append_cf1ce_13 : decode cJ5_append_cf1ce 13 = .ok (.istore_n 2, 1) := by decide +kernel
theorem dJ5_append_cf1ce_14 : decode cJ5_append_cf1ce 14 = .ok (.aload_n 0, 1) := by decide +kernel
theorem dJ5_append_cf1ce_15 : decode cJ5_append_cf1ce 15 = .ok (.aload_n 0, 1) := by decide +kernel
theorem dJ5_append_cf1ce_16 : decode cJ5_append_cf1ce 16 = .ok (.getfield 79, 3) := by decide +kernel
theorem dJ5_append_cf1ce_19 : decode cJ5_append_cf1ce 19 = .ok (.iload_n 2, 1) := by decide +kernel
theorem dJ5_append_cf1ce_20 : decode cJ5_append_cf1ce 20 = .ok (.iadd, 1) := by decide +kernel
theorem dJ5_append_cf1ce_21 : decode cJ5_append_cf1ce 21 = .ok (.invokevirtual 100, 3) := by decide +kernel
theorem dJ5_append_cf1ce_24 : decode cJ5_append_cf1ce 24 = .ok (.aload_n 0, 1) := by decide +kernel
theorem dJ5_append_cf1ce_25 : decode cJ5_append_cf1ce 25 = .ok (.aload_n 0, 1) := by decide +kernel
theorem dJ5_append_cf1ce_26 : decode cJ5_append_cf1ce 26 = .ok (.getfield 79, 3) := by decide +kernel
theorem dJ5_append_cf1ce_29 : decode cJ5_append_cf1ce 29 = .ok (.aload_n 1, 1) := by decide +kernel
theorem dJ5_append_cf1ce_30 : decode cJ5_append_cf1ce 30 = .ok (.invokevirtual 208, 3) := by decide +kernel
theorem dJ5_append_cf1ce_33 : decode cJ5_append_cf1ce 33 = .ok (.aload_n 0, 1) := by decide +kernel
theorem dJ5_append_cf1ce_34 : decode cJ5_append_cf1ce 34 = .ok (.dup, 1) := by decide +kernel
theorem dJ5_append_cf1ce_35 : decode cJ5_append_cf1ce 35 = .ok (.getfield 79, 3) := by decide +kernel
theorem dJ5_append_cf1ce_38 : decode cJ5_append_cf1ce 38 = .ok (.iload_n 2, 1) := by decide +kernel
theorem dJ5_append_cf1ce_39 : decode cJ5_append_cf1ce 39 = .ok (.iadd, 1) := by decide +kernel
theorem dJ5_append_cf1ce_40 : decode cJ5_append_cf1ce 40 = .ok (.putfield 79, 3) := by decide +kernel
theorem dJ5_append_cf1ce_43 : decode cJ5_append_cf1ce 43 = .ok (.aload_n 0, 1) := by decide +kernel
theorem dJ5_append_cf1ce_44 : decode cJ5_append_cf1ce 44 = .ok (.areturn, 1) := by decide +kernel
abbrev m_J5_append_cf1ce : Mt := (cJ5_append_cf1ce, RJ5, "append", 3, .areturn, 5)
def f_J5_append_cf1ce (N : Nat) (z : Nat → Nat) (o : Nat) (v1 : Option Nat) (x0 : Hp) : Option (Option Nat × Hp) :=
  if v1 = none then (none) else (objS v1 x0 fun q3 => bnd (f_J0_length_8abf5 N z q3 x0) fun i2 x1 =>
  geti (some o) x1 2 23 fun i4 =>
  obj (some o) x1 2 fun q6 => bnd (f_J5_ensureCapacityInternal_d00df N z q6 (i4 + i2) x1) fun _ x5 =>
  geti (some o) x5 2 23 fun i7 =>
  obj (some o) x5 2 fun q9 => bnd (f_J5_putStringAt_47b60 N z q9 i7 v1 x5) fun _ x8 =>
  geti (some o) x8 2 23 fun i10 =>
  puti (some o) x8 2 23 (i10 + i2) fun x11 =>
  some (some o, x11))
set_option maxRecDepth 100000 in
set_option maxHeartbeats 4000000 in
theorem g_J5_append_cf1ce (l : Launch) (N : Nat) (z : Nat → Nat) (o : Nat) (v1 : Option Nat) (x0 : Hp) : G l z m_J5_append_cf1ce okT enR 0 [(0, va_rf (some o)), (1, va_rf v1)] [] x0 (f_J5_append_cf1ce N z o v1 x0) := by
  unfold f_J5_append_cf1ce
  refine G_aload_n 1 dJ5_append_cf1ce_0 rfl rfl ?_
  refine G_ifnonnull (tgt := 9) dJ5_append_cf1ce_1 (by decide) (fun _ => ?_) (fun _ => ?_)
  · refine G_aload_n 0 dJ5_append_cf1ce_4 rfl rfl ?_
    exact G_none
  · refine G_aload_n 1 dJ5_append_cf1ce_9 rfl rfl ?_
    refine G_callVS (av := []) [] (fun q3 => ct_J0_length_8abf5 l N z q3) K_0 yn_J0_length_8abf5 (Nat.le_of_ble_eq_true rfl) (by decide) gw_947 gw_355 gw_356 gw_50 gw_357 rfl (by decide) dJ5_append_cf1ce_10 (fun i2 x1 => ?_)
    refine G_istore_n (i := 2) (l2 := [(0, va_rf (some o)), (1, va_rf v1)]) [0, 1] dJ5_append_cf1ce_13 rfl (Nat.le_of_ble_eq_true rfl) rfl (sok_a (by decide) (by decide) (sok_b (by decide) (rf_cat _) trivial)) ?_
    refine G_aload_n 1 dJ5_append_cf1ce_14 rfl rfl ?_
    refine G_aload_n 1 dJ5_append_cf1ce_15 rfl rfl ?_
    refine G_geti (k := 3) K_1 (by decide) rfl rfl rfl gw_874 rfl dJ5_append_cf1ce_16 (fun i4 => ?_)
    refine G_iload_n 0 dJ5_append_cf1ce_19 rfl rfl ?_
    refine G_iadd dJ5_append_cf1ce_20 ?_
    refine G_callP (C := RJ4) (w := yJ5_isLatin1_aae02) (av := [.int (i4 + i2)]) [] (fun q6 => ct_J5_ensureCapacityInternal_d00df l N z q6 (i4 + i2)) K_1 rfl yn_J5_ensureCapacityInternal_d00df (Nat.le_of_ble_eq_true rfl) (by decide) gw_896 gw_898 (by decide +kernel) gw_56 gw_899 gw_930 rfl rfl (by decide) dJ5_append_cf1ce_21 (fun _ x5 => ?_)
    refine G_aload_n 1 dJ5_append_cf1ce_24 rfl rfl ?_
    refine G_aload_n 1 dJ5_append_cf1ce_25 rfl rfl ?_
    refine G_geti (k := 3) K_1 (by decide) rfl rfl rfl gw_874 rfl dJ5_append_cf1ce_26 (fun i7 => ?_)
    refine G_aload_n 2 dJ5_append_cf1ce_29 rfl rfl ?_
    refine G_callP (C := RJ4) (w := yJ5_isLatin1_aae02) (av := [.int i7, va_rf v1]) [] (fun q9 => ct_J5_putStringAt_47b60 l N z q9 i7 v1) K_1 rfl yn_J5_putStringAt_47b60 (Nat.le_of_ble_eq_true rfl) (by decide) gw_948 gw_950 (by decide +kernel) gw_56 gw_951 gw_930 rfl rfl (by decide) dJ5_append_cf1ce_30 (fun _ x8 => ?_)
    refine G_aload_n 1 dJ5_append_cf1ce_33 rfl rfl ?_
    refine G_dup dJ5_append_cf1ce_34 (rf_cat _) ?_
    refine G_geti (k := 3) K_1 (by decide) rfl rfl rfl gw_874 rfl dJ5_append_cf1ce_35 (fun i10 => ?_)
    refine G_iload_n 0 dJ5_append_cf1ce_38 rfl rfl ?_
    refine G_iadd dJ5_append_cf1ce_39 ?_
    refine G_puti (k := 3) K_1 (by decide) rfl rfl rfl gw_874 rfl (Or.inl rfl) nar_int.1 nar_int.2 dJ5_append_cf1ce_40 (fun x11 => ?_)
    refine G_aload_n 1 dJ5_append_cf1ce_43 rfl rfl ?_
    exact G_ret trivial dJ5_append_cf1ce_44 rfl

theorem yn_J5_append_cf1ce : Yn yJ5_append_cf1ce 1 := ⟨by decide +kernel, by decide +kernel, by decide +kernel⟩
theorem ct_J5_append_cf1ce (l : Launch) (N : Nat) (z : Nat → Nat) (o : Nat) (v1 : Option Nat) : Ct l z yJ5_append_cf1ce cJ5_append_cf1ce 3 (some (.object "java/lang/AbstractStringBuilder")) 5 enR [.ref o, va_rf v1] (f_J5_append_cf1ce N z o v1) :=
  Ct_r (fun x => G_lv0 (by simp only [lva_n, lva_i, lva_o, lva_r, lva_j]) (g_J5_append_cf1ce l N z o v1 x)) (by decide +kernel) (by simp only [lgl_n, lgl_i, lgl_o, lgl_r, lgl_j]; decide)

theorem dJ5_getValue_6d5f1_0 : decode cJ5_getValue_6d5f1 0 = .ok (.aload_n 0, 1) := by decide +kernel
theorem dJ5_getValue_6d5f1_1 : decode cJ5_getValue_6d5f1 1 = .ok (.getfield 15, 3) := by decide +kernel
theorem dJ5_getValue_6d5f1_4 : decode cJ5_getValue_6d5f1 4 = .ok (.areturn, 1) := by decide +kernel
abbrev m_J5_getValue_6d5f1 : Mt := (cJ5_getValue_6d5f1, RJ5, "getValue", 1, .areturn, 1)
def f_J5_getValue_6d5f1 (N : Nat) (z : Nat → Nat) (o : Nat) (x0 : Hp) : Option (Option Nat × Hp) :=
  getr (some o) x0 2 20 fun r1 =>
  some (r1, x0)
set_option maxRecDepth 100000 in
set_option maxHeartbeats 4000000 in
theorem g_J5_getValue_6d5f1 (l : Launch) (N : Nat) (z : Nat → Nat) (o : Nat) (x0 : Hp) : G l z m_J5_getValue_6d5f1 okT enR 0 [(0, va_rf (some o))] [] x0 (f_J5_getValue_6d5f1 N z o x0) := by
  unfold f_J5_getValue_6d5f1
  refine G_aload_n 0 dJ5_getValue_6d5f1_0 rfl rfl ?_
  refine G_getr (k := 0) K_1 (by decide) rfl rfl rfl gw_871 rfl dJ5_getValue_6d5f1_1 (fun r1 => ?_)
  exact G_ret trivial dJ5_getValue_6d5f1_4 rfl

theorem yn_J5_getValue_6d5f1 : Yn yJ5_getValue_6d5f1 0 := ⟨by decide +kernel, by decide +kernel, by decide +kernel⟩
theorem ct_J5_getValue_6d5f1 (l : Launch) (N : Nat) (z : Nat → Nat) (o : Nat) : Ct l z yJ5_getValue_6d5f1 cJ5_getValue_6d5f1 1 (some (.array .byte)) 1 enR [.ref o] (f_J5_getValue_6d5f1 N z o) :=
  Ct_ra (fun x => G_lv0 (by simp only [lva_n, lva_i, lva_o, lva_r, lva_j]) (g_J5_getValue_6d5f1 l N z o x)) (by decide +kernel) (by simp only [lgl_n, lgl_i, lgl_o, lgl_r, lgl_j]; decide)

theorem dJ5_length_8abf5_0 : decode cJ5_length_8abf5 0 = .ok (.aload_n 0, 1) := by decide +kernel
theorem dJ5_length_8abf5_1 : decode cJ5_length_8abf5 1 = .ok (.getfield 79, 3) := by decide +kernel
theorem dJ5_length_8abf5_4 : decode cJ5_length_8abf5 4 = .ok (.ireturn, 1) := by decide +kernel
abbrev m_J5_length_8abf5 : Mt := (cJ5_length_8abf5, RJ5, "length", 1, .ireturn, 1)
def f_J5_length_8abf5 (N : Nat) (z : Nat → Nat) (o : Nat) (x0 : Hp) : Option (Int32 × Hp) :=
  geti (some o) x0 2 23 fun i1 =>
  some (i1, x0)
set_option maxRecDepth 100000 in
set_option maxHeartbeats 4000000 in
theorem g_J5_length_8abf5 (l : Launch) (N : Nat) (z : Nat → Nat) (o : Nat) (x0 : Hp) : G l z m_J5_length_8abf5 okT enI 0 [(0, va_rf (some o))] [] x0 (f_J5_length_8abf5 N z o x0) := by
  unfold f_J5_length_8abf5
  refine G_aload_n 0 dJ5_length_8abf5_0 rfl rfl ?_
  refine G_geti (k := 3) K_1 (by decide) rfl rfl rfl gw_874 rfl dJ5_length_8abf5_1 (fun i1 => ?_)
  exact G_ret trivial dJ5_length_8abf5_4 rfl

theorem yn_J5_length_8abf5 : Yn yJ5_length_8abf5 0 := ⟨by decide +kernel, by decide +kernel, by decide +kernel⟩
theorem ct_J5_length_8abf5 (l : Launch) (N : Nat) (z : Nat → Nat) (o : Nat) : Ct l z yJ5_length_8abf5 cJ5_length_8abf5 1 (some .int) 1 enI [.ref o] (f_J5_length_8abf5 N z o) :=
  Ct_i (fun x => G_lv0 (by simp only [lva_n, lva_i, lva_o, lva_r, lva_j]) (g_J5_length_8abf5 l N z o x)) (by decide +kernel) (by simp only [lgl_n, lgl_i, lgl_o, lgl_r, lgl_j]; decide)

theorem dJ4_length_8abf5_0 : decode cJ4_length_8abf5 0 = .ok (.aload_n 0, 1) := by decide +kernel
theorem dJ4_length_8abf5_1 : decode cJ4_length_8abf5 1 = .ok (.invokespecial 343, 3) := by decide +kernel
theorem dJ4_length_8abf5_4 : decode cJ4_length_8abf5 4 = .ok (.ireturn, 1) := by decide +kernel
abbrev m_J4_length_8abf5 : Mt := (cJ4_length_8abf5, RJ4, "length", 1, .ireturn, 2)
def f_J4_length_8abf5 (N : Nat) (z : Nat → Nat) (o : Nat) (x0 : Hp) : Option (Int32 × Hp) :=
  obj (some o) x0 2 fun q3 => bnd (f_J5_length_8abf5 N z q3 x0) fun i2 x1 =>
  some (i2, x1)
set_option maxRecDepth 100000 in
set_option maxHeartbeats 4000000 in
theorem g_J4_length_8abf5 (l : Launch) (N : Nat) (z : Nat → Nat) (o : Nat) (x0 : Hp) : G l z m_J4_length_8abf5 okT enI 0 [(0, va_rf (some o))] [] x0 (f_J4_length_8abf5 N z o x0) := by
  unfold f_J4_length_8abf5
  refine G_aload_n 0 dJ4_length_8abf5_0 rfl rfl ?_
  refine G_callSU (C := RJ4) (av := []) [] (fun q3 => ct_J5_length_8abf5 l N z q3) K_1 rfl ⟨by decide +kernel, yn_J5_length_8abf5.2.2⟩ (Nat.le_of_ble_eq_true rfl) (by decide) gw_1056 gw_1052 gw_883 gw_1051 gw_56 gw_1057 rfl (by decide) dJ4_length_8abf5_1 (fun i2 x1 => ?_)
  exact G_ret trivial dJ4_length_8abf5_4 rfl

theorem yn_J4_length_8abf5 : Yn yJ4_length_8abf5 0 := ⟨by decide +kernel, by decide +kernel, by decide +kernel⟩
theorem ct_J4_length_8abf5 (l : Launch) (N : Nat) (z : Nat → Nat) (o : Nat) : Ct l z yJ4_length_8abf5 cJ4_length_8abf5 1 (some .int) 2 enI [.ref o] (f_J4_length_8abf5 N z o) :=
  Ct_i (fun x => G_lv0 (by simp only [lva_n, lva_i, lva_o, lva_r, lva_j]) (g_J4_length_8abf5 l N z o x)) (by decide +kernel) (by simp only [lgl_n, lgl_i, lgl_o, lgl_r, lgl_j]; decide)

theorem dJ7_checkLength_df160_0 : decode cJ7_checkLength_df160 0 = .ok (.iload_n 1, 1) := by decide +kernel
theorem dJ7_checkLength_df160_1 : decode cJ7_checkLength_df160 1 = .ok (.iload_n 0, 1) := by decide +kernel
theorem dJ7_checkLength_df160_2 : decode cJ7_checkLength_df160 2 = .ok (.if_icmp .ge 35, 3) := by decide +kernel
theorem dJ7_checkLength_df160_5 : decode cJ7_checkLength_df160 5 = .ok (.new 43, 3) := by decide +kernel
theorem dJ7_checkLength_df160_37 : decode cJ7_checkLength_df160 37 = .ok (.return_, 1) := by decide +kernel
abbrev m_J7_checkLength_df160 : Mt := (cJ7_checkLength_df160, RJ7, "checkLength", 2, .return_, 1)
def f_J7_checkLength_df160 (N : Nat) (z : Nat → Nat) (v0 : Int32) (v1 : Int32) (x0 : Hp) : Option (Unit × Hp) :=
  if v0 ≤ v1 then (some ((), x0)) else (none)
set_option maxRecDepth 100000 in
set_option maxHeartbeats 4000000 in
theorem g_J7_checkLength_df160 (l : Launch) (N : Nat) (z : Nat → Nat) (v0 : Int32) (v1 : Int32) (x0 : Hp) : G l z m_J7_checkLength_df160 okT enV 0 [(0, .int v0), (1, .int v1)] [] x0 (f_J7_checkLength_df160 N z v0 v1 x0) := by
  unfold f_J7_checkLength_df160
  refine G_iload_n 1 dJ7_checkLength_df160_0 rfl rfl ?_
  refine G_iload_n 0 dJ7_checkLength_df160_1 rfl rfl ?_
  refine G_icmp_ge (tgt := 37) dJ7_checkLength_df160_2 (by decide) (fun _ => ?_) (fun _ => ?_)
  · exact G_ret trivial dJ7_checkLength_df160_37 rfl
  · exact G_none

theorem yn_J7_checkLength_df160 : Yn yJ7_checkLength_df160 2 := ⟨by decide +kernel, by decide +kernel, by decide +kernel⟩
theorem ct_J7_checkLength_df160 (l : Launch) (N : Nat) (z : Nat → Nat) (v0 : Int32) (v1 : Int32) : Ct l z yJ7_checkLength_df160 cJ7_checkLength_df160 2 none 1 enV [.int v0, .int v1] (f_J7_checkLength_df160 N z v0 v1) :=
  Ct_v (fun x => G_lv0 (by simp only [lva_n, lva_i, lva_o, lva_r, lva_j]) (g_J7_checkLength_df160 l N z v0 v1 x)) (by decide +kernel) (by simp only [lgl_n, lgl_i, lgl_o, lgl_r, lgl_j]; decide)

theorem dJ7_copyOfRangeByte_39247_0 : decode cJ7_copyOfRangeByte_39247 0 = .ok (.iload_n 1, 1) := by decide +kernel
theorem dJ7_copyOfRangeByte_39247_1 : decode cJ7_copyOfRangeByte_39247 1 = .ok (.iload_n 2, 1) := by decide +kernel
theorem dJ7_copyOfRangeByte_39247_2 : decode cJ7_copyOfRangeByte_39247 2 = .ok (.invokestatic 343, 3) := by decide +kernel
theorem dJ7_copyOfRangeByte_39247_5 : decode cJ7_copyOfRangeByte_39247 5 = .ok (.iload_n 2, 1) := by decide +kernel
theorem dJ7_copyOfRangeByte_39247_6 : decode cJ7_copyOfRangeByte_39247 6 = .ok (.iload_n 1, 1) := by decide +kernel
theorem dJ7_copyOfRangeByte_39247_7 : decode cJ7_copyOfRangeByte_39247 7 = .ok (.isub, 1) := by decide +kernel
theorem dJ7_copyOfRangeByte_39247_8 : decode cJ7_copyOfRangeByte_39247 8 = .ok (.istore_n 3, 1) := by decide +kernel
theorem dJ7_copyOfRangeByte_39247_9 : decode cJ7_copyOfRangeByte_39247 9 = .ok (.iload_n 3, 1) := by decide +kernel
theorem dJ7_copyOfRangeByte_39247_10 : decode cJ7_copyOfRangeByte_39247 10 = .ok (.newarray .byte, 2) := by decide +kernel
theorem dJ7_copyOfRangeByte_39247_12 : decode cJ7_copyOfRangeByte_39247 12 = .ok (.astore 4, 2) := by decide +kernel
theorem dJ7_copyOfRangeByte_39247_14 : decode cJ7_copyOfRangeByte_39247 14 = .ok (.aload_n 0, 1) := by decide +kernel
theorem dJ7_copyOfRangeByte_39247_15 : decode cJ7_copyOfRangeByte_39247 15 = .ok (.iload_n 1, 1) := by decide +kernel
theorem dJ7_copyOfRangeByte_39247_16 : decode cJ7_copyOfRangeByte_39247 16 = .ok (.aload 4, 2) := by decide +kernel
theorem dJ7_copyOfRangeByte_39247_18 : decode cJ7_copyOfRangeByte_39247 18 = .ok (.iconst 0, 1) := by decide +kernel
theorem dJ7_copyOfRangeByte_39247_19 : decode cJ7_copyOfRangeByte_39247 19 = .ok (.aload_n 0, 1) := by decide +kernel
theorem dJ7_copyOfRangeByte_39247_20 : decode cJ7_copyOfRangeByte_39247 20 = .ok (.arraylength, 1) := by decide +kernel
theorem dJ7_copyOfRangeByte_39247_21 : decode cJ7_copyOfRangeByte_39247 21 = .ok (.iload_n 1, 1) := by decide +kernel
theorem dJ7_copyOfRangeByte_39247_22 : decode cJ7_copyOfRangeByte_39247 22 = .ok (.isub, 1) := by decide +kernel
theorem dJ7_copyOfRangeByte_39247_23 : decode cJ7_copyOfRangeByte_39247 23 = .ok (.iload_n 3, 1) := by decide +kernel
theorem dJ7_copyOfRangeByte_39247_24 : decode cJ7_copyOfRangeByte_39247 24 = .ok (.invokestatic 304, 3) := by decide +kernel
theorem dJ7_copyOfRangeByte_39247_27 : decode cJ7_copyOfRangeByte_39247 27 = .ok (.invokestatic 150, 3) := by decide +kernel
theorem dJ7_copyOfRangeByte_39247_30 : decode cJ7_copyOfRangeByte_39247 30 = .ok (.aload 4, 2) := by decide +kernel
theorem dJ7_copyOfRangeByte_39247_32 : decode cJ7_copyOfRangeByte_39247 32 = .ok (.areturn, 1) := by decide +kernel
abbrev m_J7_copyOfRangeByte_39247 : Mt := (cJ7_copyOfRangeByte_39247, RJ7, "copyOfRangeByte", 5, .areturn, 2)
def f_J7_copyOfRangeByte_39247 (N : Nat) (z : Nat → Nat) (v0 : Option Nat) (v1 : Int32) (v2 : Int32) (x0 : Hp) : Option (Option Nat × Hp) :=
  bnd (f_J7_checkLength_df160 N z v1 v2 x0) fun _ x1 =>
  newa x1 100 (v2 - v1) fun r2 x3 =>
  alen v0 x3 100 fun i4 =>
  acpy v0 x3 v1 r2 (0 : Int32) (if (v2 - v1) < (i4 - v1) then (v2 - v1) else (i4 - v1)) fun x5 =>
  some (r2, x5)
set_option maxRecDepth 100000 in
set_option maxHeartbeats 4000000 in
theorem g_J7_copyOfRangeByte_39247 (l : Launch) (N : Nat) (z : Nat → Nat) (v0 : Option Nat) (v1 : Int32) (v2 : Int32) (x0 : Hp) : G l z m_J7_copyOfRangeByte_39247 okT enR 0 [(0, va_rf v0), (1, .int v1), (2, .int v2)] [] x0 (f_J7_copyOfRangeByte_39247 N z v0 v1 v2 x0) := by
  unfold f_J7_copyOfRangeByte_39247
  refine G_iload_n 1 dJ7_copyOfRangeByte_39247_0 rfl rfl ?_
  refine G_iload_n 2 dJ7_copyOfRangeByte_39247_1 rfl rfl ?_
  refine G_callS (av := [.int v1, .int v2]) [] (ct_J7_checkLength_df160 l N z v1 v2) yn_J7_checkLength_df160 (Nat.le_of_ble_eq_true rfl) (by decide) gw_1065 gw_1066 gw_60 gw_1067 rfl (by decide) dJ7_copyOfRangeByte_39247_2 (fun _ x1 => ?_)
  refine G_iload_n 2 dJ7_copyOfRangeByte_39247_5 rfl rfl ?_
  refine G_iload_n 1 dJ7_copyOfRangeByte_39247_6 rfl rfl ?_
  refine G_isub dJ7_copyOfRangeByte_39247_7 ?_
  refine G_istore_n (i := 3) (l2 := [(0, va_rf v0), (1, .int v1), (2, .int v2)]) [0, 1, 2] dJ7_copyOfRangeByte_39247_8 rfl (Nat.le_of_ble_eq_true rfl) rfl (sok_a (by decide) (by decide) (sok_a (by decide) (by decide) (sok_b (by decide) rfl trivial))) ?_
  refine G_iload_n 0 dJ7_copyOfRangeByte_39247_9 rfl rfl ?_
  refine G_newa (t := 0) rfl (Or.inl ⟨rfl, rfl⟩) gw_92 dJ7_copyOfRangeByte_39247_10 (fun r2 x3 => ?_)
  refine G_astore (i := 4) (l2 := [(3, .int (v2 - v1)), (0, va_rf v0), (1, .int v1), (2, .int v2)]) [0, 1, 2, 3] dJ7_copyOfRangeByte_39247_12 (Nat.le_of_ble_eq_true rfl) rfl (sok_b (by decide) rfl (sok_a (by decide) (by decide) (sok_a (by decide) (by decide) (sok_a (by decide) (by decide) trivial)))) ?_
  refine G_aload_n 2 dJ7_copyOfRangeByte_39247_14 rfl rfl ?_
  refine G_iload_n 3 dJ7_copyOfRangeByte_39247_15 rfl rfl ?_
  refine G_aload 0 dJ7_copyOfRangeByte_39247_16 rfl ?_
  refine G_iconst (v := (0 : Int32)) dJ7_copyOfRangeByte_39247_18 rfl ?_
  refine G_aload_n 2 dJ7_copyOfRangeByte_39247_19 rfl rfl ?_
  refine G_alen (t := 0) rfl (by decide) dJ7_copyOfRangeByte_39247_20 (fun i4 => ?_)
  refine G_iload_n 3 dJ7_copyOfRangeByte_39247_21 rfl rfl ?_
  refine G_isub dJ7_copyOfRangeByte_39247_22 ?_
  refine G_iload_n 1 dJ7_copyOfRangeByte_39247_23 rfl rfl ?_
  refine G_mmin (st := [.int (0 : Int32), va_rf r2, .int v1, va_rf v0]) gw_923 gw_670 gw_59 gw_671 (by decide) (by simp only [hw_n, hw_i, hw_r, hw_j, hw_d]; decide) dJ7_copyOfRangeByte_39247_24 ?_
  refine G_acpy (st := []) gw_924 gw_926 gw_925 gw_61 (by decide) (by decide) dJ7_copyOfRangeByte_39247_27 (fun x5 => ?_)
  refine G_aload 0 dJ7_copyOfRangeByte_39247_30 rfl ?_
  exact G_ret trivial dJ7_copyOfRangeByte_39247_32 rfl

theorem yn_J7_copyOfRangeByte_39247 : Yn yJ7_copyOfRangeByte_39247 3 := ⟨by decide +kernel, by decide +kernel, by decide +kernel⟩
theorem ct_J7_copyOfRangeByte_39247 (l : Launch) (N : Nat) (z : Nat → Nat) (v0 : Option Nat) (v1 : Int32) (v2 : Int32) : Ct l z yJ7_copyOfRangeByte_39247 cJ7_copyOfRangeByte_39247 5 (some (.array .byte)) 2 enR [va_rf v0, .int v1, .int v2] (f_J7_copyOfRangeByte_39247 N z v0 v1 v2) :=
  Ct_ra (fun x => G_lv0 (by simp only [lva_n, lva_i, lva_o, lva_r, lva_j]) (g_J7_copyOfRangeByte_39247 l N z v0 v1 v2 x)) (by decide +kernel) (by simp only [lgl_n, lgl_i, lgl_o, lgl_r, lgl_j]; decide)

theorem dJ7_copyOfRange_39247_0 : decode cJ7_copyOfRange_39247 0 = .ok (.iload_n 1, 1) := by decide +kernel
theorem dJ7_copyOfRange_39247_1 : decode cJ7_copyOfRange_39247 1 = .ok (.ifCond .ne 9, 3) := by decide +kernel
theorem dJ7_copyOfRange_39247_4 : decode cJ7_copyOfRange_39247 4 = .ok (.iload_n 2, 1) := by decide +kernel
theorem dJ7_copyOfRange_39247_5 : decode cJ7_copyOfRange_39247 5 = .ok (.aload_n 0, 1) := by decide +kernel
theorem dJ7_copyOfRange_39247_6 : decode cJ7_copyOfRange_39247 6 = .ok (.arraylength, 1) := by decide +kernel
theorem dJ7_copyOfRange_39247_7 : decode cJ7_copyOfRange_39247 7 = .ok (.if_icmp .eq 10, 3) := by decide +kernel
theorem dJ7_copyOfRange_39247_10 : decode cJ7_copyOfRange_39247 10 = .ok (.aload_n 0, 1) := by decide +kernel
theorem dJ7_copyOfRange_39247_11 : decode cJ7_copyOfRange_39247 11 = .ok (.iload_n 1, 1) := by decide +kernel
theorem dJ7_copyOfRange_39247_12 : decode cJ7_copyOfRange_39247 12 = .ok (.iload_n 2, 1) := by decide +kernel
theorem dJ7_copyOfRange_39247_13 : decode cJ7_copyOfRange_39247 13 = .ok (.invokestatic 339, 3) := by decide +kernel
theorem dJ7_copyOfRange_39247_16 : decode cJ7_copyOfRange_39247 16 = .ok (.areturn, 1) := by decide +kernel
theorem dJ7_copyOfRange_39247_17 : decode cJ7_copyOfRange_39247 17 = .ok (.aload_n 0, 1) := by decide +kernel
theorem dJ7_copyOfRange_39247_18 : decode cJ7_copyOfRange_39247 18 = .ok (.invokevirtual 310, 3) := by decide +kernel
theorem dJ7_copyOfRange_39247_21 : decode cJ7_copyOfRange_39247 21 = .ok (.checkcast 311, 3) := by decide +kernel
theorem dJ7_copyOfRange_39247_24 : decode cJ7_copyOfRange_39247 24 = .ok (.areturn, 1) := by decide +kernel
abbrev m_J7_copyOfRange_39247 : Mt := (cJ7_copyOfRange_39247, RJ7, "copyOfRange", 3, .areturn, 3)
def f_J7_copyOfRange_39247_b10 (N : Nat) (z : Nat → Nat) (v0 : Option Nat) (v1 : Int32) (v2 : Int32) (x0 : Hp) : Option (Option Nat × Hp) :=
  bnd (f_J7_copyOfRangeByte_39247 N z v0 v1 v2 x0) fun r2 x1 =>
  some (r2, x1)
def f_J7_copyOfRange_39247 (N : Nat) (z : Nat → Nat) (v0 : Option Nat) (v1 : Int32) (v2 : Int32) (x0 : Hp) : Option (Option Nat × Hp) :=
  if v1 = 0 then (alen v0 x0 100 fun i3 =>
  if v2 = i3 then (clonb v0 x0 fun r4 x5 =>
  castb r4 x5 <|
  some (r4, x5)) else (f_J7_copyOfRange_39247_b10 N z v0 v1 v2 x0)) else (f_J7_copyOfRange_39247_b10 N z v0 v1 v2 x0)
set_option maxRecDepth 100000 in
set_option maxHeartbeats 4000000 in
theorem g_J7_copyOfRange_39247_b10 (l : Launch) (N : Nat) (z : Nat → Nat) (v0 : Option Nat) (v1 : Int32) (v2 : Int32) (x0 : Hp) : G l z m_J7_copyOfRange_39247 okT enR 10 [(0, va_rf v0), (1, .int v1), (2, .int v2)] [] x0 (f_J7_copyOfRange_39247_b10 N z v0 v1 v2 x0) := by
  unfold f_J7_copyOfRange_39247_b10
  refine G_aload_n 0 dJ7_copyOfRange_39247_10 rfl rfl ?_
  refine G_iload_n 1 dJ7_copyOfRange_39247_11 rfl rfl ?_
  refine G_iload_n 2 dJ7_copyOfRange_39247_12 rfl rfl ?_
  refine G_callS (av := [va_rf v0, .int v1, .int v2]) [] (ct_J7_copyOfRangeByte_39247 l N z v0 v1 v2) yn_J7_copyOfRangeByte_39247 (Nat.le_of_ble_eq_true rfl) (by decide) gw_1062 gw_1063 gw_60 gw_1064 rfl (by decide) dJ7_copyOfRange_39247_13 (fun r2 x1 => ?_)
  exact G_ret trivial dJ7_copyOfRange_39247_16 rfl

set_option maxRecDepth 100000 in
set_option maxHeartbeats 4000000 in
theorem g_J7_copyOfRange_39247 (l : Launch) (N : Nat) (z : Nat → Nat) (v0 : Option Nat) (v1 : Int32) (v2 : Int32) (x0 : Hp) : G l z m_J7_copyOfRange_39247 okT enR 0 [(0, va_rf v0), (1, .int v1), (2, .int v2)] [] x0 (f_J7_copyOfRange_39247 N z v0 v1 v2 x0) := by
  unfold f_J7_copyOfRange_39247
  refine G_iload_n 1 dJ7_copyOfRange_39247_0 rfl rfl ?_
  refine G_if_ne (tgt := 10) dJ7_copyOfRange_39247_1 (by decide) (fun _ => ?_) (fun _ => ?_)
  · refine G_iload_n 2 dJ7_copyOfRange_39247_4 rfl rfl ?_
    refine G_aload_n 0 dJ7_copyOfRange_39247_5 rfl rfl ?_
    refine G_alen (t := 0) rfl (by decide) dJ7_copyOfRange_39247_6 (fun i3 => ?_)
    refine G_icmp_eq (tgt := 17) dJ7_copyOfRange_39247_7 (by decide) (fun _ => ?_) (fun _ => ?_)
    · refine G_aload_n 0 dJ7_copyOfRange_39247_17 rfl rfl ?_
      refine G_clonb (st := []) gw_916 gw_917 gw_918 gw_919 gw_920 (by decide) (by decide) dJ7_copyOfRange_39247_18 (fun r4 x5 => ?_)
      refine G_castb gw_922 dJ7_copyOfRange_39247_21 ?_
      exact G_ret trivial dJ7_copyOfRange_39247_24 rfl
    · refine G_lv [0, 1, 2] rfl ?_
      exact g_J7_copyOfRange_39247_b10 l N z v0 v1 v2 x0
  · refine G_lv [0, 1, 2] rfl ?_
    exact g_J7_copyOfRange_39247_b10 l N z v0 v1 v2 x0

theorem yn_J7_copyOfRange_39247 : Yn yJ7_copyOfRange_39247 3 := ⟨by decide +kernel, by decide +kernel, by decide +kernel⟩
theorem ct_J7_copyOfRange_39247 (l : Launch) (N : Nat) (z : Nat → Nat) (v0 : Option Nat) (v1 : Int32) (v2 : Int32) : Ct l z yJ7_copyOfRange_39247 cJ7_copyOfRange_39247 3 (some (.array .byte)) 3 enR [va_rf v0, .int v1, .int v2] (f_J7_copyOfRange_39247 N z v0 v1 v2) :=
  Ct_ra (fun x => G_lv0 (by simp only [lva_n, lva_i, lva_o, lva_r, lva_j]) (g_J7_copyOfRange_39247 l N z v0 v1 v2 x)) (by decide +kernel) (by simp only [lgl_n, lgl_i, lgl_o, lgl_r, lgl_j]; decide)

theorem dJ0_init_db425_0 : decode cJ0_init_db425 0 = .ok (.aload_n 0, 1) := by decide +kernel
theorem dJ0_init_db425_1 : decode cJ0_init_db425 1 = .ok (.invokespecial 1, 3) := by decide +kernel
theorem dJ0_init_db425_4 : decode cJ0_init_db425 4 = .ok (.aload_n 1, 1) := by decide +kernel
theorem dJ0_init_db425_5 : decode cJ0_init_db425 5 = .ok (.invokevirtual 552, 3) := by decide +kernel
theorem dJ0_init_db425_8 : decode cJ0_init_db425 8 = .ok (.astore_n 3, 1) := by decide +kernel
theorem dJ0_init_db425_9 : decode cJ0_init_db425 9 = .ok (.aload_n 1, 1) := by decide +kernel
theorem dJ0_init_db425_10 : decode cJ0_init_db425 10 = .ok (.invokevirtual 549, 3) := by decide +kernel
theorem dJ0_init_db425_13 : decode cJ0_init_db425 13 = .ok (.istore 4, 2) := by decide +kernel
theorem dJ0_init_db425_15 : decode cJ0_init_db425 15 = .ok (.aload_n 1, 1) := by decide +kernel
theorem dJ0_init_db425_16 : decode cJ0_init_db425 16 = .ok (.invokevirtual 1047, 3) := by decide +kernel
theorem dJ0_init_db425_19 : decode cJ0_init_db425 19 = .ok (.ifCond .eq 22, 3) := by decide +kernel
theorem dJ0_init_db425_22 : decode cJ0_init_db425 22 = .ok (.aload_n 0, 1) := by decide +kernel
theorem dJ0_init_db425_23 : decode cJ0_init_db425 23 = .ok (.iconst 0, 1) := by decide +kernel
theorem dJ0_init_db425_24 : decode cJ0_init_db425 24 = .ok (.putfield 15, 3) := by decide +kernel
theorem dJ0_init_db425_27 : decode cJ0_init_db425 27 = .ok (.aload_n 0, 1) := by decide +kernel
theorem dJ0_init_db425_28 : decode cJ0_init_db425 28 = .ok (.aload_n 3, 1) := by decide +kernel
theorem dJ0_init_db425_29 : decode cJ0_init_db425 29 = .ok (.iconst 0, 1) := by decide +kernel
theorem dJ0_init_db425_30 : decode cJ0_init_db425 30 = .ok (.iload 4, 2) := by decide +kernel
theorem dJ0_init_db425_32 : decode cJ0_init_db425 32 = .ok (.invokestatic 54, 3) := by decide +kernel
theorem dJ0_init_db425_35 : decode cJ0_init_db425 35 = .ok (.putfield 9, 3) := by decide +kernel
theorem dJ0_init_db425_38 : decode cJ0_init_db425 38 = .ok (.goto 59, 3) := by decide +kernel
theorem dJ0_init_db425_41 : decode cJ0_init_db425 41 = .ok (.getstatic 38, 3) := by decide +kernel
theorem dJ0_init_db425_44 : decode cJ0_init_db425 44 = .ok (.ifCond .eq 35, 3) := by decide +kernel
theorem dJ0_init_db425_47 : decode cJ0_init_db425 47 = .ok (.aload_n 1, 1) := by decide +kernel
theorem dJ0_init_db425_48 : decode cJ0_init_db425 48 = .ok (.getfield 1048, 3) := by decide +kernel
theorem dJ0_init_db425_51 : decode cJ0_init_db425 51 = .ok (.ifCond .eq 28, 3) := by decide +kernel
theorem dJ0_init_db425_54 : decode cJ0_init_db425 54 = .ok (.aload_n 0, 1) := by decide +kernel
theorem dJ0_init_db425_55 : decode cJ0_init_db425 55 = .ok (.aload_n 3, 1) := by decide +kernel
theorem dJ0_init_db425_56 : decode cJ0_init_db425 56 = .ok (.iconst 0, 1) := by decide +kernel
theorem dJ0_init_db425_57 : decode cJ0_init_db425 57 = .ok (.iload 4, 2) := by decide +kernel
theorem dJ0_init_db425_59 : decode cJ0_init_db425 59 = .ok (.invokestatic 1051, 3) := by decide +kernel
theorem dJ0_init_db425_79 : decode cJ0_init_db425 79 = .ok (.aload_n 0, 1) := by decide +kernel
theorem dJ0_init_db425_80 : decode cJ0_init_db425 80 = .ok (.iconst 1, 1) := by decide +kernel
theorem dJ0_init_db425_81 : decode cJ0_init_db425 81 = .ok (.putfield 15, 3) := by decide +kernel
theorem dJ0_init_db425_84 : decode cJ0_init_db425 84 = .ok (.aload_n 0, 1) := by decide +kernel
theorem dJ0_init_db425_85 : decode cJ0_init_db425 85 = .ok (.aload_n 3, 1) := by decide +kernel
theorem dJ0_init_db425_86 : decode cJ0_init_db425 86 = .ok (.iconst 0, 1) := by decide +kernel
theorem dJ0_init_db425_87 : decode cJ0_init_db425 87 = .ok (.iload 4, 2) := by decide +kernel
theorem dJ0_init_db425_89 : decode cJ0_init_db425 89 = .ok (.iconst 1, 1) := by decide +kernel
theorem dJ0_init_db425_90 : decode cJ0_init_db425 90 = .ok (.ishl, 1) := by decide +kernel
theorem dJ0_init_db425_91 : decode cJ0_init_db425 91 = .ok (.invokestatic 54, 3) := by decide +kernel
theorem dJ0_init_db425_94 : decode cJ0_init_db425 94 = .ok (.putfield 9, 3) := by decide +kernel
theorem dJ0_init_db425_97 : decode cJ0_init_db425 97 = .ok (.return_, 1) := by decide +kernel
abbrev m_J0_init_db425 : Mt := (cJ0_init_db425, RJ0, "<init>", 5, .return_, 4)
def f_J0_init_db425_b79 (N : Nat) (z : Nat → Nat) (o : Nat) (v3 : Option Nat) (v4 : Int32) (x0 : Hp) : Option (Unit × Hp) :=
  puti (some o) x0 1 1 (1 : Int32) fun x1 =>
  bnd (f_J7_copyOfRange_39247 N z v3 (0 : Int32) (v4 <<< ((1 : Int32) &&& 31)) x1) fun r3 x2 =>
  putr (some o) x2 1 0 r3 fun x4 =>
  some ((), x4)
def f_J0_init_db425 (N : Nat) (z : Nat → Nat) (o : Nat) (v1 : Option Nat) (v2 : Option Nat) (x0 : Hp) : Option (Unit × Hp) :=
  nn (some o) fun _ =>
  obj v1 x0 2 fun q8 => bnd (f_J5_getValue_6d5f1 N z q8 x0) fun r7 x6 =>
  obj v1 x6 2 fun q11 => bnd (f_J4_length_8abf5 N z q11 x6) fun i10 x9 =>
  obj v1 x9 2 fun q14 => bnd (f_J5_isLatin1_aae02 N z q14 x9) fun i13 x12 =>
  if i13 = 0 then (if (1 : Int32) = 0 then (f_J0_init_db425_b79 N z o r7 i10 x12) else (geti v1 x12 2 22 fun i15 =>
  if i15 = 0 then (f_J0_init_db425_b79 N z o r7 i10 x12) else (none))) else (puti (some o) x12 1 1 (0 : Int32) fun x16 =>
  bnd (f_J7_copyOfRange_39247 N z r7 (0 : Int32) i10 x16) fun r18 x17 =>
  putr (some o) x17 1 0 r18 fun x19 =>
  some ((), x19))
set_option maxRecDepth 100000 in
set_option maxHeartbeats 4000000 in
theorem g_J0_init_db425_b79 (l : Launch) (N : Nat) (z : Nat → Nat) (o : Nat) (v3 : Option Nat) (v4 : Int32) (x0 : Hp) : G l z m_J0_init_db425 okT enV 79 [(0, va_rf (some o)), (3, va_rf v3), (4, .int v4)] [] x0 (f_J0_init_db425_b79 N z o v3 v4 x0) := by
  unfold f_J0_init_db425_b79
  refine G_aload_n 0 dJ0_init_db425_79 rfl rfl ?_
  refine G_iconst (v := (1 : Int32)) dJ0_init_db425_80 rfl ?_
  refine G_puti (k := 1) K_0 (by decide) rfl rfl rfl gw_1079 rfl (Or.inr ⟨rfl, rfl, rfl⟩) (by decide) (by decide) dJ0_init_db425_81 (fun x1 => ?_)
  refine G_aload_n 0 dJ0_init_db425_84 rfl rfl ?_
  refine G_aload_n 1 dJ0_init_db425_85 rfl rfl ?_
  refine G_iconst (v := (0 : Int32)) dJ0_init_db425_86 rfl ?_
  refine G_iload 2 dJ0_init_db425_87 rfl ?_
  refine G_iconst (v := (1 : Int32)) dJ0_init_db425_89 rfl ?_
  refine G_ishl dJ0_init_db425_90 ?_
  refine G_callS (av := [va_rf v3, .int (0 : Int32), .int (v4 <<< ((1 : Int32) &&& 31))]) [va_rf (some o)] (ct_J7_copyOfRange_39247 l N z v3 (0 : Int32) (v4 <<< ((1 : Int32) &&& 31))) yn_J7_copyOfRange_39247 (Nat.le_of_ble_eq_true rfl) (by decide) gw_1059 gw_1060 gw_60 gw_1061 rfl (by simp only [hw_n, hw_i, hw_r, hw_j, hw_d]; decide) dJ0_init_db425_91 (fun r3 x2 => ?_)
  refine G_putr (k := 0) K_0 (by decide) rfl rfl rfl gw_1078 rfl (Or.inr ⟨rfl, rfl, rfl⟩) nar_arr.1 nar_arr.2 dJ0_init_db425_94 (fun x4 => ?_)
  exact G_ret trivial dJ0_init_db425_97 rfl

set_option maxRecDepth 100000 in
set_option maxHeartbeats 4000000 in
theorem g_J0_init_db425 (l : Launch) (N : Nat) (z : Nat → Nat) (o : Nat) (v1 : Option Nat) (v2 : Option Nat) (x0 : Hp) : G l z m_J0_init_db425 okT enV 0 [(0, va_rf (some o)), (1, va_rf v1), (2, va_rf v2)] [] x0 (f_J0_init_db425 N z o v1 v2 x0) := by
  unfold f_J0_init_db425
  refine G_aload_n 0 dJ0_init_db425_0 rfl rfl ?_
  refine G_objInit (st := []) gw_1044 gw_75 gw_76 (by decide) (by decide) dJ0_init_db425_1 (fun _ => ?_)
  refine G_aload_n 1 dJ0_init_db425_4 rfl rfl ?_
  refine G_callU (C := RJ4) (owner := RJ5) (w := yJ5_getValue_6d5f1) (y := yJ5_getValue_6d5f1) (av := []) [] (fun q8 => ct_J5_getValue_6d5f1 l N z q8) K_1 rfl ⟨by decide +kernel, by decide +kernel, by decide +kernel⟩ (Nat.le_of_ble_eq_true rfl) (by decide) gw_1045 gw_1047 gw_1046 gw_1048 gw_1046 gw_56 gw_1049 gw_1049 rfl (by decide) dJ0_init_db425_5 (fun r7 x6 => ?_)
  refine G_astore_n (i := 3) (l2 := [(0, va_rf (some o)), (1, va_rf v1), (2, va_rf v2)]) [0, 1, 2] dJ0_init_db425_8 rfl (Nat.le_of_ble_eq_true rfl) rfl (sok_a (by decide) (by decide) (sok_a (by decide) (by decide) (sok_b (by decide) (rf_cat _) trivial))) ?_
  refine G_aload_n 2 dJ0_init_db425_9 rfl rfl ?_
  refine G_callU (C := RJ4) (owner := RJ5) (w := yJ5_length_8abf5) (y := yJ4_length_8abf5) (av := []) [] (fun q11 => ct_J4_length_8abf5 l N z q11) K_1 rfl ⟨by decide +kernel, by decide +kernel, by decide +kernel⟩ (Nat.le_of_ble_eq_true rfl) (by decide) gw_1050 gw_1052 gw_1051 gw_1053 gw_1054 gw_57 gw_1055 gw_1057 rfl (by decide) dJ0_init_db425_10 (fun i10 x9 => ?_)
  refine G_istore (i := 4) (l2 := [(3, va_rf r7), (0, va_rf (some o)), (1, va_rf v1), (2, va_rf v2)]) [0, 1, 2, 3] dJ0_init_db425_13 (Nat.le_of_ble_eq_true rfl) rfl (sok_b (by decide) (rf_cat _) (sok_a (by decide) (by decide) (sok_a (by decide) (by decide) (sok_a (by decide) (by decide) trivial)))) ?_
  refine G_aload_n 3 dJ0_init_db425_15 rfl rfl ?_
  refine G_callU (C := RJ4) (owner := RJ5) (w := yJ5_isLatin1_aae02) (y := yJ5_isLatin1_aae02) (av := []) [] (fun q14 => ct_J5_isLatin1_aae02 l N z q14) K_1 rfl ⟨by decide +kernel, by decide +kernel, by decide +kernel⟩ (Nat.le_of_ble_eq_true rfl) (by decide) gw_1058 gw_929 gw_928 gw_930 gw_928 gw_56 gw_931 gw_931 rfl (by decide) dJ0_init_db425_16 (fun i13 x12 => ?_)
  refine G_if_eq (tgt := 41) dJ0_init_db425_19 (by decide) (fun _ => ?_) (fun _ => ?_)
  · refine G_getsi 0 (fun _ => rfl) gw_362 rfl dJ0_init_db425_41 ?_
    refine G_if_eq (tgt := 79) dJ0_init_db425_44 (by decide) (fun _ => ?_) (fun _ => ?_)
    · refine G_lv [2, 1, 0] rfl ?_
      exact g_J0_init_db425_b79 l N z o r7 i10 x12
    · refine G_aload_n 3 dJ0_init_db425_47 rfl rfl ?_
      refine G_geti (k := 2) K_1 (by decide) rfl rfl rfl gw_873 rfl dJ0_init_db425_48 (fun i15 => ?_)
      refine G_if_eq (tgt := 79) dJ0_init_db425_51 (by decide) (fun _ => ?_) (fun _ => ?_)
      · refine G_lv [2, 1, 0] rfl ?_
        exact g_J0_init_db425_b79 l N z o r7 i10 x12
      · refine G_aload_n 2 dJ0_init_db425_54 rfl rfl ?_
        refine G_aload_n 1 dJ0_init_db425_55 rfl rfl ?_
        refine G_iconst (v := (0 : Int32)) dJ0_init_db425_56 rfl ?_
        refine G_iload 0 dJ0_init_db425_57 rfl ?_
        exact G_none
  · refine G_aload_n 2 dJ0_init_db425_22 rfl rfl ?_
    refine G_iconst (v := (0 : Int32)) dJ0_init_db425_23 rfl ?_
    refine G_puti (k := 1) K_0 (by decide) rfl rfl rfl gw_1079 rfl (Or.inr ⟨rfl, rfl, rfl⟩) (by decide) (by decide) dJ0_init_db425_24 (fun x16 => ?_)
    refine G_aload_n 2 dJ0_init_db425_27 rfl rfl ?_
    refine G_aload_n 1 dJ0_init_db425_28 rfl rfl ?_
    refine G_iconst (v := (0 : Int32)) dJ0_init_db425_29 rfl ?_
    refine G_iload 0 dJ0_init_db425_30 rfl ?_
    refine G_callS (av := [va_rf r7, .int (0 : Int32), .int i10]) [va_rf (some o)] (ct_J7_copyOfRange_39247 l N z r7 (0 : Int32) i10) yn_J7_copyOfRange_39247 (Nat.le_of_ble_eq_true rfl) (by decide) gw_1059 gw_1060 gw_60 gw_1061 rfl (by simp only [hw_n, hw_i, hw_r, hw_j, hw_d]; decide) dJ0_init_db425_32 (fun r18 x17 => ?_)
    refine G_putr (k := 0) K_0 (by decide) rfl rfl rfl gw_1078 rfl (Or.inr ⟨rfl, rfl, rfl⟩) nar_arr.1 nar_arr.2 dJ0_init_db425_35 (fun x19 => ?_)
    refine G_goto (tgt := 97) dJ0_init_db425_38 (by decide) ?_
    exact G_ret trivial dJ0_init_db425_97 rfl

theorem yn_J0_init_db425 : Yn yJ0_init_db425 2 := ⟨by decide +kernel, by decide +kernel, by decide +kernel⟩
theorem ct_J0_init_db425 (l : Launch) (N : Nat) (z : Nat → Nat) (o : Nat) (v1 : Option Nat) (v2 : Option Nat) : Ct l z yJ0_init_db425 cJ0_init_db425 5 none 4 enV [.ref o, va_rf v1, va_rf v2] (f_J0_init_db425 N z o v1 v2) :=
  Ct_v (fun x => G_lv0 (by simp only [lva_n, lva_i, lva_o, lva_r, lva_j]) (g_J0_init_db425 l N z o v1 v2 x)) (by decide +kernel) (by simp only [lgl_n, lgl_i, lgl_o, lgl_r, lgl_j]; decide)

theorem dJ0_init_81219_0 : decode cJ0_init_81219 0 = .ok (.aload_n 0, 1) := by decide +kernel
theorem dJ0_init_81219_1 : decode cJ0_init_81219 1 = .ok (.aload_n 1, 1) := by decide +kernel
theorem dJ0_init_81219_2 : decode cJ0_init_81219 2 = .ok (.aconst_null, 1) := by decide +kernel
theorem dJ0_init_81219_3 : decode cJ0_init_81219 3 = .ok (.invokespecial 489, 3) := by decide +kernel
theorem dJ0_init_81219_6 : decode cJ0_init_81219 6 = .ok (.return_, 1) := by decide +kernel
abbrev m_J0_init_81219 : Mt := (cJ0_init_81219, RJ0, "<init>", 2, .return_, 5)
def f_J0_init_81219 (N : Nat) (z : Nat → Nat) (o : Nat) (v1 : Option Nat) (x0 : Hp) : Option (Unit × Hp) :=
  obj (some o) x0 1 fun q2 => bnd (f_J0_init_db425 N z q2 v1 none x0) fun _ x1 =>
  some ((), x1)
set_option maxRecDepth 100000 in
set_option maxHeartbeats 4000000 in
theorem g_J0_init_81219 (l : Launch) (N : Nat) (z : Nat → Nat) (o : Nat) (v1 : Option Nat) (x0 : Hp) : G l z m_J0_init_81219 okT enV 0 [(0, va_rf (some o)), (1, va_rf v1)] [] x0 (f_J0_init_81219 N z o v1 x0) := by
  unfold f_J0_init_81219
  refine G_aload_n 0 dJ0_init_81219_0 rfl rfl ?_
  refine G_aload_n 1 dJ0_init_81219_1 rfl rfl ?_
  refine G_null dJ0_init_81219_2 ?_
  refine G_callI (av := [va_rf v1, va_rf none]) [] (fun q2 => ct_J0_init_db425 l N z q2 v1 none) rfl yn_J0_init_db425 (Nat.le_of_ble_eq_true rfl) (by decide) gw_1041 gw_1042 gw_50 gw_1043 rfl (by decide) dJ0_init_81219_3 (fun x1 => ?_)
  exact G_ret trivial dJ0_init_81219_6 rfl

theorem yn_J0_init_81219 : Yn yJ0_init_81219 1 := ⟨by decide +kernel, by decide +kernel, by decide +kernel⟩
theorem ct_J0_init_81219 (l : Launch) (N : Nat) (z : Nat → Nat) (o : Nat) (v1 : Option Nat) : Ct l z yJ0_init_81219 cJ0_init_81219 2 none 5 enV [.ref o, va_rf v1] (f_J0_init_81219 N z o v1) :=
  Ct_v (fun x => G_lv0 (by simp only [lva_n, lva_i, lva_o, lva_r, lva_j]) (g_J0_init_81219 l N z o v1 x)) (by decide +kernel) (by simp only [lgl_n, lgl_i, lgl_o, lgl_r, lgl_j]; decide)

theorem dJ0_isLatin1_aae02_0 : decode cJ0_isLatin1_aae02 0 = .ok (.getstatic 38, 3) := by decide +kernel
theorem dJ0_isLatin1_aae02_3 : decode cJ0_isLatin1_aae02 3 = .ok (.ifCond .eq 14, 3) := by decide +kernel
theorem dJ0_isLatin1_aae02_6 : decode cJ0_isLatin1_aae02 6 = .ok (.aload_n 0, 1) := by decide +kernel
theorem dJ0_isLatin1_aae02_7 : decode cJ0_isLatin1_aae02 7 = .ok (.getfield 15, 3) := by decide +kernel
theorem dJ0_isLatin1_aae02_10 : decode cJ0_isLatin1_aae02 10 = .ok (.ifCond .ne 7, 3) := by decide +kernel
theorem dJ0_isLatin1_aae02_13 : decode cJ0_isLatin1_aae02 13 = .ok (.iconst 1, 1) := by decide +kernel
theorem dJ0_isLatin1_aae02_14 : decode cJ0_isLatin1_aae02 14 = .ok (.goto 4, 3) := by decide +kernel
theorem dJ0_isLatin1_aae02_17 : decode cJ0_isLatin1_aae02 17 = .ok (.iconst 0, 1) := by decide +kernel
theorem dJ0_isLatin1_aae02_18 : decode cJ0_isLatin1_aae02 18 = .ok (.ireturn, 1) := by decide +kernel
abbrev m_J0_isLatin1_aae02 : Mt := (cJ0_isLatin1_aae02, RJ0, "isLatin1", 1, .ireturn, 1)
def f_J0_isLatin1_aae02 (N : Nat) (z : Nat → Nat) (o : Nat) (x0 : Hp) : Option (Int32 × Hp) :=
  if (1 : Int32) = 0 then (some ((0 : Int32), x0)) else (gsi (some o) x0 fun i1 =>
  if i1 = 0 then (some ((1 : Int32), x0)) else (some ((0 : Int32), x0)))
set_option maxRecDepth 100000 in
set_option maxHeartbeats 4000000 in
theorem g_J0_isLatin1_aae02 (l : Launch) (N : Nat) (z : Nat → Nat) (o : Nat) (x0 : Hp) : G l z m_J0_isLatin1_aae02 okZ enI 0 [(0, va_rf (some o))] [] x0 (f_J0_isLatin1_aae02 N z o x0) := by
  unfold f_J0_isLatin1_aae02
  refine G_getsi 0 (fun _ => rfl) gw_362 rfl dJ0_isLatin1_aae02_0 ?_
  refine G_if_eq (tgt := 17) dJ0_isLatin1_aae02_3 (by decide) (fun _ => ?_) (fun _ => ?_)
  · refine G_iconst (v := (0 : Int32)) dJ0_isLatin1_aae02_17 rfl ?_
    exact G_ret (Or.inl rfl) dJ0_isLatin1_aae02_18 rfl
  · refine G_aload_n 0 dJ0_isLatin1_aae02_6 rfl rfl ?_
    refine G_gsi gw_1079 K_0 dJ0_isLatin1_aae02_7 (fun i1 => ?_)
    refine G_if_ne (tgt := 17) dJ0_isLatin1_aae02_10 (by decide) (fun _ => ?_) (fun _ => ?_)
    · refine G_iconst (v := (1 : Int32)) dJ0_isLatin1_aae02_13 rfl ?_
      refine G_goto (tgt := 18) dJ0_isLatin1_aae02_14 (by decide) ?_
      exact G_ret (Or.inr rfl) dJ0_isLatin1_aae02_18 rfl
    · refine G_iconst (v := (0 : Int32)) dJ0_isLatin1_aae02_17 rfl ?_
      exact G_ret (Or.inl rfl) dJ0_isLatin1_aae02_18 rfl

theorem yn_J0_isLatin1_aae02 : Yn yJ0_isLatin1_aae02 0 := ⟨by decide +kernel, by decide +kernel, by decide +kernel⟩
theorem ct_J0_isLatin1_aae02 (l : Launch) (N : Nat) (z : Nat → Nat) (o : Nat) : Ct l z yJ0_isLatin1_aae02 cJ0_isLatin1_aae02 1 (some .boolean) 1 enI [.ref o] (f_J0_isLatin1_aae02 N z o) :=
  Ct_z (fun x => G_lv0 (by simp only [lva_n, lva_i, lva_o, lva_r, lva_j]) (g_J0_isLatin1_aae02 l N z o x)) (by decide +kernel) (by simp only [lgl_n, lgl_i, lgl_o, lgl_r, lgl_j]; decide)

theorem dJ3_checkIndex_8e157_0 : decode cJ3_checkIndex_8e157 0 = .ok (.iload_n 0, 1) := by decide +kernel
theorem dJ3_checkIndex_8e157_1 : decode cJ3_checkIndex_8e157 1 = .ok (.ifCond .lt 8, 3) := by decide +kernel
theorem dJ3_checkIndex_8e157_4 : decode cJ3_checkIndex_8e157 4 = .ok (.iload_n 0, 1) := by decide +kernel
theorem dJ3_checkIndex_8e157_5 : decode cJ3_checkIndex_8e157 5 = .ok (.iload_n 1, 1) := by decide +kernel
theorem dJ3_checkIndex_8e157_6 : decode cJ3_checkIndex_8e157 6 = .ok (.if_icmp .lt 10, 3) := by decide +kernel
theorem dJ3_checkIndex_8e157_9 : decode cJ3_checkIndex_8e157 9 = .ok (.aload_n 2, 1) := by decide +kernel
theorem dJ3_checkIndex_8e157_10 : decode cJ3_checkIndex_8e157 10 = .ok (.iload_n 0, 1) := by decide +kernel
theorem dJ3_checkIndex_8e157_11 : decode cJ3_checkIndex_8e157 11 = .ok (.iload_n 1, 1) := by decide +kernel
theorem dJ3_checkIndex_8e157_12 : decode cJ3_checkIndex_8e157 12 = .ok (.invokestatic 95, 3) := by decide +kernel
theorem dJ3_checkIndex_8e157_16 : decode cJ3_checkIndex_8e157 16 = .ok (.iload_n 0, 1) := by decide +kernel
theorem dJ3_checkIndex_8e157_17 : decode cJ3_checkIndex_8e157 17 = .ok (.ireturn, 1) := by decide +kernel
abbrev m_J3_checkIndex_8e157 : Mt := (cJ3_checkIndex_8e157, RJ3, "checkIndex", 3, .ireturn, 1)
def f_J3_checkIndex_8e157_b9 (N : Nat) (z : Nat → Nat) (v0 : Int32) (v1 : Int32) (v2 : Option Nat) (x0 : Hp) : Option (Int32 × Hp) :=
  none
def f_J3_checkIndex_8e157 (N : Nat) (z : Nat → Nat) (v0 : Int32) (v1 : Int32) (v2 : Option Nat) (x0 : Hp) : Option (Int32 × Hp) :=
  if v0 < 0 then (f_J3_checkIndex_8e157_b9 N z v0 v1 v2 x0) else (if v0 < v1 then (some (v0, x0)) else (f_J3_checkIndex_8e157_b9 N z v0 v1 v2 x0))
set_option maxRecDepth 100000 in
set_option maxHeartbeats 4000000 in
theorem g_J3_checkIndex_8e157_b9 (l : Launch) (N : Nat) (z : Nat → Nat) (v0 : Int32) (v1 : Int32) (v2 : Option Nat) (x0 : Hp) : G l z m_J3_checkIndex_8e157 okT enI 9 [(0, .int v0), (1, .int v1), (2, va_rf v2)] [] x0 (f_J3_checkIndex_8e157_b9 N z v0 v1 v2 x0) := by
  unfold f_J3_checkIndex_8e157_b9
  refine G_aload_n 2 dJ3_checkIndex_8e157_9 rfl rfl ?_
  refine G_iload_n 0 dJ3_checkIndex_8e157_10 rfl rfl ?_
  refine G_iload_n 1 dJ3_checkIndex_8e157_11 rfl rfl ?_
  exact G_none

set_option maxRecDepth 100000 in
set_option maxHeartbeats 4000000 in
theorem g_J3_checkIndex_8e157 (l : Launch) (N : Nat) (z : Nat → Nat) (v0 : Int32) (v1 : Int32) (v2 : Option Nat) (x0 : Hp) : G l z m_J3_checkIndex_8e157 okT enI 0 [(0, .int v0), (1, .int v1), (2, va_rf v2)] [] x0 (f_J3_checkIndex_8e157 N z v0 v1 v2 x0) := by
  unfold f_J3_checkIndex_8e157
  refine G_iload_n 0 dJ3_checkIndex_8e157_0 rfl rfl ?_
  refine G_if_lt (tgt := 9) dJ3_checkIndex_8e157_1 (by decide) (fun _ => ?_) (fun _ => ?_)
  · refine G_lv [0, 1, 2] rfl ?_
    exact g_J3_checkIndex_8e157_b9 l N z v0 v1 v2 x0
  · refine G_iload_n 0 dJ3_checkIndex_8e157_4 rfl rfl ?_
    refine G_iload_n 1 dJ3_checkIndex_8e157_5 rfl rfl ?_
    refine G_icmp_lt (tgt := 16) dJ3_checkIndex_8e157_6 (by decide) (fun _ => ?_) (fun _ => ?_)
    · refine G_iload_n 0 dJ3_checkIndex_8e157_16 rfl rfl ?_
      exact G_ret trivial dJ3_checkIndex_8e157_17 rfl
    · refine G_lv [0, 1, 2] rfl ?_
      exact g_J3_checkIndex_8e157_b9 l N z v0 v1 v2 x0

theorem yn_J3_checkIndex_8e157 : Yn yJ3_checkIndex_8e157 3 := ⟨by decide +kernel, by decide +kernel, by decide +kernel⟩
theorem ct_J3_checkIndex_8e157 (l : Launch) (N : Nat) (z : Nat → Nat) (v0 : Int32) (v1 : Int32) (v2 : Option Nat) : Ct l z yJ3_checkIndex_8e157 cJ3_checkIndex_8e157 3 (some .int) 1 enI [.int v0, .int v1, va_rf v2] (f_J3_checkIndex_8e157 N z v0 v1 v2) :=
  Ct_i (fun x => G_lv0 (by simp only [lva_n, lva_i, lva_o, lva_r, lva_j]) (g_J3_checkIndex_8e157 l N z v0 v1 v2 x)) (by decide +kernel) (by simp only [lgl_n, lgl_i, lgl_o, lgl_r, lgl_j]; decide)

theorem dJ0_checkIndex_df160_0 : decode cJ0_checkIndex_df160 0 = .ok (.iload_n 0, 1) := by decide +kernel
theorem dJ0_checkIndex_df160_1 : decode cJ0_checkIndex_df160 1 = .ok (.iload_n 1, 1) := by decide +kernel
theorem dJ0_checkIndex_df160_2 : decode cJ0_checkIndex_df160 2 = .ok (.getstatic 1053, 3) := by decide +kernel
theorem dJ0_checkIndex_df160_5 : decode cJ0_checkIndex_df160 5 = .ok (.invokestatic 1059, 3) := by decide +kernel
theorem dJ0_checkIndex_df160_8 : decode cJ0_checkIndex_df160 8 = .ok (.pop, 1) := by decide +kernel
theorem dJ0_checkIndex_df160_9 : decode cJ0_checkIndex_df160 9 = .ok (.return_, 1) := by decide +kernel
abbrev m_J0_checkIndex_df160 : Mt := (cJ0_checkIndex_df160, RJ0, "checkIndex", 2, .return_, 2)
def f_J0_checkIndex_df160 (N : Nat) (z : Nat → Nat) (v0 : Int32) (v1 : Int32) (x0 : Hp) : Option (Unit × Hp) :=
  bnd (f_J3_checkIndex_8e157 N z v0 v1 (zfm z) x0) fun i2 x1 =>
  some ((), x1)
set_option maxRecDepth 100000 in
set_option maxHeartbeats 4000000 in
theorem g_J0_checkIndex_df160 (l : Launch) (N : Nat) (z : Nat → Nat) (v0 : Int32) (v1 : Int32) (x0 : Hp) : G l z m_J0_checkIndex_df160 okT enV 0 [(0, .int v0), (1, .int v1)] [] x0 (f_J0_checkIndex_df160 N z v0 v1 x0) := by
  unfold f_J0_checkIndex_df160
  refine G_iload_n 0 dJ0_checkIndex_df160_0 rfl rfl ?_
  refine G_iload_n 1 dJ0_checkIndex_df160_1 rfl rfl ?_
  refine G_getsr (v := zfm z) 3 rfl gw_378 rfl dJ0_checkIndex_df160_2 ?_
  refine G_callS (av := [.int v0, .int v1, va_rf (zfm z)]) [] (ct_J3_checkIndex_8e157 l N z v0 v1 (zfm z)) yn_J3_checkIndex_8e157 (Nat.le_of_ble_eq_true rfl) (by decide) gw_380 gw_381 gw_52 gw_382 rfl (by decide) dJ0_checkIndex_df160_5 (fun i2 x1 => ?_)
  refine G_pop dJ0_checkIndex_df160_8 rfl ?_
  exact G_ret trivial dJ0_checkIndex_df160_9 rfl

theorem yn_J0_checkIndex_df160 : Yn yJ0_checkIndex_df160 2 := ⟨by decide +kernel, by decide +kernel, by decide +kernel⟩
theorem ct_J0_checkIndex_df160 (l : Launch) (N : Nat) (z : Nat → Nat) (v0 : Int32) (v1 : Int32) : Ct l z yJ0_checkIndex_df160 cJ0_checkIndex_df160 2 none 2 enV [.int v0, .int v1] (f_J0_checkIndex_df160 N z v0 v1) :=
  Ct_v (fun x => G_lv0 (by simp only [lva_n, lva_i, lva_o, lva_r, lva_j]) (g_J0_checkIndex_df160 l N z v0 v1 x)) (by decide +kernel) (by simp only [lgl_n, lgl_i, lgl_o, lgl_r, lgl_j]; decide)

theorem dJ1_charAt_3b067_0 : decode cJ1_charAt_3b067 0 = .ok (.iload_n 1, 1) := by decide +kernel
theorem dJ1_charAt_3b067_1 : decode cJ1_charAt_3b067 1 = .ok (.aload_n 0, 1) := by decide +kernel
theorem dJ1_charAt_3b067_2 : decode cJ1_charAt_3b067 2 = .ok (.arraylength, 1) := by decide +kernel
theorem dJ1_charAt_3b067_3 : decode cJ1_charAt_3b067 3 = .ok (.invokestatic 9, 3) := by decide +kernel
theorem dJ1_charAt_3b067_6 : decode cJ1_charAt_3b067 6 = .ok (.aload_n 0, 1) := by decide +kernel
theorem dJ1_charAt_3b067_7 : decode cJ1_charAt_3b067 7 = .ok (.iload_n 1, 1) := by decide +kernel
theorem dJ1_charAt_3b067_8 : decode cJ1_charAt_3b067 8 = .ok (.baload, 1) := by decide +kernel
theorem dJ1_charAt_3b067_9 : decode cJ1_charAt_3b067 9 = .ok (.sipush 255, 3) := by decide +kernel
theorem dJ1_charAt_3b067_12 : decode cJ1_charAt_3b067 12 = .ok (.iand, 1) := by decide +kernel
theorem dJ1_charAt_3b067_13 : decode cJ1_charAt_3b067 13 = .ok (.i2c, 1) := by decide +kernel
theorem dJ1_charAt_3b067_14 : decode cJ1_charAt_3b067 14 = .ok (.ireturn, 1) := by decide +kernel
abbrev m_J1_charAt_3b067 : Mt := (cJ1_charAt_3b067, RJ1, "charAt", 2, .ireturn, 3)
def f_J1_charAt_3b067 (N : Nat) (z : Nat → Nat) (v0 : Option Nat) (v1 : Int32) (x0 : Hp) : Option (Int32 × Hp) :=
  alenB v0 x0 fun i1 =>
  bnd (f_J0_checkIndex_df160 N z v1 i1 x0) fun _ x2 =>
  aldb v0 x2 v1 fun i3 =>
  chr (((i3 &&& (255 : Int32)).toUInt32 % 65536).toInt32) (some (((i3 &&& (255 : Int32)).toUInt32 % 65536).toInt32, x2))
set_option maxRecDepth 100000 in
set_option maxHeartbeats 4000000 in
theorem g_J1_charAt_3b067 (l : Launch) (N : Nat) (z : Nat → Nat) (v0 : Option Nat) (v1 : Int32) (x0 : Hp) : G l z m_J1_charAt_3b067 okC enI 0 [(0, va_rf v0), (1, .int v1)] [] x0 (f_J1_charAt_3b067 N z v0 v1 x0) := by
  unfold f_J1_charAt_3b067
  refine G_iload_n 1 dJ1_charAt_3b067_0 rfl rfl ?_
  refine G_aload_n 0 dJ1_charAt_3b067_1 rfl rfl ?_
  refine G_alenB dJ1_charAt_3b067_2 (fun i1 => ?_)
  refine G_callS (av := [.int v1, .int i1]) [] (ct_J0_checkIndex_df160 l N z v1 i1) yn_J0_checkIndex_df160 (Nat.le_of_ble_eq_true rfl) (by decide) gw_375 gw_376 gw_50 gw_377 rfl (by decide) dJ1_charAt_3b067_3 (fun _ x2 => ?_)
  refine G_aload_n 0 dJ1_charAt_3b067_6 rfl rfl ?_
  refine G_iload_n 1 dJ1_charAt_3b067_7 rfl rfl ?_
  refine G_aldb dJ1_charAt_3b067_8 (fun i3 => ?_)
  refine G_sipush (v := (255 : Int32)) dJ1_charAt_3b067_9 (by decide) ?_
  refine G_iand dJ1_charAt_3b067_12 ?_
  refine G_i2c dJ1_charAt_3b067_13 ?_
  exact G_chr (fun h => G_ret h dJ1_charAt_3b067_14 rfl)

theorem yn_J1_charAt_3b067 : Yn yJ1_charAt_3b067 2 := ⟨by decide +kernel, by decide +kernel, by decide +kernel⟩
theorem ct_J1_charAt_3b067 (l : Launch) (N : Nat) (z : Nat → Nat) (v0 : Option Nat) (v1 : Int32) : Ct l z yJ1_charAt_3b067 cJ1_charAt_3b067 2 (some .char) 3 enI [va_rf v0, .int v1] (f_J1_charAt_3b067 N z v0 v1) :=
  Ct_c (fun x => G_lv0 (by simp only [lva_n, lva_i, lva_o, lva_r, lva_j]) (g_J1_charAt_3b067 l N z v0 v1 x)) (by decide +kernel) (by simp only [lgl_n, lgl_i, lgl_o, lgl_r, lgl_j]; decide)

theorem dJ0_charAt_5068e_0 : decode cJ0_charAt_5068e 0 = .ok (.aload_n 0, 1) := by decide +kernel
theorem dJ0_charAt_5068e_1 : decode cJ0_charAt_5068e 1 = .ok (.invokevirtual 492, 3) := by decide +kernel
theorem dJ0_charAt_5068e_4 : decode cJ0_charAt_5068e 4 = .ok (.ifCond .eq 12, 3) := by decide +kernel
theorem dJ0_charAt_5068e_7 : decode cJ0_charAt_5068e 7 = .ok (.aload_n 0, 1) := by decide +kernel
theorem dJ0_charAt_5068e_8 : decode cJ0_charAt_5068e 8 = .ok (.getfield 9, 3) := by decide +kernel
theorem dJ0_charAt_5068e_11 : decode cJ0_charAt_5068e 11 = .ok (.iload_n 1, 1) := by decide +kernel
theorem dJ0_charAt_5068e_12 : decode cJ0_charAt_5068e 12 = .ok (.invokestatic 495, 3) := by decide +kernel
theorem dJ0_charAt_5068e_15 : decode cJ0_charAt_5068e 15 = .ok (.ireturn, 1) := by decide +kernel
theorem dJ0_charAt_5068e_16 : decode cJ0_charAt_5068e 16 = .ok (.aload_n 0, 1) := by decide +kernel
theorem dJ0_charAt_5068e_17 : decode cJ0_charAt_5068e 17 = .ok (.getfield 9, 3) := by decide +kernel
theorem dJ0_charAt_5068e_20 : decode cJ0_charAt_5068e 20 = .ok (.iload_n 1, 1) := by decide +kernel
theorem dJ0_charAt_5068e_21 : decode cJ0_charAt_5068e 21 = .ok (.invokestatic 498, 3) := by decide +kernel
abbrev m_J0_charAt_5068e : Mt := (cJ0_charAt_5068e, RJ0, "charAt", 2, .ireturn, 4)
def f_J0_charAt_5068e (N : Nat) (z : Nat → Nat) (o : Nat) (v1 : Int32) (x0 : Hp) : Option (Int32 × Hp) :=
  objS (some o) x0 fun q3 => bnd (f_J0_isLatin1_aae02 N z q3 x0) fun i2 x1 =>
  if i2 = 0 then (gsr (some o) x1 fun r4 =>
  none) else (gsr (some o) x1 fun r5 =>
  bnd (f_J1_charAt_3b067 N z r5 v1 x1) fun i7 x6 =>
  chr i7 (some (i7, x6)))
set_option maxRecDepth 100000 in
set_option maxHeartbeats 4000000 in
theorem g_J0_charAt_5068e (l : Launch) (N : Nat) (z : Nat → Nat) (o : Nat) (v1 : Int32) (x0 : Hp) : G l z m_J0_charAt_5068e okC enI 0 [(0, va_rf (some o)), (1, .int v1)] [] x0 (f_J0_charAt_5068e N z o v1 x0) := by
  unfold f_J0_charAt_5068e
  refine G_aload_n 0 dJ0_charAt_5068e_0 rfl rfl ?_
  refine G_callVS (av := []) [] (fun q3 => ct_J0_isLatin1_aae02 l N z q3) K_0 yn_J0_isLatin1_aae02 (Nat.le_of_ble_eq_true rfl) (by decide) gw_368 gw_369 gw_370 gw_50 gw_371 rfl (by decide) dJ0_charAt_5068e_1 (fun i2 x1 => ?_)
  refine G_if_eq (tgt := 16) dJ0_charAt_5068e_4 (by decide) (fun _ => ?_) (fun _ => ?_)
  · refine G_aload_n 0 dJ0_charAt_5068e_16 rfl rfl ?_
    refine G_gsr gw_1078 K_0 dJ0_charAt_5068e_17 (fun r4 => ?_)
    refine G_iload_n 1 dJ0_charAt_5068e_20 rfl rfl ?_
    exact G_none
  · refine G_aload_n 0 dJ0_charAt_5068e_7 rfl rfl ?_
    refine G_gsr gw_1078 K_0 dJ0_charAt_5068e_8 (fun r5 => ?_)
    refine G_iload_n 1 dJ0_charAt_5068e_11 rfl rfl ?_
    refine G_callS (av := [va_rf r5, .int v1]) [] (ct_J1_charAt_3b067 l N z r5 v1) yn_J1_charAt_3b067 (Nat.le_of_ble_eq_true rfl) (by decide) gw_372 gw_373 gw_51 gw_374 rfl (by decide) dJ0_charAt_5068e_12 (fun i7 x6 => ?_)
    exact G_chr (fun h => G_ret h dJ0_charAt_5068e_15 rfl)

theorem yn_J0_charAt_5068e : Yn yJ0_charAt_5068e 1 := ⟨by decide +kernel, by decide +kernel, by decide +kernel⟩
theorem ct_J0_charAt_5068e (l : Launch) (N : Nat) (z : Nat → Nat) (o : Nat) (v1 : Int32) : Ct l z yJ0_charAt_5068e cJ0_charAt_5068e 2 (some .char) 4 enI [.ref o, .int v1] (f_J0_charAt_5068e N z o v1) :=
  Ct_c (fun x => G_lv0 (by simp only [lva_n, lva_i, lva_o, lva_r, lva_j]) (g_J0_charAt_5068e l N z o v1 x)) (by decide +kernel) (by simp only [lgl_n, lgl_i, lgl_o, lgl_r, lgl_j]; decide)

theorem dJ4_init_da8c8_0 : decode cJ4_init_da8c8 0 = .ok (.aload_n 0, 1) := by decide +kernel
theorem dJ4_init_da8c8_1 : decode cJ4_init_da8c8 1 = .ok (.bipush 16, 2) := by decide +kernel
theorem dJ4_init_da8c8_3 : decode cJ4_init_da8c8 3 = .ok (.invokespecial 1, 3) := by decide +kernel
theorem dJ4_init_da8c8_6 : decode cJ4_init_da8c8 6 = .ok (.return_, 1) := by decide +kernel
abbrev m_J4_init_da8c8 : Mt := (cJ4_init_da8c8, RJ4, "<init>", 1, .return_, 3)
def f_J4_init_da8c8 (N : Nat) (z : Nat → Nat) (o : Nat) (x0 : Hp) : Option (Unit × Hp) :=
  obj (some o) x0 2 fun q2 => bnd (f_J5_init_d00df N z q2 (16 : Int32) x0) fun _ x1 =>
  some ((), x1)
set_option maxRecDepth 100000 in
set_option maxHeartbeats 4000000 in
theorem g_J4_init_da8c8 (l : Launch) (N : Nat) (z : Nat → Nat) (o : Nat) (x0 : Hp) : G l z m_J4_init_da8c8 okT enV 0 [(0, va_rf (some o))] [] x0 (f_J4_init_da8c8 N z o x0) := by
  unfold f_J4_init_da8c8
  refine G_aload_n 0 dJ4_init_da8c8_0 rfl rfl ?_
  refine G_bipush (v := (16 : Int32)) dJ4_init_da8c8_1 (by decide) ?_
  refine G_callI (av := [.int (16 : Int32)]) [] (fun q2 => ct_J5_init_d00df l N z q2 (16 : Int32)) rfl yn_J5_init_d00df (Nat.le_of_ble_eq_true rfl) (by decide) gw_859 gw_860 gw_56 gw_861 rfl (by decide) dJ4_init_da8c8_3 (fun x1 => ?_)
  exact G_ret trivial dJ4_init_da8c8_6 rfl

theorem yn_J4_init_da8c8 : Yn yJ4_init_da8c8 0 := ⟨by decide +kernel, by decide +kernel, by decide +kernel⟩
theorem ct_J4_init_da8c8 (l : Launch) (N : Nat) (z : Nat → Nat) (o : Nat) : Ct l z yJ4_init_da8c8 cJ4_init_da8c8 1 none 3 enV [.ref o] (f_J4_init_da8c8 N z o) :=
  Ct_v (fun x => G_lv0 (by simp only [lva_n, lva_i, lva_o, lva_r, lva_j]) (g_J4_init_da8c8 l N z o x)) (by decide +kernel) (by simp only [lgl_n, lgl_i, lgl_o, lgl_r, lgl_j]; decide)

theorem dJ4_append_bf812_0 : decode cJ4_append_bf812 0 = .ok (.aload_n 0, 1) := by decide +kernel
theorem dJ4_append_bf812_1 : decode cJ4_append_bf812 1 = .ok (.iload_n 1, 1) := by decide +kernel
theorem dJ4_append_bf812_2 : decode cJ4_append_bf812 2 = .ok (.invokespecial 53, 3) := by decide +kernel
theorem dJ4_append_bf812_5 : decode cJ4_append_bf812 5 = .ok (.pop, 1) := by decide +kernel
theorem dJ4_append_bf812_6 : decode cJ4_append_bf812 6 = .ok (.aload_n 0, 1) := by decide +kernel
theorem dJ4_append_bf812_7 : decode cJ4_append_bf812 7 = .ok (.areturn, 1) := by decide +kernel
abbrev m_J4_append_bf812 : Mt := (cJ4_append_bf812, RJ4, "append", 2, .areturn, 6)
def f_J4_append_bf812 (N : Nat) (z : Nat → Nat) (o : Nat) (v1 : Int32) (x0 : Hp) : Option (Option Nat × Hp) :=
  obj (some o) x0 2 fun q3 => bnd (f_J5_append_c97b9 N z q3 v1 x0) fun r2 x1 =>
  some (some o, x1)
set_option maxRecDepth 100000 in
set_option maxHeartbeats 4000000 in
theorem g_J4_append_bf812 (l : Launch) (N : Nat) (z : Nat → Nat) (o : Nat) (v1 : Int32) (x0 : Hp) : G l z m_J4_append_bf812 okT enR 0 [(0, va_rf (some o)), (1, .int v1)] [] x0 (f_J4_append_bf812 N z o v1 x0) := by
  unfold f_J4_append_bf812
  refine G_aload_n 0 dJ4_append_bf812_0 rfl rfl ?_
  refine G_iload_n 1 dJ4_append_bf812_1 rfl rfl ?_
  refine G_callSU (C := RJ4) (av := [.int v1]) [] (fun q3 => ct_J5_append_c97b9 l N z q3 v1) K_1 rfl ⟨by decide +kernel, yn_J5_append_c97b9.2.2⟩ (Nat.le_of_ble_eq_true rfl) (by decide) gw_986 gw_1508 gw_883 gw_987 gw_56 gw_988 rfl (by decide) dJ4_append_bf812_2 (fun r2 x1 => ?_)
  refine G_pop dJ4_append_bf812_5 (rf_cat _) ?_
  refine G_aload_n 0 dJ4_append_bf812_6 rfl rfl ?_
  exact G_ret trivial dJ4_append_bf812_7 rfl

theorem yn_J4_append_bf812 : Yn yJ4_append_bf812 1 := ⟨by decide +kernel, by decide +kernel, by decide +kernel⟩
theorem ct_J4_append_bf812 (l : Launch) (N : Nat) (z : Nat → Nat) (o : Nat) (v1 : Int32) : Ct l z yJ4_append_bf812 cJ4_append_bf812 2 (some (.object "java/lang/StringBuilder")) 6 enR [.ref o, .int v1] (f_J4_append_bf812 N z o v1) :=
  Ct_r (fun x => G_lv0 (by simp only [lva_n, lva_i, lva_o, lva_r, lva_j]) (g_J4_append_bf812 l N z o v1 x)) (by decide +kernel) (by simp only [lgl_n, lgl_i, lgl_o, lgl_r, lgl_j]; decide)

theorem dJ4_append_15ec4_0 : decode cJ4_append_15ec4 0 = .ok (.aload_n 0, 1) := by decide +kernel
theorem dJ4_append_15ec4_1 : decode cJ4_append_15ec4 1 = .ok (.aload_n 1, 1) := by decide +kernel
theorem dJ4_append_15ec4_2 : decode cJ4_append_15ec4 2 = .ok (.invokespecial 29, 3) := by decide +kernel
theorem dJ4_append_15ec4_5 : decode cJ4_append_15ec4 5 = .ok (.pop, 1) := by decide +kernel
theorem dJ4_append_15ec4_6 : decode cJ4_append_15ec4 6 = .ok (.aload_n 0, 1) := by decide +kernel
theorem dJ4_append_15ec4_7 : decode cJ4_append_15ec4 7 = .ok (.areturn, 1) := by decide +kernel
abbrev m_J4_append_15ec4 : Mt := (cJ4_append_15ec4, RJ4, "append", 2, .areturn, 6)
def f_J4_append_15ec4 (N : Nat) (z : Nat → Nat) (o : Nat) (v1 : Option Nat) (x0 : Hp) : Option (Option Nat × Hp) :=
  obj (some o) x0 2 fun q3 => bnd (f_J5_append_cf1ce N z q3 v1 x0) fun r2 x1 =>
  some (some o, x1)
set_option maxRecDepth 100000 in
set_option maxHeartbeats 4000000 in
theorem g_J4_append_15ec4 (l : Launch) (N : Nat) (z : Nat → Nat) (o : Nat) (v1 : Option Nat) (x0 : Hp) : G l z m_J4_append_15ec4 okT enR 0 [(0, va_rf (some o)), (1, va_rf v1)] [] x0 (f_J4_append_15ec4 N z o v1 x0) := by
  unfold f_J4_append_15ec4
  refine G_aload_n 0 dJ4_append_15ec4_0 rfl rfl ?_
  refine G_aload_n 1 dJ4_append_15ec4_1 rfl rfl ?_
  refine G_callSU (C := RJ4) (av := [va_rf v1]) [] (fun q3 => ct_J5_append_cf1ce l N z q3 v1) K_1 rfl ⟨by decide +kernel, yn_J5_append_cf1ce.2.2⟩ (Nat.le_of_ble_eq_true rfl) (by decide) gw_889 gw_1501 gw_883 gw_890 gw_56 gw_891 rfl (by decide) dJ4_append_15ec4_2 (fun r2 x1 => ?_)
  refine G_pop dJ4_append_15ec4_5 (rf_cat _) ?_
  refine G_aload_n 0 dJ4_append_15ec4_6 rfl rfl ?_
  exact G_ret trivial dJ4_append_15ec4_7 rfl

theorem yn_J4_append_15ec4 : Yn yJ4_append_15ec4 1 := ⟨by decide +kernel, by decide +kernel, by decide +kernel⟩
theorem ct_J4_append_15ec4 (l : Launch) (N : Nat) (z : Nat → Nat) (o : Nat) (v1 : Option Nat) : Ct l z yJ4_append_15ec4 cJ4_append_15ec4 2 (some (.object "java/lang/StringBuilder")) 6 enR [.ref o, va_rf v1] (f_J4_append_15ec4 N z o v1) :=
  Ct_r (fun x => G_lv0 (by simp only [lva_n, lva_i, lva_o, lva_r, lva_j]) (g_J4_append_15ec4 l N z o v1 x)) (by decide +kernel) (by simp only [lgl_n, lgl_i, lgl_o, lgl_r, lgl_j]; decide)

theorem dJ4_toString_0e30d_0 : decode cJ4_toString_0e30d 0 = .ok (.new 18, 3) := by decide +kernel
theorem dJ4_toString_0e30d_3 : decode cJ4_toString_0e30d 3 = .ok (.dup, 1) := by decide +kernel
theorem dJ4_toString_0e30d_4 : decode cJ4_toString_0e30d 4 = .ok (.aload_n 0, 1) := by decide +kernel
theorem dJ4_toString_0e30d_5 : decode cJ4_toString_0e30d 5 = .ok (.invokespecial 137, 3) := by decide +kernel
theorem dJ4_toString_0e30d_8 : decode cJ4_toString_0e30d 8 = .ok (.areturn, 1) := by decide +kernel
abbrev m_J4_toString_0e30d : Mt := (cJ4_toString_0e30d, RJ4, "toString", 1, .areturn, 6)
def f_J4_toString_0e30d (N : Nat) (z : Nat → Nat) (o : Nat) (x0 : Hp) : Option (Option Nat × Hp) :=
  newo x0 1 4 fun r1 x2 =>
  obj r1 x2 1 fun q4 => bnd (f_J0_init_81219 N z q4 (some o) x2) fun _ x3 =>
  some (r1, x3)
set_option maxRecDepth 100000 in
set_option maxHeartbeats 4000000 in
theorem g_J4_toString_0e30d (l : Launch) (N : Nat) (z : Nat → Nat) (o : Nat) (x0 : Hp) : G l z m_J4_toString_0e30d okT enR 0 [(0, va_rf (some o))] [] x0 (f_J4_toString_0e30d N z o x0) := by
  unfold f_J4_toString_0e30d
  refine G_new K_0 rfl gw_1036 gw_1037 gw_50 dJ4_toString_0e30d_0 (fun r1 x2 => ?_)
  refine G_dup dJ4_toString_0e30d_3 (rf_cat _) ?_
  refine G_aload_n 0 dJ4_toString_0e30d_4 rfl rfl ?_
  refine G_callI (av := [va_rf (some o)]) [va_rf r1] (fun q4 => ct_J0_init_81219 l N z q4 (some o)) rfl yn_J0_init_81219 (Nat.le_of_ble_eq_true rfl) (by decide) gw_1038 gw_1039 gw_50 gw_1040 rfl (by simp only [hw_n, hw_i, hw_r, hw_j, hw_d]; decide) dJ4_toString_0e30d_5 (fun x3 => ?_)
  exact G_ret trivial dJ4_toString_0e30d_8 rfl

theorem yn_J4_toString_0e30d : Yn yJ4_toString_0e30d 0 := ⟨by decide +kernel, by decide +kernel, by decide +kernel⟩
theorem ct_J4_toString_0e30d (l : Launch) (N : Nat) (z : Nat → Nat) (o : Nat) : Ct l z yJ4_toString_0e30d cJ4_toString_0e30d 1 (some (.object "java/lang/String")) 6 enR [.ref o] (f_J4_toString_0e30d N z o) :=
  Ct_r (fun x => G_lv0 (by simp only [lva_n, lva_i, lva_o, lva_r, lva_j]) (g_J4_toString_0e30d l N z o x)) (by decide +kernel) (by simp only [lgl_n, lgl_i, lgl_o, lgl_r, lgl_j]; decide)
