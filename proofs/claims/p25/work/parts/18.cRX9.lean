theorem dX9_isDigit_0 : decode cX9_isDigit 0 = .ok (.iload_n 0, 1) := by decide +kernel
theorem dX9_isDigit_1 : decode cX9_isDigit 1 = .ok (.bipush 48, 2) := by decide +kernel
theorem dX9_isDigit_3 : decode cX9_isDigit 3 = .ok (.if_icmp .lt 13, 3) := by decide +kernel
theorem dX9_isDigit_6 : decode cX9_isDigit 6 = .ok (.iload_n 0, 1) := by decide +kernel
theorem dX9_isDigit_7 : decode cX9_isDigit 7 = .ok (.bipush 57, 2) := by decide +kernel
theorem dX9_isDigit_9 : decode cX9_isDigit 9 = .ok (.if_icmp .gt 7, 3) := by decide +kernel
theorem dX9_isDigit_12 : decode cX9_isDigit 12 = .ok (.iconst 1, 1) := by decide +kernel
theorem dX9_isDigit_13 : decode cX9_isDigit 13 = .ok (.goto 4, 3) := by decide +kernel
theorem dX9_isDigit_16 : decode cX9_isDigit 16 = .ok (.iconst 0, 1) := by decide +kernel
theorem dX9_isDigit_17 : decode cX9_isDigit 17 = .ok (.ireturn, 1) := by decide +kernel
abbrev m_X9_isDigit : Mt := (cX9_isDigit, RX9, "isDigit", 1, .ireturn, 1)
def f_X9_isDigit (N : Nat) (z : Nat → Nat) (v0 : Int32) (x0 : Hp) : Option (Int32 × Hp) :=
  if v0 < (48 : Int32) then (some ((0 : Int32), x0)) else (if (57 : Int32) < v0 then (some ((0 : Int32), x0)) else (some ((1 : Int32), x0)))
set_option maxRecDepth 100000 in
set_option maxHeartbeats 4000000 in
theorem g_X9_isDigit (l : Launch) (N : Nat) (z : Nat → Nat) (v0 : Int32) (x0 : Hp) : G l z m_X9_isDigit okZ enI 0 [(0, .int v0)] [] x0 (f_X9_isDigit N z v0 x0) := by
  unfold f_X9_isDigit
  refine G_iload_n 0 dX9_isDigit_0 rfl rfl ?_
  refine G_bipush (v := (48 : Int32)) dX9_isDigit_1 (by decide) ?_
  refine G_icmp_lt (tgt := 16) dX9_isDigit_3 (by decide) (fun _ => ?_) (fun _ => ?_)
  · refine G_iconst (v := (0 : Int32)) dX9_isDigit_16 rfl ?_
    exact G_ret (Or.inl rfl) dX9_isDigit_17 rfl
  · refine G_iload_n 0 dX9_isDigit_6 rfl rfl ?_
    refine G_bipush (v := (57 : Int32)) dX9_isDigit_7 (by decide) ?_
    refine G_icmp_gt (tgt := 16) dX9_isDigit_9 (by decide) (fun _ => ?_) (fun _ => ?_)
    · refine G_iconst (v := (0 : Int32)) dX9_isDigit_16 rfl ?_
      exact G_ret (Or.inl rfl) dX9_isDigit_17 rfl
    · refine G_iconst (v := (1 : Int32)) dX9_isDigit_12 rfl ?_
      refine G_goto (tgt := 17) dX9_isDigit_13 (by decide) ?_
      exact G_ret (Or.inr rfl) dX9_isDigit_17 rfl

theorem yn_X9_isDigit : Yn yX9_isDigit 1 := ⟨by decide +kernel, by decide +kernel, by decide +kernel⟩
theorem ct_X9_isDigit (l : Launch) (N : Nat) (z : Nat → Nat) (v0 : Int32) : Ct l z yX9_isDigit cX9_isDigit 1 (some .boolean) 1 enI [.int v0] (f_X9_isDigit N z v0) :=
  Ct_z (fun x => G_lv0 (by simp only [lva_n, lva_i, lva_o, lva_r, lva_j]) (g_X9_isDigit l N z v0 x)) (by decide +kernel) (by simp only [lgl_n, lgl_i, lgl_o, lgl_r, lgl_j]; decide)

theorem dX9_longer_0 : decode cX9_longer 0 = .ok (.lload_n 0, 1) := by decide +kernel
theorem dX9_longer_1 : decode cX9_longer 1 = .ok (.ldc2_w 92, 3) := by decide +kernel
theorem dX9_longer_4 : decode cX9_longer 4 = .ok (.lmul, 1) := by decide +kernel
theorem dX9_longer_5 : decode cX9_longer 5 = .ok (.iload_n 2, 1) := by decide +kernel
theorem dX9_longer_6 : decode cX9_longer 6 = .ok (.invokestatic 74, 3) := by decide +kernel
theorem dX9_longer_9 : decode cX9_longer 9 = .ok (.ifCond .eq 12, 3) := by decide +kernel
theorem dX9_longer_12 : decode cX9_longer 12 = .ok (.iload_n 2, 1) := by decide +kernel
theorem dX9_longer_13 : decode cX9_longer 13 = .ok (.bipush 48, 2) := by decide +kernel
theorem dX9_longer_15 : decode cX9_longer 15 = .ok (.isub, 1) := by decide +kernel
theorem dX9_longer_16 : decode cX9_longer 16 = .ok (.iconst 1, 1) := by decide +kernel
theorem dX9_longer_17 : decode cX9_longer 17 = .ok (.iadd, 1) := by decide +kernel
theorem dX9_longer_18 : decode cX9_longer 18 = .ok (.goto 10, 3) := by decide +kernel
theorem dX9_longer_21 : decode cX9_longer 21 = .ok (.iload_n 2, 1) := by decide +kernel
theorem dX9_longer_22 : decode cX9_longer 22 = .ok (.bipush 97, 2) := by decide +kernel
theorem dX9_longer_24 : decode cX9_longer 24 = .ok (.isub, 1) := by decide +kernel
theorem dX9_longer_25 : decode cX9_longer 25 = .ok (.bipush 11, 2) := by decide +kernel
theorem dX9_longer_27 : decode cX9_longer 27 = .ok (.iadd, 1) := by decide +kernel
theorem dX9_longer_28 : decode cX9_longer 28 = .ok (.i2l, 1) := by decide +kernel
theorem dX9_longer_29 : decode cX9_longer 29 = .ok (.ladd, 1) := by decide +kernel
theorem dX9_longer_30 : decode cX9_longer 30 = .ok (.lreturn, 1) := by decide +kernel
abbrev m_X9_longer : Mt := (cX9_longer, RX9, "longer", 3, .lreturn, 2)
def f_X9_longer (N : Nat) (z : Nat → Nat) (v0 : Int64) (v2 : Int32) (x0 : Hp) : Option (Int64 × Hp) :=
  bnd (f_X9_isDigit N z v2 x0) fun i2 x1 =>
  if i2 = 0 then (some ((v0 * (64 : Int64)) + (((v2 - (97 : Int32)) + (11 : Int32)).toInt64), x1)) else (some ((v0 * (64 : Int64)) + (((v2 - (48 : Int32)) + (1 : Int32)).toInt64), x1))
set_option maxRecDepth 100000 in
set_option maxHeartbeats 4000000 in
theorem g_X9_longer (l : Launch) (N : Nat) (z : Nat → Nat) (v0 : Int64) (v2 : Int32) (x0 : Hp) : G l z m_X9_longer okT enL 0 [(0, .long v0), (2, .int v2)] [] x0 (f_X9_longer N z v0 v2 x0) := by
  unfold f_X9_longer
  refine G_lload_n 0 dX9_longer_0 rfl rfl ?_
  refine G_ldc2 (v := (64 : Int64)) gw_405 dX9_longer_1 ?_
  refine G_lmul dX9_longer_4 ?_
  refine G_iload_n 1 dX9_longer_5 rfl rfl ?_
  refine G_callS (av := [.int v2]) [.long (v0 * (64 : Int64))] (ct_X9_isDigit l N z v2) yn_X9_isDigit (Nat.le_of_ble_eq_true rfl) (by decide) gw_406 gw_407 gw_49 gw_408 rfl (by simp only [hw_n, hw_i, hw_r, hw_j, hw_d]; decide) dX9_longer_6 (fun i2 x1 => ?_)
  refine G_if_eq (tgt := 21) dX9_longer_9 (by decide) (fun _ => ?_) (fun _ => ?_)
  · refine G_iload_n 1 dX9_longer_21 rfl rfl ?_
    refine G_bipush (v := (97 : Int32)) dX9_longer_22 (by decide) ?_
    refine G_isub dX9_longer_24 ?_
    refine G_bipush (v := (11 : Int32)) dX9_longer_25 (by decide) ?_
    refine G_iadd dX9_longer_27 ?_
    refine G_i2l dX9_longer_28 ?_
    refine G_ladd dX9_longer_29 ?_
    exact G_ret trivial dX9_longer_30 rfl
  · refine G_iload_n 1 dX9_longer_12 rfl rfl ?_
    refine G_bipush (v := (48 : Int32)) dX9_longer_13 (by decide) ?_
    refine G_isub dX9_longer_15 ?_
    refine G_iconst (v := (1 : Int32)) dX9_longer_16 rfl ?_
    refine G_iadd dX9_longer_17 ?_
    refine G_goto (tgt := 28) dX9_longer_18 (by decide) ?_
    refine G_i2l dX9_longer_28 ?_
    refine G_ladd dX9_longer_29 ?_
    exact G_ret trivial dX9_longer_30 rfl

theorem yn_X9_longer : Yn yX9_longer 2 := ⟨by decide +kernel, by decide +kernel, by decide +kernel⟩
theorem ct_X9_longer (l : Launch) (N : Nat) (z : Nat → Nat) (v0 : Int64) (v2 : Int32) : Ct l z yX9_longer cX9_longer 3 (some .long) 2 enL [.long v0, .int v2] (f_X9_longer N z v0 v2) :=
  Ct_l (fun x => G_lv0 (by simp only [lva_n, lva_i, lva_o, lva_r, lva_j]) (g_X9_longer l N z v0 v2 x)) (by decide +kernel) (by simp only [lgl_n, lgl_i, lgl_o, lgl_r, lgl_j]; decide)

theorem dX9_init_0 : decode cX9_init 0 = .ok (.aload_n 0, 1) := by decide +kernel
theorem dX9_init_1 : decode cX9_init 1 = .ok (.invokespecial 3, 3) := by decide +kernel
theorem dX9_init_4 : decode cX9_init 4 = .ok (.aload_n 0, 1) := by decide +kernel
theorem dX9_init_5 : decode cX9_init 5 = .ok (.bipush 34, 2) := by decide +kernel
theorem dX9_init_7 : decode cX9_init 7 = .ok (.newarray .long, 2) := by decide +kernel
theorem dX9_init_9 : decode cX9_init 9 = .ok (.putfield 9, 3) := by decide +kernel
theorem dX9_init_12 : decode cX9_init 12 = .ok (.aload_n 0, 1) := by decide +kernel
theorem dX9_init_13 : decode cX9_init 13 = .ok (.sipush 401, 3) := by decide +kernel
theorem dX9_init_16 : decode cX9_init 16 = .ok (.newarray .int, 2) := by decide +kernel
theorem dX9_init_18 : decode cX9_init 18 = .ok (.putfield 15, 3) := by decide +kernel
theorem dX9_init_21 : decode cX9_init 21 = .ok (.aload_n 0, 1) := by decide +kernel
theorem dX9_init_22 : decode cX9_init 22 = .ok (.sipush 401, 3) := by decide +kernel
theorem dX9_init_25 : decode cX9_init 25 = .ok (.newarray .int, 2) := by decide +kernel
theorem dX9_init_27 : decode cX9_init 27 = .ok (.putfield 19, 3) := by decide +kernel
theorem dX9_init_30 : decode cX9_init 30 = .ok (.aload_n 0, 1) := by decide +kernel
theorem dX9_init_31 : decode cX9_init 31 = .ok (.sipush 401, 3) := by decide +kernel
theorem dX9_init_34 : decode cX9_init 34 = .ok (.newarray .long, 2) := by decide +kernel
theorem dX9_init_36 : decode cX9_init 36 = .ok (.putfield 22, 3) := by decide +kernel
theorem dX9_init_39 : decode cX9_init 39 = .ok (.iconst 0, 1) := by decide +kernel
theorem dX9_init_40 : decode cX9_init 40 = .ok (.istore_n 1, 1) := by decide +kernel
theorem dX9_init_41 : decode cX9_init 41 = .ok (.lconst 0, 1) := by decide +kernel
theorem dX9_init_42 : decode cX9_init 42 = .ok (.lstore_n 2, 1) := by decide +kernel
theorem dX9_init_43 : decode cX9_init 43 = .ok (.iconst 0, 1) := by decide +kernel
theorem dX9_init_44 : decode cX9_init 44 = .ok (.istore 4, 2) := by decide +kernel
theorem dX9_init_46 : decode cX9_init 46 = .ok (.iload 4, 2) := by decide +kernel
theorem dX9_init_48 : decode cX9_init 48 = .ok (.ldc 25, 2) := by decide +kernel
theorem dX9_init_50 : decode cX9_init 50 = .ok (.invokevirtual 27, 3) := by decide +kernel
theorem dX9_init_53 : decode cX9_init 53 = .ok (.if_icmp .ge 56, 3) := by decide +kernel
theorem dX9_init_56 : decode cX9_init 56 = .ok (.iload_n 1, 1) := by decide +kernel
theorem dX9_init_57 : decode cX9_init 57 = .ok (.aload_n 0, 1) := by decide +kernel
theorem dX9_init_58 : decode cX9_init 58 = .ok (.getfield 9, 3) := by decide +kernel
theorem dX9_init_61 : decode cX9_init 61 = .ok (.arraylength, 1) := by decide +kernel
theorem dX9_init_62 : decode cX9_init 62 = .ok (.if_icmp .ge 47, 3) := by decide +kernel
theorem dX9_init_65 : decode cX9_init 65 = .ok (.ldc 25, 2) := by decide +kernel
theorem dX9_init_67 : decode cX9_init 67 = .ok (.iload 4, 2) := by decide +kernel
theorem dX9_init_69 : decode cX9_init 69 = .ok (.invokevirtual 33, 3) := by decide +kernel
theorem dX9_init_72 : decode cX9_init 72 = .ok (.istore 5, 2) := by decide +kernel
theorem dX9_init_74 : decode cX9_init 74 = .ok (.iload 5, 2) := by decide +kernel
theorem dX9_init_76 : decode cX9_init 76 = .ok (.bipush 32, 2) := by decide +kernel
theorem dX9_init_78 : decode cX9_init 78 = .ok (.if_icmp .ne 18, 3) := by decide +kernel
theorem dX9_init_81 : decode cX9_init 81 = .ok (.aload_n 0, 1) := by decide +kernel
theorem dX9_init_82 : decode cX9_init 82 = .ok (.getfield 9, 3) := by decide +kernel
theorem dX9_init_85 : decode cX9_init 85 = .ok (.iload_n 1, 1) := by decide +kernel
theorem dX9_init_86 : decode cX9_init 86 = .ok (.lload_n 2, 1) := by decide +kernel
theorem dX9_init_87 : decode cX9_init 87 = .ok (.lastore, 1) := by decide +kernel
theorem dX9_init_88 : decode cX9_init 88 = .ok (.iinc 1 1, 3) := by decide +kernel
theorem dX9_init_91 : decode cX9_init 91 = .ok (.lconst 0, 1) := by decide +kernel
theorem dX9_init_92 : decode cX9_init 92 = .ok (.lstore_n 2, 1) := by decide +kernel
theorem dX9_init_93 : decode cX9_init 93 = .ok (.goto 10, 3) := by decide +kernel
theorem dX9_init_96 : decode cX9_init 96 = .ok (.lload_n 2, 1) := by decide +kernel
theorem dX9_init_97 : decode cX9_init 97 = .ok (.iload 5, 2) := by decide +kernel
theorem dX9_init_99 : decode cX9_init 99 = .ok (.invokestatic 37, 3) := by decide +kernel
theorem dX9_init_102 : decode cX9_init 102 = .ok (.lstore_n 2, 1) := by decide +kernel
theorem dX9_init_103 : decode cX9_init 103 = .ok (.iinc 4 1, 3) := by decide +kernel
theorem dX9_init_106 : decode cX9_init 106 = .ok (.goto (-60), 3) := by decide +kernel
theorem dX9_init_109 : decode cX9_init 109 = .ok (.return_, 1) := by decide +kernel
abbrev m_X9_init : Mt := (cX9_init, RX9, "<init>", 6, .return_, 5)
def f_X9_init_b103 (N : Nat) (z : Nat → Nat) (k46 : Nat → Int32 → Int64 → Int32 → Hp → Option (Unit × Hp)) (o : Nat) (v1 : Int32) (v2 : Int64) (v4 : Int32) (x0 : Hp) : Option (Unit × Hp) :=
  k46 o v1 v2 (v4 + (1 : Int32)) x0
def f_X9_init_b46 (N : Nat) (z : Nat → Nat) : Nat → Nat → Int32 → Int64 → Int32 → Hp → Option (Unit × Hp)
  | 0, _, _, _, _, _ => none
  | n + 1, o, v1, v2, v4, x0 => objS (some (z 0)) x0 fun q3 => bnd (f_J0_length_8abf5 N z q3 x0) fun i2 x1 =>
  if i2 ≤ v4 then (some ((), x1)) else (getr (some o) x1 12 220 fun r4 =>
  alen r4 x1 102 fun i5 =>
  if i5 ≤ v1 then (some ((), x1)) else (objS (some (z 0)) x1 fun q8 => bnd (f_J0_charAt_5068e N z q8 v4 x1) fun i7 x6 =>
  if i7 = (32 : Int32) then (getr (some o) x6 12 220 fun r11 =>
  astl r11 x6 102 v1 v2 fun x12 =>
  f_X9_init_b103 N z (f_X9_init_b46 N z n) o (v1 + (1 : Int32)) (0 : Int64) v4 x12) else (bnd (f_X9_longer N z v2 i7 x6) fun i10 x9 =>
  f_X9_init_b103 N z (f_X9_init_b46 N z n) o v1 i10 v4 x9)))
def f_X9_init (N : Nat) (z : Nat → Nat) (o : Nat) (x0 : Hp) : Option (Unit × Hp) :=
  nn (some o) fun _ =>
  newa x0 102 (34 : Int32) fun r14 x15 =>
  putr (some o) x15 12 220 r14 fun x16 =>
  newa x16 101 (401 : Int32) fun r17 x18 =>
  putr (some o) x18 12 221 r17 fun x19 =>
  newa x19 101 (401 : Int32) fun r20 x21 =>
  putr (some o) x21 12 222 r20 fun x22 =>
  newa x22 102 (401 : Int32) fun r23 x24 =>
  putr (some o) x24 12 223 r23 fun x25 =>
  f_X9_init_b46 N z N o (0 : Int32) (0 : Int64) (0 : Int32) x25
set_option maxRecDepth 100000 in
set_option maxHeartbeats 4000000 in
theorem g_X9_init_b103 (l : Launch) (N : Nat) (z : Nat → Nat) {k46 : Nat → Int32 → Int64 → Int32 → Hp → Option (Unit × Hp)} (hk46 : ∀ o v1 v2 v4 x, G l z m_X9_init okT enV 46 [(0, va_rf (some o)), (1, .int v1), (2, .long v2), (4, .int v4)] [] x (k46 o v1 v2 v4 x)) (o : Nat) (v1 : Int32) (v2 : Int64) (v4 : Int32) (x0 : Hp) : G l z m_X9_init okT enV 103 [(0, va_rf (some o)), (1, .int v1), (2, .long v2), (4, .int v4)] [] x0 (f_X9_init_b103 N z k46 o v1 v2 v4 x0) := by
  unfold f_X9_init_b103
  refine G_iinc (i := 4) (l2 := [(0, va_rf (some o)), (1, .int v1), (2, .long v2)]) 3 [0, 1, 2] dX9_init_103 rfl rfl (Nat.le_of_ble_eq_true rfl) rfl (sok_a (by decide) (by decide) (sok_a (by decide) (by decide) (sok_a (by decide) (by decide) trivial))) ?_
  refine G_goto (tgt := 46) dX9_init_106 (by decide) ?_
  refine G_lv [1, 2, 3, 0] rfl ?_
  exact hk46 o v1 v2 (v4 + (1 : Int32)) x0

set_option maxRecDepth 100000 in
set_option maxHeartbeats 4000000 in
theorem g_X9_init_b46 (l : Launch) (N : Nat) (z : Nat → Nat) : ∀ (n : Nat) (o : Nat) (v1 : Int32) (v2 : Int64) (v4 : Int32) (x0 : Hp), G l z m_X9_init okT enV 46 [(0, va_rf (some o)), (1, .int v1), (2, .long v2), (4, .int v4)] [] x0 (f_X9_init_b46 N z n o v1 v2 v4 x0) := by
  intro n
  induction n with
  | zero => intro o v1 v2 v4 x0; exact G_none
  | succ n ih =>
  intro o v1 v2 v4 x0
  rw [f_X9_init_b46]
  refine G_iload 3 dX9_init_46 rfl ?_
  refine G_ldcS (q := 0) (tx := "well lane under rate most burst rank holds drops old new folk to brings every from raise cap shut when minute spare tokens waits sent lost lent full dry not and or min max ") gs_0 rfl dX9_init_48 ?_
  refine G_callVS (av := []) [.int v4] (fun q3 => ct_J0_length_8abf5 l N z q3) K_0 yn_J0_length_8abf5 (Nat.le_of_ble_eq_true rfl) (by decide) gw_354 gw_355 gw_356 gw_50 gw_357 rfl (by simp only [hw_n, hw_i, hw_r, hw_j, hw_d]; decide) dX9_init_50 (fun i2 x1 => ?_)
  refine G_icmp_ge (tgt := 109) dX9_init_53 (by decide) (fun _ => ?_) (fun _ => ?_)
  · exact G_ret trivial dX9_init_109 rfl
  · refine G_iload_n 1 dX9_init_56 rfl rfl ?_
    refine G_aload_n 0 dX9_init_57 rfl rfl ?_
    refine G_getr (k := 0) K_11 (by decide) rfl rfl rfl gw_409 rfl dX9_init_58 (fun r4 => ?_)
    refine G_alen (t := 2) rfl (by decide) dX9_init_61 (fun i5 => ?_)
    refine G_icmp_ge (tgt := 109) dX9_init_62 (by decide) (fun _ => ?_) (fun _ => ?_)
    · exact G_ret trivial dX9_init_109 rfl
    · refine G_ldcS (q := 0) (tx := "well lane under rate most burst rank holds drops old new folk to brings every from raise cap shut when minute spare tokens waits sent lost lent full dry not and or min max ") gs_0 rfl dX9_init_65 ?_
      refine G_iload 3 dX9_init_67 rfl ?_
      refine G_callVS (av := [.int v4]) [] (fun q8 => ct_J0_charAt_5068e l N z q8 v4) K_0 yn_J0_charAt_5068e (Nat.le_of_ble_eq_true rfl) (by decide) gw_364 gw_365 gw_366 gw_50 gw_367 rfl (by decide) dX9_init_69 (fun i7 x6 => ?_)
      refine G_istore (i := 5) (l2 := [(0, va_rf (some o)), (1, .int v1), (2, .long v2), (4, .int v4)]) [0, 1, 2, 3] dX9_init_72 (Nat.le_of_ble_eq_true rfl) rfl (sok_a (by decide) (by decide) (sok_a (by decide) (by decide) (sok_a (by decide) (by decide) (sok_b (by decide) rfl trivial)))) ?_
      refine G_iload 0 dX9_init_74 rfl ?_
      refine G_bipush (v := (32 : Int32)) dX9_init_76 (by decide) ?_
      refine G_icmp_ne (tgt := 96) dX9_init_78 (by decide) (fun _ => ?_) (fun _ => ?_)
      · refine G_aload_n 1 dX9_init_81 rfl rfl ?_
        refine G_getr (k := 0) K_11 (by decide) rfl rfl rfl gw_409 rfl dX9_init_82 (fun r11 => ?_)
        refine G_iload_n 2 dX9_init_85 rfl rfl ?_
        refine G_lload_n 3 dX9_init_86 rfl rfl ?_
        refine G_last dX9_init_87 (fun x12 => ?_)
        refine G_iinc (i := 1) (l2 := [(5, .int i7), (0, va_rf (some o)), (2, .long v2), (4, .int v4)]) 2 [0, 1, 3, 4] dX9_init_88 rfl rfl (Nat.le_of_ble_eq_true rfl) rfl (sok_a (by decide) (by decide) (sok_b (by decide) (rf_cat _) (sok_a (by decide) (by decide) (sok_a (by decide) (by decide) trivial)))) ?_
        refine G_lconst (v := (0 : Int64)) dX9_init_91 (by decide) ?_
        refine G_lstore_n (i := 2) (l2 := [(1, .int (v1 + (1 : Int32))), (5, .int i7), (0, va_rf (some o)), (4, .int v4)]) [0, 1, 2, 4] dX9_init_92 rfl (Nat.le_of_ble_eq_true rfl) rfl (sok_b (by decide) rfl (sok_a (by decide) (by decide) (sok_a (by decide) (by decide) (sok_a (by decide) (by decide) trivial)))) (sok2_a (by decide) (sok2_a (by decide) (sok2_a (by decide) (sok2_a (by decide) trivial)))) ?_
        refine G_goto (tgt := 103) dX9_init_93 (by decide) ?_
        refine G_lv [3, 1, 0, 4] rfl ?_
        exact g_X9_init_b103 l N z ih o (v1 + (1 : Int32)) (0 : Int64) v4 x12
      · refine G_lload_n 3 dX9_init_96 rfl rfl ?_
        refine G_iload 0 dX9_init_97 rfl ?_
        refine G_callS (av := [.long v2, .int i7]) [] (ct_X9_longer l N z v2 i7) yn_X9_longer (Nat.le_of_ble_eq_true rfl) (by decide) gw_402 gw_403 gw_49 gw_404 rfl (by decide) dX9_init_99 (fun i10 x9 => ?_)
        refine G_lstore_n (i := 2) (l2 := [(5, .int i7), (0, va_rf (some o)), (1, .int v1), (4, .int v4)]) [0, 1, 2, 4] dX9_init_102 rfl (Nat.le_of_ble_eq_true rfl) rfl (sok_a (by decide) (by decide) (sok_a (by decide) (by decide) (sok_b (by decide) rfl (sok_a (by decide) (by decide) trivial)))) (sok2_a (by decide) (sok2_a (by decide) (sok2_a (by decide) (sok2_a (by decide) trivial)))) ?_
        refine G_lv [2, 3, 0, 4] rfl ?_
        exact g_X9_init_b103 l N z ih o v1 i10 v4 x9

set_option maxRecDepth 100000 in
set_option maxHeartbeats 4000000 in
theorem g_X9_init (l : Launch) (N : Nat) (z : Nat → Nat) (o : Nat) (x0 : Hp) : G l z m_X9_init okT enV 0 [(0, va_rf (some o))] [] x0 (f_X9_init N z o x0) := by
  unfold f_X9_init
  refine G_aload_n 0 dX9_init_0 rfl rfl ?_
  refine G_objInit (st := []) gw_352 gw_75 gw_76 (by decide) (by decide) dX9_init_1 (fun _ => ?_)
  refine G_aload_n 0 dX9_init_4 rfl rfl ?_
  refine G_bipush (v := (34 : Int32)) dX9_init_5 (by decide) ?_
  refine G_newa (t := 2) rfl (Or.inr (Or.inr ⟨rfl, rfl⟩)) gw_425 dX9_init_7 (fun r14 x15 => ?_)
  refine G_putr (k := 0) K_11 (by decide) rfl rfl rfl gw_409 rfl (Or.inr ⟨rfl, rfl, rfl⟩) nar_arr.1 nar_arr.2 dX9_init_9 (fun x16 => ?_)
  refine G_aload_n 0 dX9_init_12 rfl rfl ?_
  refine G_sipush (v := (401 : Int32)) dX9_init_13 (by decide) ?_
  refine G_newa (t := 1) rfl (Or.inr (Or.inl ⟨rfl, rfl⟩)) gw_140 dX9_init_16 (fun r17 x18 => ?_)
  refine G_putr (k := 1) K_11 (by decide) rfl rfl rfl gw_410 rfl (Or.inr ⟨rfl, rfl, rfl⟩) nar_arr.1 nar_arr.2 dX9_init_18 (fun x19 => ?_)
  refine G_aload_n 0 dX9_init_21 rfl rfl ?_
  refine G_sipush (v := (401 : Int32)) dX9_init_22 (by decide) ?_
  refine G_newa (t := 1) rfl (Or.inr (Or.inl ⟨rfl, rfl⟩)) gw_140 dX9_init_25 (fun r20 x21 => ?_)
  refine G_putr (k := 2) K_11 (by decide) rfl rfl rfl gw_411 rfl (Or.inr ⟨rfl, rfl, rfl⟩) nar_arr.1 nar_arr.2 dX9_init_27 (fun x22 => ?_)
  refine G_aload_n 0 dX9_init_30 rfl rfl ?_
  refine G_sipush (v := (401 : Int32)) dX9_init_31 (by decide) ?_
  refine G_newa (t := 2) rfl (Or.inr (Or.inr ⟨rfl, rfl⟩)) gw_425 dX9_init_34 (fun r23 x24 => ?_)
  refine G_putr (k := 3) K_11 (by decide) rfl rfl rfl gw_412 rfl (Or.inr ⟨rfl, rfl, rfl⟩) nar_arr.1 nar_arr.2 dX9_init_36 (fun x25 => ?_)
  refine G_iconst (v := (0 : Int32)) dX9_init_39 rfl ?_
  refine G_istore_n (i := 1) (l2 := [(0, va_rf (some o))]) [0] dX9_init_40 rfl (Nat.le_of_ble_eq_true rfl) rfl (sok_b (by decide) (rf_cat _) trivial) ?_
  refine G_lconst (v := (0 : Int64)) dX9_init_41 (by decide) ?_
  refine G_lstore_n (i := 2) (l2 := [(1, .int (0 : Int32)), (0, va_rf (some o))]) [0, 1] dX9_init_42 rfl (Nat.le_of_ble_eq_true rfl) rfl (sok_b (by decide) rfl (sok_a (by decide) (by decide) trivial)) (sok2_a (by decide) (sok2_a (by decide) trivial)) ?_
  refine G_iconst (v := (0 : Int32)) dX9_init_43 rfl ?_
  refine G_istore (i := 4) (l2 := [(2, .long (0 : Int64)), (1, .int (0 : Int32)), (0, va_rf (some o))]) [0, 1, 2] dX9_init_44 (Nat.le_of_ble_eq_true rfl) rfl (sok_a (by decide) (by decide) (sok_a (by decide) (by decide) (sok_a (by decide) (by decide) trivial))) ?_
  refine G_lv [3, 2, 1, 0] rfl ?_
  exact g_X9_init_b46 l N z N o (0 : Int32) (0 : Int64) (0 : Int32) x25

theorem yn_X9_init : Yn yX9_init 0 := ⟨by decide +kernel, by decide +kernel, by decide +kernel⟩
theorem ct_X9_init (l : Launch) (N : Nat) (z : Nat → Nat) (o : Nat) : Ct l z yX9_init cX9_init 6 none 5 enV [.ref o] (f_X9_init N z o) :=
  Ct_v (fun x => G_lv0 (by simp only [lva_n, lva_i, lva_o, lva_r, lva_j]) (g_X9_init l N z o x)) (by decide +kernel) (by simp only [lgl_n, lgl_i, lgl_o, lgl_r, lgl_j]; decide)

theorem dX9_kindOf_0 : decode cX9_kindOf 0 = .ok (.iload_n 1, 1) := by decide +kernel
theorem dX9_kindOf_1 : decode cX9_kindOf 1 = .ok (.ifCond .lt 29, 3) := by decide +kernel
theorem dX9_kindOf_4 : decode cX9_kindOf 4 = .ok (.iload_n 1, 1) := by decide +kernel
theorem dX9_kindOf_5 : decode cX9_kindOf 5 = .ok (.aload_n 0, 1) := by decide +kernel
theorem dX9_kindOf_6 : decode cX9_kindOf 6 = .ok (.getfield 41, 3) := by decide +kernel
theorem dX9_kindOf_9 : decode cX9_kindOf 9 = .ok (.if_icmp .ge 21, 3) := by decide +kernel
theorem dX9_kindOf_12 : decode cX9_kindOf 12 = .ok (.iload_n 1, 1) := by decide +kernel
theorem dX9_kindOf_13 : decode cX9_kindOf 13 = .ok (.aload_n 0, 1) := by decide +kernel
theorem dX9_kindOf_14 : decode cX9_kindOf 14 = .ok (.getfield 15, 3) := by decide +kernel
theorem dX9_kindOf_17 : decode cX9_kindOf 17 = .ok (.arraylength, 1) := by decide +kernel
theorem dX9_kindOf_18 : decode cX9_kindOf 18 = .ok (.if_icmp .ge 12, 3) := by decide +kernel
theorem dX9_kindOf_21 : decode cX9_kindOf 21 = .ok (.aload_n 0, 1) := by decide +kernel
theorem dX9_kindOf_22 : decode cX9_kindOf 22 = .ok (.getfield 15, 3) := by decide +kernel
theorem dX9_kindOf_25 : decode cX9_kindOf 25 = .ok (.iload_n 1, 1) := by decide +kernel
theorem dX9_kindOf_26 : decode cX9_kindOf 26 = .ok (.iaload, 1) := by decide +kernel
theorem dX9_kindOf_27 : decode cX9_kindOf 27 = .ok (.goto 5, 3) := by decide +kernel
theorem dX9_kindOf_30 : decode cX9_kindOf 30 = .ok (.bipush 39, 2) := by decide +kernel
theorem dX9_kindOf_32 : decode cX9_kindOf 32 = .ok (.ireturn, 1) := by decide +kernel
abbrev m_X9_kindOf : Mt := (cX9_kindOf, RX9, "kindOf", 2, .ireturn, 1)
def f_X9_kindOf (N : Nat) (z : Nat → Nat) (o : Nat) (v1 : Int32) (x0 : Hp) : Option (Int32 × Hp) :=
  if v1 < 0 then (some ((39 : Int32), x0)) else (geti (some o) x0 12 224 fun i1 =>
  if i1 ≤ v1 then (some ((39 : Int32), x0)) else (getr (some o) x0 12 221 fun r2 =>
  alen r2 x0 101 fun i3 =>
  if i3 ≤ v1 then (some ((39 : Int32), x0)) else (getr (some o) x0 12 221 fun r4 =>
  aldi r4 x0 101 v1 fun i5 =>
  some (i5, x0))))
set_option maxRecDepth 100000 in
set_option maxHeartbeats 4000000 in
theorem g_X9_kindOf (l : Launch) (N : Nat) (z : Nat → Nat) (o : Nat) (v1 : Int32) (x0 : Hp) : G l z m_X9_kindOf okT enI 0 [(0, va_rf (some o)), (1, .int v1)] [] x0 (f_X9_kindOf N z o v1 x0) := by
  unfold f_X9_kindOf
  refine G_iload_n 1 dX9_kindOf_0 rfl rfl ?_
  refine G_if_lt (tgt := 30) dX9_kindOf_1 (by decide) (fun _ => ?_) (fun _ => ?_)
  · refine G_bipush (v := (39 : Int32)) dX9_kindOf_30 (by decide) ?_
    exact G_ret trivial dX9_kindOf_32 rfl
  · refine G_iload_n 1 dX9_kindOf_4 rfl rfl ?_
    refine G_aload_n 0 dX9_kindOf_5 rfl rfl ?_
    refine G_geti (k := 4) K_11 (by decide) rfl rfl rfl gw_413 rfl dX9_kindOf_6 (fun i1 => ?_)
    refine G_icmp_ge (tgt := 30) dX9_kindOf_9 (by decide) (fun _ => ?_) (fun _ => ?_)
    · refine G_bipush (v := (39 : Int32)) dX9_kindOf_30 (by decide) ?_
      exact G_ret trivial dX9_kindOf_32 rfl
    · refine G_iload_n 1 dX9_kindOf_12 rfl rfl ?_
      refine G_aload_n 0 dX9_kindOf_13 rfl rfl ?_
      refine G_getr (k := 1) K_11 (by decide) rfl rfl rfl gw_410 rfl dX9_kindOf_14 (fun r2 => ?_)
      refine G_alen (t := 1) rfl (by decide) dX9_kindOf_17 (fun i3 => ?_)
      refine G_icmp_ge (tgt := 30) dX9_kindOf_18 (by decide) (fun _ => ?_) (fun _ => ?_)
      · refine G_bipush (v := (39 : Int32)) dX9_kindOf_30 (by decide) ?_
        exact G_ret trivial dX9_kindOf_32 rfl
      · refine G_aload_n 0 dX9_kindOf_21 rfl rfl ?_
        refine G_getr (k := 1) K_11 (by decide) rfl rfl rfl gw_410 rfl dX9_kindOf_22 (fun r4 => ?_)
        refine G_iload_n 1 dX9_kindOf_25 rfl rfl ?_
        refine G_iald dX9_kindOf_26 (fun i5 => ?_)
        refine G_goto (tgt := 32) dX9_kindOf_27 (by decide) ?_
        exact G_ret trivial dX9_kindOf_32 rfl

theorem yn_X9_kindOf : Yn yX9_kindOf 1 := ⟨by decide +kernel, by decide +kernel, by decide +kernel⟩
theorem ct_X9_kindOf (l : Launch) (N : Nat) (z : Nat → Nat) (o : Nat) (v1 : Int32) : Ct l z yX9_kindOf cX9_kindOf 2 (some .int) 1 enI [.ref o, .int v1] (f_X9_kindOf N z o v1) :=
  Ct_i (fun x => G_lv0 (by simp only [lva_n, lva_i, lva_o, lva_r, lva_j]) (g_X9_kindOf l N z o v1 x)) (by decide +kernel) (by simp only [lgl_n, lgl_i, lgl_o, lgl_r, lgl_j]; decide)

theorem dX9_startOf_0 : decode cX9_startOf 0 = .ok (.iload_n 1, 1) := by decide +kernel
theorem dX9_startOf_1 : decode cX9_startOf 1 = .ok (.ifCond .lt 29, 3) := by decide +kernel
theorem dX9_startOf_4 : decode cX9_startOf 4 = .ok (.iload_n 1, 1) := by decide +kernel
theorem dX9_startOf_5 : decode cX9_startOf 5 = .ok (.aload_n 0, 1) := by decide +kernel
theorem dX9_startOf_6 : decode cX9_startOf 6 = .ok (.getfield 41, 3) := by decide +kernel
theorem dX9_startOf_9 : decode cX9_startOf 9 = .ok (.if_icmp .ge 21, 3) := by decide +kernel
theorem dX9_startOf_12 : decode cX9_startOf 12 = .ok (.iload_n 1, 1) := by decide +kernel
theorem dX9_startOf_13 : decode cX9_startOf 13 = .ok (.aload_n 0, 1) := by decide +kernel
theorem dX9_startOf_14 : decode cX9_startOf 14 = .ok (.getfield 19, 3) := by decide +kernel
theorem dX9_startOf_17 : decode cX9_startOf 17 = .ok (.arraylength, 1) := by decide +kernel
theorem dX9_startOf_18 : decode cX9_startOf 18 = .ok (.if_icmp .ge 12, 3) := by decide +kernel
theorem dX9_startOf_21 : decode cX9_startOf 21 = .ok (.aload_n 0, 1) := by decide +kernel
theorem dX9_startOf_22 : decode cX9_startOf 22 = .ok (.getfield 19, 3) := by decide +kernel
theorem dX9_startOf_25 : decode cX9_startOf 25 = .ok (.iload_n 1, 1) := by decide +kernel
theorem dX9_startOf_26 : decode cX9_startOf 26 = .ok (.iaload, 1) := by decide +kernel
theorem dX9_startOf_27 : decode cX9_startOf 27 = .ok (.goto 4, 3) := by decide +kernel
theorem dX9_startOf_30 : decode cX9_startOf 30 = .ok (.iconst 0, 1) := by decide +kernel
theorem dX9_startOf_31 : decode cX9_startOf 31 = .ok (.ireturn, 1) := by decide +kernel
abbrev m_X9_startOf : Mt := (cX9_startOf, RX9, "startOf", 2, .ireturn, 1)
def f_X9_startOf (N : Nat) (z : Nat → Nat) (o : Nat) (v1 : Int32) (x0 : Hp) : Option (Int32 × Hp) :=
  if v1 < 0 then (some ((0 : Int32), x0)) else (geti (some o) x0 12 224 fun i1 =>
  if i1 ≤ v1 then (some ((0 : Int32), x0)) else (getr (some o) x0 12 222 fun r2 =>
  alen r2 x0 101 fun i3 =>
  if i3 ≤ v1 then (some ((0 : Int32), x0)) else (getr (some o) x0 12 222 fun r4 =>
  aldi r4 x0 101 v1 fun i5 =>
  some (i5, x0))))
set_option maxRecDepth 100000 in
set_option maxHeartbeats 4000000 in
theorem g_X9_startOf (l : Launch) (N : Nat) (z : Nat → Nat) (o : Nat) (v1 : Int32) (x0 : Hp) : G l z m_X9_startOf okT enI 0 [(0, va_rf (some o)), (1, .int v1)] [] x0 (f_X9_startOf N z o v1 x0) := by
  unfold f_X9_startOf
  refine G_iload_n 1 dX9_startOf_0 rfl rfl ?_
  refine G_if_lt (tgt := 30) dX9_startOf_1 (by decide) (fun _ => ?_) (fun _ => ?_)
  · refine G_iconst (v := (0 : Int32)) dX9_startOf_30 rfl ?_
    exact G_ret trivial dX9_startOf_31 rfl
  · refine G_iload_n 1 dX9_startOf_4 rfl rfl ?_
    refine G_aload_n 0 dX9_startOf_5 rfl rfl ?_
    refine G_geti (k := 4) K_11 (by decide) rfl rfl rfl gw_413 rfl dX9_startOf_6 (fun i1 => ?_)
    refine G_icmp_ge (tgt := 30) dX9_startOf_9 (by decide) (fun _ => ?_) (fun _ => ?_)
    · refine G_iconst (v := (0 : Int32)) dX9_startOf_30 rfl ?_
      exact G_ret trivial dX9_startOf_31 rfl
    · refine G_iload_n 1 dX9_startOf_12 rfl rfl ?_
      refine G_aload_n 0 dX9_startOf_13 rfl rfl ?_
      refine G_getr (k := 2) K_11 (by decide) rfl rfl rfl gw_411 rfl dX9_startOf_14 (fun r2 => ?_)
      refine G_alen (t := 1) rfl (by decide) dX9_startOf_17 (fun i3 => ?_)
      refine G_icmp_ge (tgt := 30) dX9_startOf_18 (by decide) (fun _ => ?_) (fun _ => ?_)
      · refine G_iconst (v := (0 : Int32)) dX9_startOf_30 rfl ?_
        exact G_ret trivial dX9_startOf_31 rfl
      · refine G_aload_n 0 dX9_startOf_21 rfl rfl ?_
        refine G_getr (k := 2) K_11 (by decide) rfl rfl rfl gw_411 rfl dX9_startOf_22 (fun r4 => ?_)
        refine G_iload_n 1 dX9_startOf_25 rfl rfl ?_
        refine G_iald dX9_startOf_26 (fun i5 => ?_)
        refine G_goto (tgt := 31) dX9_startOf_27 (by decide) ?_
        exact G_ret trivial dX9_startOf_31 rfl

theorem yn_X9_startOf : Yn yX9_startOf 1 := ⟨by decide +kernel, by decide +kernel, by decide +kernel⟩
theorem ct_X9_startOf (l : Launch) (N : Nat) (z : Nat → Nat) (o : Nat) (v1 : Int32) : Ct l z yX9_startOf cX9_startOf 2 (some .int) 1 enI [.ref o, .int v1] (f_X9_startOf N z o v1) :=
  Ct_i (fun x => G_lv0 (by simp only [lva_n, lva_i, lva_o, lva_r, lva_j]) (g_X9_startOf l N z o v1 x)) (by decide +kernel) (by simp only [lgl_n, lgl_i, lgl_o, lgl_r, lgl_j]; decide)

theorem dX9_valueOf_0 : decode cX9_valueOf 0 = .ok (.iload_n 1, 1) := by decide +kernel
theorem dX9_valueOf_1 : decode cX9_valueOf 1 = .ok (.ifCond .lt 29, 3) := by decide +kernel
theorem dX9_valueOf_4 : decode cX9_valueOf 4 = .ok (.iload_n 1, 1) := by decide +kernel
theorem dX9_valueOf_5 : decode cX9_valueOf 5 = .ok (.aload_n 0, 1) := by decide +kernel
theorem dX9_valueOf_6 : decode cX9_valueOf 6 = .ok (.getfield 41, 3) := by decide +kernel
theorem dX9_valueOf_9 : decode cX9_valueOf 9 = .ok (.if_icmp .ge 21, 3) := by decide +kernel
theorem dX9_valueOf_12 : decode cX9_valueOf 12 = .ok (.iload_n 1, 1) := by decide +kernel
theorem dX9_valueOf_13 : decode cX9_valueOf 13 = .ok (.aload_n 0, 1) := by decide +kernel
theorem dX9_valueOf_14 : decode cX9_valueOf 14 = .ok (.getfield 22, 3) := by decide +kernel
theorem dX9_valueOf_17 : decode cX9_valueOf 17 = .ok (.arraylength, 1) := by decide +kernel
theorem dX9_valueOf_18 : decode cX9_valueOf 18 = .ok (.if_icmp .ge 12, 3) := by decide +kernel
theorem dX9_valueOf_21 : decode cX9_valueOf 21 = .ok (.aload_n 0, 1) := by decide +kernel
theorem dX9_valueOf_22 : decode cX9_valueOf 22 = .ok (.getfield 22, 3) := by decide +kernel
theorem dX9_valueOf_25 : decode cX9_valueOf 25 = .ok (.iload_n 1, 1) := by decide +kernel
theorem dX9_valueOf_26 : decode cX9_valueOf 26 = .ok (.laload, 1) := by decide +kernel
theorem dX9_valueOf_27 : decode cX9_valueOf 27 = .ok (.goto 4, 3) := by decide +kernel
theorem dX9_valueOf_30 : decode cX9_valueOf 30 = .ok (.lconst 0, 1) := by decide +kernel
theorem dX9_valueOf_31 : decode cX9_valueOf 31 = .ok (.lreturn, 1) := by decide +kernel
abbrev m_X9_valueOf : Mt := (cX9_valueOf, RX9, "valueOf", 2, .lreturn, 1)
def f_X9_valueOf (N : Nat) (z : Nat → Nat) (o : Nat) (v1 : Int32) (x0 : Hp) : Option (Int64 × Hp) :=
  if v1 < 0 then (some ((0 : Int64), x0)) else (geti (some o) x0 12 224 fun i1 =>
  if i1 ≤ v1 then (some ((0 : Int64), x0)) else (getr (some o) x0 12 223 fun r2 =>
  alen r2 x0 102 fun i3 =>
  if i3 ≤ v1 then (some ((0 : Int64), x0)) else (getr (some o) x0 12 223 fun r4 =>
  aldl r4 x0 102 v1 fun j5 =>
  some (j5, x0))))
set_option maxRecDepth 100000 in
set_option maxHeartbeats 4000000 in
theorem g_X9_valueOf (l : Launch) (N : Nat) (z : Nat → Nat) (o : Nat) (v1 : Int32) (x0 : Hp) : G l z m_X9_valueOf okT enL 0 [(0, va_rf (some o)), (1, .int v1)] [] x0 (f_X9_valueOf N z o v1 x0) := by
  unfold f_X9_valueOf
  refine G_iload_n 1 dX9_valueOf_0 rfl rfl ?_
  refine G_if_lt (tgt := 30) dX9_valueOf_1 (by decide) (fun _ => ?_) (fun _ => ?_)
  · refine G_lconst (v := (0 : Int64)) dX9_valueOf_30 (by decide) ?_
    exact G_ret trivial dX9_valueOf_31 rfl
  · refine G_iload_n 1 dX9_valueOf_4 rfl rfl ?_
    refine G_aload_n 0 dX9_valueOf_5 rfl rfl ?_
    refine G_geti (k := 4) K_11 (by decide) rfl rfl rfl gw_413 rfl dX9_valueOf_6 (fun i1 => ?_)
    refine G_icmp_ge (tgt := 30) dX9_valueOf_9 (by decide) (fun _ => ?_) (fun _ => ?_)
    · refine G_lconst (v := (0 : Int64)) dX9_valueOf_30 (by decide) ?_
      exact G_ret trivial dX9_valueOf_31 rfl
    · refine G_iload_n 1 dX9_valueOf_12 rfl rfl ?_
      refine G_aload_n 0 dX9_valueOf_13 rfl rfl ?_
      refine G_getr (k := 3) K_11 (by decide) rfl rfl rfl gw_412 rfl dX9_valueOf_14 (fun r2 => ?_)
      refine G_alen (t := 2) rfl (by decide) dX9_valueOf_17 (fun i3 => ?_)
      refine G_icmp_ge (tgt := 30) dX9_valueOf_18 (by decide) (fun _ => ?_) (fun _ => ?_)
      · refine G_lconst (v := (0 : Int64)) dX9_valueOf_30 (by decide) ?_
        exact G_ret trivial dX9_valueOf_31 rfl
      · refine G_aload_n 0 dX9_valueOf_21 rfl rfl ?_
        refine G_getr (k := 3) K_11 (by decide) rfl rfl rfl gw_412 rfl dX9_valueOf_22 (fun r4 => ?_)
        refine G_iload_n 1 dX9_valueOf_25 rfl rfl ?_
        refine G_lald dX9_valueOf_26 (fun j5 => ?_)
        refine G_goto (tgt := 31) dX9_valueOf_27 (by decide) ?_
        exact G_ret trivial dX9_valueOf_31 rfl

theorem yn_X9_valueOf : Yn yX9_valueOf 1 := ⟨by decide +kernel, by decide +kernel, by decide +kernel⟩
theorem ct_X9_valueOf (l : Launch) (N : Nat) (z : Nat → Nat) (o : Nat) (v1 : Int32) : Ct l z yX9_valueOf cX9_valueOf 2 (some .long) 1 enL [.ref o, .int v1] (f_X9_valueOf N z o v1) :=
  Ct_l (fun x => G_lv0 (by simp only [lva_n, lva_i, lva_o, lva_r, lva_j]) (g_X9_valueOf l N z o v1 x)) (by decide +kernel) (by simp only [lgl_n, lgl_i, lgl_o, lgl_r, lgl_j]; decide)

theorem dX9_behindBlanks_0 : decode cX9_behindBlanks 0 = .ok (.iload_n 1, 1) := by decide +kernel
theorem dX9_behindBlanks_1 : decode cX9_behindBlanks 1 = .ok (.istore_n 2, 1) := by decide +kernel
theorem dX9_behindBlanks_2 : decode cX9_behindBlanks 2 = .ok (.iload_n 2, 1) := by decide +kernel
theorem dX9_behindBlanks_3 : decode cX9_behindBlanks 3 = .ok (.aload_n 0, 1) := by decide +kernel
theorem dX9_behindBlanks_4 : decode cX9_behindBlanks 4 = .ok (.getfield 56, 3) := by decide +kernel
theorem dX9_behindBlanks_7 : decode cX9_behindBlanks 7 = .ok (.if_icmp .ge 29, 3) := by decide +kernel
theorem dX9_behindBlanks_10 : decode cX9_behindBlanks 10 = .ok (.aload_n 0, 1) := by decide +kernel
theorem dX9_behindBlanks_11 : decode cX9_behindBlanks 11 = .ok (.iload_n 2, 1) := by decide +kernel
theorem dX9_behindBlanks_12 : decode cX9_behindBlanks 12 = .ok (.invokevirtual 60, 3) := by decide +kernel
theorem dX9_behindBlanks_15 : decode cX9_behindBlanks 15 = .ok (.bipush 32, 2) := by decide +kernel
theorem dX9_behindBlanks_17 : decode cX9_behindBlanks 17 = .ok (.if_icmp .eq 13, 3) := by decide +kernel
theorem dX9_behindBlanks_20 : decode cX9_behindBlanks 20 = .ok (.aload_n 0, 1) := by decide +kernel
theorem dX9_behindBlanks_21 : decode cX9_behindBlanks 21 = .ok (.iload_n 2, 1) := by decide +kernel
theorem dX9_behindBlanks_22 : decode cX9_behindBlanks 22 = .ok (.invokevirtual 60, 3) := by decide +kernel
theorem dX9_behindBlanks_25 : decode cX9_behindBlanks 25 = .ok (.bipush 10, 2) := by decide +kernel
theorem dX9_behindBlanks_27 : decode cX9_behindBlanks 27 = .ok (.if_icmp .ne 9, 3) := by decide +kernel
theorem dX9_behindBlanks_30 : decode cX9_behindBlanks 30 = .ok (.iinc 2 1, 3) := by decide +kernel
theorem dX9_behindBlanks_33 : decode cX9_behindBlanks 33 = .ok (.goto (-31), 3) := by decide +kernel
theorem dX9_behindBlanks_36 : decode cX9_behindBlanks 36 = .ok (.iload_n 2, 1) := by decide +kernel
theorem dX9_behindBlanks_37 : decode cX9_behindBlanks 37 = .ok (.ireturn, 1) := by decide +kernel
abbrev m_X9_behindBlanks : Mt := (cX9_behindBlanks, RX9, "behindBlanks", 3, .ireturn, 2)
def f_X9_behindBlanks_b30 (N : Nat) (z : Nat → Nat) (k2 : Option Nat → Int32 → Hp → Option (Int32 × Hp)) (v0 : Option Nat) (v2 : Int32) (x0 : Hp) : Option (Int32 × Hp) :=
  k2 v0 (v2 + (1 : Int32)) x0
def f_X9_behindBlanks_b2 (N : Nat) (z : Nat → Nat) : Nat → Option Nat → Int32 → Hp → Option (Int32 × Hp)
  | 0, _, _, _ => none
  | n + 1, v0, v2, x0 => geti v0 x0 11 201 fun i1 =>
  if i1 ≤ v2 then (some (v2, x0)) else (obj v0 x0 11 fun q4 => bnd (f_X8_at N z q4 v2 x0) fun i3 x2 =>
  if i3 = (32 : Int32) then (f_X9_behindBlanks_b30 N z (f_X9_behindBlanks_b2 N z n) v0 v2 x2) else (obj v0 x2 11 fun q7 => bnd (f_X8_at N z q7 v2 x2) fun i6 x5 =>
  if i6 = (10 : Int32) then (f_X9_behindBlanks_b30 N z (f_X9_behindBlanks_b2 N z n) v0 v2 x5) else (some (v2, x5))))
def f_X9_behindBlanks (N : Nat) (z : Nat → Nat) (v0 : Option Nat) (v1 : Int32) (x0 : Hp) : Option (Int32 × Hp) :=
  f_X9_behindBlanks_b2 N z N v0 v1 x0
set_option maxRecDepth 100000 in
set_option maxHeartbeats 4000000 in
theorem g_X9_behindBlanks_b30 (l : Launch) (N : Nat) (z : Nat → Nat) {k2 : Option Nat → Int32 → Hp → Option (Int32 × Hp)} (hk2 : ∀ v0 v2 x, G l z m_X9_behindBlanks okT enI 2 [(0, va_rf v0), (2, .int v2)] [] x (k2 v0 v2 x)) (v0 : Option Nat) (v2 : Int32) (x0 : Hp) : G l z m_X9_behindBlanks okT enI 30 [(0, va_rf v0), (2, .int v2)] [] x0 (f_X9_behindBlanks_b30 N z k2 v0 v2 x0) := by
  unfold f_X9_behindBlanks_b30
  refine G_iinc (i := 2) (l2 := [(0, va_rf v0)]) 1 [0] dX9_behindBlanks_30 rfl rfl (Nat.le_of_ble_eq_true rfl) rfl (sok_a (by decide) (by decide) trivial) ?_
  refine G_goto (tgt := 2) dX9_behindBlanks_33 (by decide) ?_
  refine G_lv [1, 0] rfl ?_
  exact hk2 v0 (v2 + (1 : Int32)) x0

set_option maxRecDepth 100000 in
set_option maxHeartbeats 4000000 in
theorem g_X9_behindBlanks_b2 (l : Launch) (N : Nat) (z : Nat → Nat) : ∀ (n : Nat) (v0 : Option Nat) (v2 : Int32) (x0 : Hp), G l z m_X9_behindBlanks okT enI 2 [(0, va_rf v0), (2, .int v2)] [] x0 (f_X9_behindBlanks_b2 N z n v0 v2 x0) := by
  intro n
  induction n with
  | zero => intro v0 v2 x0; exact G_none
  | succ n ih =>
  intro v0 v2 x0
  rw [f_X9_behindBlanks_b2]
  refine G_iload_n 1 dX9_behindBlanks_2 rfl rfl ?_
  refine G_aload_n 0 dX9_behindBlanks_3 rfl rfl ?_
  refine G_geti (k := 1) K_10 (by decide) rfl rfl rfl gw_86 rfl dX9_behindBlanks_4 (fun i1 => ?_)
  refine G_icmp_ge (tgt := 36) dX9_behindBlanks_7 (by decide) (fun _ => ?_) (fun _ => ?_)
  · refine G_iload_n 1 dX9_behindBlanks_36 rfl rfl ?_
    exact G_ret trivial dX9_behindBlanks_37 rfl
  · refine G_aload_n 0 dX9_behindBlanks_10 rfl rfl ?_
    refine G_iload_n 1 dX9_behindBlanks_11 rfl rfl ?_
    refine G_callV (av := [.int v2]) [] (fun q4 => ct_X8_at l N z q4 v2) K_10 rfl yn_X8_at (Nat.le_of_ble_eq_true rfl) (by decide) gw_1167 gw_1168 gw_1169 gw_40 gw_1170 rfl (by decide) dX9_behindBlanks_12 (fun i3 x2 => ?_)
    refine G_bipush (v := (32 : Int32)) dX9_behindBlanks_15 (by decide) ?_
    refine G_icmp_eq (tgt := 30) dX9_behindBlanks_17 (by decide) (fun _ => ?_) (fun _ => ?_)
    · refine G_lv [0, 1] rfl ?_
      exact g_X9_behindBlanks_b30 l N z ih v0 v2 x2
    · refine G_aload_n 0 dX9_behindBlanks_20 rfl rfl ?_
      refine G_iload_n 1 dX9_behindBlanks_21 rfl rfl ?_
      refine G_callV (av := [.int v2]) [] (fun q7 => ct_X8_at l N z q7 v2) K_10 rfl yn_X8_at (Nat.le_of_ble_eq_true rfl) (by decide) gw_1167 gw_1168 gw_1169 gw_40 gw_1170 rfl (by decide) dX9_behindBlanks_22 (fun i6 x5 => ?_)
      refine G_bipush (v := (10 : Int32)) dX9_behindBlanks_25 (by decide) ?_
      refine G_icmp_ne (tgt := 36) dX9_behindBlanks_27 (by decide) (fun _ => ?_) (fun _ => ?_)
      · refine G_lv [0, 1] rfl ?_
        exact g_X9_behindBlanks_b30 l N z ih v0 v2 x5
      · refine G_iload_n 1 dX9_behindBlanks_36 rfl rfl ?_
        exact G_ret trivial dX9_behindBlanks_37 rfl

set_option maxRecDepth 100000 in
set_option maxHeartbeats 4000000 in
theorem g_X9_behindBlanks (l : Launch) (N : Nat) (z : Nat → Nat) (v0 : Option Nat) (v1 : Int32) (x0 : Hp) : G l z m_X9_behindBlanks okT enI 0 [(0, va_rf v0), (1, .int v1)] [] x0 (f_X9_behindBlanks N z v0 v1 x0) := by
  unfold f_X9_behindBlanks
  refine G_iload_n 1 dX9_behindBlanks_0 rfl rfl ?_
  refine G_istore_n (i := 2) (l2 := [(0, va_rf v0), (1, .int v1)]) [0, 1] dX9_behindBlanks_1 rfl (Nat.le_of_ble_eq_true rfl) rfl (sok_a (by decide) (by decide) (sok_b (by decide) rfl trivial)) ?_
  refine G_lv [1, 0] rfl ?_
  exact g_X9_behindBlanks_b2 l N z N v0 v1 x0

theorem yn_X9_behindBlanks : Yn yX9_behindBlanks 2 := ⟨by decide +kernel, by decide +kernel, by decide +kernel⟩
theorem ct_X9_behindBlanks (l : Launch) (N : Nat) (z : Nat → Nat) (v0 : Option Nat) (v1 : Int32) : Ct l z yX9_behindBlanks cX9_behindBlanks 3 (some .int) 2 enI [va_rf v0, .int v1] (f_X9_behindBlanks N z v0 v1) :=
  Ct_i (fun x => G_lv0 (by simp only [lva_n, lva_i, lva_o, lva_r, lva_j]) (g_X9_behindBlanks l N z v0 v1 x)) (by decide +kernel) (by simp only [lgl_n, lgl_i, lgl_o, lgl_r, lgl_j]; decide)

theorem dX9_add_0 : decode cX9_add 0 = .ok (.aload_n 0, 1) := by decide +kernel
theorem dX9_add_1 : decode cX9_add 1 = .ok (.getfield 41, 3) := by decide +kernel
theorem dX9_add_4 : decode cX9_add 4 = .ok (.ifCond .lt 79, 3) := by decide +kernel
theorem dX9_add_7 : decode cX9_add 7 = .ok (.aload_n 0, 1) := by decide +kernel
theorem dX9_add_8 : decode cX9_add 8 = .ok (.getfield 41, 3) := by decide +kernel
theorem dX9_add_11 : decode cX9_add 11 = .ok (.aload_n 0, 1) := by decide +kernel
theorem dX9_add_12 : decode cX9_add 12 = .ok (.getfield 15, 3) := by decide +kernel
theorem dX9_add_15 : decode cX9_add 15 = .ok (.arraylength, 1) := by decide +kernel
theorem dX9_add_16 : decode cX9_add 16 = .ok (.if_icmp .ge 67, 3) := by decide +kernel
theorem dX9_add_19 : decode cX9_add 19 = .ok (.aload_n 0, 1) := by decide +kernel
theorem dX9_add_20 : decode cX9_add 20 = .ok (.getfield 41, 3) := by decide +kernel
theorem dX9_add_23 : decode cX9_add 23 = .ok (.aload_n 0, 1) := by decide +kernel
theorem dX9_add_24 : decode cX9_add 24 = .ok (.getfield 19, 3) := by decide +kernel
theorem dX9_add_27 : decode cX9_add 27 = .ok (.arraylength, 1) := by decide +kernel
theorem dX9_add_28 : decode cX9_add 28 = .ok (.if_icmp .ge 55, 3) := by decide +kernel
theorem dX9_add_31 : decode cX9_add 31 = .ok (.aload_n 0, 1) := by decide +kernel
theorem dX9_add_32 : decode cX9_add 32 = .ok (.getfield 41, 3) := by decide +kernel
theorem dX9_add_35 : decode cX9_add 35 = .ok (.aload_n 0, 1) := by decide +kernel
theorem dX9_add_36 : decode cX9_add 36 = .ok (.getfield 22, 3) := by decide +kernel
theorem dX9_add_39 : decode cX9_add 39 = .ok (.arraylength, 1) := by decide +kernel
theorem dX9_add_40 : decode cX9_add 40 = .ok (.if_icmp .ge 43, 3) := by decide +kernel
theorem dX9_add_43 : decode cX9_add 43 = .ok (.aload_n 0, 1) := by decide +kernel
theorem dX9_add_44 : decode cX9_add 44 = .ok (.getfield 15, 3) := by decide +kernel
theorem dX9_add_47 : decode cX9_add 47 = .ok (.aload_n 0, 1) := by decide +kernel
theorem dX9_add_48 : decode cX9_add 48 = .ok (.getfield 41, 3) := by decide +kernel
theorem dX9_add_51 : decode cX9_add 51 = .ok (.iload_n 1, 1) := by decide +kernel
theorem dX9_add_52 : decode cX9_add 52 = .ok (.iastore, 1) := by decide +kernel
theorem dX9_add_53 : decode cX9_add 53 = .ok (.aload_n 0, 1) := by decide +kernel
theorem dX9_add_54 : decode cX9_add 54 = .ok (.getfield 19, 3) := by decide +kernel
theorem dX9_add_57 : decode cX9_add 57 = .ok (.aload_n 0, 1) := by decide +kernel
theorem dX9_add_58 : decode cX9_add 58 = .ok (.getfield 41, 3) := by decide +kernel
theorem dX9_add_61 : decode cX9_add 61 = .ok (.iload_n 2, 1) := by decide +kernel
theorem dX9_add_62 : decode cX9_add 62 = .ok (.iastore, 1) := by decide +kernel
theorem dX9_add_63 : decode cX9_add 63 = .ok (.aload_n 0, 1) := by decide +kernel
theorem dX9_add_64 : decode cX9_add 64 = .ok (.getfield 22, 3) := by decide +kernel
theorem dX9_add_67 : decode cX9_add 67 = .ok (.aload_n 0, 1) := by decide +kernel
theorem dX9_add_68 : decode cX9_add 68 = .ok (.getfield 41, 3) := by decide +kernel
theorem dX9_add_71 : decode cX9_add 71 = .ok (.lload_n 3, 1) := by decide +kernel
theorem dX9_add_72 : decode cX9_add 72 = .ok (.lastore, 1) := by decide +kernel
theorem dX9_add_73 : decode cX9_add 73 = .ok (.aload_n 0, 1) := by decide +kernel
theorem dX9_add_74 : decode cX9_add 74 = .ok (.dup, 1) := by decide +kernel
theorem dX9_add_75 : decode cX9_add 75 = .ok (.getfield 41, 3) := by decide +kernel
theorem dX9_add_78 : decode cX9_add 78 = .ok (.iconst 1, 1) := by decide +kernel
theorem dX9_add_79 : decode cX9_add 79 = .ok (.iadd, 1) := by decide +kernel
theorem dX9_add_80 : decode cX9_add 80 = .ok (.putfield 41, 3) := by decide +kernel
theorem dX9_add_83 : decode cX9_add 83 = .ok (.return_, 1) := by decide +kernel
abbrev m_X9_add : Mt := (cX9_add, RX9, "add", 5, .return_, 1)
def f_X9_add (N : Nat) (z : Nat → Nat) (o : Nat) (v1 : Int32) (v2 : Int32) (v3 : Int64) (x0 : Hp) : Option (Unit × Hp) :=
  geti (some o) x0 12 224 fun i1 =>
  if i1 < 0 then (some ((), x0)) else (geti (some o) x0 12 224 fun i2 =>
  getr (some o) x0 12 221 fun r3 =>
  alen r3 x0 101 fun i4 =>
  if i4 ≤ i2 then (some ((), x0)) else (geti (some o) x0 12 224 fun i5 =>
  getr (some o) x0 12 222 fun r6 =>
  alen r6 x0 101 fun i7 =>
  if i7 ≤ i5 then (some ((), x0)) else (geti (some o) x0 12 224 fun i8 =>
  getr (some o) x0 12 223 fun r9 =>
  alen r9 x0 102 fun i10 =>
  if i10 ≤ i8 then (some ((), x0)) else (getr (some o) x0 12 221 fun r11 =>
  geti (some o) x0 12 224 fun i12 =>
  asti r11 x0 101 i12 v1 fun x13 =>
  getr (some o) x13 12 222 fun r14 =>
  geti (some o) x13 12 224 fun i15 =>
  asti r14 x13 101 i15 v2 fun x16 =>
  getr (some o) x16 12 223 fun r17 =>
  geti (some o) x16 12 224 fun i18 =>
  astl r17 x16 102 i18 v3 fun x19 =>
  geti (some o) x19 12 224 fun i20 =>
  puti (some o) x19 12 224 (i20 + (1 : Int32)) fun x21 =>
  some ((), x21)))))
set_option maxRecDepth 100000 in
set_option maxHeartbeats 4000000 in
theorem g_X9_add (l : Launch) (N : Nat) (z : Nat → Nat) (o : Nat) (v1 : Int32) (v2 : Int32) (v3 : Int64) (x0 : Hp) : G l z m_X9_add okT enV 0 [(0, va_rf (some o)), (1, .int v1), (2, .int v2), (3, .long v3)] [] x0 (f_X9_add N z o v1 v2 v3 x0) := by
  unfold f_X9_add
  refine G_aload_n 0 dX9_add_0 rfl rfl ?_
  refine G_geti (k := 4) K_11 (by decide) rfl rfl rfl gw_413 rfl dX9_add_1 (fun i1 => ?_)
  refine G_if_lt (tgt := 83) dX9_add_4 (by decide) (fun _ => ?_) (fun _ => ?_)
  · exact G_ret trivial dX9_add_83 rfl
  · refine G_aload_n 0 dX9_add_7 rfl rfl ?_
    refine G_geti (k := 4) K_11 (by decide) rfl rfl rfl gw_413 rfl dX9_add_8 (fun i2 => ?_)
    refine G_aload_n 0 dX9_add_11 rfl rfl ?_
    refine G_getr (k := 1) K_11 (by decide) rfl rfl rfl gw_410 rfl dX9_add_12 (fun r3 => ?_)
    refine G_alen (t := 1) rfl (by decide) dX9_add_15 (fun i4 => ?_)
    refine G_icmp_ge (tgt := 83) dX9_add_16 (by decide) (fun _ => ?_) (fun _ => ?_)
    · exact G_ret trivial dX9_add_83 rfl
    · refine G_aload_n 0 dX9_add_19 rfl rfl ?_
      refine G_geti (k := 4) K_11 (by decide) rfl rfl rfl gw_413 rfl dX9_add_20 (fun i5 => ?_)
      refine G_aload_n 0 dX9_add_23 rfl rfl ?_
      refine G_getr (k := 2) K_11 (by decide) rfl rfl rfl gw_411 rfl dX9_add_24 (fun r6 => ?_)
      refine G_alen (t := 1) rfl (by decide) dX9_add_27 (fun i7 => ?_)
      refine G_icmp_ge (tgt := 83) dX9_add_28 (by decide) (fun _ => ?_) (fun _ => ?_)
      · exact G_ret trivial dX9_add_83 rfl
      · refine G_aload_n 0 dX9_add_31 rfl rfl ?_
        refine G_geti (k := 4) K_11 (by decide) rfl rfl rfl gw_413 rfl dX9_add_32 (fun i8 => ?_)
        refine G_aload_n 0 dX9_add_35 rfl rfl ?_
        refine G_getr (k := 3) K_11 (by decide) rfl rfl rfl gw_412 rfl dX9_add_36 (fun r9 => ?_)
        refine G_alen (t := 2) rfl (by decide) dX9_add_39 (fun i10 => ?_)
        refine G_icmp_ge (tgt := 83) dX9_add_40 (by decide) (fun _ => ?_) (fun _ => ?_)
        · exact G_ret trivial dX9_add_83 rfl
        · refine G_aload_n 0 dX9_add_43 rfl rfl ?_
          refine G_getr (k := 1) K_11 (by decide) rfl rfl rfl gw_410 rfl dX9_add_44 (fun r11 => ?_)
          refine G_aload_n 0 dX9_add_47 rfl rfl ?_
          refine G_geti (k := 4) K_11 (by decide) rfl rfl rfl gw_413 rfl dX9_add_48 (fun i12 => ?_)
          refine G_iload_n 1 dX9_add_51 rfl rfl ?_
          refine G_iast dX9_add_52 (fun x13 => ?_)
          refine G_aload_n 0 dX9_add_53 rfl rfl ?_
          refine G_getr (k := 2) K_11 (by decide) rfl rfl rfl gw_411 rfl dX9_add_54 (fun r14 => ?_)
          refine G_aload_n 0 dX9_add_57 rfl rfl ?_
          refine G_geti (k := 4) K_11 (by decide) rfl rfl rfl gw_413 rfl dX9_add_58 (fun i15 => ?_)
          refine G_iload_n 2 dX9_add_61 rfl rfl ?_
          refine G_iast dX9_add_62 (fun x16 => ?_)
          refine G_aload_n 0 dX9_add_63 rfl rfl ?_
          refine G_getr (k := 3) K_11 (by decide) rfl rfl rfl gw_412 rfl dX9_add_64 (fun r17 => ?_)
          refine G_aload_n 0 dX9_add_67 rfl rfl ?_
          refine G_geti (k := 4) K_11 (by decide) rfl rfl rfl gw_413 rfl dX9_add_68 (fun i18 => ?_)
          refine G_lload_n 3 dX9_add_71 rfl rfl ?_
          refine G_last dX9_add_72 (fun x19 => ?_)
          refine G_aload_n 0 dX9_add_73 rfl rfl ?_
          refine G_dup dX9_add_74 (rf_cat _) ?_
          refine G_geti (k := 4) K_11 (by decide) rfl rfl rfl gw_413 rfl dX9_add_75 (fun i20 => ?_)
          refine G_iconst (v := (1 : Int32)) dX9_add_78 rfl ?_
          refine G_iadd dX9_add_79 ?_
          refine G_puti (k := 4) K_11 (by decide) rfl rfl rfl gw_413 rfl (Or.inl rfl) nar_int.1 nar_int.2 dX9_add_80 (fun x21 => ?_)
          exact G_ret trivial dX9_add_83 rfl

theorem yn_X9_add : Yn yX9_add 3 := ⟨by decide +kernel, by decide +kernel, by decide +kernel⟩
theorem ct_X9_add (l : Launch) (N : Nat) (z : Nat → Nat) (o : Nat) (v1 : Int32) (v2 : Int32) (v3 : Int64) : Ct l z yX9_add cX9_add 5 none 1 enV [.ref o, .int v1, .int v2, .long v3] (f_X9_add N z o v1 v2 v3) :=
  Ct_v (fun x => G_lv0 (by simp only [lva_n, lva_i, lva_o, lva_r, lva_j]) (g_X9_add l N z o v1 v2 v3 x)) (by decide +kernel) (by simp only [lgl_n, lgl_i, lgl_o, lgl_r, lgl_j]; decide)

theorem dX9_isLetter_0 : decode cX9_isLetter 0 = .ok (.iload_n 0, 1) := by decide +kernel
theorem dX9_isLetter_1 : decode cX9_isLetter 1 = .ok (.bipush 97, 2) := by decide +kernel
theorem dX9_isLetter_3 : decode cX9_isLetter 3 = .ok (.if_icmp .lt 13, 3) := by decide +kernel
theorem dX9_isLetter_6 : decode cX9_isLetter 6 = .ok (.iload_n 0, 1) := by decide +kernel
theorem dX9_isLetter_7 : decode cX9_isLetter 7 = .ok (.bipush 122, 2) := by decide +kernel
theorem dX9_isLetter_9 : decode cX9_isLetter 9 = .ok (.if_icmp .gt 7, 3) := by decide +kernel
theorem dX9_isLetter_12 : decode cX9_isLetter 12 = .ok (.iconst 1, 1) := by decide +kernel
theorem dX9_isLetter_13 : decode cX9_isLetter 13 = .ok (.goto 4, 3) := by decide +kernel
theorem dX9_isLetter_16 : decode cX9_isLetter 16 = .ok (.iconst 0, 1) := by decide +kernel
theorem dX9_isLetter_17 : decode cX9_isLetter 17 = .ok (.ireturn, 1) := by decide +kernel
abbrev m_X9_isLetter : Mt := (cX9_isLetter, RX9, "isLetter", 1, .ireturn, 1)
def f_X9_isLetter (N : Nat) (z : Nat → Nat) (v0 : Int32) (x0 : Hp) : Option (Int32 × Hp) :=
  if v0 < (97 : Int32) then (some ((0 : Int32), x0)) else (if (122 : Int32) < v0 then (some ((0 : Int32), x0)) else (some ((1 : Int32), x0)))
set_option maxRecDepth 100000 in
set_option maxHeartbeats 4000000 in
theorem g_X9_isLetter (l : Launch) (N : Nat) (z : Nat → Nat) (v0 : Int32) (x0 : Hp) : G l z m_X9_isLetter okZ enI 0 [(0, .int v0)] [] x0 (f_X9_isLetter N z v0 x0) := by
  unfold f_X9_isLetter
  refine G_iload_n 0 dX9_isLetter_0 rfl rfl ?_
  refine G_bipush (v := (97 : Int32)) dX9_isLetter_1 (by decide) ?_
  refine G_icmp_lt (tgt := 16) dX9_isLetter_3 (by decide) (fun _ => ?_) (fun _ => ?_)
  · refine G_iconst (v := (0 : Int32)) dX9_isLetter_16 rfl ?_
    exact G_ret (Or.inl rfl) dX9_isLetter_17 rfl
  · refine G_iload_n 0 dX9_isLetter_6 rfl rfl ?_
    refine G_bipush (v := (122 : Int32)) dX9_isLetter_7 (by decide) ?_
    refine G_icmp_gt (tgt := 16) dX9_isLetter_9 (by decide) (fun _ => ?_) (fun _ => ?_)
    · refine G_iconst (v := (0 : Int32)) dX9_isLetter_16 rfl ?_
      exact G_ret (Or.inl rfl) dX9_isLetter_17 rfl
    · refine G_iconst (v := (1 : Int32)) dX9_isLetter_12 rfl ?_
      refine G_goto (tgt := 17) dX9_isLetter_13 (by decide) ?_
      exact G_ret (Or.inr rfl) dX9_isLetter_17 rfl

theorem yn_X9_isLetter : Yn yX9_isLetter 1 := ⟨by decide +kernel, by decide +kernel, by decide +kernel⟩
theorem ct_X9_isLetter (l : Launch) (N : Nat) (z : Nat → Nat) (v0 : Int32) : Ct l z yX9_isLetter cX9_isLetter 1 (some .boolean) 1 enI [.int v0] (f_X9_isLetter N z v0) :=
  Ct_z (fun x => G_lv0 (by simp only [lva_n, lva_i, lva_o, lva_r, lva_j]) (g_X9_isLetter l N z v0 x)) (by decide +kernel) (by simp only [lgl_n, lgl_i, lgl_o, lgl_r, lgl_j]; decide)

theorem dX9_kindOfWord_0 : decode cX9_kindOfWord 0 = .ok (.iconst 0, 1) := by decide +kernel
theorem dX9_kindOfWord_1 : decode cX9_kindOfWord 1 = .ok (.istore_n 3, 1) := by decide +kernel
theorem dX9_kindOfWord_2 : decode cX9_kindOfWord 2 = .ok (.iload_n 3, 1) := by decide +kernel
theorem dX9_kindOfWord_3 : decode cX9_kindOfWord 3 = .ok (.aload_n 0, 1) := by decide +kernel
theorem dX9_kindOfWord_4 : decode cX9_kindOfWord 4 = .ok (.getfield 9, 3) := by decide +kernel
theorem dX9_kindOfWord_7 : decode cX9_kindOfWord 7 = .ok (.arraylength, 1) := by decide +kernel
theorem dX9_kindOfWord_8 : decode cX9_kindOfWord 8 = .ok (.if_icmp .ge 22, 3) := by decide +kernel
theorem dX9_kindOfWord_11 : decode cX9_kindOfWord 11 = .ok (.aload_n 0, 1) := by decide +kernel
theorem dX9_kindOfWord_12 : decode cX9_kindOfWord 12 = .ok (.getfield 9, 3) := by decide +kernel
theorem dX9_kindOfWord_15 : decode cX9_kindOfWord 15 = .ok (.iload_n 3, 1) := by decide +kernel
theorem dX9_kindOfWord_16 : decode cX9_kindOfWord 16 = .ok (.laload, 1) := by decide +kernel
theorem dX9_kindOfWord_17 : decode cX9_kindOfWord 17 = .ok (.lload_n 1, 1) := by decide +kernel
theorem dX9_kindOfWord_18 : decode cX9_kindOfWord 18 = .ok (.lcmp, 1) := by decide +kernel
theorem dX9_kindOfWord_19 : decode cX9_kindOfWord 19 = .ok (.ifCond .ne 5, 3) := by decide +kernel
theorem dX9_kindOfWord_22 : decode cX9_kindOfWord 22 = .ok (.iload_n 3, 1) := by decide +kernel
theorem dX9_kindOfWord_23 : decode cX9_kindOfWord 23 = .ok (.ireturn, 1) := by decide +kernel
theorem dX9_kindOfWord_24 : decode cX9_kindOfWord 24 = .ok (.iinc 3 1, 3) := by decide +kernel
theorem dX9_kindOfWord_27 : decode cX9_kindOfWord 27 = .ok (.goto (-25), 3) := by decide +kernel
theorem dX9_kindOfWord_30 : decode cX9_kindOfWord 30 = .ok (.bipush 34, 2) := by decide +kernel
theorem dX9_kindOfWord_32 : decode cX9_kindOfWord 32 = .ok (.ireturn, 1) := by decide +kernel
abbrev m_X9_kindOfWord : Mt := (cX9_kindOfWord, RX9, "kindOfWord", 4, .ireturn, 1)
def f_X9_kindOfWord_b2 (N : Nat) (z : Nat → Nat) : Nat → Nat → Int64 → Int32 → Hp → Option (Int32 × Hp)
  | 0, _, _, _, _ => none
  | n + 1, o, v1, v3, x0 => getr (some o) x0 12 220 fun r1 =>
  alen r1 x0 102 fun i2 =>
  if i2 ≤ v3 then (some ((34 : Int32), x0)) else (getr (some o) x0 12 220 fun r3 =>
  aldl r3 x0 102 v3 fun j4 =>
  if (lg_cmp j4 v1) = 0 then (some (v3, x0)) else (f_X9_kindOfWord_b2 N z n o v1 (v3 + (1 : Int32)) x0))
def f_X9_kindOfWord (N : Nat) (z : Nat → Nat) (o : Nat) (v1 : Int64) (x0 : Hp) : Option (Int32 × Hp) :=
  f_X9_kindOfWord_b2 N z N o v1 (0 : Int32) x0
set_option maxRecDepth 100000 in
set_option maxHeartbeats 4000000 in
theorem g_X9_kindOfWord_b2 (l : Launch) (N : Nat) (z : Nat → Nat) : ∀ (n : Nat) (o : Nat) (v1 : Int64) (v3 : Int32) (x0 : Hp), G l z m_X9_kindOfWord okT enI 2 [(0, va_rf (some o)), (1, .long v1), (3, .int v3)] [] x0 (f_X9_kindOfWord_b2 N z n o v1 v3 x0) := by
  intro n
  induction n with
  | zero => intro o v1 v3 x0; exact G_none
  | succ n ih =>
  intro o v1 v3 x0
  rw [f_X9_kindOfWord_b2]
  refine G_iload_n 2 dX9_kindOfWord_2 rfl rfl ?_
  refine G_aload_n 0 dX9_kindOfWord_3 rfl rfl ?_
  refine G_getr (k := 0) K_11 (by decide) rfl rfl rfl gw_409 rfl dX9_kindOfWord_4 (fun r1 => ?_)
  refine G_alen (t := 2) rfl (by decide) dX9_kindOfWord_7 (fun i2 => ?_)
  refine G_icmp_ge (tgt := 30) dX9_kindOfWord_8 (by decide) (fun _ => ?_) (fun _ => ?_)
  · refine G_bipush (v := (34 : Int32)) dX9_kindOfWord_30 (by decide) ?_
    exact G_ret trivial dX9_kindOfWord_32 rfl
  · refine G_aload_n 0 dX9_kindOfWord_11 rfl rfl ?_
    refine G_getr (k := 0) K_11 (by decide) rfl rfl rfl gw_409 rfl dX9_kindOfWord_12 (fun r3 => ?_)
    refine G_iload_n 2 dX9_kindOfWord_15 rfl rfl ?_
    refine G_lald dX9_kindOfWord_16 (fun j4 => ?_)
    refine G_lload_n 1 dX9_kindOfWord_17 rfl rfl ?_
    refine G_lcmp dX9_kindOfWord_18 ?_
    refine G_if_ne (tgt := 24) dX9_kindOfWord_19 (by decide) (fun _ => ?_) (fun _ => ?_)
    · refine G_iload_n 2 dX9_kindOfWord_22 rfl rfl ?_
      exact G_ret trivial dX9_kindOfWord_23 rfl
    · refine G_iinc (i := 3) (l2 := [(0, va_rf (some o)), (1, .long v1)]) 2 [0, 1] dX9_kindOfWord_24 rfl rfl (Nat.le_of_ble_eq_true rfl) rfl (sok_a (by decide) (by decide) (sok_a (by decide) (by decide) trivial)) ?_
      refine G_goto (tgt := 2) dX9_kindOfWord_27 (by decide) ?_
      refine G_lv [1, 2, 0] rfl ?_
      exact ih o v1 (v3 + (1 : Int32)) x0

set_option maxRecDepth 100000 in
set_option maxHeartbeats 4000000 in
theorem g_X9_kindOfWord (l : Launch) (N : Nat) (z : Nat → Nat) (o : Nat) (v1 : Int64) (x0 : Hp) : G l z m_X9_kindOfWord okT enI 0 [(0, va_rf (some o)), (1, .long v1)] [] x0 (f_X9_kindOfWord N z o v1 x0) := by
  unfold f_X9_kindOfWord
  refine G_iconst (v := (0 : Int32)) dX9_kindOfWord_0 rfl ?_
  refine G_istore_n (i := 3) (l2 := [(0, va_rf (some o)), (1, .long v1)]) [0, 1] dX9_kindOfWord_1 rfl (Nat.le_of_ble_eq_true rfl) rfl (sok_a (by decide) (by decide) (sok_a (by decide) (by decide) trivial)) ?_
  refine G_lv [1, 2, 0] rfl ?_
  exact g_X9_kindOfWord_b2 l N z N o v1 (0 : Int32) x0

theorem yn_X9_kindOfWord : Yn yX9_kindOfWord 1 := ⟨by decide +kernel, by decide +kernel, by decide +kernel⟩
theorem ct_X9_kindOfWord (l : Launch) (N : Nat) (z : Nat → Nat) (o : Nat) (v1 : Int64) : Ct l z yX9_kindOfWord cX9_kindOfWord 4 (some .int) 1 enI [.ref o, .long v1] (f_X9_kindOfWord N z o v1) :=
  Ct_i (fun x => G_lv0 (by simp only [lva_n, lva_i, lva_o, lva_r, lva_j]) (g_X9_kindOfWord l N z o v1 x)) (by decide +kernel) (by simp only [lgl_n, lgl_i, lgl_o, lgl_r, lgl_j]; decide)

theorem dX9_scanWord_0 : decode cX9_scanWord 0 = .ok (.lconst 0, 1) := by decide +kernel
theorem dX9_scanWord_1 : decode cX9_scanWord 1 = .ok (.lstore_n 3, 1) := by decide +kernel
theorem dX9_scanWord_2 : decode cX9_scanWord 2 = .ok (.iload_n 2, 1) := by decide +kernel
theorem dX9_scanWord_3 : decode cX9_scanWord 3 = .ok (.istore 5, 2) := by decide +kernel
theorem dX9_scanWord_5 : decode cX9_scanWord 5 = .ok (.iload 5, 2) := by decide +kernel
theorem dX9_scanWord_7 : decode cX9_scanWord 7 = .ok (.aload_n 1, 1) := by decide +kernel
theorem dX9_scanWord_8 : decode cX9_scanWord 8 = .ok (.getfield 56, 3) := by decide +kernel
theorem dX9_scanWord_11 : decode cX9_scanWord 11 = .ok (.if_icmp .ge 44, 3) := by decide +kernel
theorem dX9_scanWord_14 : decode cX9_scanWord 14 = .ok (.aload_n 1, 1) := by decide +kernel
theorem dX9_scanWord_15 : decode cX9_scanWord 15 = .ok (.iload 5, 2) := by decide +kernel
theorem dX9_scanWord_17 : decode cX9_scanWord 17 = .ok (.invokevirtual 60, 3) := by decide +kernel
theorem dX9_scanWord_20 : decode cX9_scanWord 20 = .ok (.invokestatic 67, 3) := by decide +kernel
theorem dX9_scanWord_23 : decode cX9_scanWord 23 = .ok (.ifCond .ne 15, 3) := by decide +kernel
theorem dX9_scanWord_26 : decode cX9_scanWord 26 = .ok (.aload_n 1, 1) := by decide +kernel
theorem dX9_scanWord_27 : decode cX9_scanWord 27 = .ok (.iload 5, 2) := by decide +kernel
theorem dX9_scanWord_29 : decode cX9_scanWord 29 = .ok (.invokevirtual 60, 3) := by decide +kernel
theorem dX9_scanWord_32 : decode cX9_scanWord 32 = .ok (.invokestatic 74, 3) := by decide +kernel
theorem dX9_scanWord_35 : decode cX9_scanWord 35 = .ok (.ifCond .eq 20, 3) := by decide +kernel
theorem dX9_scanWord_38 : decode cX9_scanWord 38 = .ok (.lload_n 3, 1) := by decide +kernel
theorem dX9_scanWord_39 : decode cX9_scanWord 39 = .ok (.aload_n 1, 1) := by decide +kernel
theorem dX9_scanWord_40 : decode cX9_scanWord 40 = .ok (.iload 5, 2) := by decide +kernel
theorem dX9_scanWord_42 : decode cX9_scanWord 42 = .ok (.invokevirtual 60, 3) := by decide +kernel
theorem dX9_scanWord_45 : decode cX9_scanWord 45 = .ok (.invokestatic 37, 3) := by decide +kernel
theorem dX9_scanWord_48 : decode cX9_scanWord 48 = .ok (.lstore_n 3, 1) := by decide +kernel
theorem dX9_scanWord_49 : decode cX9_scanWord 49 = .ok (.iinc 5 1, 3) := by decide +kernel
theorem dX9_scanWord_52 : decode cX9_scanWord 52 = .ok (.goto (-47), 3) := by decide +kernel
theorem dX9_scanWord_55 : decode cX9_scanWord 55 = .ok (.aload_n 0, 1) := by decide +kernel
theorem dX9_scanWord_56 : decode cX9_scanWord 56 = .ok (.iload 5, 2) := by decide +kernel
theorem dX9_scanWord_58 : decode cX9_scanWord 58 = .ok (.iload_n 2, 1) := by decide +kernel
theorem dX9_scanWord_59 : decode cX9_scanWord 59 = .ok (.isub, 1) := by decide +kernel
theorem dX9_scanWord_60 : decode cX9_scanWord 60 = .ok (.bipush 10, 2) := by decide +kernel
theorem dX9_scanWord_62 : decode cX9_scanWord 62 = .ok (.if_icmp .le 8, 3) := by decide +kernel
theorem dX9_scanWord_65 : decode cX9_scanWord 65 = .ok (.bipush 39, 2) := by decide +kernel
theorem dX9_scanWord_67 : decode cX9_scanWord 67 = .ok (.goto 8, 3) := by decide +kernel
theorem dX9_scanWord_70 : decode cX9_scanWord 70 = .ok (.aload_n 0, 1) := by decide +kernel
theorem dX9_scanWord_71 : decode cX9_scanWord 71 = .ok (.lload_n 3, 1) := by decide +kernel
theorem dX9_scanWord_72 : decode cX9_scanWord 72 = .ok (.invokevirtual 83, 3) := by decide +kernel
theorem dX9_scanWord_75 : decode cX9_scanWord 75 = .ok (.iload_n 2, 1) := by decide +kernel
theorem dX9_scanWord_76 : decode cX9_scanWord 76 = .ok (.lload_n 3, 1) := by decide +kernel
theorem dX9_scanWord_77 : decode cX9_scanWord 77 = .ok (.invokevirtual 63, 3) := by decide +kernel
theorem dX9_scanWord_80 : decode cX9_scanWord 80 = .ok (.iload 5, 2) := by decide +kernel
theorem dX9_scanWord_82 : decode cX9_scanWord 82 = .ok (.ireturn, 1) := by decide +kernel
abbrev m_X9_scanWord : Mt := (cX9_scanWord, RX9, "scanWord", 6, .ireturn, 3)
def f_X9_scanWord_b38 (N : Nat) (z : Nat → Nat) (k5 : Nat → Option Nat → Int32 → Int64 → Int32 → Hp → Option (Int32 × Hp)) (o : Nat) (v1 : Option Nat) (v2 : Int32) (v3 : Int64) (v5 : Int32) (x0 : Hp) : Option (Int32 × Hp) :=
  obj v1 x0 11 fun q3 => bnd (f_X8_at N z q3 v5 x0) fun i2 x1 =>
  bnd (f_X9_longer N z v3 i2 x1) fun i5 x4 =>
  k5 o v1 v2 i5 (v5 + (1 : Int32)) x4
def f_X9_scanWord_b75 (N : Nat) (z : Nat → Nat) (v2 : Int32) (v3 : Int64) (v5 : Int32) (s0 : Int32) (s1 : Option Nat) (x0 : Hp) : Option (Int32 × Hp) :=
  obj s1 x0 12 fun q7 => bnd (f_X9_add N z q7 s0 v2 v3 x0) fun _ x6 =>
  some (v5, x6)
def f_X9_scanWord_b55 (N : Nat) (z : Nat → Nat) (o : Nat) (v2 : Int32) (v3 : Int64) (v5 : Int32) (x0 : Hp) : Option (Int32 × Hp) :=
  if (v5 - v2) ≤ (10 : Int32) then (obj (some o) x0 12 fun q10 => bnd (f_X9_kindOfWord N z q10 v3 x0) fun i9 x8 =>
  f_X9_scanWord_b75 N z v2 v3 v5 i9 (some o) x8) else (f_X9_scanWord_b75 N z v2 v3 v5 (39 : Int32) (some o) x0)
def f_X9_scanWord_b5 (N : Nat) (z : Nat → Nat) : Nat → Nat → Option Nat → Int32 → Int64 → Int32 → Hp → Option (Int32 × Hp)
  | 0, _, _, _, _, _, _ => none
  | n + 1, o, v1, v2, v3, v5, x0 => geti v1 x0 11 201 fun i11 =>
  if i11 ≤ v5 then (f_X9_scanWord_b55 N z o v2 v3 v5 x0) else (obj v1 x0 11 fun q14 => bnd (f_X8_at N z q14 v5 x0) fun i13 x12 =>
  bnd (f_X9_isLetter N z i13 x12) fun i16 x15 =>
  if i16 = 0 then (obj v1 x15 11 fun q19 => bnd (f_X8_at N z q19 v5 x15) fun i18 x17 =>
  bnd (f_X9_isDigit N z i18 x17) fun i21 x20 =>
  if i21 = 0 then (f_X9_scanWord_b55 N z o v2 v3 v5 x20) else (f_X9_scanWord_b38 N z (f_X9_scanWord_b5 N z n) o v1 v2 v3 v5 x20)) else (f_X9_scanWord_b38 N z (f_X9_scanWord_b5 N z n) o v1 v2 v3 v5 x15))
def f_X9_scanWord (N : Nat) (z : Nat → Nat) (o : Nat) (v1 : Option Nat) (v2 : Int32) (x0 : Hp) : Option (Int32 × Hp) :=
  f_X9_scanWord_b5 N z N o v1 v2 (0 : Int64) v2 x0
set_option maxRecDepth 100000 in
set_option maxHeartbeats 4000000 in
theorem g_X9_scanWord_b38 (l : Launch) (N : Nat) (z : Nat → Nat) {k5 : Nat → Option Nat → Int32 → Int64 → Int32 → Hp → Option (Int32 × Hp)} (hk5 : ∀ o v1 v2 v3 v5 x, G l z m_X9_scanWord okT enI 5 [(0, va_rf (some o)), (1, va_rf v1), (2, .int v2), (3, .long v3), (5, .int v5)] [] x (k5 o v1 v2 v3 v5 x)) (o : Nat) (v1 : Option Nat) (v2 : Int32) (v3 : Int64) (v5 : Int32) (x0 : Hp) : G l z m_X9_scanWord okT enI 38 [(0, va_rf (some o)), (1, va_rf v1), (2, .int v2), (3, .long v3), (5, .int v5)] [] x0 (f_X9_scanWord_b38 N z k5 o v1 v2 v3 v5 x0) := by
  unfold f_X9_scanWord_b38
  refine G_lload_n 3 dX9_scanWord_38 rfl rfl ?_
  refine G_aload_n 1 dX9_scanWord_39 rfl rfl ?_
  refine G_iload 4 dX9_scanWord_40 rfl ?_
  refine G_callV (av := [.int v5]) [.long v3] (fun q3 => ct_X8_at l N z q3 v5) K_10 rfl yn_X8_at (Nat.le_of_ble_eq_true rfl) (by decide) gw_1167 gw_1168 gw_1169 gw_40 gw_1170 rfl (by simp only [hw_n, hw_i, hw_r, hw_j, hw_d]; decide) dX9_scanWord_42 (fun i2 x1 => ?_)
  refine G_callS (av := [.long v3, .int i2]) [] (ct_X9_longer l N z v3 i2) yn_X9_longer (Nat.le_of_ble_eq_true rfl) (by decide) gw_402 gw_403 gw_49 gw_404 rfl (by decide) dX9_scanWord_45 (fun i5 x4 => ?_)
  refine G_lstore_n (i := 3) (l2 := [(0, va_rf (some o)), (1, va_rf v1), (2, .int v2), (5, .int v5)]) [0, 1, 2, 4] dX9_scanWord_48 rfl (Nat.le_of_ble_eq_true rfl) rfl (sok_a (by decide) (by decide) (sok_a (by decide) (by decide) (sok_b (by decide) rfl (sok_a (by decide) (by decide) trivial)))) (sok2_a (by decide) (sok2_a (by decide) (sok2_a (by decide) (sok2_a (by decide) trivial)))) ?_
  refine G_iinc (i := 5) (l2 := [(3, .long i5), (0, va_rf (some o)), (1, va_rf v1), (2, .int v2)]) 4 [0, 1, 2, 3] dX9_scanWord_49 rfl rfl (Nat.le_of_ble_eq_true rfl) rfl (sok_a (by decide) (by decide) (sok_a (by decide) (by decide) (sok_a (by decide) (by decide) (sok_a (by decide) (by decide) trivial)))) ?_
  refine G_goto (tgt := 5) dX9_scanWord_52 (by decide) ?_
  refine G_lv [2, 3, 4, 1, 0] rfl ?_
  exact hk5 o v1 v2 i5 (v5 + (1 : Int32)) x4

set_option maxRecDepth 100000 in
set_option maxHeartbeats 4000000 in
theorem g_X9_scanWord_b75 (l : Launch) (N : Nat) (z : Nat → Nat) (v2 : Int32) (v3 : Int64) (v5 : Int32) (s0 : Int32) (s1 : Option Nat) (x0 : Hp) : G l z m_X9_scanWord okT enI 75 [(2, .int v2), (3, .long v3), (5, .int v5)] [.int s0, va_rf s1] x0 (f_X9_scanWord_b75 N z v2 v3 v5 s0 s1 x0) := by
  unfold f_X9_scanWord_b75
  refine G_iload_n 0 dX9_scanWord_75 rfl rfl ?_
  refine G_lload_n 1 dX9_scanWord_76 rfl rfl ?_
  refine G_callV (av := [.int s0, .int v2, .long v3]) [] (fun q7 => ct_X9_add l N z q7 s0 v2 v3) K_11 rfl yn_X9_add (Nat.le_of_ble_eq_true rfl) (by decide) gw_1175 gw_1177 gw_s14 gw_49 gw_1178 rfl (by decide) dX9_scanWord_77 (fun _ x6 => ?_)
  refine G_iload 2 dX9_scanWord_80 rfl ?_
  exact G_ret trivial dX9_scanWord_82 rfl

set_option maxRecDepth 100000 in
set_option maxHeartbeats 4000000 in
theorem g_X9_scanWord_b55 (l : Launch) (N : Nat) (z : Nat → Nat) (o : Nat) (v2 : Int32) (v3 : Int64) (v5 : Int32) (x0 : Hp) : G l z m_X9_scanWord okT enI 55 [(0, va_rf (some o)), (2, .int v2), (3, .long v3), (5, .int v5)] [] x0 (f_X9_scanWord_b55 N z o v2 v3 v5 x0) := by
  unfold f_X9_scanWord_b55
  refine G_aload_n 0 dX9_scanWord_55 rfl rfl ?_
  refine G_iload 3 dX9_scanWord_56 rfl ?_
  refine G_iload_n 1 dX9_scanWord_58 rfl rfl ?_
  refine G_isub dX9_scanWord_59 ?_
  refine G_bipush (v := (10 : Int32)) dX9_scanWord_60 (by decide) ?_
  refine G_icmp_le (tgt := 70) dX9_scanWord_62 (by decide) (fun _ => ?_) (fun _ => ?_)
  · refine G_aload_n 0 dX9_scanWord_70 rfl rfl ?_
    refine G_lload_n 2 dX9_scanWord_71 rfl rfl ?_
    refine G_callV (av := [.long v3]) [va_rf (some o)] (fun q10 => ct_X9_kindOfWord l N z q10 v3) K_11 rfl yn_X9_kindOfWord (Nat.le_of_ble_eq_true rfl) (by decide) gw_1186 gw_1188 gw_s16 gw_49 gw_1189 rfl (by simp only [hw_n, hw_i, hw_r, hw_j, hw_d]; decide) dX9_scanWord_72 (fun i9 x8 => ?_)
    refine G_lv [1, 2, 3] rfl ?_
    exact g_X9_scanWord_b75 l N z v2 v3 v5 i9 (some o) x8
  · refine G_bipush (v := (39 : Int32)) dX9_scanWord_65 (by decide) ?_
    refine G_goto (tgt := 75) dX9_scanWord_67 (by decide) ?_
    refine G_lv [1, 2, 3] rfl ?_
    exact g_X9_scanWord_b75 l N z v2 v3 v5 (39 : Int32) (some o) x0

set_option maxRecDepth 100000 in
set_option maxHeartbeats 4000000 in
theorem g_X9_scanWord_b5 (l : Launch) (N : Nat) (z : Nat → Nat) : ∀ (n : Nat) (o : Nat) (v1 : Option Nat) (v2 : Int32) (v3 : Int64) (v5 : Int32) (x0 : Hp), G l z m_X9_scanWord okT enI 5 [(0, va_rf (some o)), (1, va_rf v1), (2, .int v2), (3, .long v3), (5, .int v5)] [] x0 (f_X9_scanWord_b5 N z n o v1 v2 v3 v5 x0) := by
  intro n
  induction n with
  | zero => intro o v1 v2 v3 v5 x0; exact G_none
  | succ n ih =>
  intro o v1 v2 v3 v5 x0
  rw [f_X9_scanWord_b5]
  refine G_iload 4 dX9_scanWord_5 rfl ?_
  refine G_aload_n 1 dX9_scanWord_7 rfl rfl ?_
  refine G_geti (k := 1) K_10 (by decide) rfl rfl rfl gw_86 rfl dX9_scanWord_8 (fun i11 => ?_)
  refine G_icmp_ge (tgt := 55) dX9_scanWord_11 (by decide) (fun _ => ?_) (fun _ => ?_)
  · refine G_lv [0, 2, 3, 4] rfl ?_
    exact g_X9_scanWord_b55 l N z o v2 v3 v5 x0
  · refine G_aload_n 1 dX9_scanWord_14 rfl rfl ?_
    refine G_iload 4 dX9_scanWord_15 rfl ?_
    refine G_callV (av := [.int v5]) [] (fun q14 => ct_X8_at l N z q14 v5) K_10 rfl yn_X8_at (Nat.le_of_ble_eq_true rfl) (by decide) gw_1167 gw_1168 gw_1169 gw_40 gw_1170 rfl (by decide) dX9_scanWord_17 (fun i13 x12 => ?_)
    refine G_callS (av := [.int i13]) [] (ct_X9_isLetter l N z i13) yn_X9_isLetter (Nat.le_of_ble_eq_true rfl) (by decide) gw_1179 gw_1180 gw_49 gw_1181 rfl (by decide) dX9_scanWord_20 (fun i16 x15 => ?_)
    refine G_if_ne (tgt := 38) dX9_scanWord_23 (by decide) (fun _ => ?_) (fun _ => ?_)
    · refine G_aload_n 1 dX9_scanWord_26 rfl rfl ?_
      refine G_iload 4 dX9_scanWord_27 rfl ?_
      refine G_callV (av := [.int v5]) [] (fun q19 => ct_X8_at l N z q19 v5) K_10 rfl yn_X8_at (Nat.le_of_ble_eq_true rfl) (by decide) gw_1167 gw_1168 gw_1169 gw_40 gw_1170 rfl (by decide) dX9_scanWord_29 (fun i18 x17 => ?_)
      refine G_callS (av := [.int i18]) [] (ct_X9_isDigit l N z i18) yn_X9_isDigit (Nat.le_of_ble_eq_true rfl) (by decide) gw_406 gw_407 gw_49 gw_408 rfl (by decide) dX9_scanWord_32 (fun i21 x20 => ?_)
      refine G_if_eq (tgt := 55) dX9_scanWord_35 (by decide) (fun _ => ?_) (fun _ => ?_)
      · refine G_lv [0, 2, 3, 4] rfl ?_
        exact g_X9_scanWord_b55 l N z o v2 v3 v5 x20
      · refine G_lv [0, 1, 2, 3, 4] rfl ?_
        exact g_X9_scanWord_b38 l N z ih o v1 v2 v3 v5 x20
    · refine G_lv [0, 1, 2, 3, 4] rfl ?_
      exact g_X9_scanWord_b38 l N z ih o v1 v2 v3 v5 x15

set_option maxRecDepth 100000 in
set_option maxHeartbeats 4000000 in
theorem g_X9_scanWord (l : Launch) (N : Nat) (z : Nat → Nat) (o : Nat) (v1 : Option Nat) (v2 : Int32) (x0 : Hp) : G l z m_X9_scanWord okT enI 0 [(0, va_rf (some o)), (1, va_rf v1), (2, .int v2)] [] x0 (f_X9_scanWord N z o v1 v2 x0) := by
  unfold f_X9_scanWord
  refine G_lconst (v := (0 : Int64)) dX9_scanWord_0 (by decide) ?_
  refine G_lstore_n (i := 3) (l2 := [(0, va_rf (some o)), (1, va_rf v1), (2, .int v2)]) [0, 1, 2] dX9_scanWord_1 rfl (Nat.le_of_ble_eq_true rfl) rfl (sok_a (by decide) (by decide) (sok_a (by decide) (by decide) (sok_b (by decide) rfl trivial))) (sok2_a (by decide) (sok2_a (by decide) (sok2_a (by decide) trivial))) ?_
  refine G_iload_n 3 dX9_scanWord_2 rfl rfl ?_
  refine G_istore (i := 5) (l2 := [(3, .long (0 : Int64)), (0, va_rf (some o)), (1, va_rf v1), (2, .int v2)]) [0, 1, 2, 3] dX9_scanWord_3 (Nat.le_of_ble_eq_true rfl) rfl (sok_a (by decide) (by decide) (sok_a (by decide) (by decide) (sok_a (by decide) (by decide) (sok_a (by decide) (by decide) trivial)))) ?_
  refine G_lv [2, 3, 4, 1, 0] rfl ?_
  exact g_X9_scanWord_b5 l N z N o v1 v2 (0 : Int64) v2 x0

theorem yn_X9_scanWord : Yn yX9_scanWord 2 := ⟨by decide +kernel, by decide +kernel, by decide +kernel⟩
theorem ct_X9_scanWord (l : Launch) (N : Nat) (z : Nat → Nat) (o : Nat) (v1 : Option Nat) (v2 : Int32) : Ct l z yX9_scanWord cX9_scanWord 6 (some .int) 3 enI [.ref o, va_rf v1, .int v2] (f_X9_scanWord N z o v1 v2) :=
  Ct_i (fun x => G_lv0 (by simp only [lva_n, lva_i, lva_o, lva_r, lva_j]) (g_X9_scanWord l N z o v1 v2 x)) (by decide +kernel) (by simp only [lgl_n, lgl_i, lgl_o, lgl_r, lgl_j]; decide)

theorem dX9_scanNumber_0 : decode cX9_scanNumber 0 = .ok (.lconst 0, 1) := by decide +kernel
theorem dX9_scanNumber_1 : decode cX9_scanNumber 1 = .ok (.lstore_n 3, 1) := by decide +kernel
theorem dX9_scanNumber_2 : decode cX9_scanNumber 2 = .ok (.iload_n 2, 1) := by decide +kernel
theorem dX9_scanNumber_3 : decode cX9_scanNumber 3 = .ok (.istore 5, 2) := by decide +kernel
theorem dX9_scanNumber_5 : decode cX9_scanNumber 5 = .ok (.iload 5, 2) := by decide +kernel
theorem dX9_scanNumber_7 : decode cX9_scanNumber 7 = .ok (.aload_n 1, 1) := by decide +kernel
theorem dX9_scanNumber_8 : decode cX9_scanNumber 8 = .ok (.getfield 56, 3) := by decide +kernel
theorem dX9_scanNumber_11 : decode cX9_scanNumber 11 = .ok (.if_icmp .ge 38, 3) := by decide +kernel
theorem dX9_scanNumber_14 : decode cX9_scanNumber 14 = .ok (.aload_n 1, 1) := by decide +kernel
theorem dX9_scanNumber_15 : decode cX9_scanNumber 15 = .ok (.iload 5, 2) := by decide +kernel
theorem dX9_scanNumber_17 : decode cX9_scanNumber 17 = .ok (.invokevirtual 60, 3) := by decide +kernel
theorem dX9_scanNumber_20 : decode cX9_scanNumber 20 = .ok (.invokestatic 74, 3) := by decide +kernel
theorem dX9_scanNumber_23 : decode cX9_scanNumber 23 = .ok (.ifCond .eq 26, 3) := by decide +kernel
theorem dX9_scanNumber_26 : decode cX9_scanNumber 26 = .ok (.lload_n 3, 1) := by decide +kernel
theorem dX9_scanNumber_27 : decode cX9_scanNumber 27 = .ok (.ldc2_w 87, 3) := by decide +kernel
theorem dX9_scanNumber_30 : decode cX9_scanNumber 30 = .ok (.lmul, 1) := by decide +kernel
theorem dX9_scanNumber_31 : decode cX9_scanNumber 31 = .ok (.aload_n 1, 1) := by decide +kernel
theorem dX9_scanNumber_32 : decode cX9_scanNumber 32 = .ok (.iload 5, 2) := by decide +kernel
theorem dX9_scanNumber_34 : decode cX9_scanNumber 34 = .ok (.invokevirtual 60, 3) := by decide +kernel
theorem dX9_scanNumber_37 : decode cX9_scanNumber 37 = .ok (.bipush 48, 2) := by decide +kernel
theorem dX9_scanNumber_39 : decode cX9_scanNumber 39 = .ok (.isub, 1) := by decide +kernel
theorem dX9_scanNumber_40 : decode cX9_scanNumber 40 = .ok (.i2l, 1) := by decide +kernel
theorem dX9_scanNumber_41 : decode cX9_scanNumber 41 = .ok (.ladd, 1) := by decide +kernel
theorem dX9_scanNumber_42 : decode cX9_scanNumber 42 = .ok (.lstore_n 3, 1) := by decide +kernel
theorem dX9_scanNumber_43 : decode cX9_scanNumber 43 = .ok (.iinc 5 1, 3) := by decide +kernel
theorem dX9_scanNumber_46 : decode cX9_scanNumber 46 = .ok (.goto (-41), 3) := by decide +kernel
theorem dX9_scanNumber_49 : decode cX9_scanNumber 49 = .ok (.aload_n 0, 1) := by decide +kernel
theorem dX9_scanNumber_50 : decode cX9_scanNumber 50 = .ok (.iload 5, 2) := by decide +kernel
theorem dX9_scanNumber_52 : decode cX9_scanNumber 52 = .ok (.iload_n 2, 1) := by decide +kernel
theorem dX9_scanNumber_53 : decode cX9_scanNumber 53 = .ok (.isub, 1) := by decide +kernel
theorem dX9_scanNumber_54 : decode cX9_scanNumber 54 = .ok (.bipush 6, 2) := by decide +kernel
theorem dX9_scanNumber_56 : decode cX9_scanNumber 56 = .ok (.if_icmp .le 8, 3) := by decide +kernel
theorem dX9_scanNumber_59 : decode cX9_scanNumber 59 = .ok (.bipush 39, 2) := by decide +kernel
theorem dX9_scanNumber_61 : decode cX9_scanNumber 61 = .ok (.goto 5, 3) := by decide +kernel
theorem dX9_scanNumber_64 : decode cX9_scanNumber 64 = .ok (.bipush 35, 2) := by decide +kernel
theorem dX9_scanNumber_66 : decode cX9_scanNumber 66 = .ok (.iload_n 2, 1) := by decide +kernel
theorem dX9_scanNumber_67 : decode cX9_scanNumber 67 = .ok (.lload_n 3, 1) := by decide +kernel
theorem dX9_scanNumber_68 : decode cX9_scanNumber 68 = .ok (.invokevirtual 63, 3) := by decide +kernel
theorem dX9_scanNumber_71 : decode cX9_scanNumber 71 = .ok (.iload 5, 2) := by decide +kernel
theorem dX9_scanNumber_73 : decode cX9_scanNumber 73 = .ok (.ireturn, 1) := by decide +kernel
abbrev m_X9_scanNumber : Mt := (cX9_scanNumber, RX9, "scanNumber", 6, .ireturn, 2)
def f_X9_scanNumber_b66 (N : Nat) (z : Nat → Nat) (v2 : Int32) (v3 : Int64) (v5 : Int32) (s0 : Int32) (s1 : Option Nat) (x0 : Hp) : Option (Int32 × Hp) :=
  obj s1 x0 12 fun q2 => bnd (f_X9_add N z q2 s0 v2 v3 x0) fun _ x1 =>
  some (v5, x1)
def f_X9_scanNumber_b49 (N : Nat) (z : Nat → Nat) (o : Nat) (v2 : Int32) (v3 : Int64) (v5 : Int32) (x0 : Hp) : Option (Int32 × Hp) :=
  if (v5 - v2) ≤ (6 : Int32) then (f_X9_scanNumber_b66 N z v2 v3 v5 (35 : Int32) (some o) x0) else (f_X9_scanNumber_b66 N z v2 v3 v5 (39 : Int32) (some o) x0)
def f_X9_scanNumber_b5 (N : Nat) (z : Nat → Nat) : Nat → Nat → Option Nat → Int32 → Int64 → Int32 → Hp → Option (Int32 × Hp)
  | 0, _, _, _, _, _, _ => none
  | n + 1, o, v1, v2, v3, v5, x0 => geti v1 x0 11 201 fun i3 =>
  if i3 ≤ v5 then (f_X9_scanNumber_b49 N z o v2 v3 v5 x0) else (obj v1 x0 11 fun q6 => bnd (f_X8_at N z q6 v5 x0) fun i5 x4 =>
  bnd (f_X9_isDigit N z i5 x4) fun i8 x7 =>
  if i8 = 0 then (f_X9_scanNumber_b49 N z o v2 v3 v5 x7) else (obj v1 x7 11 fun q11 => bnd (f_X8_at N z q11 v5 x7) fun i10 x9 =>
  f_X9_scanNumber_b5 N z n o v1 v2 ((v3 * (10 : Int64)) + ((i10 - (48 : Int32)).toInt64)) (v5 + (1 : Int32)) x9))
def f_X9_scanNumber (N : Nat) (z : Nat → Nat) (o : Nat) (v1 : Option Nat) (v2 : Int32) (x0 : Hp) : Option (Int32 × Hp) :=
  f_X9_scanNumber_b5 N z N o v1 v2 (0 : Int64) v2 x0
set_option maxRecDepth 100000 in
set_option maxHeartbeats 4000000 in
theorem g_X9_scanNumber_b66 (l : Launch) (N : Nat) (z : Nat → Nat) (v2 : Int32) (v3 : Int64) (v5 : Int32) (s0 : Int32) (s1 : Option Nat) (x0 : Hp) : G l z m_X9_scanNumber okT enI 66 [(2, .int v2), (3, .long v3), (5, .int v5)] [.int s0, va_rf s1] x0 (f_X9_scanNumber_b66 N z v2 v3 v5 s0 s1 x0) := by
  unfold f_X9_scanNumber_b66
  refine G_iload_n 0 dX9_scanNumber_66 rfl rfl ?_
  refine G_lload_n 1 dX9_scanNumber_67 rfl rfl ?_
  refine G_callV (av := [.int s0, .int v2, .long v3]) [] (fun q2 => ct_X9_add l N z q2 s0 v2 v3) K_11 rfl yn_X9_add (Nat.le_of_ble_eq_true rfl) (by decide) gw_1175 gw_1177 gw_s14 gw_49 gw_1178 rfl (by decide) dX9_scanNumber_68 (fun _ x1 => ?_)
  refine G_iload 2 dX9_scanNumber_71 rfl ?_
  exact G_ret trivial dX9_scanNumber_73 rfl

set_option maxRecDepth 100000 in
set_option maxHeartbeats 4000000 in
theorem g_X9_scanNumber_b49 (l : Launch) (N : Nat) (z : Nat → Nat) (o : Nat) (v2 : Int32) (v3 : Int64) (v5 : Int32) (x0 : Hp) : G l z m_X9_scanNumber okT enI 49 [(0, va_rf (some o)), (2, .int v2), (3, .long v3), (5, .int v5)] [] x0 (f_X9_scanNumber_b49 N z o v2 v3 v5 x0) := by
  unfold f_X9_scanNumber_b49
  refine G_aload_n 0 dX9_scanNumber_49 rfl rfl ?_
  refine G_iload 3 dX9_scanNumber_50 rfl ?_
  refine G_iload_n 1 dX9_scanNumber_52 rfl rfl ?_
  refine G_isub dX9_scanNumber_53 ?_
  refine G_bipush (v := (6 : Int32)) dX9_scanNumber_54 (by decide) ?_
  refine G_icmp_le (tgt := 64) dX9_scanNumber_56 (by decide) (fun _ => ?_) (fun _ => ?_)
  · refine G_bipush (v := (35 : Int32)) dX9_scanNumber_64 (by decide) ?_
    refine G_lv [1, 2, 3] rfl ?_
    exact g_X9_scanNumber_b66 l N z v2 v3 v5 (35 : Int32) (some o) x0
  · refine G_bipush (v := (39 : Int32)) dX9_scanNumber_59 (by decide) ?_
    refine G_goto (tgt := 66) dX9_scanNumber_61 (by decide) ?_
    refine G_lv [1, 2, 3] rfl ?_
    exact g_X9_scanNumber_b66 l N z v2 v3 v5 (39 : Int32) (some o) x0

set_option maxRecDepth 100000 in
set_option maxHeartbeats 4000000 in
theorem g_X9_scanNumber_b5 (l : Launch) (N : Nat) (z : Nat → Nat) : ∀ (n : Nat) (o : Nat) (v1 : Option Nat) (v2 : Int32) (v3 : Int64) (v5 : Int32) (x0 : Hp), G l z m_X9_scanNumber okT enI 5 [(0, va_rf (some o)), (1, va_rf v1), (2, .int v2), (3, .long v3), (5, .int v5)] [] x0 (f_X9_scanNumber_b5 N z n o v1 v2 v3 v5 x0) := by
  intro n
  induction n with
  | zero => intro o v1 v2 v3 v5 x0; exact G_none
  | succ n ih =>
  intro o v1 v2 v3 v5 x0
  rw [f_X9_scanNumber_b5]
  refine G_iload 4 dX9_scanNumber_5 rfl ?_
  refine G_aload_n 1 dX9_scanNumber_7 rfl rfl ?_
  refine G_geti (k := 1) K_10 (by decide) rfl rfl rfl gw_86 rfl dX9_scanNumber_8 (fun i3 => ?_)
  refine G_icmp_ge (tgt := 49) dX9_scanNumber_11 (by decide) (fun _ => ?_) (fun _ => ?_)
  · refine G_lv [0, 2, 3, 4] rfl ?_
    exact g_X9_scanNumber_b49 l N z o v2 v3 v5 x0
  · refine G_aload_n 1 dX9_scanNumber_14 rfl rfl ?_
    refine G_iload 4 dX9_scanNumber_15 rfl ?_
    refine G_callV (av := [.int v5]) [] (fun q6 => ct_X8_at l N z q6 v5) K_10 rfl yn_X8_at (Nat.le_of_ble_eq_true rfl) (by decide) gw_1167 gw_1168 gw_1169 gw_40 gw_1170 rfl (by decide) dX9_scanNumber_17 (fun i5 x4 => ?_)
    refine G_callS (av := [.int i5]) [] (ct_X9_isDigit l N z i5) yn_X9_isDigit (Nat.le_of_ble_eq_true rfl) (by decide) gw_406 gw_407 gw_49 gw_408 rfl (by decide) dX9_scanNumber_20 (fun i8 x7 => ?_)
    refine G_if_eq (tgt := 49) dX9_scanNumber_23 (by decide) (fun _ => ?_) (fun _ => ?_)
    · refine G_lv [0, 2, 3, 4] rfl ?_
      exact g_X9_scanNumber_b49 l N z o v2 v3 v5 x7
    · refine G_lload_n 3 dX9_scanNumber_26 rfl rfl ?_
      refine G_ldc2 (v := (10 : Int64)) gw_1194 dX9_scanNumber_27 ?_
      refine G_lmul dX9_scanNumber_30 ?_
      refine G_aload_n 1 dX9_scanNumber_31 rfl rfl ?_
      refine G_iload 4 dX9_scanNumber_32 rfl ?_
      refine G_callV (av := [.int v5]) [.long (v3 * (10 : Int64))] (fun q11 => ct_X8_at l N z q11 v5) K_10 rfl yn_X8_at (Nat.le_of_ble_eq_true rfl) (by decide) gw_1167 gw_1168 gw_1169 gw_40 gw_1170 rfl (by simp only [hw_n, hw_i, hw_r, hw_j, hw_d]; decide) dX9_scanNumber_34 (fun i10 x9 => ?_)
      refine G_bipush (v := (48 : Int32)) dX9_scanNumber_37 (by decide) ?_
      refine G_isub dX9_scanNumber_39 ?_
      refine G_i2l dX9_scanNumber_40 ?_
      refine G_ladd dX9_scanNumber_41 ?_
      refine G_lstore_n (i := 3) (l2 := [(0, va_rf (some o)), (1, va_rf v1), (2, .int v2), (5, .int v5)]) [0, 1, 2, 4] dX9_scanNumber_42 rfl (Nat.le_of_ble_eq_true rfl) rfl (sok_a (by decide) (by decide) (sok_a (by decide) (by decide) (sok_b (by decide) rfl (sok_a (by decide) (by decide) trivial)))) (sok2_a (by decide) (sok2_a (by decide) (sok2_a (by decide) (sok2_a (by decide) trivial)))) ?_
      refine G_iinc (i := 5) (l2 := [(3, .long ((v3 * (10 : Int64)) + ((i10 - (48 : Int32)).toInt64))), (0, va_rf (some o)), (1, va_rf v1), (2, .int v2)]) 4 [0, 1, 2, 3] dX9_scanNumber_43 rfl rfl (Nat.le_of_ble_eq_true rfl) rfl (sok_a (by decide) (by decide) (sok_a (by decide) (by decide) (sok_a (by decide) (by decide) (sok_a (by decide) (by decide) trivial)))) ?_
      refine G_goto (tgt := 5) dX9_scanNumber_46 (by decide) ?_
      refine G_lv [2, 3, 4, 1, 0] rfl ?_
      exact ih o v1 v2 ((v3 * (10 : Int64)) + ((i10 - (48 : Int32)).toInt64)) (v5 + (1 : Int32)) x9

set_option maxRecDepth 100000 in
set_option maxHeartbeats 4000000 in
theorem g_X9_scanNumber (l : Launch) (N : Nat) (z : Nat → Nat) (o : Nat) (v1 : Option Nat) (v2 : Int32) (x0 : Hp) : G l z m_X9_scanNumber okT enI 0 [(0, va_rf (some o)), (1, va_rf v1), (2, .int v2)] [] x0 (f_X9_scanNumber N z o v1 v2 x0) := by
  unfold f_X9_scanNumber
  refine G_lconst (v := (0 : Int64)) dX9_scanNumber_0 (by decide) ?_
  refine G_lstore_n (i := 3) (l2 := [(0, va_rf (some o)), (1, va_rf v1), (2, .int v2)]) [0, 1, 2] dX9_scanNumber_1 rfl (Nat.le_of_ble_eq_true rfl) rfl (sok_a (by decide) (by decide) (sok_a (by decide) (by decide) (sok_b (by decide) rfl trivial))) (sok2_a (by decide) (sok2_a (by decide) (sok2_a (by decide) trivial))) ?_
  refine G_iload_n 3 dX9_scanNumber_2 rfl rfl ?_
  refine G_istore (i := 5) (l2 := [(3, .long (0 : Int64)), (0, va_rf (some o)), (1, va_rf v1), (2, .int v2)]) [0, 1, 2, 3] dX9_scanNumber_3 (Nat.le_of_ble_eq_true rfl) rfl (sok_a (by decide) (by decide) (sok_a (by decide) (by decide) (sok_a (by decide) (by decide) (sok_a (by decide) (by decide) trivial)))) ?_
  refine G_lv [2, 3, 4, 1, 0] rfl ?_
  exact g_X9_scanNumber_b5 l N z N o v1 v2 (0 : Int64) v2 x0

theorem yn_X9_scanNumber : Yn yX9_scanNumber 2 := ⟨by decide +kernel, by decide +kernel, by decide +kernel⟩
theorem ct_X9_scanNumber (l : Launch) (N : Nat) (z : Nat → Nat) (o : Nat) (v1 : Option Nat) (v2 : Int32) : Ct l z yX9_scanNumber cX9_scanNumber 6 (some .int) 2 enI [.ref o, va_rf v1, .int v2] (f_X9_scanNumber N z o v1 v2) :=
  Ct_i (fun x => G_lv0 (by simp only [lva_n, lva_i, lva_o, lva_r, lva_j]) (g_X9_scanNumber l N z o v1 v2 x)) (by decide +kernel) (by simp only [lgl_n, lgl_i, lgl_o, lgl_r, lgl_j]; decide)

theorem dX9_isSymbol_0 : decode cX9_isSymbol 0 = .ok (.iload_n 0, 1) := by decide +kernel
theorem dX9_isSymbol_1 : decode cX9_isSymbol 1 = .ok (.tableswitch 233 40 93 #[231, 231, 231, 231, 231, 231, 233, 231, 233, 233, 233, 233, 233, 233, 233, 233, 233, 233, 233, 231, 231, 231, 231, 233, 233, 233, 233, 233, 233, 233, 233, 233, 233, 233, 233, 233, 233, 233, 233, 233, 233, 233, 233, 233, 233, 233, 233, 233, 233, 233, 233, 231, 233, 231], 231) := by decide +kernel
theorem dX9_isSymbol_232 : decode cX9_isSymbol 232 = .ok (.iconst 1, 1) := by decide +kernel
theorem dX9_isSymbol_233 : decode cX9_isSymbol 233 = .ok (.ireturn, 1) := by decide +kernel
theorem dX9_isSymbol_234 : decode cX9_isSymbol 234 = .ok (.iconst 0, 1) := by decide +kernel
theorem dX9_isSymbol_235 : decode cX9_isSymbol 235 = .ok (.ireturn, 1) := by decide +kernel
abbrev m_X9_isSymbol : Mt := (cX9_isSymbol, RX9, "isSymbol", 1, .ireturn, 1)
def f_X9_isSymbol (N : Nat) (z : Nat → Nat) (v0 : Int32) (x0 : Hp) : Option (Int32 × Hp) :=
  if v0 = (40 : Int32) then (some ((1 : Int32), x0)) else (if v0 = (41 : Int32) then (some ((1 : Int32), x0)) else (if v0 = (42 : Int32) then (some ((1 : Int32), x0)) else (if v0 = (43 : Int32) then (some ((1 : Int32), x0)) else (if v0 = (44 : Int32) then (some ((1 : Int32), x0)) else (if v0 = (45 : Int32) then (some ((1 : Int32), x0)) else (if v0 = (46 : Int32) then (some ((0 : Int32), x0)) else (if v0 = (47 : Int32) then (some ((1 : Int32), x0)) else (if v0 = (48 : Int32) then (some ((0 : Int32), x0)) else (if v0 = (49 : Int32) then (some ((0 : Int32), x0)) else (if v0 = (50 : Int32) then (some ((0 : Int32), x0)) else (if v0 = (51 : Int32) then (some ((0 : Int32), x0)) else (if v0 = (52 : Int32) then (some ((0 : Int32), x0)) else (if v0 = (53 : Int32) then (some ((0 : Int32), x0)) else (if v0 = (54 : Int32) then (some ((0 : Int32), x0)) else (if v0 = (55 : Int32) then (some ((0 : Int32), x0)) else (if v0 = (56 : Int32) then (some ((0 : Int32), x0)) else (if v0 = (57 : Int32) then (some ((0 : Int32), x0)) else (if v0 = (58 : Int32) then (some ((0 : Int32), x0)) else (if v0 = (59 : Int32) then (some ((1 : Int32), x0)) else (if v0 = (60 : Int32) then (some ((1 : Int32), x0)) else (if v0 = (61 : Int32) then (some ((1 : Int32), x0)) else (if v0 = (62 : Int32) then (some ((1 : Int32), x0)) else (if v0 = (63 : Int32) then (some ((0 : Int32), x0)) else (if v0 = (64 : Int32) then (some ((0 : Int32), x0)) else (if v0 = (65 : Int32) then (some ((0 : Int32), x0)) else (if v0 = (66 : Int32) then (some ((0 : Int32), x0)) else (if v0 = (67 : Int32) then (some ((0 : Int32), x0)) else (if v0 = (68 : Int32) then (some ((0 : Int32), x0)) else (if v0 = (69 : Int32) then (some ((0 : Int32), x0)) else (if v0 = (70 : Int32) then (some ((0 : Int32), x0)) else (if v0 = (71 : Int32) then (some ((0 : Int32), x0)) else (if v0 = (72 : Int32) then (some ((0 : Int32), x0)) else (if v0 = (73 : Int32) then (some ((0 : Int32), x0)) else (if v0 = (74 : Int32) then (some ((0 : Int32), x0)) else (if v0 = (75 : Int32) then (some ((0 : Int32), x0)) else (if v0 = (76 : Int32) then (some ((0 : Int32), x0)) else (if v0 = (77 : Int32) then (some ((0 : Int32), x0)) else (if v0 = (78 : Int32) then (some ((0 : Int32), x0)) else (if v0 = (79 : Int32) then (some ((0 : Int32), x0)) else (if v0 = (80 : Int32) then (some ((0 : Int32), x0)) else (if v0 = (81 : Int32) then (some ((0 : Int32), x0)) else (if v0 = (82 : Int32) then (some ((0 : Int32), x0)) else (if v0 = (83 : Int32) then (some ((0 : Int32), x0)) else (if v0 = (84 : Int32) then (some ((0 : Int32), x0)) else (if v0 = (85 : Int32) then (some ((0 : Int32), x0)) else (if v0 = (86 : Int32) then (some ((0 : Int32), x0)) else (if v0 = (87 : Int32) then (some ((0 : Int32), x0)) else (if v0 = (88 : Int32) then (some ((0 : Int32), x0)) else (if v0 = (89 : Int32) then (some ((0 : Int32), x0)) else (if v0 = (90 : Int32) then (some ((0 : Int32), x0)) else (if v0 = (91 : Int32) then (some ((1 : Int32), x0)) else (if v0 = (92 : Int32) then (some ((0 : Int32), x0)) else (if v0 = (93 : Int32) then (some ((1 : Int32), x0)) else (some ((0 : Int32), x0)))))))))))))))))))))))))))))))))))))))))))))))))))))))
set_option maxRecDepth 100000 in
set_option maxHeartbeats 4000000 in
theorem g_X9_isSymbol (l : Launch) (N : Nat) (z : Nat → Nat) (v0 : Int32) (x0 : Hp) : G l z m_X9_isSymbol okZ enI 0 [(0, .int v0)] [] x0 (f_X9_isSymbol N z v0 x0) := by
  unfold f_X9_isSymbol
  refine G_iload_n 0 dX9_isSymbol_0 rfl rfl ?_
  refine G_if (fun hs1 => ?_) (fun hs1 => ?_)
  · refine G_tableIn (tgt := 232) dX9_isSymbol_1 (by rw [hs1]; decide) (by rw [hs1]; decide) (by rw [hs1]; rfl) (by decide) ?_
    refine G_iconst (v := (1 : Int32)) dX9_isSymbol_232 rfl ?_
    exact G_ret (Or.inr rfl) dX9_isSymbol_233 rfl
  refine G_if (fun hs2 => ?_) (fun hs2 => ?_)
  · refine G_tableIn (tgt := 232) dX9_isSymbol_1 (by rw [hs2]; decide) (by rw [hs2]; decide) (by rw [hs2]; rfl) (by decide) ?_
    refine G_iconst (v := (1 : Int32)) dX9_isSymbol_232 rfl ?_
    exact G_ret (Or.inr rfl) dX9_isSymbol_233 rfl
  refine G_if (fun hs3 => ?_) (fun hs3 => ?_)
  · refine G_tableIn (tgt := 232) dX9_isSymbol_1 (by rw [hs3]; decide) (by rw [hs3]; decide) (by rw [hs3]; rfl) (by decide) ?_
    refine G_iconst (v := (1 : Int32)) dX9_isSymbol_232 rfl ?_
    exact G_ret (Or.inr rfl) dX9_isSymbol_233 rfl
  refine G_if (fun hs4 => ?_) (fun hs4 => ?_)
  · refine G_tableIn (tgt := 232) dX9_isSymbol_1 (by rw [hs4]; decide) (by rw [hs4]; decide) (by rw [hs4]; rfl) (by decide) ?_
    refine G_iconst (v := (1 : Int32)) dX9_isSymbol_232 rfl ?_
    exact G_ret (Or.inr rfl) dX9_isSymbol_233 rfl
  refine G_if (fun hs5 => ?_) (fun hs5 => ?_)
  · refine G_tableIn (tgt := 232) dX9_isSymbol_1 (by rw [hs5]; decide) (by rw [hs5]; decide) (by rw [hs5]; rfl) (by decide) ?_
    refine G_iconst (v := (1 : Int32)) dX9_isSymbol_232 rfl ?_
    exact G_ret (Or.inr rfl) dX9_isSymbol_233 rfl
  refine G_if (fun hs6 => ?_) (fun hs6 => ?_)
  · refine G_tableIn (tgt := 232) dX9_isSymbol_1 (by rw [hs6]; decide) (by rw [hs6]; decide) (by rw [hs6]; rfl) (by decide) ?_
    refine G_iconst (v := (1 : Int32)) dX9_isSymbol_232 rfl ?_
    exact G_ret (Or.inr rfl) dX9_isSymbol_233 rfl
  refine G_if (fun hs7 => ?_) (fun hs7 => ?_)
  · refine G_tableIn (tgt := 234) dX9_isSymbol_1 (by rw [hs7]; decide) (by rw [hs7]; decide) (by rw [hs7]; rfl) (by decide) ?_
    refine G_iconst (v := (0 : Int32)) dX9_isSymbol_234 rfl ?_
    exact G_ret (Or.inl rfl) dX9_isSymbol_235 rfl
  refine G_if (fun hs8 => ?_) (fun hs8 => ?_)
  · refine G_tableIn (tgt := 232) dX9_isSymbol_1 (by rw [hs8]; decide) (by rw [hs8]; decide) (by rw [hs8]; rfl) (by decide) ?_
    refine G_iconst (v := (1 : Int32)) dX9_isSymbol_232 rfl ?_
    exact G_ret (Or.inr rfl) dX9_isSymbol_233 rfl
  refine G_if (fun hs9 => ?_) (fun hs9 => ?_)
  · refine G_tableIn (tgt := 234) dX9_isSymbol_1 (by rw [hs9]; decide) (by rw [hs9]; decide) (by rw [hs9]; rfl) (by decide) ?_
    refine G_iconst (v := (0 : Int32)) dX9_isSymbol_234 rfl ?_
    exact G_ret (Or.inl rfl) dX9_isSymbol_235 rfl
  refine G_if (fun hs10 => ?_) (fun hs10 => ?_)
  · refine G_tableIn (tgt := 234) dX9_isSymbol_1 (by rw [hs10]; decide) (by rw [hs10]; decide) (by rw [hs10]; rfl) (by decide) ?_
    refine G_iconst (v := (0 : Int32)) dX9_isSymbol_234 rfl ?_
    exact G_ret (Or.inl rfl) dX9_isSymbol_235 rfl
  refine G_if (fun hs11 => ?_) (fun hs11 => ?_)
  · refine G_tableIn (tgt := 234) dX9_isSymbol_1 (by rw [hs11]; decide) (by rw [hs11]; decide) (by rw [hs11]; rfl) (by decide) ?_
    refine G_iconst (v := (0 : Int32)) dX9_isSymbol_234 rfl ?_
    exact G_ret (Or.inl rfl) dX9_isSymbol_235 rfl
  refine G_if (fun hs12 => ?_) (fun hs12 => ?_)
  · refine G_tableIn (tgt := 234) dX9_isSymbol_1 (by rw [hs12]; decide) (by rw [hs12]; decide) (by rw [hs12]; rfl) (by decide) ?_
    refine G_iconst (v := (0 : Int32)) dX9_isSymbol_234 rfl ?_
    exact G_ret (Or.inl rfl) dX9_isSymbol_235 rfl
  refine G_if (fun hs13 => ?_) (fun hs13 => ?_)
  · refine G_tableIn (tgt := 234) dX9_isSymbol_1 (by rw [hs13]; decide) (by rw [hs13]; decide) (by rw [hs13]; rfl) (by decide) ?_
    refine G_iconst (v := (0 : Int32)) dX9_isSymbol_234 rfl ?_
    exact G_ret (Or.inl rfl) dX9_isSymbol_235 rfl
  refine G_if (fun hs14 => ?_) (fun hs14 => ?_)
  · refine G_tableIn (tgt := 234) dX9_isSymbol_1 (by rw [hs14]; decide) (by rw [hs14]; decide) (by rw [hs14]; rfl) (by decide) ?_
    refine G_iconst (v := (0 : Int32)) dX9_isSymbol_234 rfl ?_
    exact G_ret (Or.inl rfl) dX9_isSymbol_235 rfl
  refine G_if (fun hs15 => ?_) (fun hs15 => ?_)
  · refine G_tableIn (tgt := 234) dX9_isSymbol_1 (by rw [hs15]; decide) (by rw [hs15]; decide) (by rw [hs15]; rfl) (by decide) ?_
    refine G_iconst (v := (0 : Int32)) dX9_isSymbol_234 rfl ?_
    exact G_ret (Or.inl rfl) dX9_isSymbol_235 rfl
  refine G_if (fun hs16 => ?_) (fun hs16 => ?_)
  · refine G_tableIn (tgt := 234) dX9_isSymbol_1 (by rw [hs16]; decide) (by rw [hs16]; decide) (by rw [hs16]; rfl) (by decide) ?_
    refine G_iconst (v := (0 : Int32)) dX9_isSymbol_234 rfl ?_
    exact G_ret (Or.inl rfl) dX9_isSymbol_235 rfl
  refine G_if (fun hs17 => ?_) (fun hs17 => ?_)
  · refine G_tableIn (tgt := 234) dX9_isSymbol_1 (by rw [hs17]; decide) (by rw [hs17]; decide) (by rw [hs17]; rfl) (by decide) ?_
    refine G_iconst (v := (0 : Int32)) dX9_isSymbol_234 rfl ?_
    exact G_ret (Or.inl rfl) dX9_isSymbol_235 rfl
  refine G_if (fun hs18 => ?_) (fun hs18 => ?_)
  · refine G_tableIn (tgt := 234) dX9_isSymbol_1 (by rw [hs18]; decide) (by rw [hs18]; decide) (by rw [hs18]; rfl) (by decide) ?_
    refine G_iconst (v := (0 : Int32)) dX9_isSymbol_234 rfl ?_
    exact G_ret (Or.inl rfl) dX9_isSymbol_235 rfl
  refine G_if (fun hs19 => ?_) (fun hs19 => ?_)
  · refine G_tableIn (tgt := 234) dX9_isSymbol_1 (by rw [hs19]; decide) (by rw [hs19]; decide) (by rw [hs19]; rfl) (by decide) ?_
    refine G_iconst (v := (0 : Int32)) dX9_isSymbol_234 rfl ?_
    exact G_ret (Or.inl rfl) dX9_isSymbol_235 rfl
  refine G_if (fun hs20 => ?_) (fun hs20 => ?_)
  · refine G_tableIn (tgt := 232) dX9_isSymbol_1 (by rw [hs20]; decide) (by rw [hs20]; decide) (by rw [hs20]; rfl) (by decide) ?_
    refine G_iconst (v := (1 : Int32)) dX9_isSymbol_232 rfl ?_
    exact G_ret (Or.inr rfl) dX9_isSymbol_233 rfl
  refine G_if (fun hs21 => ?_) (fun hs21 => ?_)
  · refine G_tableIn (tgt := 232) dX9_isSymbol_1 (by rw [hs21]; decide) (by rw [hs21]; decide) (by rw [hs21]; rfl) (by decide) ?_
    refine G_iconst (v := (1 : Int32)) dX9_isSymbol_232 rfl ?_
    exact G_ret (Or.inr rfl) dX9_isSymbol_233 rfl
  refine G_if (fun hs22 => ?_) (fun hs22 => ?_)
  · refine G_tableIn (tgt := 232) dX9_isSymbol_1 (by rw [hs22]; decide) (by rw [hs22]; decide) (by rw [hs22]; rfl) (by decide) ?_
    refine G_iconst (v := (1 : Int32)) dX9_isSymbol_232 rfl ?_
    exact G_ret (Or.inr rfl) dX9_isSymbol_233 rfl
  refine G_if (fun hs23 => ?_) (fun hs23 => ?_)
  · refine G_tableIn (tgt := 232) dX9_isSymbol_1 (by rw [hs23]; decide) (by rw [hs23]; decide) (by rw [hs23]; rfl) (by decide) ?_
    refine G_iconst (v := (1 : Int32)) dX9_isSymbol_232 rfl ?_
    exact G_ret (Or.inr rfl) dX9_isSymbol_233 rfl
  refine G_if (fun hs24 => ?_) (fun hs24 => ?_)
  · refine G_tableIn (tgt := 234) dX9_isSymbol_1 (by rw [hs24]; decide) (by rw [hs24]; decide) (by rw [hs24]; rfl) (by decide) ?_
    refine G_iconst (v := (0 : Int32)) dX9_isSymbol_234 rfl ?_
    exact G_ret (Or.inl rfl) dX9_isSymbol_235 rfl
  refine G_if (fun hs25 => ?_) (fun hs25 => ?_)
  · refine G_tableIn (tgt := 234) dX9_isSymbol_1 (by rw [hs25]; decide) (by rw [hs25]; decide) (by rw [hs25]; rfl) (by decide) ?_
    refine G_iconst (v := (0 : Int32)) dX9_isSymbol_234 rfl ?_
    exact G_ret (Or.inl rfl) dX9_isSymbol_235 rfl
  refine G_if (fun hs26 => ?_) (fun hs26 => ?_)
  · refine G_tableIn (tgt := 234) dX9_isSymbol_1 (by rw [hs26]; decide) (by rw [hs26]; decide) (by rw [hs26]; rfl) (by decide) ?_
    refine G_iconst (v := (0 : Int32)) dX9_isSymbol_234 rfl ?_
    exact G_ret (Or.inl rfl) dX9_isSymbol_235 rfl
  refine G_if (fun hs27 => ?_) (fun hs27 => ?_)
  · refine G_tableIn (tgt := 234) dX9_isSymbol_1 (by rw [hs27]; decide) (by rw [hs27]; decide) (by rw [hs27]; rfl) (by decide) ?_
    refine G_iconst (v := (0 : Int32)) dX9_isSymbol_234 rfl ?_
    exact G_ret (Or.inl rfl) dX9_isSymbol_235 rfl
  refine G_if (fun hs28 => ?_) (fun hs28 => ?_)
  · refine G_tableIn (tgt := 234) dX9_isSymbol_1 (by rw [hs28]; decide) (by rw [hs28]; decide) (by rw [hs28]; rfl) (by decide) ?_
    refine G_iconst (v := (0 : Int32)) dX9_isSymbol_234 rfl ?_
    exact G_ret (Or.inl rfl) dX9_isSymbol_235 rfl
  refine G_if (fun hs29 => ?_) (fun hs29 => ?_)
  · refine G_tableIn (tgt := 234) dX9_isSymbol_1 (by rw [hs29]; decide) (by rw [hs29]; decide) (by rw [hs29]; rfl) (by decide) ?_
    refine G_iconst (v := (0 : Int32)) dX9_isSymbol_234 rfl ?_
    exact G_ret (Or.inl rfl) dX9_isSymbol_235 rfl
  refine G_if (fun hs30 => ?_) (fun hs30 => ?_)
  · refine G_tableIn (tgt := 234) dX9_isSymbol_1 (by rw [hs30]; decide) (by rw [hs30]; decide) (by rw [hs30]; rfl) (by decide) ?_
    refine G_iconst (v := (0 : Int32)) dX9_isSymbol_234 rfl ?_
    exact G_ret (Or.inl rfl) dX9_isSymbol_235 rfl
  refine G_if (fun hs31 => ?_) (fun hs31 => ?_)
  · refine G_tableIn (tgt := 234) dX9_isSymbol_1 (by rw [hs31]; decide) (by rw [hs31]; decide) (by rw [hs31]; rfl) (by decide) ?_
    refine G_iconst (v := (0 : Int32)) dX9_isSymbol_234 rfl ?_
    exact G_ret (Or.inl rfl) dX9_isSymbol_235 rfl
  refine G_if (fun hs32 => ?_) (fun hs32 => ?_)
  · refine G_tableIn (tgt := 234) dX9_isSymbol_1 (by rw [hs32]; decide) (by rw [hs32]; decide) (by rw [hs32]; rfl) (by decide) ?_
    refine G_iconst (v := (0 : Int32)) dX9_isSymbol_234 rfl ?_
    exact G_ret (Or.inl rfl) dX9_isSymbol_235 rfl
  refine G_if (fun hs33 => ?_) (fun hs33 => ?_)
  · refine G_tableIn (tgt := 234) dX9_isSymbol_1 (by rw [hs33]; decide) (by rw [hs33]; decide) (by rw [hs33]; rfl) (by decide) ?_
    refine G_iconst (v := (0 : Int32)) dX9_isSymbol_234 rfl ?_
    exact G_ret (Or.inl rfl) dX9_isSymbol_235 rfl
  refine G_if (fun hs34 => ?_) (fun hs34 => ?_)
  · refine G_tableIn (tgt := 234) dX9_isSymbol_1 (by rw [hs34]; decide) (by rw [hs34]; decide) (by rw [hs34]; rfl) (by decide) ?_
    refine G_iconst (v := (0 : Int32)) dX9_isSymbol_234 rfl ?_
    exact G_ret (Or.inl rfl) dX9_isSymbol_235 rfl
  refine G_if (fun hs35 => ?_) (fun hs35 => ?_)
  · refine G_tableIn (tgt := 234) dX9_isSymbol_1 (by rw [hs35]; decide) (by rw [hs35]; decide) (by rw [hs35]; rfl) (by decide) ?_
    refine G_iconst (v := (0 : Int32)) dX9_isSymbol_234 rfl ?_
    exact G_ret (Or.inl rfl) dX9_isSymbol_235 rfl
  refine G_if (fun hs36 => ?_) (fun hs36 => ?_)
  · refine G_tableIn (tgt := 234) dX9_isSymbol_1 (by rw [hs36]; decide) (by rw [hs36]; decide) (by rw [hs36]; rfl) (by decide) ?_
    refine G_iconst (v := (0 : Int32)) dX9_isSymbol_234 rfl ?_
    exact G_ret (Or.inl rfl) dX9_isSymbol_235 rfl
  refine G_if (fun hs37 => ?_) (fun hs37 => ?_)
  · refine G_tableIn (tgt := 234) dX9_isSymbol_1 (by rw [hs37]; decide) (by rw [hs37]; decide) (by rw [hs37]; rfl) (by decide) ?_
    refine G_iconst (v := (0 : Int32)) dX9_isSymbol_234 rfl ?_
    exact G_ret (Or.inl rfl) dX9_isSymbol_235 rfl
  refine G_if (fun hs38 => ?_) (fun hs38 => ?_)
  · refine G_tableIn (tgt := 234) dX9_isSymbol_1 (by rw [hs38]; decide) (by rw [hs38]; decide) (by rw [hs38]; rfl) (by decide) ?_
    refine G_iconst (v := (0 : Int32)) dX9_isSymbol_234 rfl ?_
    exact G_ret (Or.inl rfl) dX9_isSymbol_235 rfl
  refine G_if (fun hs39 => ?_) (fun hs39 => ?_)
  · refine G_tableIn (tgt := 234) dX9_isSymbol_1 (by rw [hs39]; decide) (by rw [hs39]; decide) (by rw [hs39]; rfl) (by decide) ?_
    refine G_iconst (v := (0 : Int32)) dX9_isSymbol_234 rfl ?_
    exact G_ret (Or.inl rfl) dX9_isSymbol_235 rfl
  refine G_if (fun hs40 => ?_) (fun hs40 => ?_)
  · refine G_tableIn (tgt := 234) dX9_isSymbol_1 (by rw [hs40]; decide) (by rw [hs40]; decide) (by rw [hs40]; rfl) (by decide) ?_
    refine G_iconst (v := (0 : Int32)) dX9_isSymbol_234 rfl ?_
    exact G_ret (Or.inl rfl) dX9_isSymbol_235 rfl
  refine G_if (fun hs41 => ?_) (fun hs41 => ?_)
  · refine G_tableIn (tgt := 234) dX9_isSymbol_1 (by rw [hs41]; decide) (by rw [hs41]; decide) (by rw [hs41]; rfl) (by decide) ?_
    refine G_iconst (v := (0 : Int32)) dX9_isSymbol_234 rfl ?_
    exact G_ret (Or.inl rfl) dX9_isSymbol_235 rfl
  refine G_if (fun hs42 => ?_) (fun hs42 => ?_)
  · refine G_tableIn (tgt := 234) dX9_isSymbol_1 (by rw [hs42]; decide) (by rw [hs42]; decide) (by rw [hs42]; rfl) (by decide) ?_
    refine G_iconst (v := (0 : Int32)) dX9_isSymbol_234 rfl ?_
    exact G_ret (Or.inl rfl) dX9_isSymbol_235 rfl
  refine G_if (fun hs43 => ?_) (fun hs43 => ?_)
  · refine G_tableIn (tgt := 234) dX9_isSymbol_1 (by rw [hs43]; decide) (by rw [hs43]; decide) (by rw [hs43]; rfl) (by decide) ?_
    refine G_iconst (v := (0 : Int32)) dX9_isSymbol_234 rfl ?_
    exact G_ret (Or.inl rfl) dX9_isSymbol_235 rfl
  refine G_if (fun hs44 => ?_) (fun hs44 => ?_)
  · refine G_tableIn (tgt := 234) dX9_isSymbol_1 (by rw [hs44]; decide) (by rw [hs44]; decide) (by rw [hs44]; rfl) (by decide) ?_
    refine G_iconst (v := (0 : Int32)) dX9_isSymbol_234 rfl ?_
    exact G_ret (Or.inl rfl) dX9_isSymbol_235 rfl
  refine G_if (fun hs45 => ?_) (fun hs45 => ?_)
  · refine G_tableIn (tgt := 234) dX9_isSymbol_1 (by rw [hs45]; decide) (by rw [hs45]; decide) (by rw [hs45]; rfl) (by decide) ?_
    refine G_iconst (v := (0 : Int32)) dX9_isSymbol_234 rfl ?_
    exact G_ret (Or.inl rfl) dX9_isSymbol_235 rfl
  refine G_if (fun hs46 => ?_) (fun hs46 => ?_)
  · refine G_tableIn (tgt := 234) dX9_isSymbol_1 (by rw [hs46]; decide) (by rw [hs46]; decide) (by rw [hs46]; rfl) (by decide) ?_
    refine G_iconst (v := (0 : Int32)) dX9_isSymbol_234 rfl ?_
    exact G_ret (Or.inl rfl) dX9_isSymbol_235 rfl
  refine G_if (fun hs47 => ?_) (fun hs47 => ?_)
  · refine G_tableIn (tgt := 234) dX9_isSymbol_1 (by rw [hs47]; decide) (by rw [hs47]; decide) (by rw [hs47]; rfl) (by decide) ?_
    refine G_iconst (v := (0 : Int32)) dX9_isSymbol_234 rfl ?_
    exact G_ret (Or.inl rfl) dX9_isSymbol_235 rfl
  refine G_if (fun hs48 => ?_) (fun hs48 => ?_)
  · refine G_tableIn (tgt := 234) dX9_isSymbol_1 (by rw [hs48]; decide) (by rw [hs48]; decide) (by rw [hs48]; rfl) (by decide) ?_
    refine G_iconst (v := (0 : Int32)) dX9_isSymbol_234 rfl ?_
    exact G_ret (Or.inl rfl) dX9_isSymbol_235 rfl
  refine G_if (fun hs49 => ?_) (fun hs49 => ?_)
  · refine G_tableIn (tgt := 234) dX9_isSymbol_1 (by rw [hs49]; decide) (by rw [hs49]; decide) (by rw [hs49]; rfl) (by decide) ?_
    refine G_iconst (v := (0 : Int32)) dX9_isSymbol_234 rfl ?_
    exact G_ret (Or.inl rfl) dX9_isSymbol_235 rfl
  refine G_if (fun hs50 => ?_) (fun hs50 => ?_)
  · refine G_tableIn (tgt := 234) dX9_isSymbol_1 (by rw [hs50]; decide) (by rw [hs50]; decide) (by rw [hs50]; rfl) (by decide) ?_
    refine G_iconst (v := (0 : Int32)) dX9_isSymbol_234 rfl ?_
    exact G_ret (Or.inl rfl) dX9_isSymbol_235 rfl
  refine G_if (fun hs51 => ?_) (fun hs51 => ?_)
  · refine G_tableIn (tgt := 234) dX9_isSymbol_1 (by rw [hs51]; decide) (by rw [hs51]; decide) (by rw [hs51]; rfl) (by decide) ?_
    refine G_iconst (v := (0 : Int32)) dX9_isSymbol_234 rfl ?_
    exact G_ret (Or.inl rfl) dX9_isSymbol_235 rfl
  refine G_if (fun hs52 => ?_) (fun hs52 => ?_)
  · refine G_tableIn (tgt := 232) dX9_isSymbol_1 (by rw [hs52]; decide) (by rw [hs52]; decide) (by rw [hs52]; rfl) (by decide) ?_
    refine G_iconst (v := (1 : Int32)) dX9_isSymbol_232 rfl ?_
    exact G_ret (Or.inr rfl) dX9_isSymbol_233 rfl
  refine G_if (fun hs53 => ?_) (fun hs53 => ?_)
  · refine G_tableIn (tgt := 234) dX9_isSymbol_1 (by rw [hs53]; decide) (by rw [hs53]; decide) (by rw [hs53]; rfl) (by decide) ?_
    refine G_iconst (v := (0 : Int32)) dX9_isSymbol_234 rfl ?_
    exact G_ret (Or.inl rfl) dX9_isSymbol_235 rfl
  refine G_if (fun hs54 => ?_) (fun hs54 => ?_)
  · refine G_tableIn (tgt := 232) dX9_isSymbol_1 (by rw [hs54]; decide) (by rw [hs54]; decide) (by rw [hs54]; rfl) (by decide) ?_
    refine G_iconst (v := (1 : Int32)) dX9_isSymbol_232 rfl ?_
    exact G_ret (Or.inr rfl) dX9_isSymbol_233 rfl
  refine G_tableOut (tgt := 234) dX9_isSymbol_1 (by have q0 := i32_ne hs1; rw [show (40 : Int32).toInt = 40 from by decide] at q0; have q1 := i32_ne hs2; rw [show (41 : Int32).toInt = 41 from by decide] at q1; have q2 := i32_ne hs3; rw [show (42 : Int32).toInt = 42 from by decide] at q2; have q3 := i32_ne hs4; rw [show (43 : Int32).toInt = 43 from by decide] at q3; have q4 := i32_ne hs5; rw [show (44 : Int32).toInt = 44 from by decide] at q4; have q5 := i32_ne hs6; rw [show (45 : Int32).toInt = 45 from by decide] at q5; have q6 := i32_ne hs7; rw [show (46 : Int32).toInt = 46 from by decide] at q6; have q7 := i32_ne hs8; rw [show (47 : Int32).toInt = 47 from by decide] at q7; have q8 := i32_ne hs9; rw [show (48 : Int32).toInt = 48 from by decide] at q8; have q9 := i32_ne hs10; rw [show (49 : Int32).toInt = 49 from by decide] at q9; have q10 := i32_ne hs11; rw [show (50 : Int32).toInt = 50 from by decide] at q10; have q11 := i32_ne hs12; rw [show (51 : Int32).toInt = 51 from by decide] at q11; have q12 := i32_ne hs13; rw [show (52 : Int32).toInt = 52 from by decide] at q12; have q13 := i32_ne hs14; rw [show (53 : Int32).toInt = 53 from by decide] at q13; have q14 := i32_ne hs15; rw [show (54 : Int32).toInt = 54 from by decide] at q14; have q15 := i32_ne hs16; rw [show (55 : Int32).toInt = 55 from by decide] at q15; have q16 := i32_ne hs17; rw [show (56 : Int32).toInt = 56 from by decide] at q16; have q17 := i32_ne hs18; rw [show (57 : Int32).toInt = 57 from by decide] at q17; have q18 := i32_ne hs19; rw [show (58 : Int32).toInt = 58 from by decide] at q18; have q19 := i32_ne hs20; rw [show (59 : Int32).toInt = 59 from by decide] at q19; have q20 := i32_ne hs21; rw [show (60 : Int32).toInt = 60 from by decide] at q20; have q21 := i32_ne hs22; rw [show (61 : Int32).toInt = 61 from by decide] at q21; have q22 := i32_ne hs23; rw [show (62 : Int32).toInt = 62 from by decide] at q22; have q23 := i32_ne hs24; rw [show (63 : Int32).toInt = 63 from by decide] at q23; have q24 := i32_ne hs25; rw [show (64 : Int32).toInt = 64 from by decide] at q24; have q25 := i32_ne hs26; rw [show (65 : Int32).toInt = 65 from by decide] at q25; have q26 := i32_ne hs27; rw [show (66 : Int32).toInt = 66 from by decide] at q26; have q27 := i32_ne hs28; rw [show (67 : Int32).toInt = 67 from by decide] at q27; have q28 := i32_ne hs29; rw [show (68 : Int32).toInt = 68 from by decide] at q28; have q29 := i32_ne hs30; rw [show (69 : Int32).toInt = 69 from by decide] at q29; have q30 := i32_ne hs31; rw [show (70 : Int32).toInt = 70 from by decide] at q30; have q31 := i32_ne hs32; rw [show (71 : Int32).toInt = 71 from by decide] at q31; have q32 := i32_ne hs33; rw [show (72 : Int32).toInt = 72 from by decide] at q32; have q33 := i32_ne hs34; rw [show (73 : Int32).toInt = 73 from by decide] at q33; have q34 := i32_ne hs35; rw [show (74 : Int32).toInt = 74 from by decide] at q34; have q35 := i32_ne hs36; rw [show (75 : Int32).toInt = 75 from by decide] at q35; have q36 := i32_ne hs37; rw [show (76 : Int32).toInt = 76 from by decide] at q36; have q37 := i32_ne hs38; rw [show (77 : Int32).toInt = 77 from by decide] at q37; have q38 := i32_ne hs39; rw [show (78 : Int32).toInt = 78 from by decide] at q38; have q39 := i32_ne hs40; rw [show (79 : Int32).toInt = 79 from by decide] at q39; have q40 := i32_ne hs41; rw [show (80 : Int32).toInt = 80 from by decide] at q40; have q41 := i32_ne hs42; rw [show (81 : Int32).toInt = 81 from by decide] at q41; have q42 := i32_ne hs43; rw [show (82 : Int32).toInt = 82 from by decide] at q42; have q43 := i32_ne hs44; rw [show (83 : Int32).toInt = 83 from by decide] at q43; have q44 := i32_ne hs45; rw [show (84 : Int32).toInt = 84 from by decide] at q44; have q45 := i32_ne hs46; rw [show (85 : Int32).toInt = 85 from by decide] at q45; have q46 := i32_ne hs47; rw [show (86 : Int32).toInt = 86 from by decide] at q46; have q47 := i32_ne hs48; rw [show (87 : Int32).toInt = 87 from by decide] at q47; have q48 := i32_ne hs49; rw [show (88 : Int32).toInt = 88 from by decide] at q48; have q49 := i32_ne hs50; rw [show (89 : Int32).toInt = 89 from by decide] at q49; have q50 := i32_ne hs51; rw [show (90 : Int32).toInt = 90 from by decide] at q50; have q51 := i32_ne hs52; rw [show (91 : Int32).toInt = 91 from by decide] at q51; have q52 := i32_ne hs53; rw [show (92 : Int32).toInt = 92 from by decide] at q52; have q53 := i32_ne hs54; rw [show (93 : Int32).toInt = 93 from by decide] at q53; omega) (by decide) ?_
  refine G_iconst (v := (0 : Int32)) dX9_isSymbol_234 rfl ?_
  exact G_ret (Or.inl rfl) dX9_isSymbol_235 rfl

theorem yn_X9_isSymbol : Yn yX9_isSymbol 1 := ⟨by decide +kernel, by decide +kernel, by decide +kernel⟩
theorem ct_X9_isSymbol (l : Launch) (N : Nat) (z : Nat → Nat) (v0 : Int32) : Ct l z yX9_isSymbol cX9_isSymbol 1 (some .boolean) 1 enI [.int v0] (f_X9_isSymbol N z v0) :=
  Ct_z (fun x => G_lv0 (by simp only [lva_n, lva_i, lva_o, lva_r, lva_j]) (g_X9_isSymbol l N z v0 x)) (by decide +kernel) (by simp only [lgl_n, lgl_i, lgl_o, lgl_r, lgl_j]; decide)

theorem dX9_scanSymbol_0 : decode cX9_scanSymbol 0 = .ok (.aload_n 1, 1) := by decide +kernel
theorem dX9_scanSymbol_1 : decode cX9_scanSymbol 1 = .ok (.iload_n 2, 1) := by decide +kernel
theorem dX9_scanSymbol_2 : decode cX9_scanSymbol 2 = .ok (.invokevirtual 60, 3) := by decide +kernel
theorem dX9_scanSymbol_5 : decode cX9_scanSymbol 5 = .ok (.istore_n 3, 1) := by decide +kernel
theorem dX9_scanSymbol_6 : decode cX9_scanSymbol 6 = .ok (.iload_n 3, 1) := by decide +kernel
theorem dX9_scanSymbol_7 : decode cX9_scanSymbol 7 = .ok (.bipush 60, 2) := by decide +kernel
theorem dX9_scanSymbol_9 : decode cX9_scanSymbol 9 = .ok (.if_icmp .eq 9, 3) := by decide +kernel
theorem dX9_scanSymbol_12 : decode cX9_scanSymbol 12 = .ok (.iload_n 3, 1) := by decide +kernel
theorem dX9_scanSymbol_13 : decode cX9_scanSymbol 13 = .ok (.bipush 62, 2) := by decide +kernel
theorem dX9_scanSymbol_15 : decode cX9_scanSymbol 15 = .ok (.if_icmp .ne 38, 3) := by decide +kernel
theorem dX9_scanSymbol_18 : decode cX9_scanSymbol 18 = .ok (.aload_n 1, 1) := by decide +kernel
theorem dX9_scanSymbol_19 : decode cX9_scanSymbol 19 = .ok (.iload_n 2, 1) := by decide +kernel
theorem dX9_scanSymbol_20 : decode cX9_scanSymbol 20 = .ok (.iconst 1, 1) := by decide +kernel
theorem dX9_scanSymbol_21 : decode cX9_scanSymbol 21 = .ok (.iadd, 1) := by decide +kernel
theorem dX9_scanSymbol_22 : decode cX9_scanSymbol 22 = .ok (.invokevirtual 60, 3) := by decide +kernel
theorem dX9_scanSymbol_25 : decode cX9_scanSymbol 25 = .ok (.bipush 61, 2) := by decide +kernel
theorem dX9_scanSymbol_27 : decode cX9_scanSymbol 27 = .ok (.if_icmp .ne 26, 3) := by decide +kernel
theorem dX9_scanSymbol_30 : decode cX9_scanSymbol 30 = .ok (.aload_n 0, 1) := by decide +kernel
theorem dX9_scanSymbol_31 : decode cX9_scanSymbol 31 = .ok (.iload_n 3, 1) := by decide +kernel
theorem dX9_scanSymbol_32 : decode cX9_scanSymbol 32 = .ok (.bipush 60, 2) := by decide +kernel
theorem dX9_scanSymbol_34 : decode cX9_scanSymbol 34 = .ok (.if_icmp .ne 8, 3) := by decide +kernel
theorem dX9_scanSymbol_37 : decode cX9_scanSymbol 37 = .ok (.bipush 36, 2) := by decide +kernel
theorem dX9_scanSymbol_39 : decode cX9_scanSymbol 39 = .ok (.goto 5, 3) := by decide +kernel
theorem dX9_scanSymbol_42 : decode cX9_scanSymbol 42 = .ok (.bipush 37, 2) := by decide +kernel
theorem dX9_scanSymbol_44 : decode cX9_scanSymbol 44 = .ok (.iload_n 2, 1) := by decide +kernel
theorem dX9_scanSymbol_45 : decode cX9_scanSymbol 45 = .ok (.lconst 0, 1) := by decide +kernel
theorem dX9_scanSymbol_46 : decode cX9_scanSymbol 46 = .ok (.invokevirtual 63, 3) := by decide +kernel
theorem dX9_scanSymbol_49 : decode cX9_scanSymbol 49 = .ok (.iload_n 2, 1) := by decide +kernel
theorem dX9_scanSymbol_50 : decode cX9_scanSymbol 50 = .ok (.iconst 2, 1) := by decide +kernel
theorem dX9_scanSymbol_51 : decode cX9_scanSymbol 51 = .ok (.iadd, 1) := by decide +kernel
theorem dX9_scanSymbol_52 : decode cX9_scanSymbol 52 = .ok (.ireturn, 1) := by decide +kernel
theorem dX9_scanSymbol_53 : decode cX9_scanSymbol 53 = .ok (.aload_n 0, 1) := by decide +kernel
theorem dX9_scanSymbol_54 : decode cX9_scanSymbol 54 = .ok (.iload_n 3, 1) := by decide +kernel
theorem dX9_scanSymbol_55 : decode cX9_scanSymbol 55 = .ok (.invokestatic 89, 3) := by decide +kernel
theorem dX9_scanSymbol_58 : decode cX9_scanSymbol 58 = .ok (.ifCond .eq 7, 3) := by decide +kernel
theorem dX9_scanSymbol_61 : decode cX9_scanSymbol 61 = .ok (.iload_n 3, 1) := by decide +kernel
theorem dX9_scanSymbol_62 : decode cX9_scanSymbol 62 = .ok (.goto 5, 3) := by decide +kernel
theorem dX9_scanSymbol_65 : decode cX9_scanSymbol 65 = .ok (.bipush 39, 2) := by decide +kernel
theorem dX9_scanSymbol_67 : decode cX9_scanSymbol 67 = .ok (.iload_n 2, 1) := by decide +kernel
theorem dX9_scanSymbol_68 : decode cX9_scanSymbol 68 = .ok (.lconst 0, 1) := by decide +kernel
theorem dX9_scanSymbol_69 : decode cX9_scanSymbol 69 = .ok (.invokevirtual 63, 3) := by decide +kernel
theorem dX9_scanSymbol_72 : decode cX9_scanSymbol 72 = .ok (.iload_n 2, 1) := by decide +kernel
theorem dX9_scanSymbol_73 : decode cX9_scanSymbol 73 = .ok (.iconst 1, 1) := by decide +kernel
theorem dX9_scanSymbol_74 : decode cX9_scanSymbol 74 = .ok (.iadd, 1) := by decide +kernel
theorem dX9_scanSymbol_75 : decode cX9_scanSymbol 75 = .ok (.ireturn, 1) := by decide +kernel
abbrev m_X9_scanSymbol : Mt := (cX9_scanSymbol, RX9, "scanSymbol", 4, .ireturn, 2)
def f_X9_scanSymbol_b44 (N : Nat) (z : Nat → Nat) (v2 : Int32) (s0 : Int32) (s1 : Option Nat) (x0 : Hp) : Option (Int32 × Hp) :=
  obj s1 x0 12 fun q2 => bnd (f_X9_add N z q2 s0 v2 (0 : Int64) x0) fun _ x1 =>
  some (v2 + (2 : Int32), x1)
def f_X9_scanSymbol_b67 (N : Nat) (z : Nat → Nat) (v2 : Int32) (s0 : Int32) (s1 : Option Nat) (x0 : Hp) : Option (Int32 × Hp) :=
  obj s1 x0 12 fun q4 => bnd (f_X9_add N z q4 s0 v2 (0 : Int64) x0) fun _ x3 =>
  some (v2 + (1 : Int32), x3)
def f_X9_scanSymbol_b53 (N : Nat) (z : Nat → Nat) (o : Nat) (v2 : Int32) (v3 : Int32) (x0 : Hp) : Option (Int32 × Hp) :=
  bnd (f_X9_isSymbol N z v3 x0) fun i6 x5 =>
  if i6 = 0 then (f_X9_scanSymbol_b67 N z v2 (39 : Int32) (some o) x5) else (f_X9_scanSymbol_b67 N z v2 v3 (some o) x5)
def f_X9_scanSymbol_b18 (N : Nat) (z : Nat → Nat) (o : Nat) (v1 : Option Nat) (v2 : Int32) (v3 : Int32) (x0 : Hp) : Option (Int32 × Hp) :=
  obj v1 x0 11 fun q9 => bnd (f_X8_at N z q9 (v2 + (1 : Int32)) x0) fun i8 x7 =>
  if i8 = (61 : Int32) then (if v3 = (60 : Int32) then (f_X9_scanSymbol_b44 N z v2 (36 : Int32) (some o) x7) else (f_X9_scanSymbol_b44 N z v2 (37 : Int32) (some o) x7)) else (f_X9_scanSymbol_b53 N z o v2 v3 x7)
def f_X9_scanSymbol (N : Nat) (z : Nat → Nat) (o : Nat) (v1 : Option Nat) (v2 : Int32) (x0 : Hp) : Option (Int32 × Hp) :=
  obj v1 x0 11 fun q12 => bnd (f_X8_at N z q12 v2 x0) fun i11 x10 =>
  if i11 = (60 : Int32) then (f_X9_scanSymbol_b18 N z o v1 v2 i11 x10) else (if i11 = (62 : Int32) then (f_X9_scanSymbol_b18 N z o v1 v2 i11 x10) else (f_X9_scanSymbol_b53 N z o v2 i11 x10))
set_option maxRecDepth 100000 in
set_option maxHeartbeats 4000000 in
theorem g_X9_scanSymbol_b44 (l : Launch) (N : Nat) (z : Nat → Nat) (v2 : Int32) (s0 : Int32) (s1 : Option Nat) (x0 : Hp) : G l z m_X9_scanSymbol okT enI 44 [(2, .int v2)] [.int s0, va_rf s1] x0 (f_X9_scanSymbol_b44 N z v2 s0 s1 x0) := by
  unfold f_X9_scanSymbol_b44
  refine G_iload_n 0 dX9_scanSymbol_44 rfl rfl ?_
  refine G_lconst (v := (0 : Int64)) dX9_scanSymbol_45 (by decide) ?_
  refine G_callV (av := [.int s0, .int v2, .long (0 : Int64)]) [] (fun q2 => ct_X9_add l N z q2 s0 v2 (0 : Int64)) K_11 rfl yn_X9_add (Nat.le_of_ble_eq_true rfl) (by decide) gw_1175 gw_1177 gw_s14 gw_49 gw_1178 rfl (by decide) dX9_scanSymbol_46 (fun _ x1 => ?_)
  refine G_iload_n 0 dX9_scanSymbol_49 rfl rfl ?_
  refine G_iconst (v := (2 : Int32)) dX9_scanSymbol_50 rfl ?_
  refine G_iadd dX9_scanSymbol_51 ?_
  exact G_ret trivial dX9_scanSymbol_52 rfl

set_option maxRecDepth 100000 in
set_option maxHeartbeats 4000000 in
theorem g_X9_scanSymbol_b67 (l : Launch) (N : Nat) (z : Nat → Nat) (v2 : Int32) (s0 : Int32) (s1 : Option Nat) (x0 : Hp) : G l z m_X9_scanSymbol okT enI 67 [(2, .int v2)] [.int s0, va_rf s1] x0 (f_X9_scanSymbol_b67 N z v2 s0 s1 x0) := by
  unfold f_X9_scanSymbol_b67
  refine G_iload_n 0 dX9_scanSymbol_67 rfl rfl ?_
  refine G_lconst (v := (0 : Int64)) dX9_scanSymbol_68 (by decide) ?_
  refine G_callV (av := [.int s0, .int v2, .long (0 : Int64)]) [] (fun q4 => ct_X9_add l N z q4 s0 v2 (0 : Int64)) K_11 rfl yn_X9_add (Nat.le_of_ble_eq_true rfl) (by decide) gw_1175 gw_1177 gw_s14 gw_49 gw_1178 rfl (by decide) dX9_scanSymbol_69 (fun _ x3 => ?_)
  refine G_iload_n 0 dX9_scanSymbol_72 rfl rfl ?_
  refine G_iconst (v := (1 : Int32)) dX9_scanSymbol_73 rfl ?_
  refine G_iadd dX9_scanSymbol_74 ?_
  exact G_ret trivial dX9_scanSymbol_75 rfl

set_option maxRecDepth 100000 in
set_option maxHeartbeats 4000000 in
theorem g_X9_scanSymbol_b53 (l : Launch) (N : Nat) (z : Nat → Nat) (o : Nat) (v2 : Int32) (v3 : Int32) (x0 : Hp) : G l z m_X9_scanSymbol okT enI 53 [(0, va_rf (some o)), (2, .int v2), (3, .int v3)] [] x0 (f_X9_scanSymbol_b53 N z o v2 v3 x0) := by
  unfold f_X9_scanSymbol_b53
  refine G_aload_n 0 dX9_scanSymbol_53 rfl rfl ?_
  refine G_iload_n 2 dX9_scanSymbol_54 rfl rfl ?_
  refine G_callS (av := [.int v3]) [va_rf (some o)] (ct_X9_isSymbol l N z v3) yn_X9_isSymbol (Nat.le_of_ble_eq_true rfl) (by decide) gw_1199 gw_1200 gw_49 gw_1201 rfl (by simp only [hw_n, hw_i, hw_r, hw_j, hw_d]; decide) dX9_scanSymbol_55 (fun i6 x5 => ?_)
  refine G_if_eq (tgt := 65) dX9_scanSymbol_58 (by decide) (fun _ => ?_) (fun _ => ?_)
  · refine G_bipush (v := (39 : Int32)) dX9_scanSymbol_65 (by decide) ?_
    refine G_lv [1] rfl ?_
    exact g_X9_scanSymbol_b67 l N z v2 (39 : Int32) (some o) x5
  · refine G_iload_n 2 dX9_scanSymbol_61 rfl rfl ?_
    refine G_goto (tgt := 67) dX9_scanSymbol_62 (by decide) ?_
    refine G_lv [1] rfl ?_
    exact g_X9_scanSymbol_b67 l N z v2 v3 (some o) x5

set_option maxRecDepth 100000 in
set_option maxHeartbeats 4000000 in
theorem g_X9_scanSymbol_b18 (l : Launch) (N : Nat) (z : Nat → Nat) (o : Nat) (v1 : Option Nat) (v2 : Int32) (v3 : Int32) (x0 : Hp) : G l z m_X9_scanSymbol okT enI 18 [(0, va_rf (some o)), (1, va_rf v1), (2, .int v2), (3, .int v3)] [] x0 (f_X9_scanSymbol_b18 N z o v1 v2 v3 x0) := by
  unfold f_X9_scanSymbol_b18
  refine G_aload_n 1 dX9_scanSymbol_18 rfl rfl ?_
  refine G_iload_n 2 dX9_scanSymbol_19 rfl rfl ?_
  refine G_iconst (v := (1 : Int32)) dX9_scanSymbol_20 rfl ?_
  refine G_iadd dX9_scanSymbol_21 ?_
  refine G_callV (av := [.int (v2 + (1 : Int32))]) [] (fun q9 => ct_X8_at l N z q9 (v2 + (1 : Int32))) K_10 rfl yn_X8_at (Nat.le_of_ble_eq_true rfl) (by decide) gw_1167 gw_1168 gw_1169 gw_40 gw_1170 rfl (by decide) dX9_scanSymbol_22 (fun i8 x7 => ?_)
  refine G_bipush (v := (61 : Int32)) dX9_scanSymbol_25 (by decide) ?_
  refine G_icmp_ne (tgt := 53) dX9_scanSymbol_27 (by decide) (fun _ => ?_) (fun _ => ?_)
  · refine G_aload_n 0 dX9_scanSymbol_30 rfl rfl ?_
    refine G_iload_n 3 dX9_scanSymbol_31 rfl rfl ?_
    refine G_bipush (v := (60 : Int32)) dX9_scanSymbol_32 (by decide) ?_
    refine G_icmp_ne (tgt := 42) dX9_scanSymbol_34 (by decide) (fun _ => ?_) (fun _ => ?_)
    · refine G_bipush (v := (36 : Int32)) dX9_scanSymbol_37 (by decide) ?_
      refine G_goto (tgt := 44) dX9_scanSymbol_39 (by decide) ?_
      refine G_lv [2] rfl ?_
      exact g_X9_scanSymbol_b44 l N z v2 (36 : Int32) (some o) x7
    · refine G_bipush (v := (37 : Int32)) dX9_scanSymbol_42 (by decide) ?_
      refine G_lv [2] rfl ?_
      exact g_X9_scanSymbol_b44 l N z v2 (37 : Int32) (some o) x7
  · refine G_lv [0, 2, 3] rfl ?_
    exact g_X9_scanSymbol_b53 l N z o v2 v3 x7

set_option maxRecDepth 100000 in
set_option maxHeartbeats 4000000 in
theorem g_X9_scanSymbol (l : Launch) (N : Nat) (z : Nat → Nat) (o : Nat) (v1 : Option Nat) (v2 : Int32) (x0 : Hp) : G l z m_X9_scanSymbol okT enI 0 [(0, va_rf (some o)), (1, va_rf v1), (2, .int v2)] [] x0 (f_X9_scanSymbol N z o v1 v2 x0) := by
  unfold f_X9_scanSymbol
  refine G_aload_n 1 dX9_scanSymbol_0 rfl rfl ?_
  refine G_iload_n 2 dX9_scanSymbol_1 rfl rfl ?_
  refine G_callV (av := [.int v2]) [] (fun q12 => ct_X8_at l N z q12 v2) K_10 rfl yn_X8_at (Nat.le_of_ble_eq_true rfl) (by decide) gw_1167 gw_1168 gw_1169 gw_40 gw_1170 rfl (by decide) dX9_scanSymbol_2 (fun i11 x10 => ?_)
  refine G_istore_n (i := 3) (l2 := [(0, va_rf (some o)), (1, va_rf v1), (2, .int v2)]) [0, 1, 2] dX9_scanSymbol_5 rfl (Nat.le_of_ble_eq_true rfl) rfl (sok_a (by decide) (by decide) (sok_a (by decide) (by decide) (sok_b (by decide) rfl trivial))) ?_
  refine G_iload_n 0 dX9_scanSymbol_6 rfl rfl ?_
  refine G_bipush (v := (60 : Int32)) dX9_scanSymbol_7 (by decide) ?_
  refine G_icmp_eq (tgt := 18) dX9_scanSymbol_9 (by decide) (fun _ => ?_) (fun _ => ?_)
  · refine G_lv [1, 2, 3, 0] rfl ?_
    exact g_X9_scanSymbol_b18 l N z o v1 v2 i11 x10
  · refine G_iload_n 0 dX9_scanSymbol_12 rfl rfl ?_
    refine G_bipush (v := (62 : Int32)) dX9_scanSymbol_13 (by decide) ?_
    refine G_icmp_ne (tgt := 53) dX9_scanSymbol_15 (by decide) (fun _ => ?_) (fun _ => ?_)
    · refine G_lv [1, 2, 3, 0] rfl ?_
      exact g_X9_scanSymbol_b18 l N z o v1 v2 i11 x10
    · refine G_lv [1, 3, 0] rfl ?_
      exact g_X9_scanSymbol_b53 l N z o v2 i11 x10

theorem yn_X9_scanSymbol : Yn yX9_scanSymbol 2 := ⟨by decide +kernel, by decide +kernel, by decide +kernel⟩
theorem ct_X9_scanSymbol (l : Launch) (N : Nat) (z : Nat → Nat) (o : Nat) (v1 : Option Nat) (v2 : Int32) : Ct l z yX9_scanSymbol cX9_scanSymbol 4 (some .int) 2 enI [.ref o, va_rf v1, .int v2] (f_X9_scanSymbol N z o v1 v2) :=
  Ct_i (fun x => G_lv0 (by simp only [lva_n, lva_i, lva_o, lva_r, lva_j]) (g_X9_scanSymbol l N z o v1 v2 x)) (by decide +kernel) (by simp only [lgl_n, lgl_i, lgl_o, lgl_r, lgl_j]; decide)

theorem dX9_scanToken_0 : decode cX9_scanToken 0 = .ok (.aload_n 1, 1) := by decide +kernel
theorem dX9_scanToken_1 : decode cX9_scanToken 1 = .ok (.iload_n 2, 1) := by decide +kernel
theorem dX9_scanToken_2 : decode cX9_scanToken 2 = .ok (.invokevirtual 60, 3) := by decide +kernel
theorem dX9_scanToken_5 : decode cX9_scanToken 5 = .ok (.istore_n 3, 1) := by decide +kernel
theorem dX9_scanToken_6 : decode cX9_scanToken 6 = .ok (.iload_n 3, 1) := by decide +kernel
theorem dX9_scanToken_7 : decode cX9_scanToken 7 = .ok (.iconst (-1), 1) := by decide +kernel
theorem dX9_scanToken_8 : decode cX9_scanToken 8 = .ok (.if_icmp .ne 13, 3) := by decide +kernel
theorem dX9_scanToken_11 : decode cX9_scanToken 11 = .ok (.aload_n 0, 1) := by decide +kernel
theorem dX9_scanToken_12 : decode cX9_scanToken 12 = .ok (.bipush 38, 2) := by decide +kernel
theorem dX9_scanToken_14 : decode cX9_scanToken 14 = .ok (.iload_n 2, 1) := by decide +kernel
theorem dX9_scanToken_15 : decode cX9_scanToken 15 = .ok (.lconst 0, 1) := by decide +kernel
theorem dX9_scanToken_16 : decode cX9_scanToken 16 = .ok (.invokevirtual 63, 3) := by decide +kernel
theorem dX9_scanToken_19 : decode cX9_scanToken 19 = .ok (.iload_n 2, 1) := by decide +kernel
theorem dX9_scanToken_20 : decode cX9_scanToken 20 = .ok (.ireturn, 1) := by decide +kernel
theorem dX9_scanToken_21 : decode cX9_scanToken 21 = .ok (.aload_n 0, 1) := by decide +kernel
theorem dX9_scanToken_22 : decode cX9_scanToken 22 = .ok (.getfield 41, 3) := by decide +kernel
theorem dX9_scanToken_25 : decode cX9_scanToken 25 = .ok (.sipush 400, 3) := by decide +kernel
theorem dX9_scanToken_28 : decode cX9_scanToken 28 = .ok (.if_icmp .lt 13, 3) := by decide +kernel
theorem dX9_scanToken_31 : decode cX9_scanToken 31 = .ok (.aload_n 0, 1) := by decide +kernel
theorem dX9_scanToken_32 : decode cX9_scanToken 32 = .ok (.bipush 39, 2) := by decide +kernel
theorem dX9_scanToken_34 : decode cX9_scanToken 34 = .ok (.iload_n 2, 1) := by decide +kernel
theorem dX9_scanToken_35 : decode cX9_scanToken 35 = .ok (.lconst 0, 1) := by decide +kernel
theorem dX9_scanToken_36 : decode cX9_scanToken 36 = .ok (.invokevirtual 63, 3) := by decide +kernel
theorem dX9_scanToken_39 : decode cX9_scanToken 39 = .ok (.iload_n 2, 1) := by decide +kernel
theorem dX9_scanToken_40 : decode cX9_scanToken 40 = .ok (.ireturn, 1) := by decide +kernel
theorem dX9_scanToken_41 : decode cX9_scanToken 41 = .ok (.iload_n 3, 1) := by decide +kernel
theorem dX9_scanToken_42 : decode cX9_scanToken 42 = .ok (.invokestatic 67, 3) := by decide +kernel
theorem dX9_scanToken_45 : decode cX9_scanToken 45 = .ok (.ifCond .eq 10, 3) := by decide +kernel
theorem dX9_scanToken_48 : decode cX9_scanToken 48 = .ok (.aload_n 0, 1) := by decide +kernel
theorem dX9_scanToken_49 : decode cX9_scanToken 49 = .ok (.aload_n 1, 1) := by decide +kernel
theorem dX9_scanToken_50 : decode cX9_scanToken 50 = .ok (.iload_n 2, 1) := by decide +kernel
theorem dX9_scanToken_51 : decode cX9_scanToken 51 = .ok (.invokevirtual 71, 3) := by decide +kernel
theorem dX9_scanToken_54 : decode cX9_scanToken 54 = .ok (.ireturn, 1) := by decide +kernel
theorem dX9_scanToken_55 : decode cX9_scanToken 55 = .ok (.iload_n 3, 1) := by decide +kernel
theorem dX9_scanToken_56 : decode cX9_scanToken 56 = .ok (.invokestatic 74, 3) := by decide +kernel
theorem dX9_scanToken_59 : decode cX9_scanToken 59 = .ok (.ifCond .eq 12, 3) := by decide +kernel
theorem dX9_scanToken_62 : decode cX9_scanToken 62 = .ok (.aload_n 0, 1) := by decide +kernel
theorem dX9_scanToken_63 : decode cX9_scanToken 63 = .ok (.aload_n 1, 1) := by decide +kernel
theorem dX9_scanToken_64 : decode cX9_scanToken 64 = .ok (.iload_n 2, 1) := by decide +kernel
theorem dX9_scanToken_65 : decode cX9_scanToken 65 = .ok (.invokevirtual 77, 3) := by decide +kernel
theorem dX9_scanToken_68 : decode cX9_scanToken 68 = .ok (.goto 9, 3) := by decide +kernel
theorem dX9_scanToken_71 : decode cX9_scanToken 71 = .ok (.aload_n 0, 1) := by decide +kernel
theorem dX9_scanToken_72 : decode cX9_scanToken 72 = .ok (.aload_n 1, 1) := by decide +kernel
theorem dX9_scanToken_73 : decode cX9_scanToken 73 = .ok (.iload_n 2, 1) := by decide +kernel
theorem dX9_scanToken_74 : decode cX9_scanToken 74 = .ok (.invokevirtual 80, 3) := by decide +kernel
theorem dX9_scanToken_77 : decode cX9_scanToken 77 = .ok (.ireturn, 1) := by decide +kernel
abbrev m_X9_scanToken : Mt := (cX9_scanToken, RX9, "scanToken", 4, .ireturn, 4)
def f_X9_scanToken (N : Nat) (z : Nat → Nat) (o : Nat) (v1 : Option Nat) (v2 : Int32) (x0 : Hp) : Option (Int32 × Hp) :=
  obj v1 x0 11 fun q3 => bnd (f_X8_at N z q3 v2 x0) fun i2 x1 =>
  if i2 = (-1 : Int32) then (obj (some o) x1 12 fun q21 => bnd (f_X9_add N z q21 (38 : Int32) v2 (0 : Int64) x1) fun _ x20 =>
  some (v2, x20)) else (geti (some o) x1 12 224 fun i4 =>
  if i4 < (400 : Int32) then (bnd (f_X9_isLetter N z i2 x1) fun i6 x5 =>
  if i6 = 0 then (bnd (f_X9_isDigit N z i2 x5) fun i8 x7 =>
  if i8 = 0 then (obj (some o) x7 12 fun q11 => bnd (f_X9_scanSymbol N z q11 v1 v2 x7) fun i10 x9 =>
  some (i10, x9)) else (obj (some o) x7 12 fun q14 => bnd (f_X9_scanNumber N z q14 v1 v2 x7) fun i13 x12 =>
  some (i13, x12))) else (obj (some o) x5 12 fun q17 => bnd (f_X9_scanWord N z q17 v1 v2 x5) fun i16 x15 =>
  some (i16, x15))) else (obj (some o) x1 12 fun q19 => bnd (f_X9_add N z q19 (39 : Int32) v2 (0 : Int64) x1) fun _ x18 =>
  some (v2, x18)))
set_option maxRecDepth 100000 in
set_option maxHeartbeats 4000000 in
theorem g_X9_scanToken (l : Launch) (N : Nat) (z : Nat → Nat) (o : Nat) (v1 : Option Nat) (v2 : Int32) (x0 : Hp) : G l z m_X9_scanToken okT enI 0 [(0, va_rf (some o)), (1, va_rf v1), (2, .int v2)] [] x0 (f_X9_scanToken N z o v1 v2 x0) := by
  unfold f_X9_scanToken
  refine G_aload_n 1 dX9_scanToken_0 rfl rfl ?_
  refine G_iload_n 2 dX9_scanToken_1 rfl rfl ?_
  refine G_callV (av := [.int v2]) [] (fun q3 => ct_X8_at l N z q3 v2) K_10 rfl yn_X8_at (Nat.le_of_ble_eq_true rfl) (by decide) gw_1167 gw_1168 gw_1169 gw_40 gw_1170 rfl (by decide) dX9_scanToken_2 (fun i2 x1 => ?_)
  refine G_istore_n (i := 3) (l2 := [(0, va_rf (some o)), (1, va_rf v1), (2, .int v2)]) [0, 1, 2] dX9_scanToken_5 rfl (Nat.le_of_ble_eq_true rfl) rfl (sok_a (by decide) (by decide) (sok_a (by decide) (by decide) (sok_b (by decide) rfl trivial))) ?_
  refine G_iload_n 0 dX9_scanToken_6 rfl rfl ?_
  refine G_iconst (v := (-1 : Int32)) dX9_scanToken_7 rfl ?_
  refine G_icmp_ne (tgt := 21) dX9_scanToken_8 (by decide) (fun _ => ?_) (fun _ => ?_)
  · refine G_aload_n 1 dX9_scanToken_11 rfl rfl ?_
    refine G_bipush (v := (38 : Int32)) dX9_scanToken_12 (by decide) ?_
    refine G_iload_n 3 dX9_scanToken_14 rfl rfl ?_
    refine G_lconst (v := (0 : Int64)) dX9_scanToken_15 (by decide) ?_
    refine G_callV (av := [.int (38 : Int32), .int v2, .long (0 : Int64)]) [] (fun q21 => ct_X9_add l N z q21 (38 : Int32) v2 (0 : Int64)) K_11 rfl yn_X9_add (Nat.le_of_ble_eq_true rfl) (by decide) gw_1175 gw_1177 gw_s14 gw_49 gw_1178 rfl (by decide) dX9_scanToken_16 (fun _ x20 => ?_)
    refine G_iload_n 3 dX9_scanToken_19 rfl rfl ?_
    exact G_ret trivial dX9_scanToken_20 rfl
  · refine G_aload_n 1 dX9_scanToken_21 rfl rfl ?_
    refine G_geti (k := 4) K_11 (by decide) rfl rfl rfl gw_413 rfl dX9_scanToken_22 (fun i4 => ?_)
    refine G_sipush (v := (400 : Int32)) dX9_scanToken_25 (by decide) ?_
    refine G_icmp_lt (tgt := 41) dX9_scanToken_28 (by decide) (fun _ => ?_) (fun _ => ?_)
    · refine G_iload_n 0 dX9_scanToken_41 rfl rfl ?_
      refine G_callS (av := [.int i2]) [] (ct_X9_isLetter l N z i2) yn_X9_isLetter (Nat.le_of_ble_eq_true rfl) (by decide) gw_1179 gw_1180 gw_49 gw_1181 rfl (by decide) dX9_scanToken_42 (fun i6 x5 => ?_)
      refine G_if_eq (tgt := 55) dX9_scanToken_45 (by decide) (fun _ => ?_) (fun _ => ?_)
      · refine G_iload_n 0 dX9_scanToken_55 rfl rfl ?_
        refine G_callS (av := [.int i2]) [] (ct_X9_isDigit l N z i2) yn_X9_isDigit (Nat.le_of_ble_eq_true rfl) (by decide) gw_406 gw_407 gw_49 gw_408 rfl (by decide) dX9_scanToken_56 (fun i8 x7 => ?_)
        refine G_if_eq (tgt := 71) dX9_scanToken_59 (by decide) (fun _ => ?_) (fun _ => ?_)
        · refine G_aload_n 1 dX9_scanToken_71 rfl rfl ?_
          refine G_aload_n 2 dX9_scanToken_72 rfl rfl ?_
          refine G_iload_n 3 dX9_scanToken_73 rfl rfl ?_
          refine G_callV (av := [va_rf v1, .int v2]) [] (fun q11 => ct_X9_scanSymbol l N z q11 v1 v2) K_11 rfl yn_X9_scanSymbol (Nat.le_of_ble_eq_true rfl) (by decide) gw_1195 gw_1197 gw_s18 gw_49 gw_1198 rfl (by decide) dX9_scanToken_74 (fun i10 x9 => ?_)
          exact G_ret trivial dX9_scanToken_77 rfl
        · refine G_aload_n 1 dX9_scanToken_62 rfl rfl ?_
          refine G_aload_n 2 dX9_scanToken_63 rfl rfl ?_
          refine G_iload_n 3 dX9_scanToken_64 rfl rfl ?_
          refine G_callV (av := [va_rf v1, .int v2]) [] (fun q14 => ct_X9_scanNumber l N z q14 v1 v2) K_11 rfl yn_X9_scanNumber (Nat.le_of_ble_eq_true rfl) (by decide) gw_1190 gw_1192 gw_s17 gw_49 gw_1193 rfl (by decide) dX9_scanToken_65 (fun i13 x12 => ?_)
          refine G_goto (tgt := 77) dX9_scanToken_68 (by decide) ?_
          exact G_ret trivial dX9_scanToken_77 rfl
      · refine G_aload_n 1 dX9_scanToken_48 rfl rfl ?_
        refine G_aload_n 2 dX9_scanToken_49 rfl rfl ?_
        refine G_iload_n 3 dX9_scanToken_50 rfl rfl ?_
        refine G_callV (av := [va_rf v1, .int v2]) [] (fun q17 => ct_X9_scanWord l N z q17 v1 v2) K_11 rfl yn_X9_scanWord (Nat.le_of_ble_eq_true rfl) (by decide) gw_1182 gw_1184 gw_s15 gw_49 gw_1185 rfl (by decide) dX9_scanToken_51 (fun i16 x15 => ?_)
        exact G_ret trivial dX9_scanToken_54 rfl
    · refine G_aload_n 1 dX9_scanToken_31 rfl rfl ?_
      refine G_bipush (v := (39 : Int32)) dX9_scanToken_32 (by decide) ?_
      refine G_iload_n 3 dX9_scanToken_34 rfl rfl ?_
      refine G_lconst (v := (0 : Int64)) dX9_scanToken_35 (by decide) ?_
      refine G_callV (av := [.int (39 : Int32), .int v2, .long (0 : Int64)]) [] (fun q19 => ct_X9_add l N z q19 (39 : Int32) v2 (0 : Int64)) K_11 rfl yn_X9_add (Nat.le_of_ble_eq_true rfl) (by decide) gw_1175 gw_1177 gw_s14 gw_49 gw_1178 rfl (by decide) dX9_scanToken_36 (fun _ x18 => ?_)
      refine G_iload_n 3 dX9_scanToken_39 rfl rfl ?_
      exact G_ret trivial dX9_scanToken_40 rfl

theorem yn_X9_scanToken : Yn yX9_scanToken 2 := ⟨by decide +kernel, by decide +kernel, by decide +kernel⟩
theorem ct_X9_scanToken (l : Launch) (N : Nat) (z : Nat → Nat) (o : Nat) (v1 : Option Nat) (v2 : Int32) : Ct l z yX9_scanToken cX9_scanToken 4 (some .int) 4 enI [.ref o, va_rf v1, .int v2] (f_X9_scanToken N z o v1 v2) :=
  Ct_i (fun x => G_lv0 (by simp only [lva_n, lva_i, lva_o, lva_r, lva_j]) (g_X9_scanToken l N z o v1 v2 x)) (by decide +kernel) (by simp only [lgl_n, lgl_i, lgl_o, lgl_r, lgl_j]; decide)

theorem dX9_scan_0 : decode cX9_scan 0 = .ok (.aload_n 0, 1) := by decide +kernel
theorem dX9_scan_1 : decode cX9_scan 1 = .ok (.iconst 0, 1) := by decide +kernel
theorem dX9_scan_2 : decode cX9_scan 2 = .ok (.putfield 41, 3) := by decide +kernel
theorem dX9_scan_5 : decode cX9_scan 5 = .ok (.iconst 0, 1) := by decide +kernel
theorem dX9_scan_6 : decode cX9_scan 6 = .ok (.istore_n 2, 1) := by decide +kernel
theorem dX9_scan_7 : decode cX9_scan 7 = .ok (.iconst 1, 1) := by decide +kernel
theorem dX9_scan_8 : decode cX9_scan 8 = .ok (.istore_n 3, 1) := by decide +kernel
theorem dX9_scan_9 : decode cX9_scan 9 = .ok (.iconst 0, 1) := by decide +kernel
theorem dX9_scan_10 : decode cX9_scan 10 = .ok (.istore 4, 2) := by decide +kernel
theorem dX9_scan_12 : decode cX9_scan 12 = .ok (.iload_n 3, 1) := by decide +kernel
theorem dX9_scan_13 : decode cX9_scan 13 = .ok (.ifCond .eq 60, 3) := by decide +kernel
theorem dX9_scan_16 : decode cX9_scan 16 = .ok (.iload 4, 2) := by decide +kernel
theorem dX9_scan_18 : decode cX9_scan 18 = .ok (.sipush 400, 3) := by decide +kernel
theorem dX9_scan_21 : decode cX9_scan 21 = .ok (.if_icmp .gt 52, 3) := by decide +kernel
theorem dX9_scan_24 : decode cX9_scan 24 = .ok (.aload_n 1, 1) := by decide +kernel
theorem dX9_scan_25 : decode cX9_scan 25 = .ok (.iload_n 2, 1) := by decide +kernel
theorem dX9_scan_26 : decode cX9_scan 26 = .ok (.invokestatic 45, 3) := by decide +kernel
theorem dX9_scan_29 : decode cX9_scan 29 = .ok (.istore 5, 2) := by decide +kernel
theorem dX9_scan_31 : decode cX9_scan 31 = .ok (.aload_n 0, 1) := by decide +kernel
theorem dX9_scan_32 : decode cX9_scan 32 = .ok (.aload_n 1, 1) := by decide +kernel
theorem dX9_scan_33 : decode cX9_scan 33 = .ok (.iload 5, 2) := by decide +kernel
theorem dX9_scan_35 : decode cX9_scan 35 = .ok (.invokevirtual 49, 3) := by decide +kernel
theorem dX9_scan_38 : decode cX9_scan 38 = .ok (.istore_n 2, 1) := by decide +kernel
theorem dX9_scan_39 : decode cX9_scan 39 = .ok (.aload_n 0, 1) := by decide +kernel
theorem dX9_scan_40 : decode cX9_scan 40 = .ok (.iload 4, 2) := by decide +kernel
theorem dX9_scan_42 : decode cX9_scan 42 = .ok (.invokevirtual 52, 3) := by decide +kernel
theorem dX9_scan_45 : decode cX9_scan 45 = .ok (.istore 6, 2) := by decide +kernel
theorem dX9_scan_47 : decode cX9_scan 47 = .ok (.iload 6, 2) := by decide +kernel
theorem dX9_scan_49 : decode cX9_scan 49 = .ok (.bipush 38, 2) := by decide +kernel
theorem dX9_scan_51 : decode cX9_scan 51 = .ok (.if_icmp .eq 14, 3) := by decide +kernel
theorem dX9_scan_54 : decode cX9_scan 54 = .ok (.iload 6, 2) := by decide +kernel
theorem dX9_scan_56 : decode cX9_scan 56 = .ok (.bipush 39, 2) := by decide +kernel
theorem dX9_scan_58 : decode cX9_scan 58 = .ok (.if_icmp .eq 7, 3) := by decide +kernel
theorem dX9_scan_61 : decode cX9_scan 61 = .ok (.iconst 1, 1) := by decide +kernel
theorem dX9_scan_62 : decode cX9_scan 62 = .ok (.goto 4, 3) := by decide +kernel
theorem dX9_scan_65 : decode cX9_scan 65 = .ok (.iconst 0, 1) := by decide +kernel
theorem dX9_scan_66 : decode cX9_scan 66 = .ok (.istore_n 3, 1) := by decide +kernel
theorem dX9_scan_67 : decode cX9_scan 67 = .ok (.iinc 4 1, 3) := by decide +kernel
theorem dX9_scan_70 : decode cX9_scan 70 = .ok (.goto (-58), 3) := by decide +kernel
theorem dX9_scan_73 : decode cX9_scan 73 = .ok (.return_, 1) := by decide +kernel
abbrev m_X9_scan : Mt := (cX9_scan, RX9, "scan", 7, .return_, 5)
def f_X9_scan_b66 (N : Nat) (z : Nat → Nat) (k12 : Nat → Option Nat → Int32 → Int32 → Int32 → Hp → Option (Unit × Hp)) (o : Nat) (v1 : Option Nat) (v2 : Int32) (v4 : Int32) (s0 : Int32) (x0 : Hp) : Option (Unit × Hp) :=
  k12 o v1 v2 s0 (v4 + (1 : Int32)) x0
def f_X9_scan_b65 (N : Nat) (z : Nat → Nat) (k12 : Nat → Option Nat → Int32 → Int32 → Int32 → Hp → Option (Unit × Hp)) (o : Nat) (v1 : Option Nat) (v2 : Int32) (v4 : Int32) (x0 : Hp) : Option (Unit × Hp) :=
  f_X9_scan_b66 N z k12 o v1 v2 v4 (0 : Int32) x0
def f_X9_scan_b12 (N : Nat) (z : Nat → Nat) : Nat → Nat → Option Nat → Int32 → Int32 → Int32 → Hp → Option (Unit × Hp)
  | 0, _, _, _, _, _, _ => none
  | n + 1, o, v1, v2, v3, v4, x0 => if v3 = 0 then (some ((), x0)) else (if (400 : Int32) < v4 then (some ((), x0)) else (bnd (f_X9_behindBlanks N z v1 v2 x0) fun i2 x1 =>
  obj (some o) x1 12 fun q5 => bnd (f_X9_scanToken N z q5 v1 i2 x1) fun i4 x3 =>
  obj (some o) x3 12 fun q8 => bnd (f_X9_kindOf N z q8 v4 x3) fun i7 x6 =>
  if i7 = (38 : Int32) then (f_X9_scan_b65 N z (f_X9_scan_b12 N z n) o v1 i4 v4 x6) else (if i7 = (39 : Int32) then (f_X9_scan_b65 N z (f_X9_scan_b12 N z n) o v1 i4 v4 x6) else (f_X9_scan_b66 N z (f_X9_scan_b12 N z n) o v1 i4 v4 (1 : Int32) x6))))
def f_X9_scan (N : Nat) (z : Nat → Nat) (o : Nat) (v1 : Option Nat) (x0 : Hp) : Option (Unit × Hp) :=
  puti (some o) x0 12 224 (0 : Int32) fun x9 =>
  f_X9_scan_b12 N z N o v1 (0 : Int32) (1 : Int32) (0 : Int32) x9
set_option maxRecDepth 100000 in
set_option maxHeartbeats 4000000 in
theorem g_X9_scan_b66 (l : Launch) (N : Nat) (z : Nat → Nat) {k12 : Nat → Option Nat → Int32 → Int32 → Int32 → Hp → Option (Unit × Hp)} (hk12 : ∀ o v1 v2 v3 v4 x, G l z m_X9_scan okT enV 12 [(0, va_rf (some o)), (1, va_rf v1), (2, .int v2), (3, .int v3), (4, .int v4)] [] x (k12 o v1 v2 v3 v4 x)) (o : Nat) (v1 : Option Nat) (v2 : Int32) (v4 : Int32) (s0 : Int32) (x0 : Hp) : G l z m_X9_scan okT enV 66 [(0, va_rf (some o)), (1, va_rf v1), (2, .int v2), (4, .int v4)] [.int s0] x0 (f_X9_scan_b66 N z k12 o v1 v2 v4 s0 x0) := by
  unfold f_X9_scan_b66
  refine G_istore_n (i := 3) (l2 := [(0, va_rf (some o)), (1, va_rf v1), (2, .int v2), (4, .int v4)]) [0, 1, 2, 3] dX9_scan_66 rfl (Nat.le_of_ble_eq_true rfl) rfl (sok_a (by decide) (by decide) (sok_a (by decide) (by decide) (sok_b (by decide) rfl (sok_a (by decide) (by decide) trivial)))) ?_
  refine G_iinc (i := 4) (l2 := [(3, .int s0), (0, va_rf (some o)), (1, va_rf v1), (2, .int v2)]) 4 [0, 1, 2, 3] dX9_scan_67 rfl rfl (Nat.le_of_ble_eq_true rfl) rfl (sok_b (by decide) rfl (sok_a (by decide) (by decide) (sok_a (by decide) (by decide) (sok_a (by decide) (by decide) trivial)))) ?_
  refine G_goto (tgt := 12) dX9_scan_70 (by decide) ?_
  refine G_lv [2, 3, 4, 1, 0] rfl ?_
  exact hk12 o v1 v2 s0 (v4 + (1 : Int32)) x0

set_option maxRecDepth 100000 in
set_option maxHeartbeats 4000000 in
theorem g_X9_scan_b65 (l : Launch) (N : Nat) (z : Nat → Nat) {k12 : Nat → Option Nat → Int32 → Int32 → Int32 → Hp → Option (Unit × Hp)} (hk12 : ∀ o v1 v2 v3 v4 x, G l z m_X9_scan okT enV 12 [(0, va_rf (some o)), (1, va_rf v1), (2, .int v2), (3, .int v3), (4, .int v4)] [] x (k12 o v1 v2 v3 v4 x)) (o : Nat) (v1 : Option Nat) (v2 : Int32) (v4 : Int32) (x0 : Hp) : G l z m_X9_scan okT enV 65 [(0, va_rf (some o)), (1, va_rf v1), (2, .int v2), (4, .int v4)] [] x0 (f_X9_scan_b65 N z k12 o v1 v2 v4 x0) := by
  unfold f_X9_scan_b65
  refine G_iconst (v := (0 : Int32)) dX9_scan_65 rfl ?_
  refine G_lv [0, 1, 2, 3] rfl ?_
  exact g_X9_scan_b66 l N z hk12 o v1 v2 v4 (0 : Int32) x0

set_option maxRecDepth 100000 in
set_option maxHeartbeats 4000000 in
theorem g_X9_scan_b12 (l : Launch) (N : Nat) (z : Nat → Nat) : ∀ (n : Nat) (o : Nat) (v1 : Option Nat) (v2 : Int32) (v3 : Int32) (v4 : Int32) (x0 : Hp), G l z m_X9_scan okT enV 12 [(0, va_rf (some o)), (1, va_rf v1), (2, .int v2), (3, .int v3), (4, .int v4)] [] x0 (f_X9_scan_b12 N z n o v1 v2 v3 v4 x0) := by
  intro n
  induction n with
  | zero => intro o v1 v2 v3 v4 x0; exact G_none
  | succ n ih =>
  intro o v1 v2 v3 v4 x0
  rw [f_X9_scan_b12]
  refine G_iload_n 3 dX9_scan_12 rfl rfl ?_
  refine G_if_eq (tgt := 73) dX9_scan_13 (by decide) (fun _ => ?_) (fun _ => ?_)
  · exact G_ret trivial dX9_scan_73 rfl
  · refine G_iload 4 dX9_scan_16 rfl ?_
    refine G_sipush (v := (400 : Int32)) dX9_scan_18 (by decide) ?_
    refine G_icmp_gt (tgt := 73) dX9_scan_21 (by decide) (fun _ => ?_) (fun _ => ?_)
    · exact G_ret trivial dX9_scan_73 rfl
    · refine G_aload_n 1 dX9_scan_24 rfl rfl ?_
      refine G_iload_n 2 dX9_scan_25 rfl rfl ?_
      refine G_callS (av := [va_rf v1, .int v2]) [] (ct_X9_behindBlanks l N z v1 v2) yn_X9_behindBlanks (Nat.le_of_ble_eq_true rfl) (by decide) gw_1164 gw_1165 gw_49 gw_1166 rfl (by decide) dX9_scan_26 (fun i2 x1 => ?_)
      refine G_istore (i := 5) (l2 := [(0, va_rf (some o)), (1, va_rf v1), (2, .int v2), (3, .int v3), (4, .int v4)]) [0, 1, 2, 3, 4] dX9_scan_29 (Nat.le_of_ble_eq_true rfl) rfl (sok_a (by decide) (by decide) (sok_a (by decide) (by decide) (sok_a (by decide) (by decide) (sok_a (by decide) (by decide) (sok_b (by decide) rfl trivial))))) ?_
      refine G_aload_n 1 dX9_scan_31 rfl rfl ?_
      refine G_aload_n 2 dX9_scan_32 rfl rfl ?_
      refine G_iload 0 dX9_scan_33 rfl ?_
      refine G_callV (av := [va_rf v1, .int i2]) [] (fun q5 => ct_X9_scanToken l N z q5 v1 i2) K_11 rfl yn_X9_scanToken (Nat.le_of_ble_eq_true rfl) (by decide) gw_1171 gw_1173 gw_s13 gw_49 gw_1174 rfl (by decide) dX9_scan_35 (fun i4 x3 => ?_)
      refine G_istore_n (i := 2) (l2 := [(5, .int i2), (0, va_rf (some o)), (1, va_rf v1), (3, .int v3), (4, .int v4)]) [0, 1, 2, 4, 5] dX9_scan_38 rfl (Nat.le_of_ble_eq_true rfl) rfl (sok_a (by decide) (by decide) (sok_a (by decide) (by decide) (sok_b (by decide) (rf_cat _) (sok_a (by decide) (by decide) (sok_a (by decide) (by decide) trivial))))) ?_
      refine G_aload_n 2 dX9_scan_39 rfl rfl ?_
      refine G_iload 5 dX9_scan_40 rfl ?_
      refine G_callV (av := [.int v4]) [] (fun q8 => ct_X9_kindOf l N z q8 v4) K_11 rfl yn_X9_kindOf (Nat.le_of_ble_eq_true rfl) (by decide) gw_1202 gw_1203 gw_1204 gw_49 gw_1205 rfl (by decide) dX9_scan_42 (fun i7 x6 => ?_)
      refine G_istore (i := 6) (l2 := [(2, .int i4), (5, .int i2), (0, va_rf (some o)), (1, va_rf v1), (3, .int v3), (4, .int v4)]) [0, 1, 2, 3, 4, 5] dX9_scan_45 (Nat.le_of_ble_eq_true rfl) rfl (sok_a (by decide) (by decide) (sok_b (by decide) rfl (sok_a (by decide) (by decide) (sok_a (by decide) (by decide) (sok_a (by decide) (by decide) (sok_a (by decide) (by decide) trivial)))))) ?_
      refine G_iload 0 dX9_scan_47 rfl ?_
      refine G_bipush (v := (38 : Int32)) dX9_scan_49 (by decide) ?_
      refine G_icmp_eq (tgt := 65) dX9_scan_51 (by decide) (fun _ => ?_) (fun _ => ?_)
      · refine G_lv [3, 4, 1, 6] rfl ?_
        exact g_X9_scan_b65 l N z ih o v1 i4 v4 x6
      · refine G_iload 0 dX9_scan_54 rfl ?_
        refine G_bipush (v := (39 : Int32)) dX9_scan_56 (by decide) ?_
        refine G_icmp_eq (tgt := 65) dX9_scan_58 (by decide) (fun _ => ?_) (fun _ => ?_)
        · refine G_lv [3, 4, 1, 6] rfl ?_
          exact g_X9_scan_b65 l N z ih o v1 i4 v4 x6
        · refine G_iconst (v := (1 : Int32)) dX9_scan_61 rfl ?_
          refine G_goto (tgt := 66) dX9_scan_62 (by decide) ?_
          refine G_lv [3, 4, 1, 6] rfl ?_
          exact g_X9_scan_b66 l N z ih o v1 i4 v4 (1 : Int32) x6

set_option maxRecDepth 100000 in
set_option maxHeartbeats 4000000 in
theorem g_X9_scan (l : Launch) (N : Nat) (z : Nat → Nat) (o : Nat) (v1 : Option Nat) (x0 : Hp) : G l z m_X9_scan okT enV 0 [(0, va_rf (some o)), (1, va_rf v1)] [] x0 (f_X9_scan N z o v1 x0) := by
  unfold f_X9_scan
  refine G_aload_n 0 dX9_scan_0 rfl rfl ?_
  refine G_iconst (v := (0 : Int32)) dX9_scan_1 rfl ?_
  refine G_puti (k := 4) K_11 (by decide) rfl rfl rfl gw_413 rfl (Or.inl rfl) nar_int.1 nar_int.2 dX9_scan_2 (fun x9 => ?_)
  refine G_iconst (v := (0 : Int32)) dX9_scan_5 rfl ?_
  refine G_istore_n (i := 2) (l2 := [(0, va_rf (some o)), (1, va_rf v1)]) [0, 1] dX9_scan_6 rfl (Nat.le_of_ble_eq_true rfl) rfl (sok_a (by decide) (by decide) (sok_b (by decide) (rf_cat _) trivial)) ?_
  refine G_iconst (v := (1 : Int32)) dX9_scan_7 rfl ?_
  refine G_istore_n (i := 3) (l2 := [(2, .int (0 : Int32)), (0, va_rf (some o)), (1, va_rf v1)]) [0, 1, 2] dX9_scan_8 rfl (Nat.le_of_ble_eq_true rfl) rfl (sok_b (by decide) rfl (sok_a (by decide) (by decide) (sok_a (by decide) (by decide) trivial))) ?_
  refine G_iconst (v := (0 : Int32)) dX9_scan_9 rfl ?_
  refine G_istore (i := 4) (l2 := [(3, .int (1 : Int32)), (2, .int (0 : Int32)), (0, va_rf (some o)), (1, va_rf v1)]) [0, 1, 2, 3] dX9_scan_10 (Nat.le_of_ble_eq_true rfl) rfl (sok_b (by decide) rfl (sok_a (by decide) (by decide) (sok_a (by decide) (by decide) (sok_a (by decide) (by decide) trivial)))) ?_
  refine G_lv [3, 4, 2, 1, 0] rfl ?_
  exact g_X9_scan_b12 l N z N o v1 (0 : Int32) (1 : Int32) (0 : Int32) x9

theorem yn_X9_scan : Yn yX9_scan 1 := ⟨by decide +kernel, by decide +kernel, by decide +kernel⟩
theorem ct_X9_scan (l : Launch) (N : Nat) (z : Nat → Nat) (o : Nat) (v1 : Option Nat) : Ct l z yX9_scan cX9_scan 7 none 5 enV [.ref o, va_rf v1] (f_X9_scan N z o v1) :=
  Ct_v (fun x => G_lv0 (by simp only [lva_n, lva_i, lva_o, lva_r, lva_j]) (g_X9_scan l N z o v1 x)) (by decide +kernel) (by simp only [lgl_n, lgl_i, lgl_o, lgl_r, lgl_j]; decide)
