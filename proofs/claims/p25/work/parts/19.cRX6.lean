theorem dX6_init_0 : decode cX6_init 0 = .ok (.aload_n 0, 1) := by decide +kernel
theorem dX6_init_1 : decode cX6_init 1 = .ok (.invokespecial 3, 3) := by decide +kernel
theorem dX6_init_4 : decode cX6_init 4 = .ok (.aload_n 0, 1) := by decide +kernel
theorem dX6_init_5 : decode cX6_init 5 = .ok (.bipush 6, 2) := by decide +kernel
theorem dX6_init_7 : decode cX6_init 7 = .ok (.anewarray 9, 3) := by decide +kernel
theorem dX6_init_10 : decode cX6_init 10 = .ok (.putfield 11, 3) := by decide +kernel
theorem dX6_init_13 : decode cX6_init 13 = .ok (.aload_n 0, 1) := by decide +kernel
theorem dX6_init_14 : decode cX6_init 14 = .ok (.bipush 8, 2) := by decide +kernel
theorem dX6_init_16 : decode cX6_init 16 = .ok (.anewarray 17, 3) := by decide +kernel
theorem dX6_init_19 : decode cX6_init 19 = .ok (.putfield 19, 3) := by decide +kernel
theorem dX6_init_22 : decode cX6_init 22 = .ok (.aload_n 0, 1) := by decide +kernel
theorem dX6_init_23 : decode cX6_init 23 = .ok (.new 23, 3) := by decide +kernel
theorem dX6_init_26 : decode cX6_init 26 = .ok (.dup, 1) := by decide +kernel
theorem dX6_init_27 : decode cX6_init 27 = .ok (.invokespecial 25, 3) := by decide +kernel
theorem dX6_init_30 : decode cX6_init 30 = .ok (.putfield 26, 3) := by decide +kernel
theorem dX6_init_33 : decode cX6_init 33 = .ok (.aload_n 0, 1) := by decide +kernel
theorem dX6_init_34 : decode cX6_init 34 = .ok (.aload_n 1, 1) := by decide +kernel
theorem dX6_init_35 : decode cX6_init 35 = .ok (.putfield 30, 3) := by decide +kernel
theorem dX6_init_38 : decode cX6_init 38 = .ok (.aload_n 0, 1) := by decide +kernel
theorem dX6_init_39 : decode cX6_init 39 = .ok (.bipush 20, 2) := by decide +kernel
theorem dX6_init_41 : decode cX6_init 41 = .ok (.putfield 34, 3) := by decide +kernel
theorem dX6_init_44 : decode cX6_init 44 = .ok (.iconst 0, 1) := by decide +kernel
theorem dX6_init_45 : decode cX6_init 45 = .ok (.istore_n 2, 1) := by decide +kernel
theorem dX6_init_46 : decode cX6_init 46 = .ok (.iload_n 2, 1) := by decide +kernel
theorem dX6_init_47 : decode cX6_init 47 = .ok (.aload_n 0, 1) := by decide +kernel
theorem dX6_init_48 : decode cX6_init 48 = .ok (.getfield 11, 3) := by decide +kernel
theorem dX6_init_51 : decode cX6_init 51 = .ok (.arraylength, 1) := by decide +kernel
theorem dX6_init_52 : decode cX6_init 52 = .ok (.if_icmp .ge 23, 3) := by decide +kernel
theorem dX6_init_55 : decode cX6_init 55 = .ok (.aload_n 0, 1) := by decide +kernel
theorem dX6_init_56 : decode cX6_init 56 = .ok (.getfield 11, 3) := by decide +kernel
theorem dX6_init_59 : decode cX6_init 59 = .ok (.iload_n 2, 1) := by decide +kernel
theorem dX6_init_60 : decode cX6_init 60 = .ok (.new 9, 3) := by decide +kernel
theorem dX6_init_63 : decode cX6_init 63 = .ok (.dup, 1) := by decide +kernel
theorem dX6_init_64 : decode cX6_init 64 = .ok (.iload_n 2, 1) := by decide +kernel
theorem dX6_init_65 : decode cX6_init 65 = .ok (.invokespecial 38, 3) := by decide +kernel
theorem dX6_init_68 : decode cX6_init 68 = .ok (.aastore, 1) := by decide +kernel
theorem dX6_init_69 : decode cX6_init 69 = .ok (.iinc 2 1, 3) := by decide +kernel
theorem dX6_init_72 : decode cX6_init 72 = .ok (.goto (-26), 3) := by decide +kernel
theorem dX6_init_75 : decode cX6_init 75 = .ok (.iconst 0, 1) := by decide +kernel
theorem dX6_init_76 : decode cX6_init 76 = .ok (.istore_n 2, 1) := by decide +kernel
theorem dX6_init_77 : decode cX6_init 77 = .ok (.iload_n 2, 1) := by decide +kernel
theorem dX6_init_78 : decode cX6_init 78 = .ok (.aload_n 0, 1) := by decide +kernel
theorem dX6_init_79 : decode cX6_init 79 = .ok (.getfield 19, 3) := by decide +kernel
theorem dX6_init_82 : decode cX6_init 82 = .ok (.arraylength, 1) := by decide +kernel
theorem dX6_init_83 : decode cX6_init 83 = .ok (.if_icmp .ge 22, 3) := by decide +kernel
theorem dX6_init_86 : decode cX6_init 86 = .ok (.aload_n 0, 1) := by decide +kernel
theorem dX6_init_87 : decode cX6_init 87 = .ok (.getfield 19, 3) := by decide +kernel
theorem dX6_init_90 : decode cX6_init 90 = .ok (.iload_n 2, 1) := by decide +kernel
theorem dX6_init_91 : decode cX6_init 91 = .ok (.new 17, 3) := by decide +kernel
theorem dX6_init_94 : decode cX6_init 94 = .ok (.dup, 1) := by decide +kernel
theorem dX6_init_95 : decode cX6_init 95 = .ok (.invokespecial 41, 3) := by decide +kernel
theorem dX6_init_98 : decode cX6_init 98 = .ok (.aastore, 1) := by decide +kernel
theorem dX6_init_99 : decode cX6_init 99 = .ok (.iinc 2 1, 3) := by decide +kernel
theorem dX6_init_102 : decode cX6_init 102 = .ok (.goto (-25), 3) := by decide +kernel
theorem dX6_init_105 : decode cX6_init 105 = .ok (.return_, 1) := by decide +kernel
abbrev m_X6_init : Mt := (cX6_init, RX6, "<init>", 3, .return_, 4)
def f_X6_init_b77 (N : Nat) (z : Nat → Nat) : Nat → Nat → Int32 → Hp → Option (Unit × Hp)
  | 0, _, _, _ => none
  | n + 1, o, v2, x0 => getr (some o) x0 9 166 fun r1 =>
  alen r1 x0 103 fun i2 =>
  if i2 ≤ v2 then (some ((), x0)) else (getr (some o) x0 9 166 fun r3 =>
  newo x0 4 5 fun r4 x5 =>
  obj r4 x5 4 fun q7 => bnd (f_X1_init N z q7 x5) fun _ x6 =>
  astr r3 x6 103 4 v2 r4 fun x8 =>
  f_X6_init_b77 N z n o (v2 + (1 : Int32)) x8)
def f_X6_init_b46 (N : Nat) (z : Nat → Nat) : Nat → Nat → Int32 → Hp → Option (Unit × Hp)
  | 0, _, _, _ => none
  | n + 1, o, v2, x0 => getr (some o) x0 9 165 fun r9 =>
  alen r9 x0 104 fun i10 =>
  if i10 ≤ v2 then (f_X6_init_b77 N z N o (0 : Int32) x0) else (getr (some o) x0 9 165 fun r11 =>
  newo x0 5 18 fun r12 x13 =>
  obj r12 x13 5 fun q15 => bnd (f_X2_init N z q15 v2 x13) fun _ x14 =>
  astr r11 x14 104 5 v2 r12 fun x16 =>
  f_X6_init_b46 N z n o (v2 + (1 : Int32)) x16)
def f_X6_init (N : Nat) (z : Nat → Nat) (o : Nat) (v1 : Option Nat) (x0 : Hp) : Option (Unit × Hp) :=
  nn (some o) fun _ =>
  newa x0 104 (6 : Int32) fun r18 x19 =>
  putr (some o) x19 9 165 r18 fun x20 =>
  newa x20 103 (8 : Int32) fun r21 x22 =>
  putr (some o) x22 9 166 r21 fun x23 =>
  newo x23 10 2 fun r24 x25 =>
  obj r24 x25 10 fun q27 => bnd (f_X7_init N z q27 x25) fun _ x26 =>
  putr (some o) x26 9 167 r24 fun x28 =>
  putr (some o) x28 9 160 v1 fun x29 =>
  puti (some o) x29 9 162 (20 : Int32) fun x30 =>
  f_X6_init_b46 N z N o (0 : Int32) x30
set_option maxRecDepth 100000 in
set_option maxHeartbeats 4000000 in
theorem g_X6_init_b77 (l : Launch) (N : Nat) (z : Nat → Nat) : ∀ (n : Nat) (o : Nat) (v2 : Int32) (x0 : Hp), G l z m_X6_init okT enV 77 [(0, va_rf (some o)), (2, .int v2)] [] x0 (f_X6_init_b77 N z n o v2 x0) := by
  intro n
  induction n with
  | zero => intro o v2 x0; exact G_none
  | succ n ih =>
  intro o v2 x0
  rw [f_X6_init_b77]
  refine G_iload_n 1 dX6_init_77 rfl rfl ?_
  refine G_aload_n 0 dX6_init_78 rfl rfl ?_
  refine G_getr (k := 6) K_8 (by decide) rfl rfl rfl gw_319 rfl dX6_init_79 (fun r1 => ?_)
  refine G_alen (t := 3) rfl (by decide) dX6_init_82 (fun i2 => ?_)
  refine G_icmp_ge (tgt := 105) dX6_init_83 (by decide) (fun _ => ?_) (fun _ => ?_)
  · exact G_ret trivial dX6_init_105 rfl
  · refine G_aload_n 0 dX6_init_86 rfl rfl ?_
    refine G_getr (k := 6) K_8 (by decide) rfl rfl rfl gw_319 rfl dX6_init_87 (fun r3 => ?_)
    refine G_iload_n 1 dX6_init_90 rfl rfl ?_
    refine G_new K_3 rfl gw_168 gw_281 gw_48 dX6_init_91 (fun r4 x5 => ?_)
    refine G_dup dX6_init_94 (rf_cat _) ?_
    refine G_callN (av := []) [va_rf r4, .int v2, va_rf r3] (fun q7 => ct_X1_init l N z q7) rfl yn_X1_init (Nat.le_of_ble_eq_true rfl) (by decide) gn_282 gw_283 gw_48 gw_284 rfl (by simp only [hw_n, hw_i, hw_r, hw_j, hw_d]; decide) dX6_init_95 (fun x6 => ?_)
    refine G_aast (t := 3) K_3 rfl rfl (by decide) (by decide) (fun _ => rfl) dX6_init_98 (fun x8 => ?_)
    refine G_iinc (i := 2) (l2 := [(0, va_rf (some o))]) 1 [0] dX6_init_99 rfl rfl (Nat.le_of_ble_eq_true rfl) rfl (sok_a (by decide) (by decide) trivial) ?_
    refine G_goto (tgt := 77) dX6_init_102 (by decide) ?_
    refine G_lv [1, 0] rfl ?_
    exact ih o (v2 + (1 : Int32)) x8

set_option maxRecDepth 100000 in
set_option maxHeartbeats 4000000 in
theorem g_X6_init_b46 (l : Launch) (N : Nat) (z : Nat → Nat) : ∀ (n : Nat) (o : Nat) (v2 : Int32) (x0 : Hp), G l z m_X6_init okT enV 46 [(0, va_rf (some o)), (2, .int v2)] [] x0 (f_X6_init_b46 N z n o v2 x0) := by
  intro n
  induction n with
  | zero => intro o v2 x0; exact G_none
  | succ n ih =>
  intro o v2 x0
  rw [f_X6_init_b46]
  refine G_iload_n 1 dX6_init_46 rfl rfl ?_
  refine G_aload_n 0 dX6_init_47 rfl rfl ?_
  refine G_getr (k := 5) K_8 (by decide) rfl rfl rfl gw_318 rfl dX6_init_48 (fun r9 => ?_)
  refine G_alen (t := 4) rfl (by decide) dX6_init_51 (fun i10 => ?_)
  refine G_icmp_ge (tgt := 75) dX6_init_52 (by decide) (fun _ => ?_) (fun _ => ?_)
  · refine G_iconst (v := (0 : Int32)) dX6_init_75 rfl ?_
    refine G_istore_n (i := 2) (l2 := [(0, va_rf (some o))]) [0] dX6_init_76 rfl (Nat.le_of_ble_eq_true rfl) rfl (sok_a (by decide) (by decide) trivial) ?_
    refine G_lv [1, 0] rfl ?_
    exact g_X6_init_b77 l N z N o (0 : Int32) x0
  · refine G_aload_n 0 dX6_init_55 rfl rfl ?_
    refine G_getr (k := 5) K_8 (by decide) rfl rfl rfl gw_318 rfl dX6_init_56 (fun r11 => ?_)
    refine G_iload_n 1 dX6_init_59 rfl rfl ?_
    refine G_new K_4 rfl gw_166 gw_183 gw_46 dX6_init_60 (fun r12 x13 => ?_)
    refine G_dup dX6_init_63 (rf_cat _) ?_
    refine G_iload_n 1 dX6_init_64 rfl rfl ?_
    refine G_callI (av := [.int v2]) [va_rf r12, .int v2, va_rf r11] (fun q15 => ct_X2_init l N z q15 v2) rfl yn_X2_init (Nat.le_of_ble_eq_true rfl) (by decide) gw_184 gw_185 gw_46 gw_186 rfl (by simp only [hw_n, hw_i, hw_r, hw_j, hw_d]; decide) dX6_init_65 (fun x14 => ?_)
    refine G_aast (t := 4) K_4 rfl rfl (by decide) (by decide) (fun _ => rfl) dX6_init_68 (fun x16 => ?_)
    refine G_iinc (i := 2) (l2 := [(0, va_rf (some o))]) 1 [0] dX6_init_69 rfl rfl (Nat.le_of_ble_eq_true rfl) rfl (sok_a (by decide) (by decide) trivial) ?_
    refine G_goto (tgt := 46) dX6_init_72 (by decide) ?_
    refine G_lv [1, 0] rfl ?_
    exact ih o (v2 + (1 : Int32)) x16

set_option maxRecDepth 100000 in
set_option maxHeartbeats 4000000 in
theorem g_X6_init (l : Launch) (N : Nat) (z : Nat → Nat) (o : Nat) (v1 : Option Nat) (x0 : Hp) : G l z m_X6_init okT enV 0 [(0, va_rf (some o)), (1, va_rf v1)] [] x0 (f_X6_init N z o v1 x0) := by
  unfold f_X6_init
  refine G_aload_n 0 dX6_init_0 rfl rfl ?_
  refine G_objInit (st := []) gw_165 gw_75 gw_76 (by decide) (by decide) dX6_init_1 (fun _ => ?_)
  refine G_aload_n 0 dX6_init_4 rfl rfl ?_
  refine G_bipush (v := (6 : Int32)) dX6_init_5 (by decide) ?_
  refine G_anew (t := 4) rfl (by decide) (by decide) (fun _ => rfl) gw_166 (by decide) dX6_init_7 (fun r18 x19 => ?_)
  refine G_putr (k := 5) K_8 (by decide) rfl rfl rfl gw_318 rfl (Or.inr ⟨rfl, rfl, rfl⟩) nar_arr.1 nar_arr.2 dX6_init_10 (fun x20 => ?_)
  refine G_aload_n 0 dX6_init_13 rfl rfl ?_
  refine G_bipush (v := (8 : Int32)) dX6_init_14 (by decide) ?_
  refine G_anew (t := 3) rfl (by decide) (by decide) (fun _ => rfl) gw_168 (by decide) dX6_init_16 (fun r21 x22 => ?_)
  refine G_putr (k := 6) K_8 (by decide) rfl rfl rfl gw_319 rfl (Or.inr ⟨rfl, rfl, rfl⟩) nar_arr.1 nar_arr.2 dX6_init_19 (fun x23 => ?_)
  refine G_aload_n 0 dX6_init_22 rfl rfl ?_
  refine G_new K_9 rfl gw_170 gw_171 gw_45 dX6_init_23 (fun r24 x25 => ?_)
  refine G_dup dX6_init_26 (rf_cat _) ?_
  refine G_callN (av := []) [va_rf r24, va_rf (some o)] (fun q27 => ct_X7_init l N z q27) rfl yn_X7_init (Nat.le_of_ble_eq_true rfl) (by decide) gn_172 gw_173 gw_45 gw_174 rfl (by simp only [hw_n, hw_i, hw_r, hw_j, hw_d]; decide) dX6_init_27 (fun x26 => ?_)
  refine G_putr (k := 7) K_8 (by decide) rfl rfl rfl gw_320 rfl (Or.inr ⟨rfl, rfl, rfl⟩) nar_obj.1 nar_obj.2 dX6_init_30 (fun x28 => ?_)
  refine G_aload_n 0 dX6_init_33 rfl rfl ?_
  refine G_aload_n 1 dX6_init_34 rfl rfl ?_
  refine G_putr (k := 0) K_8 (by decide) rfl rfl rfl gw_305 rfl (Or.inr ⟨rfl, rfl, rfl⟩) nar_obj.1 nar_obj.2 dX6_init_35 (fun x29 => ?_)
  refine G_aload_n 0 dX6_init_38 rfl rfl ?_
  refine G_bipush (v := (20 : Int32)) dX6_init_39 (by decide) ?_
  refine G_puti (k := 2) K_8 (by decide) rfl rfl rfl gw_310 rfl (Or.inl rfl) nar_int.1 nar_int.2 dX6_init_41 (fun x30 => ?_)
  refine G_iconst (v := (0 : Int32)) dX6_init_44 rfl ?_
  refine G_istore_n (i := 2) (l2 := [(0, va_rf (some o)), (1, va_rf v1)]) [0, 1] dX6_init_45 rfl (Nat.le_of_ble_eq_true rfl) rfl (sok_a (by decide) (by decide) (sok_b (by decide) (rf_cat _) trivial)) ?_
  refine G_lv [1, 0] rfl ?_
  exact g_X6_init_b46 l N z N o (0 : Int32) x30

theorem yn_X6_init : Yn yX6_init 1 := ⟨by decide +kernel, by decide +kernel, by decide +kernel⟩
theorem ct_X6_init (l : Launch) (N : Nat) (z : Nat → Nat) (o : Nat) (v1 : Option Nat) : Ct l z yX6_init cX6_init 3 none 4 enV [.ref o, va_rf v1] (f_X6_init N z o v1) :=
  Ct_v (fun x => G_lv0 (by simp only [lva_n, lva_i, lva_o, lva_r, lva_j]) (g_X6_init l N z o v1 x)) (by decide +kernel) (by simp only [lgl_n, lgl_i, lgl_o, lgl_r, lgl_j]; decide)

theorem dX6_begin_0 : decode cX6_begin 0 = .ok (.aload_n 0, 1) := by decide +kernel
theorem dX6_begin_1 : decode cX6_begin 1 = .ok (.iload_n 1, 1) := by decide +kernel
theorem dX6_begin_2 : decode cX6_begin 2 = .ok (.putfield 42, 3) := by decide +kernel
theorem dX6_begin_5 : decode cX6_begin 5 = .ok (.aload_n 0, 1) := by decide +kernel
theorem dX6_begin_6 : decode cX6_begin 6 = .ok (.bipush 20, 2) := by decide +kernel
theorem dX6_begin_8 : decode cX6_begin 8 = .ok (.putfield 34, 3) := by decide +kernel
theorem dX6_begin_11 : decode cX6_begin 11 = .ok (.aload_n 0, 1) := by decide +kernel
theorem dX6_begin_12 : decode cX6_begin 12 = .ok (.iconst 0, 1) := by decide +kernel
theorem dX6_begin_13 : decode cX6_begin 13 = .ok (.putfield 45, 3) := by decide +kernel
theorem dX6_begin_16 : decode cX6_begin 16 = .ok (.aload_n 0, 1) := by decide +kernel
theorem dX6_begin_17 : decode cX6_begin 17 = .ok (.iconst 0, 1) := by decide +kernel
theorem dX6_begin_18 : decode cX6_begin 18 = .ok (.putfield 48, 3) := by decide +kernel
theorem dX6_begin_21 : decode cX6_begin 21 = .ok (.aload_n 0, 1) := by decide +kernel
theorem dX6_begin_22 : decode cX6_begin 22 = .ok (.iconst 0, 1) := by decide +kernel
theorem dX6_begin_23 : decode cX6_begin 23 = .ok (.putfield 51, 3) := by decide +kernel
theorem dX6_begin_26 : decode cX6_begin 26 = .ok (.aload_n 0, 1) := by decide +kernel
theorem dX6_begin_27 : decode cX6_begin 27 = .ok (.iconst 0, 1) := by decide +kernel
theorem dX6_begin_28 : decode cX6_begin 28 = .ok (.putfield 54, 3) := by decide +kernel
theorem dX6_begin_31 : decode cX6_begin 31 = .ok (.aload_n 0, 1) := by decide +kernel
theorem dX6_begin_32 : decode cX6_begin 32 = .ok (.iconst 0, 1) := by decide +kernel
theorem dX6_begin_33 : decode cX6_begin 33 = .ok (.putfield 57, 3) := by decide +kernel
theorem dX6_begin_36 : decode cX6_begin 36 = .ok (.return_, 1) := by decide +kernel
abbrev m_X6_begin : Mt := (cX6_begin, RX6, "begin", 2, .return_, 1)
def f_X6_begin (N : Nat) (z : Nat → Nat) (o : Nat) (v1 : Int32) (x0 : Hp) : Option (Unit × Hp) :=
  puti (some o) x0 9 161 v1 fun x1 =>
  puti (some o) x1 9 162 (20 : Int32) fun x2 =>
  puti (some o) x2 9 163 (0 : Int32) fun x3 =>
  puti (some o) x3 9 164 (0 : Int32) fun x4 =>
  puti (some o) x4 9 168 (0 : Int32) fun x5 =>
  puti (some o) x5 9 169 (0 : Int32) fun x6 =>
  puti (some o) x6 9 170 (0 : Int32) fun x7 =>
  some ((), x7)
set_option maxRecDepth 100000 in
set_option maxHeartbeats 4000000 in
theorem g_X6_begin (l : Launch) (N : Nat) (z : Nat → Nat) (o : Nat) (v1 : Int32) (x0 : Hp) : G l z m_X6_begin okT enV 0 [(0, va_rf (some o)), (1, .int v1)] [] x0 (f_X6_begin N z o v1 x0) := by
  unfold f_X6_begin
  refine G_aload_n 0 dX6_begin_0 rfl rfl ?_
  refine G_iload_n 1 dX6_begin_1 rfl rfl ?_
  refine G_puti (k := 1) K_8 (by decide) rfl rfl rfl gw_308 rfl (Or.inl rfl) nar_int.1 nar_int.2 dX6_begin_2 (fun x1 => ?_)
  refine G_aload_n 0 dX6_begin_5 rfl rfl ?_
  refine G_bipush (v := (20 : Int32)) dX6_begin_6 (by decide) ?_
  refine G_puti (k := 2) K_8 (by decide) rfl rfl rfl gw_310 rfl (Or.inl rfl) nar_int.1 nar_int.2 dX6_begin_8 (fun x2 => ?_)
  refine G_aload_n 0 dX6_begin_11 rfl rfl ?_
  refine G_iconst (v := (0 : Int32)) dX6_begin_12 rfl ?_
  refine G_puti (k := 3) K_8 (by decide) rfl rfl rfl gw_313 rfl (Or.inl rfl) nar_int.1 nar_int.2 dX6_begin_13 (fun x3 => ?_)
  refine G_aload_n 0 dX6_begin_16 rfl rfl ?_
  refine G_iconst (v := (0 : Int32)) dX6_begin_17 rfl ?_
  refine G_puti (k := 4) K_8 (by decide) rfl rfl rfl gw_316 rfl (Or.inl rfl) nar_int.1 nar_int.2 dX6_begin_18 (fun x4 => ?_)
  refine G_aload_n 0 dX6_begin_21 rfl rfl ?_
  refine G_iconst (v := (0 : Int32)) dX6_begin_22 rfl ?_
  refine G_puti (k := 8) K_8 (by decide) rfl rfl rfl gw_321 rfl (Or.inl rfl) nar_int.1 nar_int.2 dX6_begin_23 (fun x5 => ?_)
  refine G_aload_n 0 dX6_begin_26 rfl rfl ?_
  refine G_iconst (v := (0 : Int32)) dX6_begin_27 rfl ?_
  refine G_puti (k := 9) K_8 (by decide) rfl rfl rfl gw_322 rfl (Or.inl rfl) nar_int.1 nar_int.2 dX6_begin_28 (fun x6 => ?_)
  refine G_aload_n 0 dX6_begin_31 rfl rfl ?_
  refine G_iconst (v := (0 : Int32)) dX6_begin_32 rfl ?_
  refine G_puti (k := 10) K_8 (by decide) rfl rfl rfl gw_323 rfl (Or.inl rfl) nar_int.1 nar_int.2 dX6_begin_33 (fun x7 => ?_)
  exact G_ret trivial dX6_begin_36 rfl

theorem yn_X6_begin : Yn yX6_begin 1 := ⟨by decide +kernel, by decide +kernel, by decide +kernel⟩
theorem ct_X6_begin (l : Launch) (N : Nat) (z : Nat → Nat) (o : Nat) (v1 : Int32) : Ct l z yX6_begin cX6_begin 2 none 1 enV [.ref o, .int v1] (f_X6_begin N z o v1) :=
  Ct_v (fun x => G_lv0 (by simp only [lva_n, lva_i, lva_o, lva_r, lva_j]) (g_X6_begin l N z o v1 x)) (by decide +kernel) (by simp only [lgl_n, lgl_i, lgl_o, lgl_r, lgl_j]; decide)

theorem dX6_laneAt_0 : decode cX6_laneAt 0 = .ok (.iload_n 1, 1) := by decide +kernel
theorem dX6_laneAt_1 : decode cX6_laneAt 1 = .ok (.ifCond .lt 29, 3) := by decide +kernel
theorem dX6_laneAt_4 : decode cX6_laneAt 4 = .ok (.iload_n 1, 1) := by decide +kernel
theorem dX6_laneAt_5 : decode cX6_laneAt 5 = .ok (.aload_n 0, 1) := by decide +kernel
theorem dX6_laneAt_6 : decode cX6_laneAt 6 = .ok (.getfield 45, 3) := by decide +kernel
theorem dX6_laneAt_9 : decode cX6_laneAt 9 = .ok (.if_icmp .ge 21, 3) := by decide +kernel
theorem dX6_laneAt_12 : decode cX6_laneAt 12 = .ok (.iload_n 1, 1) := by decide +kernel
theorem dX6_laneAt_13 : decode cX6_laneAt 13 = .ok (.aload_n 0, 1) := by decide +kernel
theorem dX6_laneAt_14 : decode cX6_laneAt 14 = .ok (.getfield 11, 3) := by decide +kernel
theorem dX6_laneAt_17 : decode cX6_laneAt 17 = .ok (.arraylength, 1) := by decide +kernel
theorem dX6_laneAt_18 : decode cX6_laneAt 18 = .ok (.if_icmp .ge 12, 3) := by decide +kernel
theorem dX6_laneAt_21 : decode cX6_laneAt 21 = .ok (.aload_n 0, 1) := by decide +kernel
theorem dX6_laneAt_22 : decode cX6_laneAt 22 = .ok (.getfield 11, 3) := by decide +kernel
theorem dX6_laneAt_25 : decode cX6_laneAt 25 = .ok (.iload_n 1, 1) := by decide +kernel
theorem dX6_laneAt_26 : decode cX6_laneAt 26 = .ok (.aaload, 1) := by decide +kernel
theorem dX6_laneAt_27 : decode cX6_laneAt 27 = .ok (.goto 4, 3) := by decide +kernel
theorem dX6_laneAt_30 : decode cX6_laneAt 30 = .ok (.aconst_null, 1) := by decide +kernel
theorem dX6_laneAt_31 : decode cX6_laneAt 31 = .ok (.areturn, 1) := by decide +kernel
abbrev m_X6_laneAt : Mt := (cX6_laneAt, RX6, "laneAt", 2, .areturn, 1)
def f_X6_laneAt (N : Nat) (z : Nat → Nat) (o : Nat) (v1 : Int32) (x0 : Hp) : Option (Option Nat × Hp) :=
  if v1 < 0 then (some (none, x0)) else (geti (some o) x0 9 163 fun i1 =>
  if i1 ≤ v1 then (some (none, x0)) else (getr (some o) x0 9 165 fun r2 =>
  alen r2 x0 104 fun i3 =>
  if i3 ≤ v1 then (some (none, x0)) else (getr (some o) x0 9 165 fun r4 =>
  aldr r4 x0 104 v1 fun r5 =>
  some (r5, x0))))
set_option maxRecDepth 100000 in
set_option maxHeartbeats 4000000 in
theorem g_X6_laneAt (l : Launch) (N : Nat) (z : Nat → Nat) (o : Nat) (v1 : Int32) (x0 : Hp) : G l z m_X6_laneAt okT enR 0 [(0, va_rf (some o)), (1, .int v1)] [] x0 (f_X6_laneAt N z o v1 x0) := by
  unfold f_X6_laneAt
  refine G_iload_n 1 dX6_laneAt_0 rfl rfl ?_
  refine G_if_lt (tgt := 30) dX6_laneAt_1 (by decide) (fun _ => ?_) (fun _ => ?_)
  · refine G_null dX6_laneAt_30 ?_
    exact G_ret trivial dX6_laneAt_31 rfl
  · refine G_iload_n 1 dX6_laneAt_4 rfl rfl ?_
    refine G_aload_n 0 dX6_laneAt_5 rfl rfl ?_
    refine G_geti (k := 3) K_8 (by decide) rfl rfl rfl gw_313 rfl dX6_laneAt_6 (fun i1 => ?_)
    refine G_icmp_ge (tgt := 30) dX6_laneAt_9 (by decide) (fun _ => ?_) (fun _ => ?_)
    · refine G_null dX6_laneAt_30 ?_
      exact G_ret trivial dX6_laneAt_31 rfl
    · refine G_iload_n 1 dX6_laneAt_12 rfl rfl ?_
      refine G_aload_n 0 dX6_laneAt_13 rfl rfl ?_
      refine G_getr (k := 5) K_8 (by decide) rfl rfl rfl gw_318 rfl dX6_laneAt_14 (fun r2 => ?_)
      refine G_alen (t := 4) rfl (by decide) dX6_laneAt_17 (fun i3 => ?_)
      refine G_icmp_ge (tgt := 30) dX6_laneAt_18 (by decide) (fun _ => ?_) (fun _ => ?_)
      · refine G_null dX6_laneAt_30 ?_
        exact G_ret trivial dX6_laneAt_31 rfl
      · refine G_aload_n 0 dX6_laneAt_21 rfl rfl ?_
        refine G_getr (k := 5) K_8 (by decide) rfl rfl rfl gw_318 rfl dX6_laneAt_22 (fun r4 => ?_)
        refine G_iload_n 1 dX6_laneAt_25 rfl rfl ?_
        refine G_aald (t := 4) rfl (by decide) (by decide) dX6_laneAt_26 (fun r5 => ?_)
        refine G_goto (tgt := 31) dX6_laneAt_27 (by decide) ?_
        exact G_ret trivial dX6_laneAt_31 rfl

theorem yn_X6_laneAt : Yn yX6_laneAt 1 := ⟨by decide +kernel, by decide +kernel, by decide +kernel⟩
theorem ct_X6_laneAt (l : Launch) (N : Nat) (z : Nat → Nat) (o : Nat) (v1 : Int32) : Ct l z yX6_laneAt cX6_laneAt 2 (some (.object "BucketBrigade$Lane")) 1 enR [.ref o, .int v1] (f_X6_laneAt N z o v1) :=
  Ct_r (fun x => G_lv0 (by simp only [lva_n, lva_i, lva_o, lva_r, lva_j]) (g_X6_laneAt l N z o v1 x)) (by decide +kernel) (by simp only [lgl_n, lgl_i, lgl_o, lgl_r, lgl_j]; decide)

theorem dX6_addLane_0 : decode cX6_addLane 0 = .ok (.aload_n 0, 1) := by decide +kernel
theorem dX6_addLane_1 : decode cX6_addLane 1 = .ok (.getfield 45, 3) := by decide +kernel
theorem dX6_addLane_4 : decode cX6_addLane 4 = .ok (.aload_n 0, 1) := by decide +kernel
theorem dX6_addLane_5 : decode cX6_addLane 5 = .ok (.getfield 11, 3) := by decide +kernel
theorem dX6_addLane_8 : decode cX6_addLane 8 = .ok (.arraylength, 1) := by decide +kernel
theorem dX6_addLane_9 : decode cX6_addLane 9 = .ok (.if_icmp .lt 5, 3) := by decide +kernel
theorem dX6_addLane_12 : decode cX6_addLane 12 = .ok (.aconst_null, 1) := by decide +kernel
theorem dX6_addLane_13 : decode cX6_addLane 13 = .ok (.areturn, 1) := by decide +kernel
theorem dX6_addLane_14 : decode cX6_addLane 14 = .ok (.aload_n 0, 1) := by decide +kernel
theorem dX6_addLane_15 : decode cX6_addLane 15 = .ok (.dup, 1) := by decide +kernel
theorem dX6_addLane_16 : decode cX6_addLane 16 = .ok (.getfield 45, 3) := by decide +kernel
theorem dX6_addLane_19 : decode cX6_addLane 19 = .ok (.iconst 1, 1) := by decide +kernel
theorem dX6_addLane_20 : decode cX6_addLane 20 = .ok (.iadd, 1) := by decide +kernel
theorem dX6_addLane_21 : decode cX6_addLane 21 = .ok (.putfield 45, 3) := by decide +kernel
theorem dX6_addLane_24 : decode cX6_addLane 24 = .ok (.aload_n 0, 1) := by decide +kernel
theorem dX6_addLane_25 : decode cX6_addLane 25 = .ok (.aload_n 0, 1) := by decide +kernel
theorem dX6_addLane_26 : decode cX6_addLane 26 = .ok (.getfield 45, 3) := by decide +kernel
theorem dX6_addLane_29 : decode cX6_addLane 29 = .ok (.iconst 1, 1) := by decide +kernel
theorem dX6_addLane_30 : decode cX6_addLane 30 = .ok (.isub, 1) := by decide +kernel
theorem dX6_addLane_31 : decode cX6_addLane 31 = .ok (.invokevirtual 63, 3) := by decide +kernel
theorem dX6_addLane_34 : decode cX6_addLane 34 = .ok (.areturn, 1) := by decide +kernel
abbrev m_X6_addLane : Mt := (cX6_addLane, RX6, "addLane", 1, .areturn, 2)
def f_X6_addLane (N : Nat) (z : Nat → Nat) (o : Nat) (x0 : Hp) : Option (Option Nat × Hp) :=
  geti (some o) x0 9 163 fun i1 =>
  getr (some o) x0 9 165 fun r2 =>
  alen r2 x0 104 fun i3 =>
  if i1 < i3 then (geti (some o) x0 9 163 fun i4 =>
  puti (some o) x0 9 163 (i4 + (1 : Int32)) fun x5 =>
  geti (some o) x5 9 163 fun i6 =>
  obj (some o) x5 9 fun q9 => bnd (f_X6_laneAt N z q9 (i6 - (1 : Int32)) x5) fun r8 x7 =>
  some (r8, x7)) else (some (none, x0))
set_option maxRecDepth 100000 in
set_option maxHeartbeats 4000000 in
theorem g_X6_addLane (l : Launch) (N : Nat) (z : Nat → Nat) (o : Nat) (x0 : Hp) : G l z m_X6_addLane okT enR 0 [(0, va_rf (some o))] [] x0 (f_X6_addLane N z o x0) := by
  unfold f_X6_addLane
  refine G_aload_n 0 dX6_addLane_0 rfl rfl ?_
  refine G_geti (k := 3) K_8 (by decide) rfl rfl rfl gw_313 rfl dX6_addLane_1 (fun i1 => ?_)
  refine G_aload_n 0 dX6_addLane_4 rfl rfl ?_
  refine G_getr (k := 5) K_8 (by decide) rfl rfl rfl gw_318 rfl dX6_addLane_5 (fun r2 => ?_)
  refine G_alen (t := 4) rfl (by decide) dX6_addLane_8 (fun i3 => ?_)
  refine G_icmp_lt (tgt := 14) dX6_addLane_9 (by decide) (fun _ => ?_) (fun _ => ?_)
  · refine G_aload_n 0 dX6_addLane_14 rfl rfl ?_
    refine G_dup dX6_addLane_15 (rf_cat _) ?_
    refine G_geti (k := 3) K_8 (by decide) rfl rfl rfl gw_313 rfl dX6_addLane_16 (fun i4 => ?_)
    refine G_iconst (v := (1 : Int32)) dX6_addLane_19 rfl ?_
    refine G_iadd dX6_addLane_20 ?_
    refine G_puti (k := 3) K_8 (by decide) rfl rfl rfl gw_313 rfl (Or.inl rfl) nar_int.1 nar_int.2 dX6_addLane_21 (fun x5 => ?_)
    refine G_aload_n 0 dX6_addLane_24 rfl rfl ?_
    refine G_aload_n 0 dX6_addLane_25 rfl rfl ?_
    refine G_geti (k := 3) K_8 (by decide) rfl rfl rfl gw_313 rfl dX6_addLane_26 (fun i6 => ?_)
    refine G_iconst (v := (1 : Int32)) dX6_addLane_29 rfl ?_
    refine G_isub dX6_addLane_30 ?_
    refine G_callV (av := [.int (i6 - (1 : Int32))]) [] (fun q9 => ct_X6_laneAt l N z q9 (i6 - (1 : Int32))) K_8 rfl yn_X6_laneAt (Nat.le_of_ble_eq_true rfl) (by decide) gw_553 gw_554 gw_555 gw_42 gw_556 rfl (by decide) dX6_addLane_31 (fun r8 x7 => ?_)
    exact G_ret trivial dX6_addLane_34 rfl
  · refine G_null dX6_addLane_12 ?_
    exact G_ret trivial dX6_addLane_13 rfl

theorem yn_X6_addLane : Yn yX6_addLane 0 := ⟨by decide +kernel, by decide +kernel, by decide +kernel⟩
theorem ct_X6_addLane (l : Launch) (N : Nat) (z : Nat → Nat) (o : Nat) : Ct l z yX6_addLane cX6_addLane 1 (some (.object "BucketBrigade$Lane")) 2 enR [.ref o] (f_X6_addLane N z o) :=
  Ct_r (fun x => G_lv0 (by simp only [lva_n, lva_i, lva_o, lva_r, lva_j]) (g_X6_addLane l N z o x)) (by decide +kernel) (by simp only [lgl_n, lgl_i, lgl_o, lgl_r, lgl_j]; decide)

theorem dX6_folkAt_0 : decode cX6_folkAt 0 = .ok (.iload_n 1, 1) := by decide +kernel
theorem dX6_folkAt_1 : decode cX6_folkAt 1 = .ok (.ifCond .lt 29, 3) := by decide +kernel
theorem dX6_folkAt_4 : decode cX6_folkAt 4 = .ok (.iload_n 1, 1) := by decide +kernel
theorem dX6_folkAt_5 : decode cX6_folkAt 5 = .ok (.aload_n 0, 1) := by decide +kernel
theorem dX6_folkAt_6 : decode cX6_folkAt 6 = .ok (.getfield 48, 3) := by decide +kernel
theorem dX6_folkAt_9 : decode cX6_folkAt 9 = .ok (.if_icmp .ge 21, 3) := by decide +kernel
theorem dX6_folkAt_12 : decode cX6_folkAt 12 = .ok (.iload_n 1, 1) := by decide +kernel
theorem dX6_folkAt_13 : decode cX6_folkAt 13 = .ok (.aload_n 0, 1) := by decide +kernel
theorem dX6_folkAt_14 : decode cX6_folkAt 14 = .ok (.getfield 19, 3) := by decide +kernel
theorem dX6_folkAt_17 : decode cX6_folkAt 17 = .ok (.arraylength, 1) := by decide +kernel
theorem dX6_folkAt_18 : decode cX6_folkAt 18 = .ok (.if_icmp .ge 12, 3) := by decide +kernel
theorem dX6_folkAt_21 : decode cX6_folkAt 21 = .ok (.aload_n 0, 1) := by decide +kernel
theorem dX6_folkAt_22 : decode cX6_folkAt 22 = .ok (.getfield 19, 3) := by decide +kernel
theorem dX6_folkAt_25 : decode cX6_folkAt 25 = .ok (.iload_n 1, 1) := by decide +kernel
theorem dX6_folkAt_26 : decode cX6_folkAt 26 = .ok (.aaload, 1) := by decide +kernel
theorem dX6_folkAt_27 : decode cX6_folkAt 27 = .ok (.goto 4, 3) := by decide +kernel
theorem dX6_folkAt_30 : decode cX6_folkAt 30 = .ok (.aconst_null, 1) := by decide +kernel
theorem dX6_folkAt_31 : decode cX6_folkAt 31 = .ok (.areturn, 1) := by decide +kernel
abbrev m_X6_folkAt : Mt := (cX6_folkAt, RX6, "folkAt", 2, .areturn, 1)
def f_X6_folkAt (N : Nat) (z : Nat → Nat) (o : Nat) (v1 : Int32) (x0 : Hp) : Option (Option Nat × Hp) :=
  if v1 < 0 then (some (none, x0)) else (geti (some o) x0 9 164 fun i1 =>
  if i1 ≤ v1 then (some (none, x0)) else (getr (some o) x0 9 166 fun r2 =>
  alen r2 x0 103 fun i3 =>
  if i3 ≤ v1 then (some (none, x0)) else (getr (some o) x0 9 166 fun r4 =>
  aldr r4 x0 103 v1 fun r5 =>
  some (r5, x0))))
set_option maxRecDepth 100000 in
set_option maxHeartbeats 4000000 in
theorem g_X6_folkAt (l : Launch) (N : Nat) (z : Nat → Nat) (o : Nat) (v1 : Int32) (x0 : Hp) : G l z m_X6_folkAt okT enR 0 [(0, va_rf (some o)), (1, .int v1)] [] x0 (f_X6_folkAt N z o v1 x0) := by
  unfold f_X6_folkAt
  refine G_iload_n 1 dX6_folkAt_0 rfl rfl ?_
  refine G_if_lt (tgt := 30) dX6_folkAt_1 (by decide) (fun _ => ?_) (fun _ => ?_)
  · refine G_null dX6_folkAt_30 ?_
    exact G_ret trivial dX6_folkAt_31 rfl
  · refine G_iload_n 1 dX6_folkAt_4 rfl rfl ?_
    refine G_aload_n 0 dX6_folkAt_5 rfl rfl ?_
    refine G_geti (k := 4) K_8 (by decide) rfl rfl rfl gw_316 rfl dX6_folkAt_6 (fun i1 => ?_)
    refine G_icmp_ge (tgt := 30) dX6_folkAt_9 (by decide) (fun _ => ?_) (fun _ => ?_)
    · refine G_null dX6_folkAt_30 ?_
      exact G_ret trivial dX6_folkAt_31 rfl
    · refine G_iload_n 1 dX6_folkAt_12 rfl rfl ?_
      refine G_aload_n 0 dX6_folkAt_13 rfl rfl ?_
      refine G_getr (k := 6) K_8 (by decide) rfl rfl rfl gw_319 rfl dX6_folkAt_14 (fun r2 => ?_)
      refine G_alen (t := 3) rfl (by decide) dX6_folkAt_17 (fun i3 => ?_)
      refine G_icmp_ge (tgt := 30) dX6_folkAt_18 (by decide) (fun _ => ?_) (fun _ => ?_)
      · refine G_null dX6_folkAt_30 ?_
        exact G_ret trivial dX6_folkAt_31 rfl
      · refine G_aload_n 0 dX6_folkAt_21 rfl rfl ?_
        refine G_getr (k := 6) K_8 (by decide) rfl rfl rfl gw_319 rfl dX6_folkAt_22 (fun r4 => ?_)
        refine G_iload_n 1 dX6_folkAt_25 rfl rfl ?_
        refine G_aald (t := 3) rfl (by decide) (by decide) dX6_folkAt_26 (fun r5 => ?_)
        refine G_goto (tgt := 31) dX6_folkAt_27 (by decide) ?_
        exact G_ret trivial dX6_folkAt_31 rfl

theorem yn_X6_folkAt : Yn yX6_folkAt 1 := ⟨by decide +kernel, by decide +kernel, by decide +kernel⟩
theorem ct_X6_folkAt (l : Launch) (N : Nat) (z : Nat → Nat) (o : Nat) (v1 : Int32) : Ct l z yX6_folkAt cX6_folkAt 2 (some (.object "BucketBrigade$Folk")) 1 enR [.ref o, .int v1] (f_X6_folkAt N z o v1) :=
  Ct_r (fun x => G_lv0 (by simp only [lva_n, lva_i, lva_o, lva_r, lva_j]) (g_X6_folkAt l N z o v1 x)) (by decide +kernel) (by simp only [lgl_n, lgl_i, lgl_o, lgl_r, lgl_j]; decide)

theorem dX6_addFolk_0 : decode cX6_addFolk 0 = .ok (.aload_n 0, 1) := by decide +kernel
theorem dX6_addFolk_1 : decode cX6_addFolk 1 = .ok (.getfield 48, 3) := by decide +kernel
theorem dX6_addFolk_4 : decode cX6_addFolk 4 = .ok (.aload_n 0, 1) := by decide +kernel
theorem dX6_addFolk_5 : decode cX6_addFolk 5 = .ok (.getfield 19, 3) := by decide +kernel
theorem dX6_addFolk_8 : decode cX6_addFolk 8 = .ok (.arraylength, 1) := by decide +kernel
theorem dX6_addFolk_9 : decode cX6_addFolk 9 = .ok (.if_icmp .lt 5, 3) := by decide +kernel
theorem dX6_addFolk_12 : decode cX6_addFolk 12 = .ok (.aconst_null, 1) := by decide +kernel
theorem dX6_addFolk_13 : decode cX6_addFolk 13 = .ok (.areturn, 1) := by decide +kernel
theorem dX6_addFolk_14 : decode cX6_addFolk 14 = .ok (.aload_n 0, 1) := by decide +kernel
theorem dX6_addFolk_15 : decode cX6_addFolk 15 = .ok (.dup, 1) := by decide +kernel
theorem dX6_addFolk_16 : decode cX6_addFolk 16 = .ok (.getfield 48, 3) := by decide +kernel
theorem dX6_addFolk_19 : decode cX6_addFolk 19 = .ok (.iconst 1, 1) := by decide +kernel
theorem dX6_addFolk_20 : decode cX6_addFolk 20 = .ok (.iadd, 1) := by decide +kernel
theorem dX6_addFolk_21 : decode cX6_addFolk 21 = .ok (.putfield 48, 3) := by decide +kernel
theorem dX6_addFolk_24 : decode cX6_addFolk 24 = .ok (.aload_n 0, 1) := by decide +kernel
theorem dX6_addFolk_25 : decode cX6_addFolk 25 = .ok (.aload_n 0, 1) := by decide +kernel
theorem dX6_addFolk_26 : decode cX6_addFolk 26 = .ok (.getfield 48, 3) := by decide +kernel
theorem dX6_addFolk_29 : decode cX6_addFolk 29 = .ok (.iconst 1, 1) := by decide +kernel
theorem dX6_addFolk_30 : decode cX6_addFolk 30 = .ok (.isub, 1) := by decide +kernel
theorem dX6_addFolk_31 : decode cX6_addFolk 31 = .ok (.invokevirtual 82, 3) := by decide +kernel
theorem dX6_addFolk_34 : decode cX6_addFolk 34 = .ok (.areturn, 1) := by decide +kernel
abbrev m_X6_addFolk : Mt := (cX6_addFolk, RX6, "addFolk", 1, .areturn, 2)
def f_X6_addFolk (N : Nat) (z : Nat → Nat) (o : Nat) (x0 : Hp) : Option (Option Nat × Hp) :=
  geti (some o) x0 9 164 fun i1 =>
  getr (some o) x0 9 166 fun r2 =>
  alen r2 x0 103 fun i3 =>
  if i1 < i3 then (geti (some o) x0 9 164 fun i4 =>
  puti (some o) x0 9 164 (i4 + (1 : Int32)) fun x5 =>
  geti (some o) x5 9 164 fun i6 =>
  obj (some o) x5 9 fun q9 => bnd (f_X6_folkAt N z q9 (i6 - (1 : Int32)) x5) fun r8 x7 =>
  some (r8, x7)) else (some (none, x0))
set_option maxRecDepth 100000 in
set_option maxHeartbeats 4000000 in
theorem g_X6_addFolk (l : Launch) (N : Nat) (z : Nat → Nat) (o : Nat) (x0 : Hp) : G l z m_X6_addFolk okT enR 0 [(0, va_rf (some o))] [] x0 (f_X6_addFolk N z o x0) := by
  unfold f_X6_addFolk
  refine G_aload_n 0 dX6_addFolk_0 rfl rfl ?_
  refine G_geti (k := 4) K_8 (by decide) rfl rfl rfl gw_316 rfl dX6_addFolk_1 (fun i1 => ?_)
  refine G_aload_n 0 dX6_addFolk_4 rfl rfl ?_
  refine G_getr (k := 6) K_8 (by decide) rfl rfl rfl gw_319 rfl dX6_addFolk_5 (fun r2 => ?_)
  refine G_alen (t := 3) rfl (by decide) dX6_addFolk_8 (fun i3 => ?_)
  refine G_icmp_lt (tgt := 14) dX6_addFolk_9 (by decide) (fun _ => ?_) (fun _ => ?_)
  · refine G_aload_n 0 dX6_addFolk_14 rfl rfl ?_
    refine G_dup dX6_addFolk_15 (rf_cat _) ?_
    refine G_geti (k := 4) K_8 (by decide) rfl rfl rfl gw_316 rfl dX6_addFolk_16 (fun i4 => ?_)
    refine G_iconst (v := (1 : Int32)) dX6_addFolk_19 rfl ?_
    refine G_iadd dX6_addFolk_20 ?_
    refine G_puti (k := 4) K_8 (by decide) rfl rfl rfl gw_316 rfl (Or.inl rfl) nar_int.1 nar_int.2 dX6_addFolk_21 (fun x5 => ?_)
    refine G_aload_n 0 dX6_addFolk_24 rfl rfl ?_
    refine G_aload_n 0 dX6_addFolk_25 rfl rfl ?_
    refine G_geti (k := 4) K_8 (by decide) rfl rfl rfl gw_316 rfl dX6_addFolk_26 (fun i6 => ?_)
    refine G_iconst (v := (1 : Int32)) dX6_addFolk_29 rfl ?_
    refine G_isub dX6_addFolk_30 ?_
    refine G_callV (av := [.int (i6 - (1 : Int32))]) [] (fun q9 => ct_X6_folkAt l N z q9 (i6 - (1 : Int32))) K_8 rfl yn_X6_folkAt (Nat.le_of_ble_eq_true rfl) (by decide) gw_676 gw_677 gw_678 gw_42 gw_679 rfl (by decide) dX6_addFolk_31 (fun r8 x7 => ?_)
    exact G_ret trivial dX6_addFolk_34 rfl
  · refine G_null dX6_addFolk_12 ?_
    exact G_ret trivial dX6_addFolk_13 rfl

theorem yn_X6_addFolk : Yn yX6_addFolk 0 := ⟨by decide +kernel, by decide +kernel, by decide +kernel⟩
theorem ct_X6_addFolk (l : Launch) (N : Nat) (z : Nat → Nat) (o : Nat) : Ct l z yX6_addFolk cX6_addFolk 1 (some (.object "BucketBrigade$Folk")) 2 enR [.ref o] (f_X6_addFolk N z o) :=
  Ct_r (fun x => G_lv0 (by simp only [lva_n, lva_i, lva_o, lva_r, lva_j]) (g_X6_addFolk l N z o x)) (by decide +kernel) (by simp only [lgl_n, lgl_i, lgl_o, lgl_r, lgl_j]; decide)

theorem dX6_copyFrom_0 : decode cX6_copyFrom 0 = .ok (.aload_n 0, 1) := by decide +kernel
theorem dX6_copyFrom_1 : decode cX6_copyFrom 1 = .ok (.aload_n 1, 1) := by decide +kernel
theorem dX6_copyFrom_2 : decode cX6_copyFrom 2 = .ok (.getfield 42, 3) := by decide +kernel
theorem dX6_copyFrom_5 : decode cX6_copyFrom 5 = .ok (.invokevirtual 60, 3) := by decide +kernel
theorem dX6_copyFrom_8 : decode cX6_copyFrom 8 = .ok (.aload_n 0, 1) := by decide +kernel
theorem dX6_copyFrom_9 : decode cX6_copyFrom 9 = .ok (.aload_n 1, 1) := by decide +kernel
theorem dX6_copyFrom_10 : decode cX6_copyFrom 10 = .ok (.getfield 34, 3) := by decide +kernel
theorem dX6_copyFrom_13 : decode cX6_copyFrom 13 = .ok (.putfield 34, 3) := by decide +kernel
theorem dX6_copyFrom_16 : decode cX6_copyFrom 16 = .ok (.aload_n 0, 1) := by decide +kernel
theorem dX6_copyFrom_17 : decode cX6_copyFrom 17 = .ok (.aload_n 1, 1) := by decide +kernel
theorem dX6_copyFrom_18 : decode cX6_copyFrom 18 = .ok (.getfield 51, 3) := by decide +kernel
theorem dX6_copyFrom_21 : decode cX6_copyFrom 21 = .ok (.putfield 51, 3) := by decide +kernel
theorem dX6_copyFrom_24 : decode cX6_copyFrom 24 = .ok (.aload_n 0, 1) := by decide +kernel
theorem dX6_copyFrom_25 : decode cX6_copyFrom 25 = .ok (.aload_n 1, 1) := by decide +kernel
theorem dX6_copyFrom_26 : decode cX6_copyFrom 26 = .ok (.getfield 54, 3) := by decide +kernel
theorem dX6_copyFrom_29 : decode cX6_copyFrom 29 = .ok (.putfield 54, 3) := by decide +kernel
theorem dX6_copyFrom_32 : decode cX6_copyFrom 32 = .ok (.aload_n 0, 1) := by decide +kernel
theorem dX6_copyFrom_33 : decode cX6_copyFrom 33 = .ok (.aload_n 1, 1) := by decide +kernel
theorem dX6_copyFrom_34 : decode cX6_copyFrom 34 = .ok (.getfield 57, 3) := by decide +kernel
theorem dX6_copyFrom_37 : decode cX6_copyFrom 37 = .ok (.putfield 57, 3) := by decide +kernel
theorem dX6_copyFrom_40 : decode cX6_copyFrom 40 = .ok (.iconst 0, 1) := by decide +kernel
theorem dX6_copyFrom_41 : decode cX6_copyFrom 41 = .ok (.istore_n 2, 1) := by decide +kernel
theorem dX6_copyFrom_42 : decode cX6_copyFrom 42 = .ok (.iload_n 2, 1) := by decide +kernel
theorem dX6_copyFrom_43 : decode cX6_copyFrom 43 = .ok (.aload_n 1, 1) := by decide +kernel
theorem dX6_copyFrom_44 : decode cX6_copyFrom 44 = .ok (.getfield 45, 3) := by decide +kernel
theorem dX6_copyFrom_47 : decode cX6_copyFrom 47 = .ok (.if_icmp .ge 58, 3) := by decide +kernel
theorem dX6_copyFrom_50 : decode cX6_copyFrom 50 = .ok (.aload_n 1, 1) := by decide +kernel
theorem dX6_copyFrom_51 : decode cX6_copyFrom 51 = .ok (.iload_n 2, 1) := by decide +kernel
theorem dX6_copyFrom_52 : decode cX6_copyFrom 52 = .ok (.invokevirtual 63, 3) := by decide +kernel
theorem dX6_copyFrom_55 : decode cX6_copyFrom 55 = .ok (.astore_n 3, 1) := by decide +kernel
theorem dX6_copyFrom_56 : decode cX6_copyFrom 56 = .ok (.aload_n 0, 1) := by decide +kernel
theorem dX6_copyFrom_57 : decode cX6_copyFrom 57 = .ok (.invokevirtual 67, 3) := by decide +kernel
theorem dX6_copyFrom_60 : decode cX6_copyFrom 60 = .ok (.astore 4, 2) := by decide +kernel
theorem dX6_copyFrom_62 : decode cX6_copyFrom 62 = .ok (.aload_n 3, 1) := by decide +kernel
theorem dX6_copyFrom_63 : decode cX6_copyFrom 63 = .ok (.ifnull 36, 3) := by decide +kernel
theorem dX6_copyFrom_66 : decode cX6_copyFrom 66 = .ok (.aload 4, 2) := by decide +kernel
theorem dX6_copyFrom_68 : decode cX6_copyFrom 68 = .ok (.ifnull 31, 3) := by decide +kernel
theorem dX6_copyFrom_71 : decode cX6_copyFrom 71 = .ok (.aload 4, 2) := by decide +kernel
theorem dX6_copyFrom_73 : decode cX6_copyFrom 73 = .ok (.aload_n 3, 1) := by decide +kernel
theorem dX6_copyFrom_74 : decode cX6_copyFrom 74 = .ok (.aload_n 0, 1) := by decide +kernel
theorem dX6_copyFrom_75 : decode cX6_copyFrom 75 = .ok (.aload_n 3, 1) := by decide +kernel
theorem dX6_copyFrom_76 : decode cX6_copyFrom 76 = .ok (.getfield 71, 3) := by decide +kernel
theorem dX6_copyFrom_79 : decode cX6_copyFrom 79 = .ok (.ifnonnull 7, 3) := by decide +kernel
theorem dX6_copyFrom_82 : decode cX6_copyFrom 82 = .ok (.iconst (-1), 1) := by decide +kernel
theorem dX6_copyFrom_83 : decode cX6_copyFrom 83 = .ok (.goto 10, 3) := by decide +kernel
theorem dX6_copyFrom_86 : decode cX6_copyFrom 86 = .ok (.aload_n 3, 1) := by decide +kernel
theorem dX6_copyFrom_87 : decode cX6_copyFrom 87 = .ok (.getfield 71, 3) := by decide +kernel
theorem dX6_copyFrom_90 : decode cX6_copyFrom 90 = .ok (.getfield 75, 3) := by decide +kernel
theorem dX6_copyFrom_93 : decode cX6_copyFrom 93 = .ok (.invokevirtual 63, 3) := by decide +kernel
theorem dX6_copyFrom_96 : decode cX6_copyFrom 96 = .ok (.invokevirtual 78, 3) := by decide +kernel
theorem dX6_copyFrom_99 : decode cX6_copyFrom 99 = .ok (.iinc 2 1, 3) := by decide +kernel
theorem dX6_copyFrom_102 : decode cX6_copyFrom 102 = .ok (.goto (-60), 3) := by decide +kernel
theorem dX6_copyFrom_105 : decode cX6_copyFrom 105 = .ok (.iconst 0, 1) := by decide +kernel
theorem dX6_copyFrom_106 : decode cX6_copyFrom 106 = .ok (.istore_n 2, 1) := by decide +kernel
theorem dX6_copyFrom_107 : decode cX6_copyFrom 107 = .ok (.iload_n 2, 1) := by decide +kernel
theorem dX6_copyFrom_108 : decode cX6_copyFrom 108 = .ok (.aload_n 1, 1) := by decide +kernel
theorem dX6_copyFrom_109 : decode cX6_copyFrom 109 = .ok (.getfield 48, 3) := by decide +kernel
theorem dX6_copyFrom_112 : decode cX6_copyFrom 112 = .ok (.if_icmp .ge 36, 3) := by decide +kernel
theorem dX6_copyFrom_115 : decode cX6_copyFrom 115 = .ok (.aload_n 1, 1) := by decide +kernel
theorem dX6_copyFrom_116 : decode cX6_copyFrom 116 = .ok (.iload_n 2, 1) := by decide +kernel
theorem dX6_copyFrom_117 : decode cX6_copyFrom 117 = .ok (.invokevirtual 82, 3) := by decide +kernel
theorem dX6_copyFrom_120 : decode cX6_copyFrom 120 = .ok (.astore_n 3, 1) := by decide +kernel
theorem dX6_copyFrom_121 : decode cX6_copyFrom 121 = .ok (.aload_n 0, 1) := by decide +kernel
theorem dX6_copyFrom_122 : decode cX6_copyFrom 122 = .ok (.invokevirtual 86, 3) := by decide +kernel
theorem dX6_copyFrom_125 : decode cX6_copyFrom 125 = .ok (.astore 4, 2) := by decide +kernel
theorem dX6_copyFrom_127 : decode cX6_copyFrom 127 = .ok (.aload_n 3, 1) := by decide +kernel
theorem dX6_copyFrom_128 : decode cX6_copyFrom 128 = .ok (.ifnull 14, 3) := by decide +kernel
theorem dX6_copyFrom_131 : decode cX6_copyFrom 131 = .ok (.aload 4, 2) := by decide +kernel
theorem dX6_copyFrom_133 : decode cX6_copyFrom 133 = .ok (.ifnull 9, 3) := by decide +kernel
theorem dX6_copyFrom_136 : decode cX6_copyFrom 136 = .ok (.aload 4, 2) := by decide +kernel
theorem dX6_copyFrom_138 : decode cX6_copyFrom 138 = .ok (.aload_n 3, 1) := by decide +kernel
theorem dX6_copyFrom_139 : decode cX6_copyFrom 139 = .ok (.invokevirtual 90, 3) := by decide +kernel
theorem dX6_copyFrom_142 : decode cX6_copyFrom 142 = .ok (.iinc 2 1, 3) := by decide +kernel
theorem dX6_copyFrom_145 : decode cX6_copyFrom 145 = .ok (.goto (-38), 3) := by decide +kernel
theorem dX6_copyFrom_148 : decode cX6_copyFrom 148 = .ok (.return_, 1) := by decide +kernel
abbrev m_X6_copyFrom : Mt := (cX6_copyFrom, RX6, "copyFrom", 5, .return_, 5)
def f_X6_copyFrom_b99 (N : Nat) (z : Nat → Nat) (k42 : Nat → Option Nat → Int32 → Hp → Option (Unit × Hp)) (o : Nat) (v1 : Option Nat) (v2 : Int32) (x0 : Hp) : Option (Unit × Hp) :=
  k42 o v1 (v2 + (1 : Int32)) x0
def f_X6_copyFrom_b93 (N : Nat) (z : Nat → Nat) (k42 : Nat → Option Nat → Int32 → Hp → Option (Unit × Hp)) (o : Nat) (v1 : Option Nat) (v2 : Int32) (s0 : Int32) (s1 : Option Nat) (s2 : Option Nat) (s3 : Option Nat) (x0 : Hp) : Option (Unit × Hp) :=
  obj s1 x0 9 fun q3 => bnd (f_X6_laneAt N z q3 s0 x0) fun r2 x1 =>
  obj s3 x1 5 fun q5 => bnd (f_X2_copyFrom N z q5 s2 r2 x1) fun _ x4 =>
  f_X6_copyFrom_b99 N z k42 o v1 v2 x4
def f_X6_copyFrom_b142 (N : Nat) (z : Nat → Nat) (k107 : Nat → Option Nat → Int32 → Hp → Option (Unit × Hp)) (o : Nat) (v1 : Option Nat) (v2 : Int32) (x0 : Hp) : Option (Unit × Hp) :=
  k107 o v1 (v2 + (1 : Int32)) x0
def f_X6_copyFrom_b107 (N : Nat) (z : Nat → Nat) : Nat → Nat → Option Nat → Int32 → Hp → Option (Unit × Hp)
  | 0, _, _, _, _ => none
  | n + 1, o, v1, v2, x0 => geti v1 x0 9 164 fun i6 =>
  if i6 ≤ v2 then (some ((), x0)) else (obj v1 x0 9 fun q9 => bnd (f_X6_folkAt N z q9 v2 x0) fun r8 x7 =>
  obj (some o) x7 9 fun q12 => bnd (f_X6_addFolk N z q12 x7) fun r11 x10 =>
  if r8 = none then (f_X6_copyFrom_b142 N z (f_X6_copyFrom_b107 N z n) o v1 v2 x10) else (if r11 = none then (f_X6_copyFrom_b142 N z (f_X6_copyFrom_b107 N z n) o v1 v2 x10) else (obj r11 x10 4 fun q14 => bnd (f_X1_copyFrom N z q14 r8 x10) fun _ x13 =>
  f_X6_copyFrom_b142 N z (f_X6_copyFrom_b107 N z n) o v1 v2 x13)))
def f_X6_copyFrom_b42 (N : Nat) (z : Nat → Nat) : Nat → Nat → Option Nat → Int32 → Hp → Option (Unit × Hp)
  | 0, _, _, _, _ => none
  | n + 1, o, v1, v2, x0 => geti v1 x0 9 163 fun i15 =>
  if i15 ≤ v2 then (f_X6_copyFrom_b107 N z N o v1 (0 : Int32) x0) else (obj v1 x0 9 fun q18 => bnd (f_X6_laneAt N z q18 v2 x0) fun r17 x16 =>
  obj (some o) x16 9 fun q21 => bnd (f_X6_addLane N z q21 x16) fun r20 x19 =>
  if r17 = none then (f_X6_copyFrom_b99 N z (f_X6_copyFrom_b42 N z n) o v1 v2 x19) else (if r20 = none then (f_X6_copyFrom_b99 N z (f_X6_copyFrom_b42 N z n) o v1 v2 x19) else (getr r17 x19 5 82 fun r22 =>
  if r22 = none then (f_X6_copyFrom_b93 N z (f_X6_copyFrom_b42 N z n) o v1 v2 (-1 : Int32) (some o) r17 r20 x19) else (getr r17 x19 5 82 fun r23 =>
  geti r23 x19 5 80 fun i24 =>
  f_X6_copyFrom_b93 N z (f_X6_copyFrom_b42 N z n) o v1 v2 i24 (some o) r17 r20 x19))))
def f_X6_copyFrom (N : Nat) (z : Nat → Nat) (o : Nat) (v1 : Option Nat) (x0 : Hp) : Option (Unit × Hp) :=
  geti v1 x0 9 161 fun i25 =>
  obj (some o) x0 9 fun q27 => bnd (f_X6_begin N z q27 i25 x0) fun _ x26 =>
  geti v1 x26 9 162 fun i28 =>
  puti (some o) x26 9 162 i28 fun x29 =>
  geti v1 x29 9 168 fun i30 =>
  puti (some o) x29 9 168 i30 fun x31 =>
  geti v1 x31 9 169 fun i32 =>
  puti (some o) x31 9 169 i32 fun x33 =>
  geti v1 x33 9 170 fun i34 =>
  puti (some o) x33 9 170 i34 fun x35 =>
  f_X6_copyFrom_b42 N z N o v1 (0 : Int32) x35
set_option maxRecDepth 100000 in
set_option maxHeartbeats 4000000 in
theorem g_X6_copyFrom_b99 (l : Launch) (N : Nat) (z : Nat → Nat) {k42 : Nat → Option Nat → Int32 → Hp → Option (Unit × Hp)} (hk42 : ∀ o v1 v2 x, G l z m_X6_copyFrom okT enV 42 [(0, va_rf (some o)), (1, va_rf v1), (2, .int v2)] [] x (k42 o v1 v2 x)) (o : Nat) (v1 : Option Nat) (v2 : Int32) (x0 : Hp) : G l z m_X6_copyFrom okT enV 99 [(0, va_rf (some o)), (1, va_rf v1), (2, .int v2)] [] x0 (f_X6_copyFrom_b99 N z k42 o v1 v2 x0) := by
  unfold f_X6_copyFrom_b99
  refine G_iinc (i := 2) (l2 := [(0, va_rf (some o)), (1, va_rf v1)]) 2 [0, 1] dX6_copyFrom_99 rfl rfl (Nat.le_of_ble_eq_true rfl) rfl (sok_a (by decide) (by decide) (sok_b (by decide) (rf_cat _) trivial)) ?_
  refine G_goto (tgt := 42) dX6_copyFrom_102 (by decide) ?_
  refine G_lv [1, 2, 0] rfl ?_
  exact hk42 o v1 (v2 + (1 : Int32)) x0

set_option maxRecDepth 100000 in
set_option maxHeartbeats 4000000 in
theorem g_X6_copyFrom_b93 (l : Launch) (N : Nat) (z : Nat → Nat) {k42 : Nat → Option Nat → Int32 → Hp → Option (Unit × Hp)} (hk42 : ∀ o v1 v2 x, G l z m_X6_copyFrom okT enV 42 [(0, va_rf (some o)), (1, va_rf v1), (2, .int v2)] [] x (k42 o v1 v2 x)) (o : Nat) (v1 : Option Nat) (v2 : Int32) (s0 : Int32) (s1 : Option Nat) (s2 : Option Nat) (s3 : Option Nat) (x0 : Hp) : G l z m_X6_copyFrom okT enV 93 [(0, va_rf (some o)), (1, va_rf v1), (2, .int v2)] [.int s0, va_rf s1, va_rf s2, va_rf s3] x0 (f_X6_copyFrom_b93 N z k42 o v1 v2 s0 s1 s2 s3 x0) := by
  unfold f_X6_copyFrom_b93
  refine G_callV (av := [.int s0]) [va_rf s2, va_rf s3] (fun q3 => ct_X6_laneAt l N z q3 s0) K_8 rfl yn_X6_laneAt (Nat.le_of_ble_eq_true rfl) (by decide) gw_553 gw_554 gw_555 gw_42 gw_556 rfl (by simp only [hw_n, hw_i, hw_r, hw_j, hw_d]; decide) dX6_copyFrom_93 (fun r2 x1 => ?_)
  refine G_callV (av := [va_rf s2, va_rf r2]) [] (fun q5 => ct_X2_copyFrom l N z q5 s2 r2) K_4 rfl yn_X2_copyFrom (Nat.le_of_ble_eq_true rfl) (by decide) gw_753 gw_754 gw_755 gw_46 gw_756 rfl (by decide) dX6_copyFrom_96 (fun _ x4 => ?_)
  refine G_lv [0, 1, 2] rfl ?_
  exact g_X6_copyFrom_b99 l N z hk42 o v1 v2 x4

set_option maxRecDepth 100000 in
set_option maxHeartbeats 4000000 in
theorem g_X6_copyFrom_b142 (l : Launch) (N : Nat) (z : Nat → Nat) {k107 : Nat → Option Nat → Int32 → Hp → Option (Unit × Hp)} (hk107 : ∀ o v1 v2 x, G l z m_X6_copyFrom okT enV 107 [(0, va_rf (some o)), (1, va_rf v1), (2, .int v2)] [] x (k107 o v1 v2 x)) (o : Nat) (v1 : Option Nat) (v2 : Int32) (x0 : Hp) : G l z m_X6_copyFrom okT enV 142 [(0, va_rf (some o)), (1, va_rf v1), (2, .int v2)] [] x0 (f_X6_copyFrom_b142 N z k107 o v1 v2 x0) := by
  unfold f_X6_copyFrom_b142
  refine G_iinc (i := 2) (l2 := [(0, va_rf (some o)), (1, va_rf v1)]) 2 [0, 1] dX6_copyFrom_142 rfl rfl (Nat.le_of_ble_eq_true rfl) rfl (sok_a (by decide) (by decide) (sok_b (by decide) (rf_cat _) trivial)) ?_
  refine G_goto (tgt := 107) dX6_copyFrom_145 (by decide) ?_
  refine G_lv [1, 2, 0] rfl ?_
  exact hk107 o v1 (v2 + (1 : Int32)) x0

set_option maxRecDepth 100000 in
set_option maxHeartbeats 4000000 in
theorem g_X6_copyFrom_b107 (l : Launch) (N : Nat) (z : Nat → Nat) : ∀ (n : Nat) (o : Nat) (v1 : Option Nat) (v2 : Int32) (x0 : Hp), G l z m_X6_copyFrom okT enV 107 [(0, va_rf (some o)), (1, va_rf v1), (2, .int v2)] [] x0 (f_X6_copyFrom_b107 N z n o v1 v2 x0) := by
  intro n
  induction n with
  | zero => intro o v1 v2 x0; exact G_none
  | succ n ih =>
  intro o v1 v2 x0
  rw [f_X6_copyFrom_b107]
  refine G_iload_n 2 dX6_copyFrom_107 rfl rfl ?_
  refine G_aload_n 1 dX6_copyFrom_108 rfl rfl ?_
  refine G_geti (k := 4) K_8 (by decide) rfl rfl rfl gw_316 rfl dX6_copyFrom_109 (fun i6 => ?_)
  refine G_icmp_ge (tgt := 148) dX6_copyFrom_112 (by decide) (fun _ => ?_) (fun _ => ?_)
  · exact G_ret trivial dX6_copyFrom_148 rfl
  · refine G_aload_n 1 dX6_copyFrom_115 rfl rfl ?_
    refine G_iload_n 2 dX6_copyFrom_116 rfl rfl ?_
    refine G_callV (av := [.int v2]) [] (fun q9 => ct_X6_folkAt l N z q9 v2) K_8 rfl yn_X6_folkAt (Nat.le_of_ble_eq_true rfl) (by decide) gw_676 gw_677 gw_678 gw_42 gw_679 rfl (by decide) dX6_copyFrom_117 (fun r8 x7 => ?_)
    refine G_astore_n (i := 3) (l2 := [(0, va_rf (some o)), (1, va_rf v1), (2, .int v2)]) [0, 1, 2] dX6_copyFrom_120 rfl (Nat.le_of_ble_eq_true rfl) rfl (sok_a (by decide) (by decide) (sok_a (by decide) (by decide) (sok_b (by decide) rfl trivial))) ?_
    refine G_aload_n 1 dX6_copyFrom_121 rfl rfl ?_
    refine G_callV (av := []) [] (fun q12 => ct_X6_addFolk l N z q12) K_8 rfl yn_X6_addFolk (Nat.le_of_ble_eq_true rfl) (by decide) gw_773 gw_774 gw_775 gw_42 gw_776 rfl (by decide) dX6_copyFrom_122 (fun r11 x10 => ?_)
    refine G_astore (i := 4) (l2 := [(3, va_rf r8), (0, va_rf (some o)), (1, va_rf v1), (2, .int v2)]) [0, 1, 2, 3] dX6_copyFrom_125 (Nat.le_of_ble_eq_true rfl) rfl (sok_b (by decide) (rf_cat _) (sok_a (by decide) (by decide) (sok_a (by decide) (by decide) (sok_a (by decide) (by decide) trivial)))) ?_
    refine G_aload_n 1 dX6_copyFrom_127 rfl rfl ?_
    refine G_ifnull (tgt := 142) dX6_copyFrom_128 (by decide) (fun _ => ?_) (fun _ => ?_)
    · refine G_lv [2, 3, 4] rfl ?_
      exact g_X6_copyFrom_b142 l N z ih o v1 v2 x10
    · refine G_aload 0 dX6_copyFrom_131 rfl ?_
      refine G_ifnull (tgt := 142) dX6_copyFrom_133 (by decide) (fun _ => ?_) (fun _ => ?_)
      · refine G_lv [2, 3, 4] rfl ?_
        exact g_X6_copyFrom_b142 l N z ih o v1 v2 x10
      · refine G_aload 0 dX6_copyFrom_136 rfl ?_
        refine G_aload_n 1 dX6_copyFrom_138 rfl rfl ?_
        refine G_callV (av := [va_rf r8]) [] (fun q14 => ct_X1_copyFrom l N z q14 r8) K_3 rfl yn_X1_copyFrom (Nat.le_of_ble_eq_true rfl) (by decide) gw_777 gw_778 gw_779 gw_48 gw_780 rfl (by decide) dX6_copyFrom_139 (fun _ x13 => ?_)
        refine G_lv [2, 3, 4] rfl ?_
        exact g_X6_copyFrom_b142 l N z ih o v1 v2 x13

set_option maxRecDepth 100000 in
set_option maxHeartbeats 4000000 in
theorem g_X6_copyFrom_b42 (l : Launch) (N : Nat) (z : Nat → Nat) : ∀ (n : Nat) (o : Nat) (v1 : Option Nat) (v2 : Int32) (x0 : Hp), G l z m_X6_copyFrom okT enV 42 [(0, va_rf (some o)), (1, va_rf v1), (2, .int v2)] [] x0 (f_X6_copyFrom_b42 N z n o v1 v2 x0) := by
  intro n
  induction n with
  | zero => intro o v1 v2 x0; exact G_none
  | succ n ih =>
  intro o v1 v2 x0
  rw [f_X6_copyFrom_b42]
  refine G_iload_n 2 dX6_copyFrom_42 rfl rfl ?_
  refine G_aload_n 1 dX6_copyFrom_43 rfl rfl ?_
  refine G_geti (k := 3) K_8 (by decide) rfl rfl rfl gw_313 rfl dX6_copyFrom_44 (fun i15 => ?_)
  refine G_icmp_ge (tgt := 105) dX6_copyFrom_47 (by decide) (fun _ => ?_) (fun _ => ?_)
  · refine G_iconst (v := (0 : Int32)) dX6_copyFrom_105 rfl ?_
    refine G_istore_n (i := 2) (l2 := [(0, va_rf (some o)), (1, va_rf v1)]) [0, 1] dX6_copyFrom_106 rfl (Nat.le_of_ble_eq_true rfl) rfl (sok_a (by decide) (by decide) (sok_b (by decide) (rf_cat _) trivial)) ?_
    refine G_lv [1, 2, 0] rfl ?_
    exact g_X6_copyFrom_b107 l N z N o v1 (0 : Int32) x0
  · refine G_aload_n 1 dX6_copyFrom_50 rfl rfl ?_
    refine G_iload_n 2 dX6_copyFrom_51 rfl rfl ?_
    refine G_callV (av := [.int v2]) [] (fun q18 => ct_X6_laneAt l N z q18 v2) K_8 rfl yn_X6_laneAt (Nat.le_of_ble_eq_true rfl) (by decide) gw_553 gw_554 gw_555 gw_42 gw_556 rfl (by decide) dX6_copyFrom_52 (fun r17 x16 => ?_)
    refine G_astore_n (i := 3) (l2 := [(0, va_rf (some o)), (1, va_rf v1), (2, .int v2)]) [0, 1, 2] dX6_copyFrom_55 rfl (Nat.le_of_ble_eq_true rfl) rfl (sok_a (by decide) (by decide) (sok_a (by decide) (by decide) (sok_b (by decide) rfl trivial))) ?_
    refine G_aload_n 1 dX6_copyFrom_56 rfl rfl ?_
    refine G_callV (av := []) [] (fun q21 => ct_X6_addLane l N z q21) K_8 rfl yn_X6_addLane (Nat.le_of_ble_eq_true rfl) (by decide) gw_749 gw_750 gw_751 gw_42 gw_752 rfl (by decide) dX6_copyFrom_57 (fun r20 x19 => ?_)
    refine G_astore (i := 4) (l2 := [(3, va_rf r17), (0, va_rf (some o)), (1, va_rf v1), (2, .int v2)]) [0, 1, 2, 3] dX6_copyFrom_60 (Nat.le_of_ble_eq_true rfl) rfl (sok_b (by decide) (rf_cat _) (sok_a (by decide) (by decide) (sok_a (by decide) (by decide) (sok_a (by decide) (by decide) trivial)))) ?_
    refine G_aload_n 1 dX6_copyFrom_62 rfl rfl ?_
    refine G_ifnull (tgt := 99) dX6_copyFrom_63 (by decide) (fun _ => ?_) (fun _ => ?_)
    · refine G_lv [2, 3, 4] rfl ?_
      exact g_X6_copyFrom_b99 l N z ih o v1 v2 x19
    · refine G_aload 0 dX6_copyFrom_66 rfl ?_
      refine G_ifnull (tgt := 99) dX6_copyFrom_68 (by decide) (fun _ => ?_) (fun _ => ?_)
      · refine G_lv [2, 3, 4] rfl ?_
        exact g_X6_copyFrom_b99 l N z ih o v1 v2 x19
      · refine G_aload 0 dX6_copyFrom_71 rfl ?_
        refine G_aload_n 1 dX6_copyFrom_73 rfl rfl ?_
        refine G_aload_n 2 dX6_copyFrom_74 rfl rfl ?_
        refine G_aload_n 1 dX6_copyFrom_75 rfl rfl ?_
        refine G_getr (k := 2) K_4 (by decide) rfl rfl rfl gw_215 rfl dX6_copyFrom_76 (fun r22 => ?_)
        refine G_ifnonnull (tgt := 86) dX6_copyFrom_79 (by decide) (fun _ => ?_) (fun _ => ?_)
        · refine G_iconst (v := (-1 : Int32)) dX6_copyFrom_82 rfl ?_
          refine G_goto (tgt := 93) dX6_copyFrom_83 (by decide) ?_
          refine G_lv [2, 3, 4] rfl ?_
          exact g_X6_copyFrom_b93 l N z ih o v1 v2 (-1 : Int32) (some o) r17 r20 x19
        · refine G_aload_n 1 dX6_copyFrom_86 rfl rfl ?_
          refine G_getr (k := 2) K_4 (by decide) rfl rfl rfl gw_215 rfl dX6_copyFrom_87 (fun r23 => ?_)
          refine G_geti (k := 0) K_4 (by decide) rfl rfl rfl gw_208 rfl dX6_copyFrom_90 (fun i24 => ?_)
          refine G_lv [2, 3, 4] rfl ?_
          exact g_X6_copyFrom_b93 l N z ih o v1 v2 i24 (some o) r17 r20 x19

set_option maxRecDepth 100000 in
set_option maxHeartbeats 4000000 in
theorem g_X6_copyFrom (l : Launch) (N : Nat) (z : Nat → Nat) (o : Nat) (v1 : Option Nat) (x0 : Hp) : G l z m_X6_copyFrom okT enV 0 [(0, va_rf (some o)), (1, va_rf v1)] [] x0 (f_X6_copyFrom N z o v1 x0) := by
  unfold f_X6_copyFrom
  refine G_aload_n 0 dX6_copyFrom_0 rfl rfl ?_
  refine G_aload_n 1 dX6_copyFrom_1 rfl rfl ?_
  refine G_geti (k := 1) K_8 (by decide) rfl rfl rfl gw_308 rfl dX6_copyFrom_2 (fun i25 => ?_)
  refine G_callV (av := [.int i25]) [] (fun q27 => ct_X6_begin l N z q27 i25) K_8 rfl yn_X6_begin (Nat.le_of_ble_eq_true rfl) (by decide) gw_745 gw_746 gw_747 gw_42 gw_748 rfl (by decide) dX6_copyFrom_5 (fun _ x26 => ?_)
  refine G_aload_n 0 dX6_copyFrom_8 rfl rfl ?_
  refine G_aload_n 1 dX6_copyFrom_9 rfl rfl ?_
  refine G_geti (k := 2) K_8 (by decide) rfl rfl rfl gw_310 rfl dX6_copyFrom_10 (fun i28 => ?_)
  refine G_puti (k := 2) K_8 (by decide) rfl rfl rfl gw_310 rfl (Or.inl rfl) nar_int.1 nar_int.2 dX6_copyFrom_13 (fun x29 => ?_)
  refine G_aload_n 0 dX6_copyFrom_16 rfl rfl ?_
  refine G_aload_n 1 dX6_copyFrom_17 rfl rfl ?_
  refine G_geti (k := 8) K_8 (by decide) rfl rfl rfl gw_321 rfl dX6_copyFrom_18 (fun i30 => ?_)
  refine G_puti (k := 8) K_8 (by decide) rfl rfl rfl gw_321 rfl (Or.inl rfl) nar_int.1 nar_int.2 dX6_copyFrom_21 (fun x31 => ?_)
  refine G_aload_n 0 dX6_copyFrom_24 rfl rfl ?_
  refine G_aload_n 1 dX6_copyFrom_25 rfl rfl ?_
  refine G_geti (k := 9) K_8 (by decide) rfl rfl rfl gw_322 rfl dX6_copyFrom_26 (fun i32 => ?_)
  refine G_puti (k := 9) K_8 (by decide) rfl rfl rfl gw_322 rfl (Or.inl rfl) nar_int.1 nar_int.2 dX6_copyFrom_29 (fun x33 => ?_)
  refine G_aload_n 0 dX6_copyFrom_32 rfl rfl ?_
  refine G_aload_n 1 dX6_copyFrom_33 rfl rfl ?_
  refine G_geti (k := 10) K_8 (by decide) rfl rfl rfl gw_323 rfl dX6_copyFrom_34 (fun i34 => ?_)
  refine G_puti (k := 10) K_8 (by decide) rfl rfl rfl gw_323 rfl (Or.inl rfl) nar_int.1 nar_int.2 dX6_copyFrom_37 (fun x35 => ?_)
  refine G_iconst (v := (0 : Int32)) dX6_copyFrom_40 rfl ?_
  refine G_istore_n (i := 2) (l2 := [(0, va_rf (some o)), (1, va_rf v1)]) [0, 1] dX6_copyFrom_41 rfl (Nat.le_of_ble_eq_true rfl) rfl (sok_a (by decide) (by decide) (sok_b (by decide) (rf_cat _) trivial)) ?_
  refine G_lv [1, 2, 0] rfl ?_
  exact g_X6_copyFrom_b42 l N z N o v1 (0 : Int32) x35

theorem yn_X6_copyFrom : Yn yX6_copyFrom 1 := ⟨by decide +kernel, by decide +kernel, by decide +kernel⟩
theorem ct_X6_copyFrom (l : Launch) (N : Nat) (z : Nat → Nat) (o : Nat) (v1 : Option Nat) : Ct l z yX6_copyFrom cX6_copyFrom 5 none 5 enV [.ref o, va_rf v1] (f_X6_copyFrom N z o v1) :=
  Ct_v (fun x => G_lv0 (by simp only [lva_n, lva_i, lva_o, lva_r, lva_j]) (g_X6_copyFrom l N z o v1 x)) (by decide +kernel) (by simp only [lgl_n, lgl_i, lgl_o, lgl_r, lgl_j]; decide)

theorem dX6_takeIn_0 : decode cX6_takeIn 0 = .ok (.iconst 0, 1) := by decide +kernel
theorem dX6_takeIn_1 : decode cX6_takeIn 1 = .ok (.istore_n 3, 1) := by decide +kernel
theorem dX6_takeIn_2 : decode cX6_takeIn 2 = .ok (.iload_n 3, 1) := by decide +kernel
theorem dX6_takeIn_3 : decode cX6_takeIn 3 = .ok (.iload_n 2, 1) := by decide +kernel
theorem dX6_takeIn_4 : decode cX6_takeIn 4 = .ok (.if_icmp .ge 17, 3) := by decide +kernel
theorem dX6_takeIn_7 : decode cX6_takeIn 7 = .ok (.aload_n 1, 1) := by decide +kernel
theorem dX6_takeIn_8 : decode cX6_takeIn 8 = .ok (.aload_n 0, 1) := by decide +kernel
theorem dX6_takeIn_9 : decode cX6_takeIn 9 = .ok (.getfield 42, 3) := by decide +kernel
theorem dX6_takeIn_12 : decode cX6_takeIn 12 = .ok (.invokevirtual 93, 3) := by decide +kernel
theorem dX6_takeIn_15 : decode cX6_takeIn 15 = .ok (.iinc 3 1, 3) := by decide +kernel
theorem dX6_takeIn_18 : decode cX6_takeIn 18 = .ok (.goto (-16), 3) := by decide +kernel
theorem dX6_takeIn_21 : decode cX6_takeIn 21 = .ok (.aload_n 0, 1) := by decide +kernel
theorem dX6_takeIn_22 : decode cX6_takeIn 22 = .ok (.dup, 1) := by decide +kernel
theorem dX6_takeIn_23 : decode cX6_takeIn 23 = .ok (.getfield 54, 3) := by decide +kernel
theorem dX6_takeIn_26 : decode cX6_takeIn 26 = .ok (.iload_n 2, 1) := by decide +kernel
theorem dX6_takeIn_27 : decode cX6_takeIn 27 = .ok (.iadd, 1) := by decide +kernel
theorem dX6_takeIn_28 : decode cX6_takeIn 28 = .ok (.putfield 54, 3) := by decide +kernel
theorem dX6_takeIn_31 : decode cX6_takeIn 31 = .ok (.return_, 1) := by decide +kernel
abbrev m_X6_takeIn : Mt := (cX6_takeIn, RX6, "takeIn", 4, .return_, 4)
def f_X6_takeIn_b2 (N : Nat) (z : Nat → Nat) : Nat → Nat → Option Nat → Int32 → Int32 → Hp → Option (Unit × Hp)
  | 0, _, _, _, _, _ => none
  | n + 1, o, v1, v2, v3, x0 => if v2 ≤ v3 then (geti (some o) x0 9 169 fun i1 =>
  puti (some o) x0 9 169 (i1 + v2) fun x2 =>
  some ((), x2)) else (geti (some o) x0 9 161 fun i3 =>
  obj v1 x0 5 fun q5 => bnd (f_X2_takePail N z q5 i3 x0) fun _ x4 =>
  f_X6_takeIn_b2 N z n o v1 v2 (v3 + (1 : Int32)) x4)
def f_X6_takeIn (N : Nat) (z : Nat → Nat) (o : Nat) (v1 : Option Nat) (v2 : Int32) (x0 : Hp) : Option (Unit × Hp) :=
  f_X6_takeIn_b2 N z N o v1 v2 (0 : Int32) x0
set_option maxRecDepth 100000 in
set_option maxHeartbeats 4000000 in
theorem g_X6_takeIn_b2 (l : Launch) (N : Nat) (z : Nat → Nat) : ∀ (n : Nat) (o : Nat) (v1 : Option Nat) (v2 : Int32) (v3 : Int32) (x0 : Hp), G l z m_X6_takeIn okT enV 2 [(0, va_rf (some o)), (1, va_rf v1), (2, .int v2), (3, .int v3)] [] x0 (f_X6_takeIn_b2 N z n o v1 v2 v3 x0) := by
  intro n
  induction n with
  | zero => intro o v1 v2 v3 x0; exact G_none
  | succ n ih =>
  intro o v1 v2 v3 x0
  rw [f_X6_takeIn_b2]
  refine G_iload_n 3 dX6_takeIn_2 rfl rfl ?_
  refine G_iload_n 2 dX6_takeIn_3 rfl rfl ?_
  refine G_icmp_ge (tgt := 21) dX6_takeIn_4 (by decide) (fun _ => ?_) (fun _ => ?_)
  · refine G_aload_n 0 dX6_takeIn_21 rfl rfl ?_
    refine G_dup dX6_takeIn_22 (rf_cat _) ?_
    refine G_geti (k := 9) K_8 (by decide) rfl rfl rfl gw_322 rfl dX6_takeIn_23 (fun i1 => ?_)
    refine G_iload_n 2 dX6_takeIn_26 rfl rfl ?_
    refine G_iadd dX6_takeIn_27 ?_
    refine G_puti (k := 9) K_8 (by decide) rfl rfl rfl gw_322 rfl (Or.inl rfl) nar_int.1 nar_int.2 dX6_takeIn_28 (fun x2 => ?_)
    exact G_ret trivial dX6_takeIn_31 rfl
  · refine G_aload_n 1 dX6_takeIn_7 rfl rfl ?_
    refine G_aload_n 0 dX6_takeIn_8 rfl rfl ?_
    refine G_geti (k := 1) K_8 (by decide) rfl rfl rfl gw_308 rfl dX6_takeIn_9 (fun i3 => ?_)
    refine G_callV (av := [.int i3]) [] (fun q5 => ct_X2_takePail l N z q5 i3) K_4 rfl yn_X2_takePail (Nat.le_of_ble_eq_true rfl) (by decide) gw_688 gw_689 gw_690 gw_46 gw_691 rfl (by decide) dX6_takeIn_12 (fun _ x4 => ?_)
    refine G_iinc (i := 3) (l2 := [(0, va_rf (some o)), (1, va_rf v1), (2, .int v2)]) 3 [0, 1, 2] dX6_takeIn_15 rfl rfl (Nat.le_of_ble_eq_true rfl) rfl (sok_a (by decide) (by decide) (sok_a (by decide) (by decide) (sok_b (by decide) rfl trivial))) ?_
    refine G_goto (tgt := 2) dX6_takeIn_18 (by decide) ?_
    refine G_lv [1, 2, 3, 0] rfl ?_
    exact ih o v1 v2 (v3 + (1 : Int32)) x4

set_option maxRecDepth 100000 in
set_option maxHeartbeats 4000000 in
theorem g_X6_takeIn (l : Launch) (N : Nat) (z : Nat → Nat) (o : Nat) (v1 : Option Nat) (v2 : Int32) (x0 : Hp) : G l z m_X6_takeIn okT enV 0 [(0, va_rf (some o)), (1, va_rf v1), (2, .int v2)] [] x0 (f_X6_takeIn N z o v1 v2 x0) := by
  unfold f_X6_takeIn
  refine G_iconst (v := (0 : Int32)) dX6_takeIn_0 rfl ?_
  refine G_istore_n (i := 3) (l2 := [(0, va_rf (some o)), (1, va_rf v1), (2, .int v2)]) [0, 1, 2] dX6_takeIn_1 rfl (Nat.le_of_ble_eq_true rfl) rfl (sok_a (by decide) (by decide) (sok_a (by decide) (by decide) (sok_b (by decide) rfl trivial))) ?_
  refine G_lv [1, 2, 3, 0] rfl ?_
  exact g_X6_takeIn_b2 l N z N o v1 v2 (0 : Int32) x0

theorem yn_X6_takeIn : Yn yX6_takeIn 2 := ⟨by decide +kernel, by decide +kernel, by decide +kernel⟩
theorem ct_X6_takeIn (l : Launch) (N : Nat) (z : Nat → Nat) (o : Nat) (v1 : Option Nat) (v2 : Int32) : Ct l z yX6_takeIn cX6_takeIn 4 none 4 enV [.ref o, va_rf v1, .int v2] (f_X6_takeIn N z o v1 v2) :=
  Ct_v (fun x => G_lv0 (by simp only [lva_n, lva_i, lva_o, lva_r, lva_j]) (g_X6_takeIn l N z o v1 v2 x)) (by decide +kernel) (by simp only [lgl_n, lgl_i, lgl_o, lgl_r, lgl_j]; decide)

theorem dX6_combined_0 : decode cX6_combined 0 = .ok (.iload_n 0, 1) := by decide +kernel
theorem dX6_combined_1 : decode cX6_combined 1 = .ok (.tableswitch 242 30 62 #[238, 242, 171, 177, 242, 242, 216, 227, 242, 242, 242, 242, 155, 147, 242, 151, 242, 159, 242, 242, 242, 242, 242, 242, 242, 242, 242, 242, 242, 242, 183, 205, 194], 147) := by decide +kernel
theorem dX6_combined_148 : decode cX6_combined 148 = .ok (.iload_n 1, 1) := by decide +kernel
theorem dX6_combined_149 : decode cX6_combined 149 = .ok (.iload_n 2, 1) := by decide +kernel
theorem dX6_combined_150 : decode cX6_combined 150 = .ok (.iadd, 1) := by decide +kernel
theorem dX6_combined_151 : decode cX6_combined 151 = .ok (.ireturn, 1) := by decide +kernel
theorem dX6_combined_152 : decode cX6_combined 152 = .ok (.iload_n 1, 1) := by decide +kernel
theorem dX6_combined_153 : decode cX6_combined 153 = .ok (.iload_n 2, 1) := by decide +kernel
theorem dX6_combined_154 : decode cX6_combined 154 = .ok (.isub, 1) := by decide +kernel
theorem dX6_combined_155 : decode cX6_combined 155 = .ok (.ireturn, 1) := by decide +kernel
theorem dX6_combined_156 : decode cX6_combined 156 = .ok (.iload_n 1, 1) := by decide +kernel
theorem dX6_combined_157 : decode cX6_combined 157 = .ok (.iload_n 2, 1) := by decide +kernel
theorem dX6_combined_158 : decode cX6_combined 158 = .ok (.imul, 1) := by decide +kernel
theorem dX6_combined_159 : decode cX6_combined 159 = .ok (.ireturn, 1) := by decide +kernel
theorem dX6_combined_160 : decode cX6_combined 160 = .ok (.iload_n 2, 1) := by decide +kernel
theorem dX6_combined_161 : decode cX6_combined 161 = .ok (.ifCond .ne 7, 3) := by decide +kernel
theorem dX6_combined_164 : decode cX6_combined 164 = .ok (.iconst 0, 1) := by decide +kernel
theorem dX6_combined_165 : decode cX6_combined 165 = .ok (.goto 6, 3) := by decide +kernel
theorem dX6_combined_168 : decode cX6_combined 168 = .ok (.iload_n 1, 1) := by decide +kernel
theorem dX6_combined_169 : decode cX6_combined 169 = .ok (.iload_n 2, 1) := by decide +kernel
theorem dX6_combined_170 : decode cX6_combined 170 = .ok (.idiv, 1) := by decide +kernel
theorem dX6_combined_171 : decode cX6_combined 171 = .ok (.ireturn, 1) := by decide +kernel
theorem dX6_combined_172 : decode cX6_combined 172 = .ok (.iload_n 1, 1) := by decide +kernel
theorem dX6_combined_173 : decode cX6_combined 173 = .ok (.iload_n 2, 1) := by decide +kernel
theorem dX6_combined_174 : decode cX6_combined 174 = .ok (.invokestatic 150, 3) := by decide +kernel
theorem dX6_combined_177 : decode cX6_combined 177 = .ok (.ireturn, 1) := by decide +kernel
theorem dX6_combined_178 : decode cX6_combined 178 = .ok (.iload_n 1, 1) := by decide +kernel
theorem dX6_combined_179 : decode cX6_combined 179 = .ok (.iload_n 2, 1) := by decide +kernel
theorem dX6_combined_180 : decode cX6_combined 180 = .ok (.invokestatic 155, 3) := by decide +kernel
theorem dX6_combined_183 : decode cX6_combined 183 = .ok (.ireturn, 1) := by decide +kernel
theorem dX6_combined_184 : decode cX6_combined 184 = .ok (.iload_n 1, 1) := by decide +kernel
theorem dX6_combined_185 : decode cX6_combined 185 = .ok (.iload_n 2, 1) := by decide +kernel
theorem dX6_combined_186 : decode cX6_combined 186 = .ok (.if_icmp .ge 7, 3) := by decide +kernel
theorem dX6_combined_189 : decode cX6_combined 189 = .ok (.iconst 1, 1) := by decide +kernel
theorem dX6_combined_190 : decode cX6_combined 190 = .ok (.goto 4, 3) := by decide +kernel
theorem dX6_combined_193 : decode cX6_combined 193 = .ok (.iconst 0, 1) := by decide +kernel
theorem dX6_combined_194 : decode cX6_combined 194 = .ok (.ireturn, 1) := by decide +kernel
theorem dX6_combined_195 : decode cX6_combined 195 = .ok (.iload_n 1, 1) := by decide +kernel
theorem dX6_combined_196 : decode cX6_combined 196 = .ok (.iload_n 2, 1) := by decide +kernel
theorem dX6_combined_197 : decode cX6_combined 197 = .ok (.if_icmp .le 7, 3) := by decide +kernel
theorem dX6_combined_200 : decode cX6_combined 200 = .ok (.iconst 1, 1) := by decide +kernel
theorem dX6_combined_201 : decode cX6_combined 201 = .ok (.goto 4, 3) := by decide +kernel
theorem dX6_combined_204 : decode cX6_combined 204 = .ok (.iconst 0, 1) := by decide +kernel
theorem dX6_combined_205 : decode cX6_combined 205 = .ok (.ireturn, 1) := by decide +kernel
theorem dX6_combined_206 : decode cX6_combined 206 = .ok (.iload_n 1, 1) := by decide +kernel
theorem dX6_combined_207 : decode cX6_combined 207 = .ok (.iload_n 2, 1) := by decide +kernel
theorem dX6_combined_208 : decode cX6_combined 208 = .ok (.if_icmp .ne 7, 3) := by decide +kernel
theorem dX6_combined_211 : decode cX6_combined 211 = .ok (.iconst 1, 1) := by decide +kernel
theorem dX6_combined_212 : decode cX6_combined 212 = .ok (.goto 4, 3) := by decide +kernel
theorem dX6_combined_215 : decode cX6_combined 215 = .ok (.iconst 0, 1) := by decide +kernel
theorem dX6_combined_216 : decode cX6_combined 216 = .ok (.ireturn, 1) := by decide +kernel
theorem dX6_combined_217 : decode cX6_combined 217 = .ok (.iload_n 1, 1) := by decide +kernel
theorem dX6_combined_218 : decode cX6_combined 218 = .ok (.iload_n 2, 1) := by decide +kernel
theorem dX6_combined_219 : decode cX6_combined 219 = .ok (.if_icmp .gt 7, 3) := by decide +kernel
theorem dX6_combined_222 : decode cX6_combined 222 = .ok (.iconst 1, 1) := by decide +kernel
theorem dX6_combined_223 : decode cX6_combined 223 = .ok (.goto 4, 3) := by decide +kernel
theorem dX6_combined_226 : decode cX6_combined 226 = .ok (.iconst 0, 1) := by decide +kernel
theorem dX6_combined_227 : decode cX6_combined 227 = .ok (.ireturn, 1) := by decide +kernel
theorem dX6_combined_228 : decode cX6_combined 228 = .ok (.iload_n 1, 1) := by decide +kernel
theorem dX6_combined_229 : decode cX6_combined 229 = .ok (.iload_n 2, 1) := by decide +kernel
theorem dX6_combined_230 : decode cX6_combined 230 = .ok (.if_icmp .lt 7, 3) := by decide +kernel
theorem dX6_combined_233 : decode cX6_combined 233 = .ok (.iconst 1, 1) := by decide +kernel
theorem dX6_combined_234 : decode cX6_combined 234 = .ok (.goto 4, 3) := by decide +kernel
theorem dX6_combined_237 : decode cX6_combined 237 = .ok (.iconst 0, 1) := by decide +kernel
theorem dX6_combined_238 : decode cX6_combined 238 = .ok (.ireturn, 1) := by decide +kernel
theorem dX6_combined_239 : decode cX6_combined 239 = .ok (.iload_n 1, 1) := by decide +kernel
theorem dX6_combined_240 : decode cX6_combined 240 = .ok (.iload_n 2, 1) := by decide +kernel
theorem dX6_combined_241 : decode cX6_combined 241 = .ok (.iand, 1) := by decide +kernel
theorem dX6_combined_242 : decode cX6_combined 242 = .ok (.ireturn, 1) := by decide +kernel
theorem dX6_combined_243 : decode cX6_combined 243 = .ok (.iload_n 1, 1) := by decide +kernel
theorem dX6_combined_244 : decode cX6_combined 244 = .ok (.iload_n 2, 1) := by decide +kernel
theorem dX6_combined_245 : decode cX6_combined 245 = .ok (.ior, 1) := by decide +kernel
theorem dX6_combined_246 : decode cX6_combined 246 = .ok (.ireturn, 1) := by decide +kernel
abbrev m_X6_combined : Mt := (cX6_combined, RX6, "combined", 3, .ireturn, 2)
def f_X6_combined (N : Nat) (z : Nat → Nat) (v0 : Int32) (v1 : Int32) (v2 : Int32) (x0 : Hp) : Option (Int32 × Hp) :=
  if v0 = (30 : Int32) then (some (v1 &&& v2, x0)) else (if v0 = (31 : Int32) then (some (v1 ||| v2, x0)) else (if v0 = (32 : Int32) then (some ((if v2 < v1 then v2 else v1), x0)) else (if v0 = (33 : Int32) then (some ((if v1 < v2 then v2 else v1), x0)) else (if v0 = (34 : Int32) then (some (v1 ||| v2, x0)) else (if v0 = (35 : Int32) then (some (v1 ||| v2, x0)) else (if v0 = (36 : Int32) then (if v2 < v1 then (some ((0 : Int32), x0)) else (some ((1 : Int32), x0))) else (if v0 = (37 : Int32) then (if v1 < v2 then (some ((0 : Int32), x0)) else (some ((1 : Int32), x0))) else (if v0 = (38 : Int32) then (some (v1 ||| v2, x0)) else (if v0 = (39 : Int32) then (some (v1 ||| v2, x0)) else (if v0 = (40 : Int32) then (some (v1 ||| v2, x0)) else (if v0 = (41 : Int32) then (some (v1 ||| v2, x0)) else (if v0 = (42 : Int32) then (some (v1 * v2, x0)) else (if v0 = (43 : Int32) then (some (v1 + v2, x0)) else (if v0 = (44 : Int32) then (some (v1 ||| v2, x0)) else (if v0 = (45 : Int32) then (some (v1 - v2, x0)) else (if v0 = (46 : Int32) then (some (v1 ||| v2, x0)) else (if v0 = (47 : Int32) then (if v2 = 0 then (some ((0 : Int32), x0)) else (nz v2 <|
  some (v1 / v2, x0))) else (if v0 = (48 : Int32) then (some (v1 ||| v2, x0)) else (if v0 = (49 : Int32) then (some (v1 ||| v2, x0)) else (if v0 = (50 : Int32) then (some (v1 ||| v2, x0)) else (if v0 = (51 : Int32) then (some (v1 ||| v2, x0)) else (if v0 = (52 : Int32) then (some (v1 ||| v2, x0)) else (if v0 = (53 : Int32) then (some (v1 ||| v2, x0)) else (if v0 = (54 : Int32) then (some (v1 ||| v2, x0)) else (if v0 = (55 : Int32) then (some (v1 ||| v2, x0)) else (if v0 = (56 : Int32) then (some (v1 ||| v2, x0)) else (if v0 = (57 : Int32) then (some (v1 ||| v2, x0)) else (if v0 = (58 : Int32) then (some (v1 ||| v2, x0)) else (if v0 = (59 : Int32) then (some (v1 ||| v2, x0)) else (if v0 = (60 : Int32) then (if v2 ≤ v1 then (some ((0 : Int32), x0)) else (some ((1 : Int32), x0))) else (if v0 = (61 : Int32) then (if v1 = v2 then (some ((1 : Int32), x0)) else (some ((0 : Int32), x0))) else (if v0 = (62 : Int32) then (if v1 ≤ v2 then (some ((0 : Int32), x0)) else (some ((1 : Int32), x0))) else (some (v1 ||| v2, x0))))))))))))))))))))))))))))))))))
set_option maxRecDepth 100000 in
set_option maxHeartbeats 4000000 in
theorem g_X6_combined (l : Launch) (N : Nat) (z : Nat → Nat) (v0 : Int32) (v1 : Int32) (v2 : Int32) (x0 : Hp) : G l z m_X6_combined okT enI 0 [(0, .int v0), (1, .int v1), (2, .int v2)] [] x0 (f_X6_combined N z v0 v1 v2 x0) := by
  unfold f_X6_combined
  refine G_iload_n 0 dX6_combined_0 rfl rfl ?_
  refine G_if (fun hs1 => ?_) (fun hs1 => ?_)
  · refine G_tableIn (tgt := 239) dX6_combined_1 (by rw [hs1]; decide) (by rw [hs1]; decide) (by rw [hs1]; rfl) (by decide) ?_
    refine G_iload_n 1 dX6_combined_239 rfl rfl ?_
    refine G_iload_n 2 dX6_combined_240 rfl rfl ?_
    refine G_iand dX6_combined_241 ?_
    exact G_ret trivial dX6_combined_242 rfl
  refine G_if (fun hs2 => ?_) (fun hs2 => ?_)
  · refine G_tableIn (tgt := 243) dX6_combined_1 (by rw [hs2]; decide) (by rw [hs2]; decide) (by rw [hs2]; rfl) (by decide) ?_
    refine G_iload_n 1 dX6_combined_243 rfl rfl ?_
    refine G_iload_n 2 dX6_combined_244 rfl rfl ?_
    refine G_ior dX6_combined_245 ?_
    exact G_ret trivial dX6_combined_246 rfl
  refine G_if (fun hs3 => ?_) (fun hs3 => ?_)
  · refine G_tableIn (tgt := 172) dX6_combined_1 (by rw [hs3]; decide) (by rw [hs3]; decide) (by rw [hs3]; rfl) (by decide) ?_
    refine G_iload_n 1 dX6_combined_172 rfl rfl ?_
    refine G_iload_n 2 dX6_combined_173 rfl rfl ?_
    refine G_mmin (st := []) gw_669 gw_670 gw_59 gw_671 (by decide) (by decide) dX6_combined_174 ?_
    exact G_ret trivial dX6_combined_177 rfl
  refine G_if (fun hs4 => ?_) (fun hs4 => ?_)
  · refine G_tableIn (tgt := 178) dX6_combined_1 (by rw [hs4]; decide) (by rw [hs4]; decide) (by rw [hs4]; rfl) (by decide) ?_
    refine G_iload_n 1 dX6_combined_178 rfl rfl ?_
    refine G_iload_n 2 dX6_combined_179 rfl rfl ?_
    refine G_mmax (st := []) gw_643 gw_644 gw_59 gw_645 (by decide) (by decide) dX6_combined_180 ?_
    exact G_ret trivial dX6_combined_183 rfl
  refine G_if (fun hs5 => ?_) (fun hs5 => ?_)
  · refine G_tableIn (tgt := 243) dX6_combined_1 (by rw [hs5]; decide) (by rw [hs5]; decide) (by rw [hs5]; rfl) (by decide) ?_
    refine G_iload_n 1 dX6_combined_243 rfl rfl ?_
    refine G_iload_n 2 dX6_combined_244 rfl rfl ?_
    refine G_ior dX6_combined_245 ?_
    exact G_ret trivial dX6_combined_246 rfl
  refine G_if (fun hs6 => ?_) (fun hs6 => ?_)
  · refine G_tableIn (tgt := 243) dX6_combined_1 (by rw [hs6]; decide) (by rw [hs6]; decide) (by rw [hs6]; rfl) (by decide) ?_
    refine G_iload_n 1 dX6_combined_243 rfl rfl ?_
    refine G_iload_n 2 dX6_combined_244 rfl rfl ?_
    refine G_ior dX6_combined_245 ?_
    exact G_ret trivial dX6_combined_246 rfl
  refine G_if (fun hs7 => ?_) (fun hs7 => ?_)
  · refine G_tableIn (tgt := 217) dX6_combined_1 (by rw [hs7]; decide) (by rw [hs7]; decide) (by rw [hs7]; rfl) (by decide) ?_
    refine G_iload_n 1 dX6_combined_217 rfl rfl ?_
    refine G_iload_n 2 dX6_combined_218 rfl rfl ?_
    refine G_icmp_gt (tgt := 226) dX6_combined_219 (by decide) (fun _ => ?_) (fun _ => ?_)
    · refine G_iconst (v := (0 : Int32)) dX6_combined_226 rfl ?_
      exact G_ret trivial dX6_combined_227 rfl
    · refine G_iconst (v := (1 : Int32)) dX6_combined_222 rfl ?_
      refine G_goto (tgt := 227) dX6_combined_223 (by decide) ?_
      exact G_ret trivial dX6_combined_227 rfl
  refine G_if (fun hs8 => ?_) (fun hs8 => ?_)
  · refine G_tableIn (tgt := 228) dX6_combined_1 (by rw [hs8]; decide) (by rw [hs8]; decide) (by rw [hs8]; rfl) (by decide) ?_
    refine G_iload_n 1 dX6_combined_228 rfl rfl ?_
    refine G_iload_n 2 dX6_combined_229 rfl rfl ?_
    refine G_icmp_lt (tgt := 237) dX6_combined_230 (by decide) (fun _ => ?_) (fun _ => ?_)
    · refine G_iconst (v := (0 : Int32)) dX6_combined_237 rfl ?_
      exact G_ret trivial dX6_combined_238 rfl
    · refine G_iconst (v := (1 : Int32)) dX6_combined_233 rfl ?_
      refine G_goto (tgt := 238) dX6_combined_234 (by decide) ?_
      exact G_ret trivial dX6_combined_238 rfl
  refine G_if (fun hs9 => ?_) (fun hs9 => ?_)
  · refine G_tableIn (tgt := 243) dX6_combined_1 (by rw [hs9]; decide) (by rw [hs9]; decide) (by rw [hs9]; rfl) (by decide) ?_
    refine G_iload_n 1 dX6_combined_243 rfl rfl ?_
    refine G_iload_n 2 dX6_combined_244 rfl rfl ?_
    refine G_ior dX6_combined_245 ?_
    exact G_ret trivial dX6_combined_246 rfl
  refine G_if (fun hs10 => ?_) (fun hs10 => ?_)
  · refine G_tableIn (tgt := 243) dX6_combined_1 (by rw [hs10]; decide) (by rw [hs10]; decide) (by rw [hs10]; rfl) (by decide) ?_
    refine G_iload_n 1 dX6_combined_243 rfl rfl ?_
    refine G_iload_n 2 dX6_combined_244 rfl rfl ?_
    refine G_ior dX6_combined_245 ?_
    exact G_ret trivial dX6_combined_246 rfl
  refine G_if (fun hs11 => ?_) (fun hs11 => ?_)
  · refine G_tableIn (tgt := 243) dX6_combined_1 (by rw [hs11]; decide) (by rw [hs11]; decide) (by rw [hs11]; rfl) (by decide) ?_
    refine G_iload_n 1 dX6_combined_243 rfl rfl ?_
    refine G_iload_n 2 dX6_combined_244 rfl rfl ?_
    refine G_ior dX6_combined_245 ?_
    exact G_ret trivial dX6_combined_246 rfl
  refine G_if (fun hs12 => ?_) (fun hs12 => ?_)
  · refine G_tableIn (tgt := 243) dX6_combined_1 (by rw [hs12]; decide) (by rw [hs12]; decide) (by rw [hs12]; rfl) (by decide) ?_
    refine G_iload_n 1 dX6_combined_243 rfl rfl ?_
    refine G_iload_n 2 dX6_combined_244 rfl rfl ?_
    refine G_ior dX6_combined_245 ?_
    exact G_ret trivial dX6_combined_246 rfl
  refine G_if (fun hs13 => ?_) (fun hs13 => ?_)
  · refine G_tableIn (tgt := 156) dX6_combined_1 (by rw [hs13]; decide) (by rw [hs13]; decide) (by rw [hs13]; rfl) (by decide) ?_
    refine G_iload_n 1 dX6_combined_156 rfl rfl ?_
    refine G_iload_n 2 dX6_combined_157 rfl rfl ?_
    refine G_imul dX6_combined_158 ?_
    exact G_ret trivial dX6_combined_159 rfl
  refine G_if (fun hs14 => ?_) (fun hs14 => ?_)
  · refine G_tableIn (tgt := 148) dX6_combined_1 (by rw [hs14]; decide) (by rw [hs14]; decide) (by rw [hs14]; rfl) (by decide) ?_
    refine G_iload_n 1 dX6_combined_148 rfl rfl ?_
    refine G_iload_n 2 dX6_combined_149 rfl rfl ?_
    refine G_iadd dX6_combined_150 ?_
    exact G_ret trivial dX6_combined_151 rfl
  refine G_if (fun hs15 => ?_) (fun hs15 => ?_)
  · refine G_tableIn (tgt := 243) dX6_combined_1 (by rw [hs15]; decide) (by rw [hs15]; decide) (by rw [hs15]; rfl) (by decide) ?_
    refine G_iload_n 1 dX6_combined_243 rfl rfl ?_
    refine G_iload_n 2 dX6_combined_244 rfl rfl ?_
    refine G_ior dX6_combined_245 ?_
    exact G_ret trivial dX6_combined_246 rfl
  refine G_if (fun hs16 => ?_) (fun hs16 => ?_)
  · refine G_tableIn (tgt := 152) dX6_combined_1 (by rw [hs16]; decide) (by rw [hs16]; decide) (by rw [hs16]; rfl) (by decide) ?_
    refine G_iload_n 1 dX6_combined_152 rfl rfl ?_
    refine G_iload_n 2 dX6_combined_153 rfl rfl ?_
    refine G_isub dX6_combined_154 ?_
    exact G_ret trivial dX6_combined_155 rfl
  refine G_if (fun hs17 => ?_) (fun hs17 => ?_)
  · refine G_tableIn (tgt := 243) dX6_combined_1 (by rw [hs17]; decide) (by rw [hs17]; decide) (by rw [hs17]; rfl) (by decide) ?_
    refine G_iload_n 1 dX6_combined_243 rfl rfl ?_
    refine G_iload_n 2 dX6_combined_244 rfl rfl ?_
    refine G_ior dX6_combined_245 ?_
    exact G_ret trivial dX6_combined_246 rfl
  refine G_if (fun hs18 => ?_) (fun hs18 => ?_)
  · refine G_tableIn (tgt := 160) dX6_combined_1 (by rw [hs18]; decide) (by rw [hs18]; decide) (by rw [hs18]; rfl) (by decide) ?_
    refine G_iload_n 2 dX6_combined_160 rfl rfl ?_
    refine G_if_ne (tgt := 168) dX6_combined_161 (by decide) (fun _ => ?_) (fun _ => ?_)
    · refine G_iconst (v := (0 : Int32)) dX6_combined_164 rfl ?_
      refine G_goto (tgt := 171) dX6_combined_165 (by decide) ?_
      exact G_ret trivial dX6_combined_171 rfl
    · refine G_iload_n 1 dX6_combined_168 rfl rfl ?_
      refine G_iload_n 2 dX6_combined_169 rfl rfl ?_
      refine G_idiv dX6_combined_170 ?_
      exact G_ret trivial dX6_combined_171 rfl
  refine G_if (fun hs19 => ?_) (fun hs19 => ?_)
  · refine G_tableIn (tgt := 243) dX6_combined_1 (by rw [hs19]; decide) (by rw [hs19]; decide) (by rw [hs19]; rfl) (by decide) ?_
    refine G_iload_n 1 dX6_combined_243 rfl rfl ?_
    refine G_iload_n 2 dX6_combined_244 rfl rfl ?_
    refine G_ior dX6_combined_245 ?_
    exact G_ret trivial dX6_combined_246 rfl
  refine G_if (fun hs20 => ?_) (fun hs20 => ?_)
  · refine G_tableIn (tgt := 243) dX6_combined_1 (by rw [hs20]; decide) (by rw [hs20]; decide) (by rw [hs20]; rfl) (by decide) ?_
    refine G_iload_n 1 dX6_combined_243 rfl rfl ?_
    refine G_iload_n 2 dX6_combined_244 rfl rfl ?_
    refine G_ior dX6_combined_245 ?_
    exact G_ret trivial dX6_combined_246 rfl
  refine G_if (fun hs21 => ?_) (fun hs21 => ?_)
  · refine G_tableIn (tgt := 243) dX6_combined_1 (by rw [hs21]; decide) (by rw [hs21]; decide) (by rw [hs21]; rfl) (by decide) ?_
    refine G_iload_n 1 dX6_combined_243 rfl rfl ?_
    refine G_iload_n 2 dX6_combined_244 rfl rfl ?_
    refine G_ior dX6_combined_245 ?_
    exact G_ret trivial dX6_combined_246 rfl
  refine G_if (fun hs22 => ?_) (fun hs22 => ?_)
  · refine G_tableIn (tgt := 243) dX6_combined_1 (by rw [hs22]; decide) (by rw [hs22]; decide) (by rw [hs22]; rfl) (by decide) ?_
    refine G_iload_n 1 dX6_combined_243 rfl rfl ?_
    refine G_iload_n 2 dX6_combined_244 rfl rfl ?_
    refine G_ior dX6_combined_245 ?_
    exact G_ret trivial dX6_combined_246 rfl
  refine G_if (fun hs23 => ?_) (fun hs23 => ?_)
  · refine G_tableIn (tgt := 243) dX6_combined_1 (by rw [hs23]; decide) (by rw [hs23]; decide) (by rw [hs23]; rfl) (by decide) ?_
    refine G_iload_n 1 dX6_combined_243 rfl rfl ?_
    refine G_iload_n 2 dX6_combined_244 rfl rfl ?_
    refine G_ior dX6_combined_245 ?_
    exact G_ret trivial dX6_combined_246 rfl
  refine G_if (fun hs24 => ?_) (fun hs24 => ?_)
  · refine G_tableIn (tgt := 243) dX6_combined_1 (by rw [hs24]; decide) (by rw [hs24]; decide) (by rw [hs24]; rfl) (by decide) ?_
    refine G_iload_n 1 dX6_combined_243 rfl rfl ?_
    refine G_iload_n 2 dX6_combined_244 rfl rfl ?_
    refine G_ior dX6_combined_245 ?_
    exact G_ret trivial dX6_combined_246 rfl
  refine G_if (fun hs25 => ?_) (fun hs25 => ?_)
  · refine G_tableIn (tgt := 243) dX6_combined_1 (by rw [hs25]; decide) (by rw [hs25]; decide) (by rw [hs25]; rfl) (by decide) ?_
    refine G_iload_n 1 dX6_combined_243 rfl rfl ?_
    refine G_iload_n 2 dX6_combined_244 rfl rfl ?_
    refine G_ior dX6_combined_245 ?_
    exact G_ret trivial dX6_combined_246 rfl
  refine G_if (fun hs26 => ?_) (fun hs26 => ?_)
  · refine G_tableIn (tgt := 243) dX6_combined_1 (by rw [hs26]; decide) (by rw [hs26]; decide) (by rw [hs26]; rfl) (by decide) ?_
    refine G_iload_n 1 dX6_combined_243 rfl rfl ?_
    refine G_iload_n 2 dX6_combined_244 rfl rfl ?_
    refine G_ior dX6_combined_245 ?_
    exact G_ret trivial dX6_combined_246 rfl
  refine G_if (fun hs27 => ?_) (fun hs27 => ?_)
  · refine G_tableIn (tgt := 243) dX6_combined_1 (by rw [hs27]; decide) (by rw [hs27]; decide) (by rw [hs27]; rfl) (by decide) ?_
    refine G_iload_n 1 dX6_combined_243 rfl rfl ?_
    refine G_iload_n 2 dX6_combined_244 rfl rfl ?_
    refine G_ior dX6_combined_245 ?_
    exact G_ret trivial dX6_combined_246 rfl
  refine G_if (fun hs28 => ?_) (fun hs28 => ?_)
  · refine G_tableIn (tgt := 243) dX6_combined_1 (by rw [hs28]; decide) (by rw [hs28]; decide) (by rw [hs28]; rfl) (by decide) ?_
    refine G_iload_n 1 dX6_combined_243 rfl rfl ?_
    refine G_iload_n 2 dX6_combined_244 rfl rfl ?_
    refine G_ior dX6_combined_245 ?_
    exact G_ret trivial dX6_combined_246 rfl
  refine G_if (fun hs29 => ?_) (fun hs29 => ?_)
  · refine G_tableIn (tgt := 243) dX6_combined_1 (by rw [hs29]; decide) (by rw [hs29]; decide) (by rw [hs29]; rfl) (by decide) ?_
    refine G_iload_n 1 dX6_combined_243 rfl rfl ?_
    refine G_iload_n 2 dX6_combined_244 rfl rfl ?_
    refine G_ior dX6_combined_245 ?_
    exact G_ret trivial dX6_combined_246 rfl
  refine G_if (fun hs30 => ?_) (fun hs30 => ?_)
  · refine G_tableIn (tgt := 243) dX6_combined_1 (by rw [hs30]; decide) (by rw [hs30]; decide) (by rw [hs30]; rfl) (by decide) ?_
    refine G_iload_n 1 dX6_combined_243 rfl rfl ?_
    refine G_iload_n 2 dX6_combined_244 rfl rfl ?_
    refine G_ior dX6_combined_245 ?_
    exact G_ret trivial dX6_combined_246 rfl
  refine G_if (fun hs31 => ?_) (fun hs31 => ?_)
  · refine G_tableIn (tgt := 184) dX6_combined_1 (by rw [hs31]; decide) (by rw [hs31]; decide) (by rw [hs31]; rfl) (by decide) ?_
    refine G_iload_n 1 dX6_combined_184 rfl rfl ?_
    refine G_iload_n 2 dX6_combined_185 rfl rfl ?_
    refine G_icmp_ge (tgt := 193) dX6_combined_186 (by decide) (fun _ => ?_) (fun _ => ?_)
    · refine G_iconst (v := (0 : Int32)) dX6_combined_193 rfl ?_
      exact G_ret trivial dX6_combined_194 rfl
    · refine G_iconst (v := (1 : Int32)) dX6_combined_189 rfl ?_
      refine G_goto (tgt := 194) dX6_combined_190 (by decide) ?_
      exact G_ret trivial dX6_combined_194 rfl
  refine G_if (fun hs32 => ?_) (fun hs32 => ?_)
  · refine G_tableIn (tgt := 206) dX6_combined_1 (by rw [hs32]; decide) (by rw [hs32]; decide) (by rw [hs32]; rfl) (by decide) ?_
    refine G_iload_n 1 dX6_combined_206 rfl rfl ?_
    refine G_iload_n 2 dX6_combined_207 rfl rfl ?_
    refine G_icmp_ne (tgt := 215) dX6_combined_208 (by decide) (fun _ => ?_) (fun _ => ?_)
    · refine G_iconst (v := (1 : Int32)) dX6_combined_211 rfl ?_
      refine G_goto (tgt := 216) dX6_combined_212 (by decide) ?_
      exact G_ret trivial dX6_combined_216 rfl
    · refine G_iconst (v := (0 : Int32)) dX6_combined_215 rfl ?_
      exact G_ret trivial dX6_combined_216 rfl
  refine G_if (fun hs33 => ?_) (fun hs33 => ?_)
  · refine G_tableIn (tgt := 195) dX6_combined_1 (by rw [hs33]; decide) (by rw [hs33]; decide) (by rw [hs33]; rfl) (by decide) ?_
    refine G_iload_n 1 dX6_combined_195 rfl rfl ?_
    refine G_iload_n 2 dX6_combined_196 rfl rfl ?_
    refine G_icmp_le (tgt := 204) dX6_combined_197 (by decide) (fun _ => ?_) (fun _ => ?_)
    · refine G_iconst (v := (0 : Int32)) dX6_combined_204 rfl ?_
      exact G_ret trivial dX6_combined_205 rfl
    · refine G_iconst (v := (1 : Int32)) dX6_combined_200 rfl ?_
      refine G_goto (tgt := 205) dX6_combined_201 (by decide) ?_
      exact G_ret trivial dX6_combined_205 rfl
  refine G_tableOut (tgt := 243) dX6_combined_1 (by have q0 := i32_ne hs1; rw [show (30 : Int32).toInt = 30 from by decide] at q0; have q1 := i32_ne hs2; rw [show (31 : Int32).toInt = 31 from by decide] at q1; have q2 := i32_ne hs3; rw [show (32 : Int32).toInt = 32 from by decide] at q2; have q3 := i32_ne hs4; rw [show (33 : Int32).toInt = 33 from by decide] at q3; have q4 := i32_ne hs5; rw [show (34 : Int32).toInt = 34 from by decide] at q4; have q5 := i32_ne hs6; rw [show (35 : Int32).toInt = 35 from by decide] at q5; have q6 := i32_ne hs7; rw [show (36 : Int32).toInt = 36 from by decide] at q6; have q7 := i32_ne hs8; rw [show (37 : Int32).toInt = 37 from by decide] at q7; have q8 := i32_ne hs9; rw [show (38 : Int32).toInt = 38 from by decide] at q8; have q9 := i32_ne hs10; rw [show (39 : Int32).toInt = 39 from by decide] at q9; have q10 := i32_ne hs11; rw [show (40 : Int32).toInt = 40 from by decide] at q10; have q11 := i32_ne hs12; rw [show (41 : Int32).toInt = 41 from by decide] at q11; have q12 := i32_ne hs13; rw [show (42 : Int32).toInt = 42 from by decide] at q12; have q13 := i32_ne hs14; rw [show (43 : Int32).toInt = 43 from by decide] at q13; have q14 := i32_ne hs15; rw [show (44 : Int32).toInt = 44 from by decide] at q14; have q15 := i32_ne hs16; rw [show (45 : Int32).toInt = 45 from by decide] at q15; have q16 := i32_ne hs17; rw [show (46 : Int32).toInt = 46 from by decide] at q16; have q17 := i32_ne hs18; rw [show (47 : Int32).toInt = 47 from by decide] at q17; have q18 := i32_ne hs19; rw [show (48 : Int32).toInt = 48 from by decide] at q18; have q19 := i32_ne hs20; rw [show (49 : Int32).toInt = 49 from by decide] at q19; have q20 := i32_ne hs21; rw [show (50 : Int32).toInt = 50 from by decide] at q20; have q21 := i32_ne hs22; rw [show (51 : Int32).toInt = 51 from by decide] at q21; have q22 := i32_ne hs23; rw [show (52 : Int32).toInt = 52 from by decide] at q22; have q23 := i32_ne hs24; rw [show (53 : Int32).toInt = 53 from by decide] at q23; have q24 := i32_ne hs25; rw [show (54 : Int32).toInt = 54 from by decide] at q24; have q25 := i32_ne hs26; rw [show (55 : Int32).toInt = 55 from by decide] at q25; have q26 := i32_ne hs27; rw [show (56 : Int32).toInt = 56 from by decide] at q26; have q27 := i32_ne hs28; rw [show (57 : Int32).toInt = 57 from by decide] at q27; have q28 := i32_ne hs29; rw [show (58 : Int32).toInt = 58 from by decide] at q28; have q29 := i32_ne hs30; rw [show (59 : Int32).toInt = 59 from by decide] at q29; have q30 := i32_ne hs31; rw [show (60 : Int32).toInt = 60 from by decide] at q30; have q31 := i32_ne hs32; rw [show (61 : Int32).toInt = 61 from by decide] at q31; have q32 := i32_ne hs33; rw [show (62 : Int32).toInt = 62 from by decide] at q32; omega) (by decide) ?_
  refine G_iload_n 1 dX6_combined_243 rfl rfl ?_
  refine G_iload_n 2 dX6_combined_244 rfl rfl ?_
  refine G_ior dX6_combined_245 ?_
  exact G_ret trivial dX6_combined_246 rfl

theorem yn_X6_combined : Yn yX6_combined 3 := ⟨by decide +kernel, by decide +kernel, by decide +kernel⟩
theorem ct_X6_combined (l : Launch) (N : Nat) (z : Nat → Nat) (v0 : Int32) (v1 : Int32) (v2 : Int32) : Ct l z yX6_combined cX6_combined 3 (some .int) 2 enI [.int v0, .int v1, .int v2] (f_X6_combined N z v0 v1 v2) :=
  Ct_i (fun x => G_lv0 (by simp only [lva_n, lva_i, lva_o, lva_r, lva_j]) (g_X6_combined l N z v0 v1 v2 x)) (by decide +kernel) (by simp only [lgl_n, lgl_i, lgl_o, lgl_r, lgl_j]; decide)

theorem dX6_step_0 : decode cX6_step 0 = .ok (.iload_n 1, 1) := by decide +kernel
theorem dX6_step_1 : decode cX6_step 1 = .ok (.lookupswitch 212 #[(20, 118), (21, 132), (22, 183), (23, 183), (24, 183), (25, 183), (26, 183), (27, 183), (28, 183), (29, 164), (35, 107), (100, 146)], 107) := by decide +kernel
theorem dX6_step_108 : decode cX6_step 108 = .ok (.aload_n 0, 1) := by decide +kernel
theorem dX6_step_109 : decode cX6_step 109 = .ok (.getfield 26, 3) := by decide +kernel
theorem dX6_step_112 : decode cX6_step 112 = .ok (.iload_n 2, 1) := by decide +kernel
theorem dX6_step_113 : decode cX6_step 113 = .ok (.invokevirtual 178, 3) := by decide +kernel
theorem dX6_step_116 : decode cX6_step 116 = .ok (.goto 130, 3) := by decide +kernel
theorem dX6_step_119 : decode cX6_step 119 = .ok (.aload_n 0, 1) := by decide +kernel
theorem dX6_step_120 : decode cX6_step 120 = .ok (.getfield 26, 3) := by decide +kernel
theorem dX6_step_123 : decode cX6_step 123 = .ok (.aload_n 0, 1) := by decide +kernel
theorem dX6_step_124 : decode cX6_step 124 = .ok (.getfield 42, 3) := by decide +kernel
theorem dX6_step_127 : decode cX6_step 127 = .ok (.invokevirtual 178, 3) := by decide +kernel
theorem dX6_step_130 : decode cX6_step 130 = .ok (.goto 116, 3) := by decide +kernel
theorem dX6_step_133 : decode cX6_step 133 = .ok (.aload_n 0, 1) := by decide +kernel
theorem dX6_step_134 : decode cX6_step 134 = .ok (.getfield 26, 3) := by decide +kernel
theorem dX6_step_137 : decode cX6_step 137 = .ok (.aload_n 0, 1) := by decide +kernel
theorem dX6_step_138 : decode cX6_step 138 = .ok (.getfield 51, 3) := by decide +kernel
theorem dX6_step_141 : decode cX6_step 141 = .ok (.invokevirtual 178, 3) := by decide +kernel
theorem dX6_step_144 : decode cX6_step 144 = .ok (.goto 102, 3) := by decide +kernel
theorem dX6_step_147 : decode cX6_step 147 = .ok (.aload_n 0, 1) := by decide +kernel
theorem dX6_step_148 : decode cX6_step 148 = .ok (.getfield 26, 3) := by decide +kernel
theorem dX6_step_151 : decode cX6_step 151 = .ok (.aload_n 0, 1) := by decide +kernel
theorem dX6_step_152 : decode cX6_step 152 = .ok (.getfield 26, 3) := by decide +kernel
theorem dX6_step_155 : decode cX6_step 155 = .ok (.invokevirtual 175, 3) := by decide +kernel
theorem dX6_step_158 : decode cX6_step 158 = .ok (.ineg, 1) := by decide +kernel
theorem dX6_step_159 : decode cX6_step 159 = .ok (.invokevirtual 178, 3) := by decide +kernel
theorem dX6_step_162 : decode cX6_step 162 = .ok (.goto 84, 3) := by decide +kernel
theorem dX6_step_165 : decode cX6_step 165 = .ok (.aload_n 0, 1) := by decide +kernel
theorem dX6_step_166 : decode cX6_step 166 = .ok (.getfield 26, 3) := by decide +kernel
theorem dX6_step_169 : decode cX6_step 169 = .ok (.iconst 1, 1) := by decide +kernel
theorem dX6_step_170 : decode cX6_step 170 = .ok (.aload_n 0, 1) := by decide +kernel
theorem dX6_step_171 : decode cX6_step 171 = .ok (.getfield 26, 3) := by decide +kernel
theorem dX6_step_174 : decode cX6_step 174 = .ok (.invokevirtual 175, 3) := by decide +kernel
theorem dX6_step_177 : decode cX6_step 177 = .ok (.isub, 1) := by decide +kernel
theorem dX6_step_178 : decode cX6_step 178 = .ok (.invokevirtual 178, 3) := by decide +kernel
theorem dX6_step_181 : decode cX6_step 181 = .ok (.goto 65, 3) := by decide +kernel
theorem dX6_step_184 : decode cX6_step 184 = .ok (.aload_n 0, 1) := by decide +kernel
theorem dX6_step_185 : decode cX6_step 185 = .ok (.iload_n 2, 1) := by decide +kernel
theorem dX6_step_186 : decode cX6_step 186 = .ok (.invokevirtual 63, 3) := by decide +kernel
theorem dX6_step_189 : decode cX6_step 189 = .ok (.astore_n 3, 1) := by decide +kernel
theorem dX6_step_190 : decode cX6_step 190 = .ok (.aload_n 0, 1) := by decide +kernel
theorem dX6_step_191 : decode cX6_step 191 = .ok (.getfield 26, 3) := by decide +kernel
theorem dX6_step_194 : decode cX6_step 194 = .ok (.aload_n 3, 1) := by decide +kernel
theorem dX6_step_195 : decode cX6_step 195 = .ok (.ifnonnull 7, 3) := by decide +kernel
theorem dX6_step_198 : decode cX6_step 198 = .ok (.iconst 0, 1) := by decide +kernel
theorem dX6_step_199 : decode cX6_step 199 = .ok (.goto 8, 3) := by decide +kernel
theorem dX6_step_202 : decode cX6_step 202 = .ok (.aload_n 3, 1) := by decide +kernel
theorem dX6_step_203 : decode cX6_step 203 = .ok (.iload_n 1, 1) := by decide +kernel
theorem dX6_step_204 : decode cX6_step 204 = .ok (.invokevirtual 181, 3) := by decide +kernel
theorem dX6_step_207 : decode cX6_step 207 = .ok (.invokevirtual 178, 3) := by decide +kernel
theorem dX6_step_210 : decode cX6_step 210 = .ok (.goto 36, 3) := by decide +kernel
theorem dX6_step_213 : decode cX6_step 213 = .ok (.aload_n 0, 1) := by decide +kernel
theorem dX6_step_214 : decode cX6_step 214 = .ok (.getfield 26, 3) := by decide +kernel
theorem dX6_step_217 : decode cX6_step 217 = .ok (.invokevirtual 175, 3) := by decide +kernel
theorem dX6_step_220 : decode cX6_step 220 = .ok (.istore 4, 2) := by decide +kernel
theorem dX6_step_222 : decode cX6_step 222 = .ok (.aload_n 0, 1) := by decide +kernel
theorem dX6_step_223 : decode cX6_step 223 = .ok (.getfield 26, 3) := by decide +kernel
theorem dX6_step_226 : decode cX6_step 226 = .ok (.invokevirtual 175, 3) := by decide +kernel
theorem dX6_step_229 : decode cX6_step 229 = .ok (.istore 5, 2) := by decide +kernel
theorem dX6_step_231 : decode cX6_step 231 = .ok (.aload_n 0, 1) := by decide +kernel
theorem dX6_step_232 : decode cX6_step 232 = .ok (.getfield 26, 3) := by decide +kernel
theorem dX6_step_235 : decode cX6_step 235 = .ok (.iload_n 1, 1) := by decide +kernel
theorem dX6_step_236 : decode cX6_step 236 = .ok (.iload 5, 2) := by decide +kernel
theorem dX6_step_238 : decode cX6_step 238 = .ok (.iload 4, 2) := by decide +kernel
theorem dX6_step_240 : decode cX6_step 240 = .ok (.invokestatic 185, 3) := by decide +kernel
theorem dX6_step_243 : decode cX6_step 243 = .ok (.invokevirtual 178, 3) := by decide +kernel
theorem dX6_step_246 : decode cX6_step 246 = .ok (.return_, 1) := by decide +kernel
abbrev m_X6_step : Mt := (cX6_step, RX6, "step", 6, .return_, 3)
def f_X6_step_b207 (N : Nat) (z : Nat → Nat) (s0 : Int32) (s1 : Option Nat) (x0 : Hp) : Option (Unit × Hp) :=
  obj s1 x0 10 fun q2 => bnd (f_X7_push N z q2 s0 x0) fun _ x1 =>
  some ((), x1)
def f_X6_step (N : Nat) (z : Nat → Nat) (o : Nat) (v1 : Int32) (v2 : Int32) (x0 : Hp) : Option (Unit × Hp) :=
  if v1 = (20 : Int32) then (getr (some o) x0 9 167 fun r4 =>
  geti (some o) x0 9 161 fun i5 =>
  obj r4 x0 10 fun q7 => bnd (f_X7_push N z q7 i5 x0) fun _ x6 =>
  some ((), x6)) else (if v1 = (21 : Int32) then (getr (some o) x0 9 167 fun r9 =>
  geti (some o) x0 9 168 fun i10 =>
  obj r9 x0 10 fun q12 => bnd (f_X7_push N z q12 i10 x0) fun _ x11 =>
  some ((), x11)) else (if v1 = (22 : Int32) then (obj (some o) x0 9 fun q16 => bnd (f_X6_laneAt N z q16 v2 x0) fun r15 x14 =>
  getr (some o) x14 9 167 fun r17 =>
  if r15 = none then (f_X6_step_b207 N z (0 : Int32) r17 x14) else (obj r15 x14 5 fun q20 => bnd (f_X2_known N z q20 v1 x14) fun i19 x18 =>
  f_X6_step_b207 N z i19 r17 x18)) else (if v1 = (23 : Int32) then (obj (some o) x0 9 fun q24 => bnd (f_X6_laneAt N z q24 v2 x0) fun r23 x22 =>
  getr (some o) x22 9 167 fun r25 =>
  if r23 = none then (f_X6_step_b207 N z (0 : Int32) r25 x22) else (obj r23 x22 5 fun q28 => bnd (f_X2_known N z q28 v1 x22) fun i27 x26 =>
  f_X6_step_b207 N z i27 r25 x26)) else (if v1 = (24 : Int32) then (obj (some o) x0 9 fun q32 => bnd (f_X6_laneAt N z q32 v2 x0) fun r31 x30 =>
  getr (some o) x30 9 167 fun r33 =>
  if r31 = none then (f_X6_step_b207 N z (0 : Int32) r33 x30) else (obj r31 x30 5 fun q36 => bnd (f_X2_known N z q36 v1 x30) fun i35 x34 =>
  f_X6_step_b207 N z i35 r33 x34)) else (if v1 = (25 : Int32) then (obj (some o) x0 9 fun q40 => bnd (f_X6_laneAt N z q40 v2 x0) fun r39 x38 =>
  getr (some o) x38 9 167 fun r41 =>
  if r39 = none then (f_X6_step_b207 N z (0 : Int32) r41 x38) else (obj r39 x38 5 fun q44 => bnd (f_X2_known N z q44 v1 x38) fun i43 x42 =>
  f_X6_step_b207 N z i43 r41 x42)) else (if v1 = (26 : Int32) then (obj (some o) x0 9 fun q48 => bnd (f_X6_laneAt N z q48 v2 x0) fun r47 x46 =>
  getr (some o) x46 9 167 fun r49 =>
  if r47 = none then (f_X6_step_b207 N z (0 : Int32) r49 x46) else (obj r47 x46 5 fun q52 => bnd (f_X2_known N z q52 v1 x46) fun i51 x50 =>
  f_X6_step_b207 N z i51 r49 x50)) else (if v1 = (27 : Int32) then (obj (some o) x0 9 fun q56 => bnd (f_X6_laneAt N z q56 v2 x0) fun r55 x54 =>
  getr (some o) x54 9 167 fun r57 =>
  if r55 = none then (f_X6_step_b207 N z (0 : Int32) r57 x54) else (obj r55 x54 5 fun q60 => bnd (f_X2_known N z q60 v1 x54) fun i59 x58 =>
  f_X6_step_b207 N z i59 r57 x58)) else (if v1 = (28 : Int32) then (obj (some o) x0 9 fun q64 => bnd (f_X6_laneAt N z q64 v2 x0) fun r63 x62 =>
  getr (some o) x62 9 167 fun r65 =>
  if r63 = none then (f_X6_step_b207 N z (0 : Int32) r65 x62) else (obj r63 x62 5 fun q68 => bnd (f_X2_known N z q68 v1 x62) fun i67 x66 =>
  f_X6_step_b207 N z i67 r65 x66)) else (if v1 = (29 : Int32) then (getr (some o) x0 9 167 fun r70 =>
  getr (some o) x0 9 167 fun r71 =>
  obj r71 x0 10 fun q74 => bnd (f_X7_pop N z q74 x0) fun i73 x72 =>
  obj r70 x72 10 fun q76 => bnd (f_X7_push N z q76 ((1 : Int32) - i73) x72) fun _ x75 =>
  some ((), x75)) else (if v1 = (35 : Int32) then (getr (some o) x0 9 167 fun r78 =>
  obj r78 x0 10 fun q80 => bnd (f_X7_push N z q80 v2 x0) fun _ x79 =>
  some ((), x79)) else (if v1 = (100 : Int32) then (getr (some o) x0 9 167 fun r82 =>
  getr (some o) x0 9 167 fun r83 =>
  obj r83 x0 10 fun q86 => bnd (f_X7_pop N z q86 x0) fun i85 x84 =>
  obj r82 x84 10 fun q88 => bnd (f_X7_push N z q88 (-i85) x84) fun _ x87 =>
  some ((), x87)) else (getr (some o) x0 9 167 fun r89 =>
  obj r89 x0 10 fun q92 => bnd (f_X7_pop N z q92 x0) fun i91 x90 =>
  getr (some o) x90 9 167 fun r93 =>
  obj r93 x90 10 fun q96 => bnd (f_X7_pop N z q96 x90) fun i95 x94 =>
  getr (some o) x94 9 167 fun r97 =>
  bnd (f_X6_combined N z v1 i95 i91 x94) fun i99 x98 =>
  obj r97 x98 10 fun q101 => bnd (f_X7_push N z q101 i99 x98) fun _ x100 =>
  some ((), x100)))))))))))))
set_option maxRecDepth 100000 in
set_option maxHeartbeats 4000000 in
theorem g_X6_step_b207 (l : Launch) (N : Nat) (z : Nat → Nat) (s0 : Int32) (s1 : Option Nat) (x0 : Hp) : G l z m_X6_step okT enV 207 [] [.int s0, va_rf s1] x0 (f_X6_step_b207 N z s0 s1 x0) := by
  unfold f_X6_step_b207
  refine G_callV (av := [.int s0]) [] (fun q2 => ct_X7_push l N z q2 s0) K_9 rfl yn_X7_push (Nat.le_of_ble_eq_true rfl) (by decide) gw_650 gw_651 gw_652 gw_45 gw_653 rfl (by decide) dX6_step_207 (fun _ x1 => ?_)
  refine G_goto (tgt := 246) dX6_step_210 (by decide) ?_
  exact G_ret trivial dX6_step_246 rfl

set_option maxRecDepth 100000 in
set_option maxHeartbeats 4000000 in
theorem g_X6_step (l : Launch) (N : Nat) (z : Nat → Nat) (o : Nat) (v1 : Int32) (v2 : Int32) (x0 : Hp) : G l z m_X6_step okT enV 0 [(0, va_rf (some o)), (1, .int v1), (2, .int v2)] [] x0 (f_X6_step N z o v1 v2 x0) := by
  unfold f_X6_step
  refine G_iload_n 1 dX6_step_0 rfl rfl ?_
  refine G_if (fun hs3 => ?_) (fun hs3 => ?_)
  · refine G_lookup (tgt := 119) dX6_step_1 (by decide) (by rw [hs3] <;> rfl) (by decide) ?_
    refine G_aload_n 0 dX6_step_119 rfl rfl ?_
    refine G_getr (k := 7) K_8 (by decide) rfl rfl rfl gw_320 rfl dX6_step_120 (fun r4 => ?_)
    refine G_aload_n 0 dX6_step_123 rfl rfl ?_
    refine G_geti (k := 1) K_8 (by decide) rfl rfl rfl gw_308 rfl dX6_step_124 (fun i5 => ?_)
    refine G_callV (av := [.int i5]) [] (fun q7 => ct_X7_push l N z q7 i5) K_9 rfl yn_X7_push (Nat.le_of_ble_eq_true rfl) (by decide) gw_650 gw_651 gw_652 gw_45 gw_653 rfl (by decide) dX6_step_127 (fun _ x6 => ?_)
    refine G_goto (tgt := 246) dX6_step_130 (by decide) ?_
    exact G_ret trivial dX6_step_246 rfl
  refine G_if (fun hs8 => ?_) (fun hs8 => ?_)
  · refine G_lookup (tgt := 133) dX6_step_1 (by decide) (by rw [hs8] <;> rfl) (by decide) ?_
    refine G_aload_n 0 dX6_step_133 rfl rfl ?_
    refine G_getr (k := 7) K_8 (by decide) rfl rfl rfl gw_320 rfl dX6_step_134 (fun r9 => ?_)
    refine G_aload_n 0 dX6_step_137 rfl rfl ?_
    refine G_geti (k := 8) K_8 (by decide) rfl rfl rfl gw_321 rfl dX6_step_138 (fun i10 => ?_)
    refine G_callV (av := [.int i10]) [] (fun q12 => ct_X7_push l N z q12 i10) K_9 rfl yn_X7_push (Nat.le_of_ble_eq_true rfl) (by decide) gw_650 gw_651 gw_652 gw_45 gw_653 rfl (by decide) dX6_step_141 (fun _ x11 => ?_)
    refine G_goto (tgt := 246) dX6_step_144 (by decide) ?_
    exact G_ret trivial dX6_step_246 rfl
  refine G_if (fun hs13 => ?_) (fun hs13 => ?_)
  · refine G_lookup (tgt := 184) dX6_step_1 (by decide) (by rw [hs13] <;> rfl) (by decide) ?_
    refine G_aload_n 0 dX6_step_184 rfl rfl ?_
    refine G_iload_n 2 dX6_step_185 rfl rfl ?_
    refine G_callV (av := [.int v2]) [] (fun q16 => ct_X6_laneAt l N z q16 v2) K_8 rfl yn_X6_laneAt (Nat.le_of_ble_eq_true rfl) (by decide) gw_553 gw_554 gw_555 gw_42 gw_556 rfl (by decide) dX6_step_186 (fun r15 x14 => ?_)
    refine G_astore_n (i := 3) (l2 := [(0, va_rf (some o)), (1, .int v1), (2, .int v2)]) [0, 1, 2] dX6_step_189 rfl (Nat.le_of_ble_eq_true rfl) rfl (sok_a (by decide) (by decide) (sok_a (by decide) (by decide) (sok_b (by decide) rfl trivial))) ?_
    refine G_aload_n 1 dX6_step_190 rfl rfl ?_
    refine G_getr (k := 7) K_8 (by decide) rfl rfl rfl gw_320 rfl dX6_step_191 (fun r17 => ?_)
    refine G_aload_n 0 dX6_step_194 rfl rfl ?_
    refine G_ifnonnull (tgt := 202) dX6_step_195 (by decide) (fun _ => ?_) (fun _ => ?_)
    · refine G_iconst (v := (0 : Int32)) dX6_step_198 rfl ?_
      refine G_goto (tgt := 207) dX6_step_199 (by decide) ?_
      refine G_lv [] rfl ?_
      exact g_X6_step_b207 l N z (0 : Int32) r17 x14
    · refine G_aload_n 0 dX6_step_202 rfl rfl ?_
      refine G_iload_n 2 dX6_step_203 rfl rfl ?_
      refine G_callV (av := [.int v1]) [va_rf r17] (fun q20 => ct_X2_known l N z q20 v1) K_4 rfl yn_X2_known (Nat.le_of_ble_eq_true rfl) (by decide) gw_658 gw_659 gw_660 gw_46 gw_661 rfl (by simp only [hw_n, hw_i, hw_r, hw_j, hw_d]; decide) dX6_step_204 (fun i19 x18 => ?_)
      refine G_lv [] rfl ?_
      exact g_X6_step_b207 l N z i19 r17 x18
  refine G_if (fun hs21 => ?_) (fun hs21 => ?_)
  · refine G_lookup (tgt := 184) dX6_step_1 (by decide) (by rw [hs21] <;> rfl) (by decide) ?_
    refine G_aload_n 0 dX6_step_184 rfl rfl ?_
    refine G_iload_n 2 dX6_step_185 rfl rfl ?_
    refine G_callV (av := [.int v2]) [] (fun q24 => ct_X6_laneAt l N z q24 v2) K_8 rfl yn_X6_laneAt (Nat.le_of_ble_eq_true rfl) (by decide) gw_553 gw_554 gw_555 gw_42 gw_556 rfl (by decide) dX6_step_186 (fun r23 x22 => ?_)
    refine G_astore_n (i := 3) (l2 := [(0, va_rf (some o)), (1, .int v1), (2, .int v2)]) [0, 1, 2] dX6_step_189 rfl (Nat.le_of_ble_eq_true rfl) rfl (sok_a (by decide) (by decide) (sok_a (by decide) (by decide) (sok_b (by decide) rfl trivial))) ?_
    refine G_aload_n 1 dX6_step_190 rfl rfl ?_
    refine G_getr (k := 7) K_8 (by decide) rfl rfl rfl gw_320 rfl dX6_step_191 (fun r25 => ?_)
    refine G_aload_n 0 dX6_step_194 rfl rfl ?_
    refine G_ifnonnull (tgt := 202) dX6_step_195 (by decide) (fun _ => ?_) (fun _ => ?_)
    · refine G_iconst (v := (0 : Int32)) dX6_step_198 rfl ?_
      refine G_goto (tgt := 207) dX6_step_199 (by decide) ?_
      refine G_lv [] rfl ?_
      exact g_X6_step_b207 l N z (0 : Int32) r25 x22
    · refine G_aload_n 0 dX6_step_202 rfl rfl ?_
      refine G_iload_n 2 dX6_step_203 rfl rfl ?_
      refine G_callV (av := [.int v1]) [va_rf r25] (fun q28 => ct_X2_known l N z q28 v1) K_4 rfl yn_X2_known (Nat.le_of_ble_eq_true rfl) (by decide) gw_658 gw_659 gw_660 gw_46 gw_661 rfl (by simp only [hw_n, hw_i, hw_r, hw_j, hw_d]; decide) dX6_step_204 (fun i27 x26 => ?_)
      refine G_lv [] rfl ?_
      exact g_X6_step_b207 l N z i27 r25 x26
  refine G_if (fun hs29 => ?_) (fun hs29 => ?_)
  · refine G_lookup (tgt := 184) dX6_step_1 (by decide) (by rw [hs29] <;> rfl) (by decide) ?_
    refine G_aload_n 0 dX6_step_184 rfl rfl ?_
    refine G_iload_n 2 dX6_step_185 rfl rfl ?_
    refine G_callV (av := [.int v2]) [] (fun q32 => ct_X6_laneAt l N z q32 v2) K_8 rfl yn_X6_laneAt (Nat.le_of_ble_eq_true rfl) (by decide) gw_553 gw_554 gw_555 gw_42 gw_556 rfl (by decide) dX6_step_186 (fun r31 x30 => ?_)
    refine G_astore_n (i := 3) (l2 := [(0, va_rf (some o)), (1, .int v1), (2, .int v2)]) [0, 1, 2] dX6_step_189 rfl (Nat.le_of_ble_eq_true rfl) rfl (sok_a (by decide) (by decide) (sok_a (by decide) (by decide) (sok_b (by decide) rfl trivial))) ?_
    refine G_aload_n 1 dX6_step_190 rfl rfl ?_
    refine G_getr (k := 7) K_8 (by decide) rfl rfl rfl gw_320 rfl dX6_step_191 (fun r33 => ?_)
    refine G_aload_n 0 dX6_step_194 rfl rfl ?_
    refine G_ifnonnull (tgt := 202) dX6_step_195 (by decide) (fun _ => ?_) (fun _ => ?_)
    · refine G_iconst (v := (0 : Int32)) dX6_step_198 rfl ?_
      refine G_goto (tgt := 207) dX6_step_199 (by decide) ?_
      refine G_lv [] rfl ?_
      exact g_X6_step_b207 l N z (0 : Int32) r33 x30
    · refine G_aload_n 0 dX6_step_202 rfl rfl ?_
      refine G_iload_n 2 dX6_step_203 rfl rfl ?_
      refine G_callV (av := [.int v1]) [va_rf r33] (fun q36 => ct_X2_known l N z q36 v1) K_4 rfl yn_X2_known (Nat.le_of_ble_eq_true rfl) (by decide) gw_658 gw_659 gw_660 gw_46 gw_661 rfl (by simp only [hw_n, hw_i, hw_r, hw_j, hw_d]; decide) dX6_step_204 (fun i35 x34 => ?_)
      refine G_lv [] rfl ?_
      exact g_X6_step_b207 l N z i35 r33 x34
  refine G_if (fun hs37 => ?_) (fun hs37 => ?_)
  · refine G_lookup (tgt := 184) dX6_step_1 (by decide) (by rw [hs37] <;> rfl) (by decide) ?_
    refine G_aload_n 0 dX6_step_184 rfl rfl ?_
    refine G_iload_n 2 dX6_step_185 rfl rfl ?_
    refine G_callV (av := [.int v2]) [] (fun q40 => ct_X6_laneAt l N z q40 v2) K_8 rfl yn_X6_laneAt (Nat.le_of_ble_eq_true rfl) (by decide) gw_553 gw_554 gw_555 gw_42 gw_556 rfl (by decide) dX6_step_186 (fun r39 x38 => ?_)
    refine G_astore_n (i := 3) (l2 := [(0, va_rf (some o)), (1, .int v1), (2, .int v2)]) [0, 1, 2] dX6_step_189 rfl (Nat.le_of_ble_eq_true rfl) rfl (sok_a (by decide) (by decide) (sok_a (by decide) (by decide) (sok_b (by decide) rfl trivial))) ?_
    refine G_aload_n 1 dX6_step_190 rfl rfl ?_
    refine G_getr (k := 7) K_8 (by decide) rfl rfl rfl gw_320 rfl dX6_step_191 (fun r41 => ?_)
    refine G_aload_n 0 dX6_step_194 rfl rfl ?_
    refine G_ifnonnull (tgt := 202) dX6_step_195 (by decide) (fun _ => ?_) (fun _ => ?_)
    · refine G_iconst (v := (0 : Int32)) dX6_step_198 rfl ?_
      refine G_goto (tgt := 207) dX6_step_199 (by decide) ?_
      refine G_lv [] rfl ?_
      exact g_X6_step_b207 l N z (0 : Int32) r41 x38
    · refine G_aload_n 0 dX6_step_202 rfl rfl ?_
      refine G_iload_n 2 dX6_step_203 rfl rfl ?_
      refine G_callV (av := [.int v1]) [va_rf r41] (fun q44 => ct_X2_known l N z q44 v1) K_4 rfl yn_X2_known (Nat.le_of_ble_eq_true rfl) (by decide) gw_658 gw_659 gw_660 gw_46 gw_661 rfl (by simp only [hw_n, hw_i, hw_r, hw_j, hw_d]; decide) dX6_step_204 (fun i43 x42 => ?_)
      refine G_lv [] rfl ?_
      exact g_X6_step_b207 l N z i43 r41 x42
  refine G_if (fun hs45 => ?_) (fun hs45 => ?_)
  · refine G_lookup (tgt := 184) dX6_step_1 (by decide) (by rw [hs45] <;> rfl) (by decide) ?_
    refine G_aload_n 0 dX6_step_184 rfl rfl ?_
    refine G_iload_n 2 dX6_step_185 rfl rfl ?_
    refine G_callV (av := [.int v2]) [] (fun q48 => ct_X6_laneAt l N z q48 v2) K_8 rfl yn_X6_laneAt (Nat.le_of_ble_eq_true rfl) (by decide) gw_553 gw_554 gw_555 gw_42 gw_556 rfl (by decide) dX6_step_186 (fun r47 x46 => ?_)
    refine G_astore_n (i := 3) (l2 := [(0, va_rf (some o)), (1, .int v1), (2, .int v2)]) [0, 1, 2] dX6_step_189 rfl (Nat.le_of_ble_eq_true rfl) rfl (sok_a (by decide) (by decide) (sok_a (by decide) (by decide) (sok_b (by decide) rfl trivial))) ?_
    refine G_aload_n 1 dX6_step_190 rfl rfl ?_
    refine G_getr (k := 7) K_8 (by decide) rfl rfl rfl gw_320 rfl dX6_step_191 (fun r49 => ?_)
    refine G_aload_n 0 dX6_step_194 rfl rfl ?_
    refine G_ifnonnull (tgt := 202) dX6_step_195 (by decide) (fun _ => ?_) (fun _ => ?_)
    · refine G_iconst (v := (0 : Int32)) dX6_step_198 rfl ?_
      refine G_goto (tgt := 207) dX6_step_199 (by decide) ?_
      refine G_lv [] rfl ?_
      exact g_X6_step_b207 l N z (0 : Int32) r49 x46
    · refine G_aload_n 0 dX6_step_202 rfl rfl ?_
      refine G_iload_n 2 dX6_step_203 rfl rfl ?_
      refine G_callV (av := [.int v1]) [va_rf r49] (fun q52 => ct_X2_known l N z q52 v1) K_4 rfl yn_X2_known (Nat.le_of_ble_eq_true rfl) (by decide) gw_658 gw_659 gw_660 gw_46 gw_661 rfl (by simp only [hw_n, hw_i, hw_r, hw_j, hw_d]; decide) dX6_step_204 (fun i51 x50 => ?_)
      refine G_lv [] rfl ?_
      exact g_X6_step_b207 l N z i51 r49 x50
  refine G_if (fun hs53 => ?_) (fun hs53 => ?_)
  · refine G_lookup (tgt := 184) dX6_step_1 (by decide) (by rw [hs53] <;> rfl) (by decide) ?_
    refine G_aload_n 0 dX6_step_184 rfl rfl ?_
    refine G_iload_n 2 dX6_step_185 rfl rfl ?_
    refine G_callV (av := [.int v2]) [] (fun q56 => ct_X6_laneAt l N z q56 v2) K_8 rfl yn_X6_laneAt (Nat.le_of_ble_eq_true rfl) (by decide) gw_553 gw_554 gw_555 gw_42 gw_556 rfl (by decide) dX6_step_186 (fun r55 x54 => ?_)
    refine G_astore_n (i := 3) (l2 := [(0, va_rf (some o)), (1, .int v1), (2, .int v2)]) [0, 1, 2] dX6_step_189 rfl (Nat.le_of_ble_eq_true rfl) rfl (sok_a (by decide) (by decide) (sok_a (by decide) (by decide) (sok_b (by decide) rfl trivial))) ?_
    refine G_aload_n 1 dX6_step_190 rfl rfl ?_
    refine G_getr (k := 7) K_8 (by decide) rfl rfl rfl gw_320 rfl dX6_step_191 (fun r57 => ?_)
    refine G_aload_n 0 dX6_step_194 rfl rfl ?_
    refine G_ifnonnull (tgt := 202) dX6_step_195 (by decide) (fun _ => ?_) (fun _ => ?_)
    · refine G_iconst (v := (0 : Int32)) dX6_step_198 rfl ?_
      refine G_goto (tgt := 207) dX6_step_199 (by decide) ?_
      refine G_lv [] rfl ?_
      exact g_X6_step_b207 l N z (0 : Int32) r57 x54
    · refine G_aload_n 0 dX6_step_202 rfl rfl ?_
      refine G_iload_n 2 dX6_step_203 rfl rfl ?_
      refine G_callV (av := [.int v1]) [va_rf r57] (fun q60 => ct_X2_known l N z q60 v1) K_4 rfl yn_X2_known (Nat.le_of_ble_eq_true rfl) (by decide) gw_658 gw_659 gw_660 gw_46 gw_661 rfl (by simp only [hw_n, hw_i, hw_r, hw_j, hw_d]; decide) dX6_step_204 (fun i59 x58 => ?_)
      refine G_lv [] rfl ?_
      exact g_X6_step_b207 l N z i59 r57 x58
  refine G_if (fun hs61 => ?_) (fun hs61 => ?_)
  · refine G_lookup (tgt := 184) dX6_step_1 (by decide) (by rw [hs61] <;> rfl) (by decide) ?_
    refine G_aload_n 0 dX6_step_184 rfl rfl ?_
    refine G_iload_n 2 dX6_step_185 rfl rfl ?_
    refine G_callV (av := [.int v2]) [] (fun q64 => ct_X6_laneAt l N z q64 v2) K_8 rfl yn_X6_laneAt (Nat.le_of_ble_eq_true rfl) (by decide) gw_553 gw_554 gw_555 gw_42 gw_556 rfl (by decide) dX6_step_186 (fun r63 x62 => ?_)
    refine G_astore_n (i := 3) (l2 := [(0, va_rf (some o)), (1, .int v1), (2, .int v2)]) [0, 1, 2] dX6_step_189 rfl (Nat.le_of_ble_eq_true rfl) rfl (sok_a (by decide) (by decide) (sok_a (by decide) (by decide) (sok_b (by decide) rfl trivial))) ?_
    refine G_aload_n 1 dX6_step_190 rfl rfl ?_
    refine G_getr (k := 7) K_8 (by decide) rfl rfl rfl gw_320 rfl dX6_step_191 (fun r65 => ?_)
    refine G_aload_n 0 dX6_step_194 rfl rfl ?_
    refine G_ifnonnull (tgt := 202) dX6_step_195 (by decide) (fun _ => ?_) (fun _ => ?_)
    · refine G_iconst (v := (0 : Int32)) dX6_step_198 rfl ?_
      refine G_goto (tgt := 207) dX6_step_199 (by decide) ?_
      refine G_lv [] rfl ?_
      exact g_X6_step_b207 l N z (0 : Int32) r65 x62
    · refine G_aload_n 0 dX6_step_202 rfl rfl ?_
      refine G_iload_n 2 dX6_step_203 rfl rfl ?_
      refine G_callV (av := [.int v1]) [va_rf r65] (fun q68 => ct_X2_known l N z q68 v1) K_4 rfl yn_X2_known (Nat.le_of_ble_eq_true rfl) (by decide) gw_658 gw_659 gw_660 gw_46 gw_661 rfl (by simp only [hw_n, hw_i, hw_r, hw_j, hw_d]; decide) dX6_step_204 (fun i67 x66 => ?_)
      refine G_lv [] rfl ?_
      exact g_X6_step_b207 l N z i67 r65 x66
  refine G_if (fun hs69 => ?_) (fun hs69 => ?_)
  · refine G_lookup (tgt := 165) dX6_step_1 (by decide) (by rw [hs69] <;> rfl) (by decide) ?_
    refine G_aload_n 0 dX6_step_165 rfl rfl ?_
    refine G_getr (k := 7) K_8 (by decide) rfl rfl rfl gw_320 rfl dX6_step_166 (fun r70 => ?_)
    refine G_iconst (v := (1 : Int32)) dX6_step_169 rfl ?_
    refine G_aload_n 0 dX6_step_170 rfl rfl ?_
    refine G_getr (k := 7) K_8 (by decide) rfl rfl rfl gw_320 rfl dX6_step_171 (fun r71 => ?_)
    refine G_callV (av := []) [.int (1 : Int32), va_rf r70] (fun q74 => ct_X7_pop l N z q74) K_9 rfl yn_X7_pop (Nat.le_of_ble_eq_true rfl) (by decide) gw_654 gw_655 gw_656 gw_45 gw_657 rfl (by simp only [hw_n, hw_i, hw_r, hw_j, hw_d]; decide) dX6_step_174 (fun i73 x72 => ?_)
    refine G_isub dX6_step_177 ?_
    refine G_callV (av := [.int ((1 : Int32) - i73)]) [] (fun q76 => ct_X7_push l N z q76 ((1 : Int32) - i73)) K_9 rfl yn_X7_push (Nat.le_of_ble_eq_true rfl) (by decide) gw_650 gw_651 gw_652 gw_45 gw_653 rfl (by decide) dX6_step_178 (fun _ x75 => ?_)
    refine G_goto (tgt := 246) dX6_step_181 (by decide) ?_
    exact G_ret trivial dX6_step_246 rfl
  refine G_if (fun hs77 => ?_) (fun hs77 => ?_)
  · refine G_lookup (tgt := 108) dX6_step_1 (by decide) (by rw [hs77] <;> rfl) (by decide) ?_
    refine G_aload_n 0 dX6_step_108 rfl rfl ?_
    refine G_getr (k := 7) K_8 (by decide) rfl rfl rfl gw_320 rfl dX6_step_109 (fun r78 => ?_)
    refine G_iload_n 2 dX6_step_112 rfl rfl ?_
    refine G_callV (av := [.int v2]) [] (fun q80 => ct_X7_push l N z q80 v2) K_9 rfl yn_X7_push (Nat.le_of_ble_eq_true rfl) (by decide) gw_650 gw_651 gw_652 gw_45 gw_653 rfl (by decide) dX6_step_113 (fun _ x79 => ?_)
    refine G_goto (tgt := 246) dX6_step_116 (by decide) ?_
    exact G_ret trivial dX6_step_246 rfl
  refine G_if (fun hs81 => ?_) (fun hs81 => ?_)
  · refine G_lookup (tgt := 147) dX6_step_1 (by decide) (by rw [hs81] <;> rfl) (by decide) ?_
    refine G_aload_n 0 dX6_step_147 rfl rfl ?_
    refine G_getr (k := 7) K_8 (by decide) rfl rfl rfl gw_320 rfl dX6_step_148 (fun r82 => ?_)
    refine G_aload_n 0 dX6_step_151 rfl rfl ?_
    refine G_getr (k := 7) K_8 (by decide) rfl rfl rfl gw_320 rfl dX6_step_152 (fun r83 => ?_)
    refine G_callV (av := []) [va_rf r82] (fun q86 => ct_X7_pop l N z q86) K_9 rfl yn_X7_pop (Nat.le_of_ble_eq_true rfl) (by decide) gw_654 gw_655 gw_656 gw_45 gw_657 rfl (by simp only [hw_n, hw_i, hw_r, hw_j, hw_d]; decide) dX6_step_155 (fun i85 x84 => ?_)
    refine G_ineg dX6_step_158 ?_
    refine G_callV (av := [.int (-i85)]) [] (fun q88 => ct_X7_push l N z q88 (-i85)) K_9 rfl yn_X7_push (Nat.le_of_ble_eq_true rfl) (by decide) gw_650 gw_651 gw_652 gw_45 gw_653 rfl (by decide) dX6_step_159 (fun _ x87 => ?_)
    refine G_goto (tgt := 246) dX6_step_162 (by decide) ?_
    exact G_ret trivial dX6_step_246 rfl
  refine G_lookup (tgt := 213) (off := 212) dX6_step_1 (by decide) (by have q0 := i32_ne hs3; rw [show (20 : Int32).toInt = 20 from by decide] at q0; have q1 := i32_ne hs8; rw [show (21 : Int32).toInt = 21 from by decide] at q1; have q2 := i32_ne hs13; rw [show (22 : Int32).toInt = 22 from by decide] at q2; have q3 := i32_ne hs21; rw [show (23 : Int32).toInt = 23 from by decide] at q3; have q4 := i32_ne hs29; rw [show (24 : Int32).toInt = 24 from by decide] at q4; have q5 := i32_ne hs37; rw [show (25 : Int32).toInt = 25 from by decide] at q5; have q6 := i32_ne hs45; rw [show (26 : Int32).toInt = 26 from by decide] at q6; have q7 := i32_ne hs53; rw [show (27 : Int32).toInt = 27 from by decide] at q7; have q8 := i32_ne hs61; rw [show (28 : Int32).toInt = 28 from by decide] at q8; have q9 := i32_ne hs69; rw [show (29 : Int32).toInt = 29 from by decide] at q9; have q10 := i32_ne hs77; rw [show (35 : Int32).toInt = 35 from by decide] at q10; have q11 := i32_ne hs81; rw [show (100 : Int32).toInt = 100 from by decide] at q11; simp [Op.lookupswitch.offset, Ne.symm q0, q0, Ne.symm q1, q1, Ne.symm q2, q2, Ne.symm q3, q3, Ne.symm q4, q4, Ne.symm q5, q5, Ne.symm q6, q6, Ne.symm q7, q7, Ne.symm q8, q8, Ne.symm q9, q9, Ne.symm q10, q10, Ne.symm q11, q11]) (by decide) ?_
  refine G_aload_n 0 dX6_step_213 rfl rfl ?_
  refine G_getr (k := 7) K_8 (by decide) rfl rfl rfl gw_320 rfl dX6_step_214 (fun r89 => ?_)
  refine G_callV (av := []) [] (fun q92 => ct_X7_pop l N z q92) K_9 rfl yn_X7_pop (Nat.le_of_ble_eq_true rfl) (by decide) gw_654 gw_655 gw_656 gw_45 gw_657 rfl (by decide) dX6_step_217 (fun i91 x90 => ?_)
  refine G_istore (i := 4) (l2 := [(0, va_rf (some o)), (1, .int v1), (2, .int v2)]) [0, 1, 2] dX6_step_220 (Nat.le_of_ble_eq_true rfl) rfl (sok_a (by decide) (by decide) (sok_a (by decide) (by decide) (sok_a (by decide) (by decide) trivial))) ?_
  refine G_aload_n 1 dX6_step_222 rfl rfl ?_
  refine G_getr (k := 7) K_8 (by decide) rfl rfl rfl gw_320 rfl dX6_step_223 (fun r93 => ?_)
  refine G_callV (av := []) [] (fun q96 => ct_X7_pop l N z q96) K_9 rfl yn_X7_pop (Nat.le_of_ble_eq_true rfl) (by decide) gw_654 gw_655 gw_656 gw_45 gw_657 rfl (by decide) dX6_step_226 (fun i95 x94 => ?_)
  refine G_istore (i := 5) (l2 := [(4, .int i91), (0, va_rf (some o)), (1, .int v1), (2, .int v2)]) [0, 1, 2, 3] dX6_step_229 (Nat.le_of_ble_eq_true rfl) rfl (sok_b (by decide) rfl (sok_a (by decide) (by decide) (sok_a (by decide) (by decide) (sok_a (by decide) (by decide) trivial)))) ?_
  refine G_aload_n 2 dX6_step_231 rfl rfl ?_
  refine G_getr (k := 7) K_8 (by decide) rfl rfl rfl gw_320 rfl dX6_step_232 (fun r97 => ?_)
  refine G_iload_n 3 dX6_step_235 rfl rfl ?_
  refine G_iload 0 dX6_step_236 rfl ?_
  refine G_iload 1 dX6_step_238 rfl ?_
  refine G_callS (av := [.int v1, .int i95, .int i91]) [va_rf r97] (ct_X6_combined l N z v1 i95 i91) yn_X6_combined (Nat.le_of_ble_eq_true rfl) (by decide) gw_666 gw_667 gw_42 gw_668 rfl (by simp only [hw_n, hw_i, hw_r, hw_j, hw_d]; decide) dX6_step_240 (fun i99 x98 => ?_)
  refine G_callV (av := [.int i99]) [] (fun q101 => ct_X7_push l N z q101 i99) K_9 rfl yn_X7_push (Nat.le_of_ble_eq_true rfl) (by decide) gw_650 gw_651 gw_652 gw_45 gw_653 rfl (by decide) dX6_step_243 (fun _ x100 => ?_)
  exact G_ret trivial dX6_step_246 rfl

theorem yn_X6_step : Yn yX6_step 2 := ⟨by decide +kernel, by decide +kernel, by decide +kernel⟩
theorem ct_X6_step (l : Launch) (N : Nat) (z : Nat → Nat) (o : Nat) (v1 : Int32) (v2 : Int32) : Ct l z yX6_step cX6_step 6 none 3 enV [.ref o, .int v1, .int v2] (f_X6_step N z o v1 v2) :=
  Ct_v (fun x => G_lv0 (by simp only [lva_n, lva_i, lva_o, lva_r, lva_j]) (g_X6_step l N z o v1 v2 x)) (by decide +kernel) (by simp only [lgl_n, lgl_i, lgl_o, lgl_r, lgl_j]; decide)

theorem dX6_reckon_0 : decode cX6_reckon 0 = .ok (.aload_n 0, 1) := by decide +kernel
theorem dX6_reckon_1 : decode cX6_reckon 1 = .ok (.getfield 26, 3) := by decide +kernel
theorem dX6_reckon_4 : decode cX6_reckon 4 = .ok (.invokevirtual 161, 3) := by decide +kernel
theorem dX6_reckon_7 : decode cX6_reckon 7 = .ok (.iconst 0, 1) := by decide +kernel
theorem dX6_reckon_8 : decode cX6_reckon 8 = .ok (.iload_n 1, 1) := by decide +kernel
theorem dX6_reckon_9 : decode cX6_reckon 9 = .ok (.invokestatic 155, 3) := by decide +kernel
theorem dX6_reckon_12 : decode cX6_reckon 12 = .ok (.istore_n 3, 1) := by decide +kernel
theorem dX6_reckon_13 : decode cX6_reckon 13 = .ok (.iload_n 3, 1) := by decide +kernel
theorem dX6_reckon_14 : decode cX6_reckon 14 = .ok (.iload_n 2, 1) := by decide +kernel
theorem dX6_reckon_15 : decode cX6_reckon 15 = .ok (.if_icmp .ge 55, 3) := by decide +kernel
theorem dX6_reckon_18 : decode cX6_reckon 18 = .ok (.iload_n 3, 1) := by decide +kernel
theorem dX6_reckon_19 : decode cX6_reckon 19 = .ok (.aload_n 0, 1) := by decide +kernel
theorem dX6_reckon_20 : decode cX6_reckon 20 = .ok (.getfield 30, 3) := by decide +kernel
theorem dX6_reckon_23 : decode cX6_reckon 23 = .ok (.getfield 164, 3) := by decide +kernel
theorem dX6_reckon_26 : decode cX6_reckon 26 = .ok (.arraylength, 1) := by decide +kernel
theorem dX6_reckon_27 : decode cX6_reckon 27 = .ok (.if_icmp .ge 43, 3) := by decide +kernel
theorem dX6_reckon_30 : decode cX6_reckon 30 = .ok (.iload_n 3, 1) := by decide +kernel
theorem dX6_reckon_31 : decode cX6_reckon 31 = .ok (.aload_n 0, 1) := by decide +kernel
theorem dX6_reckon_32 : decode cX6_reckon 32 = .ok (.getfield 30, 3) := by decide +kernel
theorem dX6_reckon_35 : decode cX6_reckon 35 = .ok (.getfield 168, 3) := by decide +kernel
theorem dX6_reckon_38 : decode cX6_reckon 38 = .ok (.arraylength, 1) := by decide +kernel
theorem dX6_reckon_39 : decode cX6_reckon 39 = .ok (.if_icmp .ge 31, 3) := by decide +kernel
theorem dX6_reckon_42 : decode cX6_reckon 42 = .ok (.aload_n 0, 1) := by decide +kernel
theorem dX6_reckon_43 : decode cX6_reckon 43 = .ok (.aload_n 0, 1) := by decide +kernel
theorem dX6_reckon_44 : decode cX6_reckon 44 = .ok (.getfield 30, 3) := by decide +kernel
theorem dX6_reckon_47 : decode cX6_reckon 47 = .ok (.getfield 164, 3) := by decide +kernel
theorem dX6_reckon_50 : decode cX6_reckon 50 = .ok (.iload_n 3, 1) := by decide +kernel
theorem dX6_reckon_51 : decode cX6_reckon 51 = .ok (.iaload, 1) := by decide +kernel
theorem dX6_reckon_52 : decode cX6_reckon 52 = .ok (.aload_n 0, 1) := by decide +kernel
theorem dX6_reckon_53 : decode cX6_reckon 53 = .ok (.getfield 30, 3) := by decide +kernel
theorem dX6_reckon_56 : decode cX6_reckon 56 = .ok (.getfield 168, 3) := by decide +kernel
theorem dX6_reckon_59 : decode cX6_reckon 59 = .ok (.iload_n 3, 1) := by decide +kernel
theorem dX6_reckon_60 : decode cX6_reckon 60 = .ok (.iaload, 1) := by decide +kernel
theorem dX6_reckon_61 : decode cX6_reckon 61 = .ok (.invokevirtual 171, 3) := by decide +kernel
theorem dX6_reckon_64 : decode cX6_reckon 64 = .ok (.iinc 3 1, 3) := by decide +kernel
theorem dX6_reckon_67 : decode cX6_reckon 67 = .ok (.goto (-54), 3) := by decide +kernel
theorem dX6_reckon_70 : decode cX6_reckon 70 = .ok (.aload_n 0, 1) := by decide +kernel
theorem dX6_reckon_71 : decode cX6_reckon 71 = .ok (.getfield 26, 3) := by decide +kernel
theorem dX6_reckon_74 : decode cX6_reckon 74 = .ok (.invokevirtual 175, 3) := by decide +kernel
theorem dX6_reckon_77 : decode cX6_reckon 77 = .ok (.ireturn, 1) := by decide +kernel
abbrev m_X6_reckon : Mt := (cX6_reckon, RX6, "reckon", 4, .ireturn, 4)
def f_X6_reckon_b70 (N : Nat) (z : Nat → Nat) (o : Nat) (x0 : Hp) : Option (Int32 × Hp) :=
  getr (some o) x0 9 167 fun r1 =>
  obj r1 x0 10 fun q4 => bnd (f_X7_pop N z q4 x0) fun i3 x2 =>
  some (i3, x2)
def f_X6_reckon_b13 (N : Nat) (z : Nat → Nat) : Nat → Nat → Int32 → Int32 → Hp → Option (Int32 × Hp)
  | 0, _, _, _, _ => none
  | n + 1, o, v2, v3, x0 => if v2 ≤ v3 then (f_X6_reckon_b70 N z o x0) else (getr (some o) x0 9 160 fun r5 =>
  getr r5 x0 3 40 fun r6 =>
  alen r6 x0 101 fun i7 =>
  if i7 ≤ v3 then (f_X6_reckon_b70 N z o x0) else (getr (some o) x0 9 160 fun r8 =>
  getr r8 x0 3 41 fun r9 =>
  alen r9 x0 101 fun i10 =>
  if i10 ≤ v3 then (f_X6_reckon_b70 N z o x0) else (getr (some o) x0 9 160 fun r11 =>
  getr r11 x0 3 40 fun r12 =>
  aldi r12 x0 101 v3 fun i13 =>
  getr (some o) x0 9 160 fun r14 =>
  getr r14 x0 3 41 fun r15 =>
  aldi r15 x0 101 v3 fun i16 =>
  obj (some o) x0 9 fun q18 => bnd (f_X6_step N z q18 i13 i16 x0) fun _ x17 =>
  f_X6_reckon_b13 N z n o v2 (v3 + (1 : Int32)) x17)))
def f_X6_reckon (N : Nat) (z : Nat → Nat) (o : Nat) (v1 : Int32) (v2 : Int32) (x0 : Hp) : Option (Int32 × Hp) :=
  getr (some o) x0 9 167 fun r19 =>
  obj r19 x0 10 fun q21 => bnd (f_X7_clear N z q21 x0) fun _ x20 =>
  f_X6_reckon_b13 N z N o v2 (if (0 : Int32) < v1 then v1 else (0 : Int32)) x20
set_option maxRecDepth 100000 in
set_option maxHeartbeats 4000000 in
theorem g_X6_reckon_b70 (l : Launch) (N : Nat) (z : Nat → Nat) (o : Nat) (x0 : Hp) : G l z m_X6_reckon okT enI 70 [(0, va_rf (some o))] [] x0 (f_X6_reckon_b70 N z o x0) := by
  unfold f_X6_reckon_b70
  refine G_aload_n 0 dX6_reckon_70 rfl rfl ?_
  refine G_getr (k := 7) K_8 (by decide) rfl rfl rfl gw_320 rfl dX6_reckon_71 (fun r1 => ?_)
  refine G_callV (av := []) [] (fun q4 => ct_X7_pop l N z q4) K_9 rfl yn_X7_pop (Nat.le_of_ble_eq_true rfl) (by decide) gw_654 gw_655 gw_656 gw_45 gw_657 rfl (by decide) dX6_reckon_74 (fun i3 x2 => ?_)
  exact G_ret trivial dX6_reckon_77 rfl

set_option maxRecDepth 100000 in
set_option maxHeartbeats 4000000 in
theorem g_X6_reckon_b13 (l : Launch) (N : Nat) (z : Nat → Nat) : ∀ (n : Nat) (o : Nat) (v2 : Int32) (v3 : Int32) (x0 : Hp), G l z m_X6_reckon okT enI 13 [(0, va_rf (some o)), (2, .int v2), (3, .int v3)] [] x0 (f_X6_reckon_b13 N z n o v2 v3 x0) := by
  intro n
  induction n with
  | zero => intro o v2 v3 x0; exact G_none
  | succ n ih =>
  intro o v2 v3 x0
  rw [f_X6_reckon_b13]
  refine G_iload_n 2 dX6_reckon_13 rfl rfl ?_
  refine G_iload_n 1 dX6_reckon_14 rfl rfl ?_
  refine G_icmp_ge (tgt := 70) dX6_reckon_15 (by decide) (fun _ => ?_) (fun _ => ?_)
  · refine G_lv [0] rfl ?_
    exact g_X6_reckon_b70 l N z o x0
  · refine G_iload_n 2 dX6_reckon_18 rfl rfl ?_
    refine G_aload_n 0 dX6_reckon_19 rfl rfl ?_
    refine G_getr (k := 0) K_8 (by decide) rfl rfl rfl gw_305 rfl dX6_reckon_20 (fun r5 => ?_)
    refine G_getr (k := 0) K_2 (by decide) rfl rfl rfl gw_142 rfl dX6_reckon_23 (fun r6 => ?_)
    refine G_alen (t := 1) rfl (by decide) dX6_reckon_26 (fun i7 => ?_)
    refine G_icmp_ge (tgt := 70) dX6_reckon_27 (by decide) (fun _ => ?_) (fun _ => ?_)
    · refine G_lv [0] rfl ?_
      exact g_X6_reckon_b70 l N z o x0
    · refine G_iload_n 2 dX6_reckon_30 rfl rfl ?_
      refine G_aload_n 0 dX6_reckon_31 rfl rfl ?_
      refine G_getr (k := 0) K_8 (by decide) rfl rfl rfl gw_305 rfl dX6_reckon_32 (fun r8 => ?_)
      refine G_getr (k := 1) K_2 (by decide) rfl rfl rfl gw_144 rfl dX6_reckon_35 (fun r9 => ?_)
      refine G_alen (t := 1) rfl (by decide) dX6_reckon_38 (fun i10 => ?_)
      refine G_icmp_ge (tgt := 70) dX6_reckon_39 (by decide) (fun _ => ?_) (fun _ => ?_)
      · refine G_lv [0] rfl ?_
        exact g_X6_reckon_b70 l N z o x0
      · refine G_aload_n 0 dX6_reckon_42 rfl rfl ?_
        refine G_aload_n 0 dX6_reckon_43 rfl rfl ?_
        refine G_getr (k := 0) K_8 (by decide) rfl rfl rfl gw_305 rfl dX6_reckon_44 (fun r11 => ?_)
        refine G_getr (k := 0) K_2 (by decide) rfl rfl rfl gw_142 rfl dX6_reckon_47 (fun r12 => ?_)
        refine G_iload_n 2 dX6_reckon_50 rfl rfl ?_
        refine G_iald dX6_reckon_51 (fun i13 => ?_)
        refine G_aload_n 0 dX6_reckon_52 rfl rfl ?_
        refine G_getr (k := 0) K_8 (by decide) rfl rfl rfl gw_305 rfl dX6_reckon_53 (fun r14 => ?_)
        refine G_getr (k := 1) K_2 (by decide) rfl rfl rfl gw_144 rfl dX6_reckon_56 (fun r15 => ?_)
        refine G_iload_n 2 dX6_reckon_59 rfl rfl ?_
        refine G_iald dX6_reckon_60 (fun i16 => ?_)
        refine G_callV (av := [.int i13, .int i16]) [] (fun q18 => ct_X6_step l N z q18 i13 i16) K_8 rfl yn_X6_step (Nat.le_of_ble_eq_true rfl) (by decide) gw_646 gw_648 gw_s6 gw_42 gw_649 rfl (by decide) dX6_reckon_61 (fun _ x17 => ?_)
        refine G_iinc (i := 3) (l2 := [(0, va_rf (some o)), (2, .int v2)]) 2 [0, 1] dX6_reckon_64 rfl rfl (Nat.le_of_ble_eq_true rfl) rfl (sok_a (by decide) (by decide) (sok_b (by decide) rfl trivial)) ?_
        refine G_goto (tgt := 13) dX6_reckon_67 (by decide) ?_
        refine G_lv [1, 2, 0] rfl ?_
        exact ih o v2 (v3 + (1 : Int32)) x17

set_option maxRecDepth 100000 in
set_option maxHeartbeats 4000000 in
theorem g_X6_reckon (l : Launch) (N : Nat) (z : Nat → Nat) (o : Nat) (v1 : Int32) (v2 : Int32) (x0 : Hp) : G l z m_X6_reckon okT enI 0 [(0, va_rf (some o)), (1, .int v1), (2, .int v2)] [] x0 (f_X6_reckon N z o v1 v2 x0) := by
  unfold f_X6_reckon
  refine G_aload_n 0 dX6_reckon_0 rfl rfl ?_
  refine G_getr (k := 7) K_8 (by decide) rfl rfl rfl gw_320 rfl dX6_reckon_1 (fun r19 => ?_)
  refine G_callV (av := []) [] (fun q21 => ct_X7_clear l N z q21) K_9 rfl yn_X7_clear (Nat.le_of_ble_eq_true rfl) (by decide) gw_639 gw_640 gw_641 gw_45 gw_642 rfl (by decide) dX6_reckon_4 (fun _ x20 => ?_)
  refine G_iconst (v := (0 : Int32)) dX6_reckon_7 rfl ?_
  refine G_iload_n 1 dX6_reckon_8 rfl rfl ?_
  refine G_mmax (st := []) gw_643 gw_644 gw_59 gw_645 (by decide) (by decide) dX6_reckon_9 ?_
  refine G_istore_n (i := 3) (l2 := [(0, va_rf (some o)), (1, .int v1), (2, .int v2)]) [0, 1, 2] dX6_reckon_12 rfl (Nat.le_of_ble_eq_true rfl) rfl (sok_a (by decide) (by decide) (sok_a (by decide) (by decide) (sok_b (by decide) rfl trivial))) ?_
  refine G_lv [1, 3, 0] rfl ?_
  exact g_X6_reckon_b13 l N z N o v2 (if (0 : Int32) < v1 then v1 else (0 : Int32)) x20

theorem yn_X6_reckon : Yn yX6_reckon 2 := ⟨by decide +kernel, by decide +kernel, by decide +kernel⟩
theorem ct_X6_reckon (l : Launch) (N : Nat) (z : Nat → Nat) (o : Nat) (v1 : Int32) (v2 : Int32) : Ct l z yX6_reckon cX6_reckon 4 (some .int) 4 enI [.ref o, .int v1, .int v2] (f_X6_reckon N z o v1 v2) :=
  Ct_i (fun x => G_lv0 (by simp only [lva_n, lva_i, lva_o, lva_r, lva_j]) (g_X6_reckon l N z o v1 v2 x)) (by decide +kernel) (by simp only [lgl_n, lgl_i, lgl_o, lgl_r, lgl_j]; decide)

theorem dX6_obey_0 : decode cX6_obey 0 = .ok (.aload_n 0, 1) := by decide +kernel
theorem dX6_obey_1 : decode cX6_obey 1 = .ok (.aload_n 1, 1) := by decide +kernel
theorem dX6_obey_2 : decode cX6_obey 2 = .ok (.getfield 125, 3) := by decide +kernel
theorem dX6_obey_5 : decode cX6_obey 5 = .ok (.invokevirtual 63, 3) := by decide +kernel
theorem dX6_obey_8 : decode cX6_obey 8 = .ok (.astore_n 2, 1) := by decide +kernel
theorem dX6_obey_9 : decode cX6_obey 9 = .ok (.aload_n 1, 1) := by decide +kernel
theorem dX6_obey_10 : decode cX6_obey 10 = .ok (.getfield 130, 3) := by decide +kernel
theorem dX6_obey_13 : decode cX6_obey 13 = .ok (.aload_n 1, 1) := by decide +kernel
theorem dX6_obey_14 : decode cX6_obey 14 = .ok (.getfield 133, 3) := by decide +kernel
theorem dX6_obey_17 : decode cX6_obey 17 = .ok (.if_icmp .ne 7, 3) := by decide +kernel
theorem dX6_obey_20 : decode cX6_obey 20 = .ok (.iconst 1, 1) := by decide +kernel
theorem dX6_obey_21 : decode cX6_obey 21 = .ok (.goto 4, 3) := by decide +kernel
theorem dX6_obey_24 : decode cX6_obey 24 = .ok (.iconst 0, 1) := by decide +kernel
theorem dX6_obey_25 : decode cX6_obey 25 = .ok (.istore_n 3, 1) := by decide +kernel
theorem dX6_obey_26 : decode cX6_obey 26 = .ok (.aload_n 2, 1) := by decide +kernel
theorem dX6_obey_27 : decode cX6_obey 27 = .ok (.ifnull 22, 3) := by decide +kernel
theorem dX6_obey_30 : decode cX6_obey 30 = .ok (.iload_n 3, 1) := by decide +kernel
theorem dX6_obey_31 : decode cX6_obey 31 = .ok (.ifCond .ne 19, 3) := by decide +kernel
theorem dX6_obey_34 : decode cX6_obey 34 = .ok (.aload_n 0, 1) := by decide +kernel
theorem dX6_obey_35 : decode cX6_obey 35 = .ok (.aload_n 1, 1) := by decide +kernel
theorem dX6_obey_36 : decode cX6_obey 36 = .ok (.getfield 130, 3) := by decide +kernel
theorem dX6_obey_39 : decode cX6_obey 39 = .ok (.aload_n 1, 1) := by decide +kernel
theorem dX6_obey_40 : decode cX6_obey 40 = .ok (.getfield 133, 3) := by decide +kernel
theorem dX6_obey_43 : decode cX6_obey 43 = .ok (.invokevirtual 136, 3) := by decide +kernel
theorem dX6_obey_46 : decode cX6_obey 46 = .ok (.ifCond .ne 4, 3) := by decide +kernel
theorem dX6_obey_49 : decode cX6_obey 49 = .ok (.return_, 1) := by decide +kernel
theorem dX6_obey_50 : decode cX6_obey 50 = .ok (.aload_n 1, 1) := by decide +kernel
theorem dX6_obey_51 : decode cX6_obey 51 = .ok (.getfield 140, 3) := by decide +kernel
theorem dX6_obey_54 : decode cX6_obey 54 = .ok (.bipush 18, 2) := by decide +kernel
theorem dX6_obey_56 : decode cX6_obey 56 = .ok (.if_icmp .ne 25, 3) := by decide +kernel
theorem dX6_obey_59 : decode cX6_obey 59 = .ok (.aload_n 2, 1) := by decide +kernel
theorem dX6_obey_60 : decode cX6_obey 60 = .ok (.getfield 143, 3) := by decide +kernel
theorem dX6_obey_63 : decode cX6_obey 63 = .ok (.ifCond .ne 7, 3) := by decide +kernel
theorem dX6_obey_66 : decode cX6_obey 66 = .ok (.iconst 1, 1) := by decide +kernel
theorem dX6_obey_67 : decode cX6_obey 67 = .ok (.goto 4, 3) := by decide +kernel
theorem dX6_obey_70 : decode cX6_obey 70 = .ok (.iconst 0, 1) := by decide +kernel
theorem dX6_obey_71 : decode cX6_obey 71 = .ok (.istore 4, 2) := by decide +kernel
theorem dX6_obey_73 : decode cX6_obey 73 = .ok (.aload_n 2, 1) := by decide +kernel
theorem dX6_obey_74 : decode cX6_obey 74 = .ok (.iconst 1, 1) := by decide +kernel
theorem dX6_obey_75 : decode cX6_obey 75 = .ok (.putfield 143, 3) := by decide +kernel
theorem dX6_obey_78 : decode cX6_obey 78 = .ok (.goto 82, 3) := by decide +kernel
theorem dX6_obey_81 : decode cX6_obey 81 = .ok (.iconst 0, 1) := by decide +kernel
theorem dX6_obey_82 : decode cX6_obey 82 = .ok (.bipush 30, 2) := by decide +kernel
theorem dX6_obey_84 : decode cX6_obey 84 = .ok (.aload_n 0, 1) := by decide +kernel
theorem dX6_obey_85 : decode cX6_obey 85 = .ok (.aload_n 1, 1) := by decide +kernel
theorem dX6_obey_86 : decode cX6_obey 86 = .ok (.getfield 147, 3) := by decide +kernel
theorem dX6_obey_89 : decode cX6_obey 89 = .ok (.aload_n 1, 1) := by decide +kernel
theorem dX6_obey_90 : decode cX6_obey 90 = .ok (.getfield 130, 3) := by decide +kernel
theorem dX6_obey_93 : decode cX6_obey 93 = .ok (.invokevirtual 136, 3) := by decide +kernel
theorem dX6_obey_96 : decode cX6_obey 96 = .ok (.invokestatic 150, 3) := by decide +kernel
theorem dX6_obey_99 : decode cX6_obey 99 = .ok (.invokestatic 155, 3) := by decide +kernel
theorem dX6_obey_102 : decode cX6_obey 102 = .ok (.istore 5, 2) := by decide +kernel
theorem dX6_obey_104 : decode cX6_obey 104 = .ok (.aload_n 1, 1) := by decide +kernel
theorem dX6_obey_105 : decode cX6_obey 105 = .ok (.getfield 140, 3) := by decide +kernel
theorem dX6_obey_108 : decode cX6_obey 108 = .ok (.bipush 16, 2) := by decide +kernel
theorem dX6_obey_110 : decode cX6_obey 110 = .ok (.if_icmp .ne 28, 3) := by decide +kernel
theorem dX6_obey_113 : decode cX6_obey 113 = .ok (.aload_n 2, 1) := by decide +kernel
theorem dX6_obey_114 : decode cX6_obey 114 = .ok (.getfield 112, 3) := by decide +kernel
theorem dX6_obey_117 : decode cX6_obey 117 = .ok (.iload 5, 2) := by decide +kernel
theorem dX6_obey_119 : decode cX6_obey 119 = .ok (.if_icmp .eq 7, 3) := by decide +kernel
theorem dX6_obey_122 : decode cX6_obey 122 = .ok (.iconst 1, 1) := by decide +kernel
theorem dX6_obey_123 : decode cX6_obey 123 = .ok (.goto 4, 3) := by decide +kernel
theorem dX6_obey_126 : decode cX6_obey 126 = .ok (.iconst 0, 1) := by decide +kernel
theorem dX6_obey_127 : decode cX6_obey 127 = .ok (.istore 4, 2) := by decide +kernel
theorem dX6_obey_129 : decode cX6_obey 129 = .ok (.aload_n 2, 1) := by decide +kernel
theorem dX6_obey_130 : decode cX6_obey 130 = .ok (.iload 5, 2) := by decide +kernel
theorem dX6_obey_132 : decode cX6_obey 132 = .ok (.putfield 112, 3) := by decide +kernel
theorem dX6_obey_135 : decode cX6_obey 135 = .ok (.goto 25, 3) := by decide +kernel
theorem dX6_obey_138 : decode cX6_obey 138 = .ok (.aload_n 2, 1) := by decide +kernel
theorem dX6_obey_139 : decode cX6_obey 139 = .ok (.getfield 158, 3) := by decide +kernel
theorem dX6_obey_142 : decode cX6_obey 142 = .ok (.iload 5, 2) := by decide +kernel
theorem dX6_obey_144 : decode cX6_obey 144 = .ok (.if_icmp .eq 7, 3) := by decide +kernel
theorem dX6_obey_147 : decode cX6_obey 147 = .ok (.iconst 1, 1) := by decide +kernel
theorem dX6_obey_148 : decode cX6_obey 148 = .ok (.goto 4, 3) := by decide +kernel
theorem dX6_obey_151 : decode cX6_obey 151 = .ok (.iconst 0, 1) := by decide +kernel
theorem dX6_obey_152 : decode cX6_obey 152 = .ok (.istore 4, 2) := by decide +kernel
theorem dX6_obey_154 : decode cX6_obey 154 = .ok (.aload_n 2, 1) := by decide +kernel
theorem dX6_obey_155 : decode cX6_obey 155 = .ok (.iload 5, 2) := by decide +kernel
theorem dX6_obey_157 : decode cX6_obey 157 = .ok (.putfield 158, 3) := by decide +kernel
theorem dX6_obey_160 : decode cX6_obey 160 = .ok (.iload 4, 2) := by decide +kernel
theorem dX6_obey_162 : decode cX6_obey 162 = .ok (.ifCond .eq 13, 3) := by decide +kernel
theorem dX6_obey_165 : decode cX6_obey 165 = .ok (.aload_n 0, 1) := by decide +kernel
theorem dX6_obey_166 : decode cX6_obey 166 = .ok (.dup, 1) := by decide +kernel
theorem dX6_obey_167 : decode cX6_obey 167 = .ok (.getfield 57, 3) := by decide +kernel
theorem dX6_obey_170 : decode cX6_obey 170 = .ok (.iconst 1, 1) := by decide +kernel
theorem dX6_obey_171 : decode cX6_obey 171 = .ok (.iadd, 1) := by decide +kernel
theorem dX6_obey_172 : decode cX6_obey 172 = .ok (.putfield 57, 3) := by decide +kernel
theorem dX6_obey_175 : decode cX6_obey 175 = .ok (.return_, 1) := by decide +kernel
abbrev m_X6_obey : Mt := (cX6_obey, RX6, "obey", 6, .return_, 5)
def f_X6_obey_b160 (N : Nat) (z : Nat → Nat) (o : Nat) (v4 : Int32) (x0 : Hp) : Option (Unit × Hp) :=
  if v4 = 0 then (some ((), x0)) else (geti (some o) x0 9 170 fun i1 =>
  puti (some o) x0 9 170 (i1 + (1 : Int32)) fun x2 =>
  some ((), x2))
def f_X6_obey_b71 (N : Nat) (z : Nat → Nat) (o : Nat) (v2 : Option Nat) (s0 : Int32) (x0 : Hp) : Option (Unit × Hp) :=
  puti v2 x0 5 90 (1 : Int32) fun x3 =>
  f_X6_obey_b160 N z o s0 x3
def f_X6_obey_b127 (N : Nat) (z : Nat → Nat) (o : Nat) (v2 : Option Nat) (v5 : Int32) (s0 : Int32) (x0 : Hp) : Option (Unit × Hp) :=
  puti v2 x0 5 83 v5 fun x4 =>
  f_X6_obey_b160 N z o s0 x4
def f_X6_obey_b152 (N : Nat) (z : Nat → Nat) (o : Nat) (v2 : Option Nat) (v5 : Int32) (s0 : Int32) (x0 : Hp) : Option (Unit × Hp) :=
  puti v2 x0 5 84 v5 fun x5 =>
  f_X6_obey_b160 N z o s0 x5
def f_X6_obey_b50 (N : Nat) (z : Nat → Nat) (o : Nat) (v1 : Option Nat) (v2 : Option Nat) (x0 : Hp) : Option (Unit × Hp) :=
  geti v1 x0 6 100 fun i6 =>
  if i6 = (18 : Int32) then (geti v2 x0 5 90 fun i15 =>
  if i15 = 0 then (f_X6_obey_b71 N z o v2 (1 : Int32) x0) else (f_X6_obey_b71 N z o v2 (0 : Int32) x0)) else (geti v1 x0 6 102 fun i7 =>
  geti v1 x0 6 103 fun i8 =>
  obj (some o) x0 9 fun q11 => bnd (f_X6_reckon N z q11 i7 i8 x0) fun i10 x9 =>
  geti v1 x9 6 100 fun i12 =>
  if i12 = (16 : Int32) then (geti v2 x9 5 83 fun i14 =>
  if i14 = (if (0 : Int32) < (if i10 < (30 : Int32) then i10 else (30 : Int32)) then (if i10 < (30 : Int32) then i10 else (30 : Int32)) else (0 : Int32)) then (f_X6_obey_b127 N z o v2 (if (0 : Int32) < (if i10 < (30 : Int32) then i10 else (30 : Int32)) then (if i10 < (30 : Int32) then i10 else (30 : Int32)) else (0 : Int32)) (0 : Int32) x9) else (f_X6_obey_b127 N z o v2 (if (0 : Int32) < (if i10 < (30 : Int32) then i10 else (30 : Int32)) then (if i10 < (30 : Int32) then i10 else (30 : Int32)) else (0 : Int32)) (1 : Int32) x9)) else (geti v2 x9 5 84 fun i13 =>
  if i13 = (if (0 : Int32) < (if i10 < (30 : Int32) then i10 else (30 : Int32)) then (if i10 < (30 : Int32) then i10 else (30 : Int32)) else (0 : Int32)) then (f_X6_obey_b152 N z o v2 (if (0 : Int32) < (if i10 < (30 : Int32) then i10 else (30 : Int32)) then (if i10 < (30 : Int32) then i10 else (30 : Int32)) else (0 : Int32)) (0 : Int32) x9) else (f_X6_obey_b152 N z o v2 (if (0 : Int32) < (if i10 < (30 : Int32) then i10 else (30 : Int32)) then (if i10 < (30 : Int32) then i10 else (30 : Int32)) else (0 : Int32)) (1 : Int32) x9)))
def f_X6_obey_b25 (N : Nat) (z : Nat → Nat) (o : Nat) (v1 : Option Nat) (v2 : Option Nat) (s0 : Int32) (x0 : Hp) : Option (Unit × Hp) :=
  if v2 = none then (some ((), x0)) else (if s0 = 0 then (geti v1 x0 6 103 fun i16 =>
  geti v1 x0 6 104 fun i17 =>
  obj (some o) x0 9 fun q20 => bnd (f_X6_reckon N z q20 i16 i17 x0) fun i19 x18 =>
  if i19 = 0 then (some ((), x18)) else (f_X6_obey_b50 N z o v1 v2 x18)) else (f_X6_obey_b50 N z o v1 v2 x0))
def f_X6_obey (N : Nat) (z : Nat → Nat) (o : Nat) (v1 : Option Nat) (x0 : Hp) : Option (Unit × Hp) :=
  geti v1 x0 6 101 fun i21 =>
  obj (some o) x0 9 fun q24 => bnd (f_X6_laneAt N z q24 i21 x0) fun r23 x22 =>
  geti v1 x22 6 103 fun i25 =>
  geti v1 x22 6 104 fun i26 =>
  if i25 = i26 then (f_X6_obey_b25 N z o v1 r23 (1 : Int32) x22) else (f_X6_obey_b25 N z o v1 r23 (0 : Int32) x22)
set_option maxRecDepth 100000 in
set_option maxHeartbeats 4000000 in
theorem g_X6_obey_b160 (l : Launch) (N : Nat) (z : Nat → Nat) (o : Nat) (v4 : Int32) (x0 : Hp) : G l z m_X6_obey okT enV 160 [(0, va_rf (some o)), (4, .int v4)] [] x0 (f_X6_obey_b160 N z o v4 x0) := by
  unfold f_X6_obey_b160
  refine G_iload 1 dX6_obey_160 rfl ?_
  refine G_if_eq (tgt := 175) dX6_obey_162 (by decide) (fun _ => ?_) (fun _ => ?_)
  · exact G_ret trivial dX6_obey_175 rfl
  · refine G_aload_n 0 dX6_obey_165 rfl rfl ?_
    refine G_dup dX6_obey_166 (rf_cat _) ?_
    refine G_geti (k := 10) K_8 (by decide) rfl rfl rfl gw_323 rfl dX6_obey_167 (fun i1 => ?_)
    refine G_iconst (v := (1 : Int32)) dX6_obey_170 rfl ?_
    refine G_iadd dX6_obey_171 ?_
    refine G_puti (k := 10) K_8 (by decide) rfl rfl rfl gw_323 rfl (Or.inl rfl) nar_int.1 nar_int.2 dX6_obey_172 (fun x2 => ?_)
    exact G_ret trivial dX6_obey_175 rfl

set_option maxRecDepth 100000 in
set_option maxHeartbeats 4000000 in
theorem g_X6_obey_b71 (l : Launch) (N : Nat) (z : Nat → Nat) (o : Nat) (v2 : Option Nat) (s0 : Int32) (x0 : Hp) : G l z m_X6_obey okT enV 71 [(0, va_rf (some o)), (2, va_rf v2)] [.int s0] x0 (f_X6_obey_b71 N z o v2 s0 x0) := by
  unfold f_X6_obey_b71
  refine G_istore (i := 4) (l2 := [(0, va_rf (some o)), (2, va_rf v2)]) [0, 1] dX6_obey_71 (Nat.le_of_ble_eq_true rfl) rfl (sok_a (by decide) (by decide) (sok_a (by decide) (by decide) trivial)) ?_
  refine G_aload_n 2 dX6_obey_73 rfl rfl ?_
  refine G_iconst (v := (1 : Int32)) dX6_obey_74 rfl ?_
  refine G_puti (k := 10) K_4 (by decide) rfl rfl rfl gw_236 rfl (Or.inl rfl) (by decide) (by decide) dX6_obey_75 (fun x3 => ?_)
  refine G_goto (tgt := 160) dX6_obey_78 (by decide) ?_
  refine G_lv [1, 0] rfl ?_
  exact g_X6_obey_b160 l N z o s0 x3

set_option maxRecDepth 100000 in
set_option maxHeartbeats 4000000 in
theorem g_X6_obey_b127 (l : Launch) (N : Nat) (z : Nat → Nat) (o : Nat) (v2 : Option Nat) (v5 : Int32) (s0 : Int32) (x0 : Hp) : G l z m_X6_obey okT enV 127 [(0, va_rf (some o)), (2, va_rf v2), (5, .int v5)] [.int s0] x0 (f_X6_obey_b127 N z o v2 v5 s0 x0) := by
  unfold f_X6_obey_b127
  refine G_istore (i := 4) (l2 := [(0, va_rf (some o)), (2, va_rf v2), (5, .int v5)]) [0, 1, 2] dX6_obey_127 (Nat.le_of_ble_eq_true rfl) rfl (sok_a (by decide) (by decide) (sok_a (by decide) (by decide) (sok_a (by decide) (by decide) trivial))) ?_
  refine G_aload_n 2 dX6_obey_129 rfl rfl ?_
  refine G_iload 3 dX6_obey_130 rfl ?_
  refine G_puti (k := 3) K_4 (by decide) rfl rfl rfl gw_218 rfl (Or.inl rfl) nar_int.1 nar_int.2 dX6_obey_132 (fun x4 => ?_)
  refine G_goto (tgt := 160) dX6_obey_135 (by decide) ?_
  refine G_lv [1, 0] rfl ?_
  exact g_X6_obey_b160 l N z o s0 x4

set_option maxRecDepth 100000 in
set_option maxHeartbeats 4000000 in
theorem g_X6_obey_b152 (l : Launch) (N : Nat) (z : Nat → Nat) (o : Nat) (v2 : Option Nat) (v5 : Int32) (s0 : Int32) (x0 : Hp) : G l z m_X6_obey okT enV 152 [(0, va_rf (some o)), (2, va_rf v2), (5, .int v5)] [.int s0] x0 (f_X6_obey_b152 N z o v2 v5 s0 x0) := by
  unfold f_X6_obey_b152
  refine G_istore (i := 4) (l2 := [(0, va_rf (some o)), (2, va_rf v2), (5, .int v5)]) [0, 1, 2] dX6_obey_152 (Nat.le_of_ble_eq_true rfl) rfl (sok_a (by decide) (by decide) (sok_a (by decide) (by decide) (sok_a (by decide) (by decide) trivial))) ?_
  refine G_aload_n 2 dX6_obey_154 rfl rfl ?_
  refine G_iload 3 dX6_obey_155 rfl ?_
  refine G_puti (k := 4) K_4 (by decide) rfl rfl rfl gw_221 rfl (Or.inl rfl) nar_int.1 nar_int.2 dX6_obey_157 (fun x5 => ?_)
  refine G_lv [1, 0] rfl ?_
  exact g_X6_obey_b160 l N z o s0 x5

set_option maxRecDepth 100000 in
set_option maxHeartbeats 4000000 in
theorem g_X6_obey_b50 (l : Launch) (N : Nat) (z : Nat → Nat) (o : Nat) (v1 : Option Nat) (v2 : Option Nat) (x0 : Hp) : G l z m_X6_obey okT enV 50 [(0, va_rf (some o)), (1, va_rf v1), (2, va_rf v2)] [] x0 (f_X6_obey_b50 N z o v1 v2 x0) := by
  unfold f_X6_obey_b50
  refine G_aload_n 1 dX6_obey_50 rfl rfl ?_
  refine G_geti (k := 0) K_5 (by decide) rfl rfl rfl gw_116 rfl dX6_obey_51 (fun i6 => ?_)
  refine G_bipush (v := (18 : Int32)) dX6_obey_54 (by decide) ?_
  refine G_icmp_ne (tgt := 81) dX6_obey_56 (by decide) (fun _ => ?_) (fun _ => ?_)
  · refine G_aload_n 2 dX6_obey_59 rfl rfl ?_
    refine G_geti (k := 10) K_4 (by decide) rfl rfl rfl gw_236 rfl dX6_obey_60 (fun i15 => ?_)
    refine G_if_ne (tgt := 70) dX6_obey_63 (by decide) (fun _ => ?_) (fun _ => ?_)
    · refine G_iconst (v := (1 : Int32)) dX6_obey_66 rfl ?_
      refine G_goto (tgt := 71) dX6_obey_67 (by decide) ?_
      refine G_lv [0, 2] rfl ?_
      exact g_X6_obey_b71 l N z o v2 (1 : Int32) x0
    · refine G_iconst (v := (0 : Int32)) dX6_obey_70 rfl ?_
      refine G_lv [0, 2] rfl ?_
      exact g_X6_obey_b71 l N z o v2 (0 : Int32) x0
  · refine G_iconst (v := (0 : Int32)) dX6_obey_81 rfl ?_
    refine G_bipush (v := (30 : Int32)) dX6_obey_82 (by decide) ?_
    refine G_aload_n 0 dX6_obey_84 rfl rfl ?_
    refine G_aload_n 1 dX6_obey_85 rfl rfl ?_
    refine G_geti (k := 2) K_5 (by decide) rfl rfl rfl gw_122 rfl dX6_obey_86 (fun i7 => ?_)
    refine G_aload_n 1 dX6_obey_89 rfl rfl ?_
    refine G_geti (k := 3) K_5 (by decide) rfl rfl rfl gw_125 rfl dX6_obey_90 (fun i8 => ?_)
    refine G_callV (av := [.int i7, .int i8]) [.int (30 : Int32), .int (0 : Int32)] (fun q11 => ct_X6_reckon l N z q11 i7 i8) K_8 rfl yn_X6_reckon (Nat.le_of_ble_eq_true rfl) (by decide) gw_635 gw_637 gw_s5 gw_42 gw_638 rfl (by simp only [hw_n, hw_i, hw_r, hw_j, hw_d]; decide) dX6_obey_93 (fun i10 x9 => ?_)
    refine G_mmin (st := [.int (0 : Int32)]) gw_669 gw_670 gw_59 gw_671 (by decide) (by simp only [hw_n, hw_i, hw_r, hw_j, hw_d]; decide) dX6_obey_96 ?_
    refine G_mmax (st := []) gw_643 gw_644 gw_59 gw_645 (by decide) (by decide) dX6_obey_99 ?_
    refine G_istore (i := 5) (l2 := [(0, va_rf (some o)), (1, va_rf v1), (2, va_rf v2)]) [0, 1, 2] dX6_obey_102 (Nat.le_of_ble_eq_true rfl) rfl (sok_a (by decide) (by decide) (sok_a (by decide) (by decide) (sok_a (by decide) (by decide) trivial))) ?_
    refine G_aload_n 2 dX6_obey_104 rfl rfl ?_
    refine G_geti (k := 0) K_5 (by decide) rfl rfl rfl gw_116 rfl dX6_obey_105 (fun i12 => ?_)
    refine G_bipush (v := (16 : Int32)) dX6_obey_108 (by decide) ?_
    refine G_icmp_ne (tgt := 138) dX6_obey_110 (by decide) (fun _ => ?_) (fun _ => ?_)
    · refine G_aload_n 3 dX6_obey_113 rfl rfl ?_
      refine G_geti (k := 3) K_4 (by decide) rfl rfl rfl gw_218 rfl dX6_obey_114 (fun i14 => ?_)
      refine G_iload 0 dX6_obey_117 rfl ?_
      refine G_icmp_eq (tgt := 126) dX6_obey_119 (by decide) (fun _ => ?_) (fun _ => ?_)
      · refine G_iconst (v := (0 : Int32)) dX6_obey_126 rfl ?_
        refine G_lv [1, 3, 0] rfl ?_
        exact g_X6_obey_b127 l N z o v2 (if (0 : Int32) < (if i10 < (30 : Int32) then i10 else (30 : Int32)) then (if i10 < (30 : Int32) then i10 else (30 : Int32)) else (0 : Int32)) (0 : Int32) x9
      · refine G_iconst (v := (1 : Int32)) dX6_obey_122 rfl ?_
        refine G_goto (tgt := 127) dX6_obey_123 (by decide) ?_
        refine G_lv [1, 3, 0] rfl ?_
        exact g_X6_obey_b127 l N z o v2 (if (0 : Int32) < (if i10 < (30 : Int32) then i10 else (30 : Int32)) then (if i10 < (30 : Int32) then i10 else (30 : Int32)) else (0 : Int32)) (1 : Int32) x9
    · refine G_aload_n 3 dX6_obey_138 rfl rfl ?_
      refine G_geti (k := 4) K_4 (by decide) rfl rfl rfl gw_221 rfl dX6_obey_139 (fun i13 => ?_)
      refine G_iload 0 dX6_obey_142 rfl ?_
      refine G_icmp_eq (tgt := 151) dX6_obey_144 (by decide) (fun _ => ?_) (fun _ => ?_)
      · refine G_iconst (v := (0 : Int32)) dX6_obey_151 rfl ?_
        refine G_lv [1, 3, 0] rfl ?_
        exact g_X6_obey_b152 l N z o v2 (if (0 : Int32) < (if i10 < (30 : Int32) then i10 else (30 : Int32)) then (if i10 < (30 : Int32) then i10 else (30 : Int32)) else (0 : Int32)) (0 : Int32) x9
      · refine G_iconst (v := (1 : Int32)) dX6_obey_147 rfl ?_
        refine G_goto (tgt := 152) dX6_obey_148 (by decide) ?_
        refine G_lv [1, 3, 0] rfl ?_
        exact g_X6_obey_b152 l N z o v2 (if (0 : Int32) < (if i10 < (30 : Int32) then i10 else (30 : Int32)) then (if i10 < (30 : Int32) then i10 else (30 : Int32)) else (0 : Int32)) (1 : Int32) x9

set_option maxRecDepth 100000 in
set_option maxHeartbeats 4000000 in
theorem g_X6_obey_b25 (l : Launch) (N : Nat) (z : Nat → Nat) (o : Nat) (v1 : Option Nat) (v2 : Option Nat) (s0 : Int32) (x0 : Hp) : G l z m_X6_obey okT enV 25 [(0, va_rf (some o)), (1, va_rf v1), (2, va_rf v2)] [.int s0] x0 (f_X6_obey_b25 N z o v1 v2 s0 x0) := by
  unfold f_X6_obey_b25
  refine G_istore_n (i := 3) (l2 := [(0, va_rf (some o)), (1, va_rf v1), (2, va_rf v2)]) [0, 1, 2] dX6_obey_25 rfl (Nat.le_of_ble_eq_true rfl) rfl (sok_a (by decide) (by decide) (sok_a (by decide) (by decide) (sok_b (by decide) (rf_cat _) trivial))) ?_
  refine G_aload_n 3 dX6_obey_26 rfl rfl ?_
  refine G_ifnull (tgt := 49) dX6_obey_27 (by decide) (fun _ => ?_) (fun _ => ?_)
  · exact G_ret trivial dX6_obey_49 rfl
  · refine G_iload_n 0 dX6_obey_30 rfl rfl ?_
    refine G_if_ne (tgt := 50) dX6_obey_31 (by decide) (fun _ => ?_) (fun _ => ?_)
    · refine G_aload_n 1 dX6_obey_34 rfl rfl ?_
      refine G_aload_n 2 dX6_obey_35 rfl rfl ?_
      refine G_geti (k := 3) K_5 (by decide) rfl rfl rfl gw_125 rfl dX6_obey_36 (fun i16 => ?_)
      refine G_aload_n 2 dX6_obey_39 rfl rfl ?_
      refine G_geti (k := 4) K_5 (by decide) rfl rfl rfl gw_128 rfl dX6_obey_40 (fun i17 => ?_)
      refine G_callV (av := [.int i16, .int i17]) [] (fun q20 => ct_X6_reckon l N z q20 i16 i17) K_8 rfl yn_X6_reckon (Nat.le_of_ble_eq_true rfl) (by decide) gw_635 gw_637 gw_s5 gw_42 gw_638 rfl (by decide) dX6_obey_43 (fun i19 x18 => ?_)
      refine G_if_ne (tgt := 50) dX6_obey_46 (by decide) (fun _ => ?_) (fun _ => ?_)
      · exact G_ret trivial dX6_obey_49 rfl
      · refine G_lv [1, 2, 3] rfl ?_
        exact g_X6_obey_b50 l N z o v1 v2 x18
    · refine G_lv [1, 2, 3] rfl ?_
      exact g_X6_obey_b50 l N z o v1 v2 x0

set_option maxRecDepth 100000 in
set_option maxHeartbeats 4000000 in
theorem g_X6_obey (l : Launch) (N : Nat) (z : Nat → Nat) (o : Nat) (v1 : Option Nat) (x0 : Hp) : G l z m_X6_obey okT enV 0 [(0, va_rf (some o)), (1, va_rf v1)] [] x0 (f_X6_obey N z o v1 x0) := by
  unfold f_X6_obey
  refine G_aload_n 0 dX6_obey_0 rfl rfl ?_
  refine G_aload_n 1 dX6_obey_1 rfl rfl ?_
  refine G_geti (k := 1) K_5 (by decide) rfl rfl rfl gw_119 rfl dX6_obey_2 (fun i21 => ?_)
  refine G_callV (av := [.int i21]) [] (fun q24 => ct_X6_laneAt l N z q24 i21) K_8 rfl yn_X6_laneAt (Nat.le_of_ble_eq_true rfl) (by decide) gw_553 gw_554 gw_555 gw_42 gw_556 rfl (by decide) dX6_obey_5 (fun r23 x22 => ?_)
  refine G_astore_n (i := 2) (l2 := [(0, va_rf (some o)), (1, va_rf v1)]) [0, 1] dX6_obey_8 rfl (Nat.le_of_ble_eq_true rfl) rfl (sok_a (by decide) (by decide) (sok_b (by decide) (rf_cat _) trivial)) ?_
  refine G_aload_n 2 dX6_obey_9 rfl rfl ?_
  refine G_geti (k := 3) K_5 (by decide) rfl rfl rfl gw_125 rfl dX6_obey_10 (fun i25 => ?_)
  refine G_aload_n 2 dX6_obey_13 rfl rfl ?_
  refine G_geti (k := 4) K_5 (by decide) rfl rfl rfl gw_128 rfl dX6_obey_14 (fun i26 => ?_)
  refine G_icmp_ne (tgt := 24) dX6_obey_17 (by decide) (fun _ => ?_) (fun _ => ?_)
  · refine G_iconst (v := (1 : Int32)) dX6_obey_20 rfl ?_
    refine G_goto (tgt := 25) dX6_obey_21 (by decide) ?_
    refine G_lv [1, 2, 0] rfl ?_
    exact g_X6_obey_b25 l N z o v1 r23 (1 : Int32) x22
  · refine G_iconst (v := (0 : Int32)) dX6_obey_24 rfl ?_
    refine G_lv [1, 2, 0] rfl ?_
    exact g_X6_obey_b25 l N z o v1 r23 (0 : Int32) x22

theorem yn_X6_obey : Yn yX6_obey 1 := ⟨by decide +kernel, by decide +kernel, by decide +kernel⟩
theorem ct_X6_obey (l : Launch) (N : Nat) (z : Nat → Nat) (o : Nat) (v1 : Option Nat) : Ct l z yX6_obey cX6_obey 6 none 5 enV [.ref o, va_rf v1] (f_X6_obey N z o v1) :=
  Ct_v (fun x => G_lv0 (by simp only [lva_n, lva_i, lva_o, lva_r, lva_j]) (g_X6_obey l N z o v1 x)) (by decide +kernel) (by simp only [lgl_n, lgl_i, lgl_o, lgl_r, lgl_j]; decide)

theorem dX6_letFolkCome_0 : decode cX6_letFolkCome 0 = .ok (.iconst 0, 1) := by decide +kernel
theorem dX6_letFolkCome_1 : decode cX6_letFolkCome 1 = .ok (.istore_n 1, 1) := by decide +kernel
theorem dX6_letFolkCome_2 : decode cX6_letFolkCome 2 = .ok (.iload_n 1, 1) := by decide +kernel
theorem dX6_letFolkCome_3 : decode cX6_letFolkCome 3 = .ok (.aload_n 0, 1) := by decide +kernel
theorem dX6_letFolkCome_4 : decode cX6_letFolkCome 4 = .ok (.getfield 48, 3) := by decide +kernel
theorem dX6_letFolkCome_7 : decode cX6_letFolkCome 7 = .ok (.if_icmp .ge 65, 3) := by decide +kernel
theorem dX6_letFolkCome_10 : decode cX6_letFolkCome 10 = .ok (.aload_n 0, 1) := by decide +kernel
theorem dX6_letFolkCome_11 : decode cX6_letFolkCome 11 = .ok (.iload_n 1, 1) := by decide +kernel
theorem dX6_letFolkCome_12 : decode cX6_letFolkCome 12 = .ok (.invokevirtual 82, 3) := by decide +kernel
theorem dX6_letFolkCome_15 : decode cX6_letFolkCome 15 = .ok (.astore_n 2, 1) := by decide +kernel
theorem dX6_letFolkCome_16 : decode cX6_letFolkCome 16 = .ok (.aload_n 2, 1) := by decide +kernel
theorem dX6_letFolkCome_17 : decode cX6_letFolkCome 17 = .ok (.ifnull 49, 3) := by decide +kernel
theorem dX6_letFolkCome_20 : decode cX6_letFolkCome 20 = .ok (.aload_n 2, 1) := by decide +kernel
theorem dX6_letFolkCome_21 : decode cX6_letFolkCome 21 = .ok (.aload_n 0, 1) := by decide +kernel
theorem dX6_letFolkCome_22 : decode cX6_letFolkCome 22 = .ok (.getfield 42, 3) := by decide +kernel
theorem dX6_letFolkCome_25 : decode cX6_letFolkCome 25 = .ok (.invokevirtual 189, 3) := by decide +kernel
theorem dX6_letFolkCome_28 : decode cX6_letFolkCome 28 = .ok (.ifCond .eq 38, 3) := by decide +kernel
theorem dX6_letFolkCome_31 : decode cX6_letFolkCome 31 = .ok (.aload_n 0, 1) := by decide +kernel
theorem dX6_letFolkCome_32 : decode cX6_letFolkCome 32 = .ok (.aload_n 2, 1) := by decide +kernel
theorem dX6_letFolkCome_33 : decode cX6_letFolkCome 33 = .ok (.getfield 193, 3) := by decide +kernel
theorem dX6_letFolkCome_36 : decode cX6_letFolkCome 36 = .ok (.invokevirtual 63, 3) := by decide +kernel
theorem dX6_letFolkCome_39 : decode cX6_letFolkCome 39 = .ok (.astore_n 3, 1) := by decide +kernel
theorem dX6_letFolkCome_40 : decode cX6_letFolkCome 40 = .ok (.aload_n 3, 1) := by decide +kernel
theorem dX6_letFolkCome_41 : decode cX6_letFolkCome 41 = .ok (.ifnull 25, 3) := by decide +kernel
theorem dX6_letFolkCome_44 : decode cX6_letFolkCome 44 = .ok (.aload_n 0, 1) := by decide +kernel
theorem dX6_letFolkCome_45 : decode cX6_letFolkCome 45 = .ok (.aload_n 3, 1) := by decide +kernel
theorem dX6_letFolkCome_46 : decode cX6_letFolkCome 46 = .ok (.aload_n 2, 1) := by decide +kernel
theorem dX6_letFolkCome_47 : decode cX6_letFolkCome 47 = .ok (.getfield 194, 3) := by decide +kernel
theorem dX6_letFolkCome_50 : decode cX6_letFolkCome 50 = .ok (.invokevirtual 197, 3) := by decide +kernel
theorem dX6_letFolkCome_53 : decode cX6_letFolkCome 53 = .ok (.aload_n 2, 1) := by decide +kernel
theorem dX6_letFolkCome_54 : decode cX6_letFolkCome 54 = .ok (.dup, 1) := by decide +kernel
theorem dX6_letFolkCome_55 : decode cX6_letFolkCome 55 = .ok (.getfield 201, 3) := by decide +kernel
theorem dX6_letFolkCome_58 : decode cX6_letFolkCome 58 = .ok (.aload_n 2, 1) := by decide +kernel
theorem dX6_letFolkCome_59 : decode cX6_letFolkCome 59 = .ok (.getfield 194, 3) := by decide +kernel
theorem dX6_letFolkCome_62 : decode cX6_letFolkCome 62 = .ok (.iadd, 1) := by decide +kernel
theorem dX6_letFolkCome_63 : decode cX6_letFolkCome 63 = .ok (.putfield 201, 3) := by decide +kernel
theorem dX6_letFolkCome_66 : decode cX6_letFolkCome 66 = .ok (.iinc 1 1, 3) := by decide +kernel
theorem dX6_letFolkCome_69 : decode cX6_letFolkCome 69 = .ok (.goto (-67), 3) := by decide +kernel
theorem dX6_letFolkCome_72 : decode cX6_letFolkCome 72 = .ok (.return_, 1) := by decide +kernel
abbrev m_X6_letFolkCome : Mt := (cX6_letFolkCome, RX6, "letFolkCome", 4, .return_, 5)
def f_X6_letFolkCome_b66 (N : Nat) (z : Nat → Nat) (k2 : Nat → Int32 → Hp → Option (Unit × Hp)) (o : Nat) (v1 : Int32) (x0 : Hp) : Option (Unit × Hp) :=
  k2 o (v1 + (1 : Int32)) x0
def f_X6_letFolkCome_b2 (N : Nat) (z : Nat → Nat) : Nat → Nat → Int32 → Hp → Option (Unit × Hp)
  | 0, _, _, _ => none
  | n + 1, o, v1, x0 => geti (some o) x0 9 164 fun i1 =>
  if i1 ≤ v1 then (some ((), x0)) else (obj (some o) x0 9 fun q4 => bnd (f_X6_folkAt N z q4 v1 x0) fun r3 x2 =>
  if r3 = none then (f_X6_letFolkCome_b66 N z (f_X6_letFolkCome_b2 N z n) o v1 x2) else (geti (some o) x2 9 161 fun i5 =>
  obj r3 x2 4 fun q8 => bnd (f_X1_comeIn N z q8 i5 x2) fun i7 x6 =>
  if i7 = 0 then (f_X6_letFolkCome_b66 N z (f_X6_letFolkCome_b2 N z n) o v1 x6) else (geti r3 x6 4 60 fun i9 =>
  obj (some o) x6 9 fun q12 => bnd (f_X6_laneAt N z q12 i9 x6) fun r11 x10 =>
  if r11 = none then (f_X6_letFolkCome_b66 N z (f_X6_letFolkCome_b2 N z n) o v1 x10) else (geti r3 x10 4 61 fun i13 =>
  obj (some o) x10 9 fun q15 => bnd (f_X6_takeIn N z q15 r11 i13 x10) fun _ x14 =>
  geti r3 x14 4 62 fun i16 =>
  geti r3 x14 4 61 fun i17 =>
  puti r3 x14 4 62 (i16 + i17) fun x18 =>
  f_X6_letFolkCome_b66 N z (f_X6_letFolkCome_b2 N z n) o v1 x18))))
def f_X6_letFolkCome (N : Nat) (z : Nat → Nat) (o : Nat) (x0 : Hp) : Option (Unit × Hp) :=
  f_X6_letFolkCome_b2 N z N o (0 : Int32) x0
set_option maxRecDepth 100000 in
set_option maxHeartbeats 4000000 in
theorem g_X6_letFolkCome_b66 (l : Launch) (N : Nat) (z : Nat → Nat) {k2 : Nat → Int32 → Hp → Option (Unit × Hp)} (hk2 : ∀ o v1 x, G l z m_X6_letFolkCome okT enV 2 [(0, va_rf (some o)), (1, .int v1)] [] x (k2 o v1 x)) (o : Nat) (v1 : Int32) (x0 : Hp) : G l z m_X6_letFolkCome okT enV 66 [(0, va_rf (some o)), (1, .int v1)] [] x0 (f_X6_letFolkCome_b66 N z k2 o v1 x0) := by
  unfold f_X6_letFolkCome_b66
  refine G_iinc (i := 1) (l2 := [(0, va_rf (some o))]) 1 [0] dX6_letFolkCome_66 rfl rfl (Nat.le_of_ble_eq_true rfl) rfl (sok_b (by decide) (rf_cat _) trivial) ?_
  refine G_goto (tgt := 2) dX6_letFolkCome_69 (by decide) ?_
  refine G_lv [1, 0] rfl ?_
  exact hk2 o (v1 + (1 : Int32)) x0

set_option maxRecDepth 100000 in
set_option maxHeartbeats 4000000 in
theorem g_X6_letFolkCome_b2 (l : Launch) (N : Nat) (z : Nat → Nat) : ∀ (n : Nat) (o : Nat) (v1 : Int32) (x0 : Hp), G l z m_X6_letFolkCome okT enV 2 [(0, va_rf (some o)), (1, .int v1)] [] x0 (f_X6_letFolkCome_b2 N z n o v1 x0) := by
  intro n
  induction n with
  | zero => intro o v1 x0; exact G_none
  | succ n ih =>
  intro o v1 x0
  rw [f_X6_letFolkCome_b2]
  refine G_iload_n 1 dX6_letFolkCome_2 rfl rfl ?_
  refine G_aload_n 0 dX6_letFolkCome_3 rfl rfl ?_
  refine G_geti (k := 4) K_8 (by decide) rfl rfl rfl gw_316 rfl dX6_letFolkCome_4 (fun i1 => ?_)
  refine G_icmp_ge (tgt := 72) dX6_letFolkCome_7 (by decide) (fun _ => ?_) (fun _ => ?_)
  · exact G_ret trivial dX6_letFolkCome_72 rfl
  · refine G_aload_n 0 dX6_letFolkCome_10 rfl rfl ?_
    refine G_iload_n 1 dX6_letFolkCome_11 rfl rfl ?_
    refine G_callV (av := [.int v1]) [] (fun q4 => ct_X6_folkAt l N z q4 v1) K_8 rfl yn_X6_folkAt (Nat.le_of_ble_eq_true rfl) (by decide) gw_676 gw_677 gw_678 gw_42 gw_679 rfl (by decide) dX6_letFolkCome_12 (fun r3 x2 => ?_)
    refine G_astore_n (i := 2) (l2 := [(0, va_rf (some o)), (1, .int v1)]) [0, 1] dX6_letFolkCome_15 rfl (Nat.le_of_ble_eq_true rfl) rfl (sok_a (by decide) (by decide) (sok_b (by decide) rfl trivial)) ?_
    refine G_aload_n 0 dX6_letFolkCome_16 rfl rfl ?_
    refine G_ifnull (tgt := 66) dX6_letFolkCome_17 (by decide) (fun _ => ?_) (fun _ => ?_)
    · refine G_lv [1, 2] rfl ?_
      exact g_X6_letFolkCome_b66 l N z ih o v1 x2
    · refine G_aload_n 0 dX6_letFolkCome_20 rfl rfl ?_
      refine G_aload_n 1 dX6_letFolkCome_21 rfl rfl ?_
      refine G_geti (k := 1) K_8 (by decide) rfl rfl rfl gw_308 rfl dX6_letFolkCome_22 (fun i5 => ?_)
      refine G_callV (av := [.int i5]) [] (fun q8 => ct_X1_comeIn l N z q8 i5) K_3 rfl yn_X1_comeIn (Nat.le_of_ble_eq_true rfl) (by decide) gw_680 gw_681 gw_682 gw_48 gw_683 rfl (by decide) dX6_letFolkCome_25 (fun i7 x6 => ?_)
      refine G_if_eq (tgt := 66) dX6_letFolkCome_28 (by decide) (fun _ => ?_) (fun _ => ?_)
      · refine G_lv [1, 2] rfl ?_
        exact g_X6_letFolkCome_b66 l N z ih o v1 x6
      · refine G_aload_n 1 dX6_letFolkCome_31 rfl rfl ?_
        refine G_aload_n 0 dX6_letFolkCome_32 rfl rfl ?_
        refine G_geti (k := 0) K_3 (by decide) rfl rfl rfl gw_287 rfl dX6_letFolkCome_33 (fun i9 => ?_)
        refine G_callV (av := [.int i9]) [] (fun q12 => ct_X6_laneAt l N z q12 i9) K_8 rfl yn_X6_laneAt (Nat.le_of_ble_eq_true rfl) (by decide) gw_553 gw_554 gw_555 gw_42 gw_556 rfl (by decide) dX6_letFolkCome_36 (fun r11 x10 => ?_)
        refine G_astore_n (i := 3) (l2 := [(2, va_rf r3), (0, va_rf (some o)), (1, .int v1)]) [0, 1, 2] dX6_letFolkCome_39 rfl (Nat.le_of_ble_eq_true rfl) rfl (sok_b (by decide) (rf_cat _) (sok_a (by decide) (by decide) (sok_a (by decide) (by decide) trivial))) ?_
        refine G_aload_n 0 dX6_letFolkCome_40 rfl rfl ?_
        refine G_ifnull (tgt := 66) dX6_letFolkCome_41 (by decide) (fun _ => ?_) (fun _ => ?_)
        · refine G_lv [2, 3] rfl ?_
          exact g_X6_letFolkCome_b66 l N z ih o v1 x10
        · refine G_aload_n 2 dX6_letFolkCome_44 rfl rfl ?_
          refine G_aload_n 0 dX6_letFolkCome_45 rfl rfl ?_
          refine G_aload_n 1 dX6_letFolkCome_46 rfl rfl ?_
          refine G_geti (k := 1) K_3 (by decide) rfl rfl rfl gw_289 rfl dX6_letFolkCome_47 (fun i13 => ?_)
          refine G_callV (av := [va_rf r11, .int i13]) [] (fun q15 => ct_X6_takeIn l N z q15 r11 i13) K_8 rfl yn_X6_takeIn (Nat.le_of_ble_eq_true rfl) (by decide) gw_684 gw_685 gw_686 gw_42 gw_687 rfl (by decide) dX6_letFolkCome_50 (fun _ x14 => ?_)
          refine G_aload_n 1 dX6_letFolkCome_53 rfl rfl ?_
          refine G_dup dX6_letFolkCome_54 (rf_cat _) ?_
          refine G_geti (k := 2) K_3 (by decide) rfl rfl rfl gw_291 rfl dX6_letFolkCome_55 (fun i16 => ?_)
          refine G_aload_n 1 dX6_letFolkCome_58 rfl rfl ?_
          refine G_geti (k := 1) K_3 (by decide) rfl rfl rfl gw_289 rfl dX6_letFolkCome_59 (fun i17 => ?_)
          refine G_iadd dX6_letFolkCome_62 ?_
          refine G_puti (k := 2) K_3 (by decide) rfl rfl rfl gw_291 rfl (Or.inl rfl) nar_int.1 nar_int.2 dX6_letFolkCome_63 (fun x18 => ?_)
          refine G_lv [2, 3] rfl ?_
          exact g_X6_letFolkCome_b66 l N z ih o v1 x18

set_option maxRecDepth 100000 in
set_option maxHeartbeats 4000000 in
theorem g_X6_letFolkCome (l : Launch) (N : Nat) (z : Nat → Nat) (o : Nat) (x0 : Hp) : G l z m_X6_letFolkCome okT enV 0 [(0, va_rf (some o))] [] x0 (f_X6_letFolkCome N z o x0) := by
  unfold f_X6_letFolkCome
  refine G_iconst (v := (0 : Int32)) dX6_letFolkCome_0 rfl ?_
  refine G_istore_n (i := 1) (l2 := [(0, va_rf (some o))]) [0] dX6_letFolkCome_1 rfl (Nat.le_of_ble_eq_true rfl) rfl (sok_b (by decide) (rf_cat _) trivial) ?_
  refine G_lv [1, 0] rfl ?_
  exact g_X6_letFolkCome_b2 l N z N o (0 : Int32) x0

theorem yn_X6_letFolkCome : Yn yX6_letFolkCome 0 := ⟨by decide +kernel, by decide +kernel, by decide +kernel⟩
theorem ct_X6_letFolkCome (l : Launch) (N : Nat) (z : Nat → Nat) (o : Nat) : Ct l z yX6_letFolkCome cX6_letFolkCome 4 none 5 enV [.ref o] (f_X6_letFolkCome N z o) :=
  Ct_v (fun x => G_lv0 (by simp only [lva_n, lva_i, lva_o, lva_r, lva_j]) (g_X6_letFolkCome l N z o x)) (by decide +kernel) (by simp only [lgl_n, lgl_i, lgl_o, lgl_r, lgl_j]; decide)

theorem dX6_whoSends_0 : decode cX6_whoSends 0 = .ok (.aconst_null, 1) := by decide +kernel
theorem dX6_whoSends_1 : decode cX6_whoSends 1 = .ok (.astore_n 1, 1) := by decide +kernel
theorem dX6_whoSends_2 : decode cX6_whoSends 2 = .ok (.iconst 0, 1) := by decide +kernel
theorem dX6_whoSends_3 : decode cX6_whoSends 3 = .ok (.istore_n 2, 1) := by decide +kernel
theorem dX6_whoSends_4 : decode cX6_whoSends 4 = .ok (.iload_n 2, 1) := by decide +kernel
theorem dX6_whoSends_5 : decode cX6_whoSends 5 = .ok (.aload_n 0, 1) := by decide +kernel
theorem dX6_whoSends_6 : decode cX6_whoSends 6 = .ok (.getfield 45, 3) := by decide +kernel
theorem dX6_whoSends_9 : decode cX6_whoSends 9 = .ok (.if_icmp .ge 40, 3) := by decide +kernel
theorem dX6_whoSends_12 : decode cX6_whoSends 12 = .ok (.aload_n 0, 1) := by decide +kernel
theorem dX6_whoSends_13 : decode cX6_whoSends 13 = .ok (.iload_n 2, 1) := by decide +kernel
theorem dX6_whoSends_14 : decode cX6_whoSends 14 = .ok (.invokevirtual 63, 3) := by decide +kernel
theorem dX6_whoSends_17 : decode cX6_whoSends 17 = .ok (.astore_n 3, 1) := by decide +kernel
theorem dX6_whoSends_18 : decode cX6_whoSends 18 = .ok (.aload_n 3, 1) := by decide +kernel
theorem dX6_whoSends_19 : decode cX6_whoSends 19 = .ok (.ifnull 24, 3) := by decide +kernel
theorem dX6_whoSends_22 : decode cX6_whoSends 22 = .ok (.aload_n 3, 1) := by decide +kernel
theorem dX6_whoSends_23 : decode cX6_whoSends 23 = .ok (.invokevirtual 210, 3) := by decide +kernel
theorem dX6_whoSends_26 : decode cX6_whoSends 26 = .ok (.ifCond .eq 17, 3) := by decide +kernel
theorem dX6_whoSends_29 : decode cX6_whoSends 29 = .ok (.aload_n 1, 1) := by decide +kernel
theorem dX6_whoSends_30 : decode cX6_whoSends 30 = .ok (.ifnull 11, 3) := by decide +kernel
theorem dX6_whoSends_33 : decode cX6_whoSends 33 = .ok (.aload_n 3, 1) := by decide +kernel
theorem dX6_whoSends_34 : decode cX6_whoSends 34 = .ok (.aload_n 1, 1) := by decide +kernel
theorem dX6_whoSends_35 : decode cX6_whoSends 35 = .ok (.invokevirtual 214, 3) := by decide +kernel
theorem dX6_whoSends_38 : decode cX6_whoSends 38 = .ok (.ifCond .eq 5, 3) := by decide +kernel
theorem dX6_whoSends_41 : decode cX6_whoSends 41 = .ok (.aload_n 3, 1) := by decide +kernel
theorem dX6_whoSends_42 : decode cX6_whoSends 42 = .ok (.astore_n 1, 1) := by decide +kernel
theorem dX6_whoSends_43 : decode cX6_whoSends 43 = .ok (.iinc 2 1, 3) := by decide +kernel
theorem dX6_whoSends_46 : decode cX6_whoSends 46 = .ok (.goto (-42), 3) := by decide +kernel
theorem dX6_whoSends_49 : decode cX6_whoSends 49 = .ok (.aload_n 1, 1) := by decide +kernel
theorem dX6_whoSends_50 : decode cX6_whoSends 50 = .ok (.areturn, 1) := by decide +kernel
abbrev m_X6_whoSends : Mt := (cX6_whoSends, RX6, "whoSends", 4, .areturn, 3)
def f_X6_whoSends_b43 (N : Nat) (z : Nat → Nat) (k4 : Nat → Option Nat → Int32 → Hp → Option (Option Nat × Hp)) (o : Nat) (v1 : Option Nat) (v2 : Int32) (x0 : Hp) : Option (Option Nat × Hp) :=
  k4 o v1 (v2 + (1 : Int32)) x0
def f_X6_whoSends_b41 (N : Nat) (z : Nat → Nat) (k4 : Nat → Option Nat → Int32 → Hp → Option (Option Nat × Hp)) (o : Nat) (v2 : Int32) (v3 : Option Nat) (x0 : Hp) : Option (Option Nat × Hp) :=
  f_X6_whoSends_b43 N z k4 o v3 v2 x0
def f_X6_whoSends_b4 (N : Nat) (z : Nat → Nat) : Nat → Nat → Option Nat → Int32 → Hp → Option (Option Nat × Hp)
  | 0, _, _, _, _ => none
  | n + 1, o, v1, v2, x0 => geti (some o) x0 9 163 fun i1 =>
  if i1 ≤ v2 then (some (v1, x0)) else (obj (some o) x0 9 fun q4 => bnd (f_X6_laneAt N z q4 v2 x0) fun r3 x2 =>
  if r3 = none then (f_X6_whoSends_b43 N z (f_X6_whoSends_b4 N z n) o v1 v2 x2) else (obj r3 x2 5 fun q7 => bnd (f_X2_canSend N z q7 x2) fun i6 x5 =>
  if i6 = 0 then (f_X6_whoSends_b43 N z (f_X6_whoSends_b4 N z n) o v1 v2 x5) else (if v1 = none then (f_X6_whoSends_b41 N z (f_X6_whoSends_b4 N z n) o v2 r3 x5) else (obj r3 x5 5 fun q10 => bnd (f_X2_goesAheadOf N z q10 v1 x5) fun i9 x8 =>
  if i9 = 0 then (f_X6_whoSends_b43 N z (f_X6_whoSends_b4 N z n) o v1 v2 x8) else (f_X6_whoSends_b41 N z (f_X6_whoSends_b4 N z n) o v2 r3 x8)))))
def f_X6_whoSends (N : Nat) (z : Nat → Nat) (o : Nat) (x0 : Hp) : Option (Option Nat × Hp) :=
  f_X6_whoSends_b4 N z N o none (0 : Int32) x0
set_option maxRecDepth 100000 in
set_option maxHeartbeats 4000000 in
theorem g_X6_whoSends_b43 (l : Launch) (N : Nat) (z : Nat → Nat) {k4 : Nat → Option Nat → Int32 → Hp → Option (Option Nat × Hp)} (hk4 : ∀ o v1 v2 x, G l z m_X6_whoSends okT enR 4 [(0, va_rf (some o)), (1, va_rf v1), (2, .int v2)] [] x (k4 o v1 v2 x)) (o : Nat) (v1 : Option Nat) (v2 : Int32) (x0 : Hp) : G l z m_X6_whoSends okT enR 43 [(0, va_rf (some o)), (1, va_rf v1), (2, .int v2)] [] x0 (f_X6_whoSends_b43 N z k4 o v1 v2 x0) := by
  unfold f_X6_whoSends_b43
  refine G_iinc (i := 2) (l2 := [(0, va_rf (some o)), (1, va_rf v1)]) 2 [0, 1] dX6_whoSends_43 rfl rfl (Nat.le_of_ble_eq_true rfl) rfl (sok_a (by decide) (by decide) (sok_b (by decide) (rf_cat _) trivial)) ?_
  refine G_goto (tgt := 4) dX6_whoSends_46 (by decide) ?_
  refine G_lv [1, 2, 0] rfl ?_
  exact hk4 o v1 (v2 + (1 : Int32)) x0

set_option maxRecDepth 100000 in
set_option maxHeartbeats 4000000 in
theorem g_X6_whoSends_b41 (l : Launch) (N : Nat) (z : Nat → Nat) {k4 : Nat → Option Nat → Int32 → Hp → Option (Option Nat × Hp)} (hk4 : ∀ o v1 v2 x, G l z m_X6_whoSends okT enR 4 [(0, va_rf (some o)), (1, va_rf v1), (2, .int v2)] [] x (k4 o v1 v2 x)) (o : Nat) (v2 : Int32) (v3 : Option Nat) (x0 : Hp) : G l z m_X6_whoSends okT enR 41 [(0, va_rf (some o)), (2, .int v2), (3, va_rf v3)] [] x0 (f_X6_whoSends_b41 N z k4 o v2 v3 x0) := by
  unfold f_X6_whoSends_b41
  refine G_aload_n 2 dX6_whoSends_41 rfl rfl ?_
  refine G_astore_n (i := 1) (l2 := [(0, va_rf (some o)), (2, .int v2), (3, va_rf v3)]) [0, 1, 2] dX6_whoSends_42 rfl (Nat.le_of_ble_eq_true rfl) rfl (sok_b (by decide) (rf_cat _) (sok_a (by decide) (by decide) (sok_a (by decide) (by decide) trivial))) ?_
  refine G_lv [1, 0, 2] rfl ?_
  exact g_X6_whoSends_b43 l N z hk4 o v3 v2 x0

set_option maxRecDepth 100000 in
set_option maxHeartbeats 4000000 in
theorem g_X6_whoSends_b4 (l : Launch) (N : Nat) (z : Nat → Nat) : ∀ (n : Nat) (o : Nat) (v1 : Option Nat) (v2 : Int32) (x0 : Hp), G l z m_X6_whoSends okT enR 4 [(0, va_rf (some o)), (1, va_rf v1), (2, .int v2)] [] x0 (f_X6_whoSends_b4 N z n o v1 v2 x0) := by
  intro n
  induction n with
  | zero => intro o v1 v2 x0; exact G_none
  | succ n ih =>
  intro o v1 v2 x0
  rw [f_X6_whoSends_b4]
  refine G_iload_n 2 dX6_whoSends_4 rfl rfl ?_
  refine G_aload_n 0 dX6_whoSends_5 rfl rfl ?_
  refine G_geti (k := 3) K_8 (by decide) rfl rfl rfl gw_313 rfl dX6_whoSends_6 (fun i1 => ?_)
  refine G_icmp_ge (tgt := 49) dX6_whoSends_9 (by decide) (fun _ => ?_) (fun _ => ?_)
  · refine G_aload_n 1 dX6_whoSends_49 rfl rfl ?_
    exact G_ret trivial dX6_whoSends_50 rfl
  · refine G_aload_n 0 dX6_whoSends_12 rfl rfl ?_
    refine G_iload_n 2 dX6_whoSends_13 rfl rfl ?_
    refine G_callV (av := [.int v2]) [] (fun q4 => ct_X6_laneAt l N z q4 v2) K_8 rfl yn_X6_laneAt (Nat.le_of_ble_eq_true rfl) (by decide) gw_553 gw_554 gw_555 gw_42 gw_556 rfl (by decide) dX6_whoSends_14 (fun r3 x2 => ?_)
    refine G_astore_n (i := 3) (l2 := [(0, va_rf (some o)), (1, va_rf v1), (2, .int v2)]) [0, 1, 2] dX6_whoSends_17 rfl (Nat.le_of_ble_eq_true rfl) rfl (sok_a (by decide) (by decide) (sok_a (by decide) (by decide) (sok_b (by decide) rfl trivial))) ?_
    refine G_aload_n 0 dX6_whoSends_18 rfl rfl ?_
    refine G_ifnull (tgt := 43) dX6_whoSends_19 (by decide) (fun _ => ?_) (fun _ => ?_)
    · refine G_lv [1, 2, 3] rfl ?_
      exact g_X6_whoSends_b43 l N z ih o v1 v2 x2
    · refine G_aload_n 0 dX6_whoSends_22 rfl rfl ?_
      refine G_callV (av := []) [] (fun q7 => ct_X2_canSend l N z q7) K_4 rfl yn_X2_canSend (Nat.le_of_ble_eq_true rfl) (by decide) gw_713 gw_714 gw_715 gw_46 gw_716 rfl (by decide) dX6_whoSends_23 (fun i6 x5 => ?_)
      refine G_if_eq (tgt := 43) dX6_whoSends_26 (by decide) (fun _ => ?_) (fun _ => ?_)
      · refine G_lv [1, 2, 3] rfl ?_
        exact g_X6_whoSends_b43 l N z ih o v1 v2 x5
      · refine G_aload_n 2 dX6_whoSends_29 rfl rfl ?_
        refine G_ifnull (tgt := 41) dX6_whoSends_30 (by decide) (fun _ => ?_) (fun _ => ?_)
        · refine G_lv [1, 3, 0] rfl ?_
          exact g_X6_whoSends_b41 l N z ih o v2 r3 x5
        · refine G_aload_n 0 dX6_whoSends_33 rfl rfl ?_
          refine G_aload_n 2 dX6_whoSends_34 rfl rfl ?_
          refine G_callV (av := [va_rf v1]) [] (fun q10 => ct_X2_goesAheadOf l N z q10 v1) K_4 rfl yn_X2_goesAheadOf (Nat.le_of_ble_eq_true rfl) (by decide) gw_722 gw_723 gw_724 gw_46 gw_725 rfl (by decide) dX6_whoSends_35 (fun i9 x8 => ?_)
          refine G_if_eq (tgt := 43) dX6_whoSends_38 (by decide) (fun _ => ?_) (fun _ => ?_)
          · refine G_lv [1, 2, 3] rfl ?_
            exact g_X6_whoSends_b43 l N z ih o v1 v2 x8
          · refine G_lv [1, 3, 0] rfl ?_
            exact g_X6_whoSends_b41 l N z ih o v2 r3 x8

set_option maxRecDepth 100000 in
set_option maxHeartbeats 4000000 in
theorem g_X6_whoSends (l : Launch) (N : Nat) (z : Nat → Nat) (o : Nat) (x0 : Hp) : G l z m_X6_whoSends okT enR 0 [(0, va_rf (some o))] [] x0 (f_X6_whoSends N z o x0) := by
  unfold f_X6_whoSends
  refine G_null dX6_whoSends_0 ?_
  refine G_astore_n (i := 1) (l2 := [(0, va_rf (some o))]) [0] dX6_whoSends_1 rfl (Nat.le_of_ble_eq_true rfl) rfl (sok_b (by decide) (rf_cat _) trivial) ?_
  refine G_iconst (v := (0 : Int32)) dX6_whoSends_2 rfl ?_
  refine G_istore_n (i := 2) (l2 := [(1, va_rf none), (0, va_rf (some o))]) [0, 1] dX6_whoSends_3 rfl (Nat.le_of_ble_eq_true rfl) rfl (sok_b (by decide) (rf_cat _) (sok_a (by decide) (by decide) trivial)) ?_
  refine G_lv [2, 1, 0] rfl ?_
  exact g_X6_whoSends_b4 l N z N o none (0 : Int32) x0

theorem yn_X6_whoSends : Yn yX6_whoSends 0 := ⟨by decide +kernel, by decide +kernel, by decide +kernel⟩
theorem ct_X6_whoSends (l : Launch) (N : Nat) (z : Nat → Nat) (o : Nat) : Ct l z yX6_whoSends cX6_whoSends 4 (some (.object "BucketBrigade$Lane")) 3 enR [.ref o] (f_X6_whoSends N z o) :=
  Ct_r (fun x => G_lv0 (by simp only [lva_n, lva_i, lva_o, lva_r, lva_j]) (g_X6_whoSends l N z o x)) (by decide +kernel) (by simp only [lgl_n, lgl_i, lgl_o, lgl_r, lgl_j]; decide)

theorem dX6_sendPails_0 : decode cX6_sendPails 0 = .ok (.iconst 0, 1) := by decide +kernel
theorem dX6_sendPails_1 : decode cX6_sendPails 1 = .ok (.istore_n 1, 1) := by decide +kernel
theorem dX6_sendPails_2 : decode cX6_sendPails 2 = .ok (.aload_n 0, 1) := by decide +kernel
theorem dX6_sendPails_3 : decode cX6_sendPails 3 = .ok (.getfield 34, 3) := by decide +kernel
theorem dX6_sendPails_6 : decode cX6_sendPails 6 = .ok (.ifCond .le 10, 3) := by decide +kernel
theorem dX6_sendPails_9 : decode cX6_sendPails 9 = .ok (.aload_n 0, 1) := by decide +kernel
theorem dX6_sendPails_10 : decode cX6_sendPails 10 = .ok (.invokevirtual 204, 3) := by decide +kernel
theorem dX6_sendPails_13 : decode cX6_sendPails 13 = .ok (.goto 4, 3) := by decide +kernel
theorem dX6_sendPails_16 : decode cX6_sendPails 16 = .ok (.aconst_null, 1) := by decide +kernel
theorem dX6_sendPails_17 : decode cX6_sendPails 17 = .ok (.astore_n 2, 1) := by decide +kernel
theorem dX6_sendPails_18 : decode cX6_sendPails 18 = .ok (.aload_n 2, 1) := by decide +kernel
theorem dX6_sendPails_19 : decode cX6_sendPails 19 = .ok (.ifnull 42, 3) := by decide +kernel
theorem dX6_sendPails_22 : decode cX6_sendPails 22 = .ok (.iload_n 1, 1) := by decide +kernel
theorem dX6_sendPails_23 : decode cX6_sendPails 23 = .ok (.aload_n 0, 1) := by decide +kernel
theorem dX6_sendPails_24 : decode cX6_sendPails 24 = .ok (.getfield 34, 3) := by decide +kernel
theorem dX6_sendPails_27 : decode cX6_sendPails 27 = .ok (.if_icmp .ge 34, 3) := by decide +kernel
theorem dX6_sendPails_30 : decode cX6_sendPails 30 = .ok (.aload_n 2, 1) := by decide +kernel
theorem dX6_sendPails_31 : decode cX6_sendPails 31 = .ok (.aload_n 0, 1) := by decide +kernel
theorem dX6_sendPails_32 : decode cX6_sendPails 32 = .ok (.getfield 42, 3) := by decide +kernel
theorem dX6_sendPails_35 : decode cX6_sendPails 35 = .ok (.invokevirtual 207, 3) := by decide +kernel
theorem dX6_sendPails_38 : decode cX6_sendPails 38 = .ok (.iinc 1 1, 3) := by decide +kernel
theorem dX6_sendPails_41 : decode cX6_sendPails 41 = .ok (.iload_n 1, 1) := by decide +kernel
theorem dX6_sendPails_42 : decode cX6_sendPails 42 = .ok (.aload_n 0, 1) := by decide +kernel
theorem dX6_sendPails_43 : decode cX6_sendPails 43 = .ok (.getfield 34, 3) := by decide +kernel
theorem dX6_sendPails_46 : decode cX6_sendPails 46 = .ok (.if_icmp .ge 10, 3) := by decide +kernel
theorem dX6_sendPails_49 : decode cX6_sendPails 49 = .ok (.aload_n 0, 1) := by decide +kernel
theorem dX6_sendPails_50 : decode cX6_sendPails 50 = .ok (.invokevirtual 204, 3) := by decide +kernel
theorem dX6_sendPails_53 : decode cX6_sendPails 53 = .ok (.goto 4, 3) := by decide +kernel
theorem dX6_sendPails_56 : decode cX6_sendPails 56 = .ok (.aconst_null, 1) := by decide +kernel
theorem dX6_sendPails_57 : decode cX6_sendPails 57 = .ok (.astore_n 2, 1) := by decide +kernel
theorem dX6_sendPails_58 : decode cX6_sendPails 58 = .ok (.goto (-40), 3) := by decide +kernel
theorem dX6_sendPails_61 : decode cX6_sendPails 61 = .ok (.iload_n 1, 1) := by decide +kernel
theorem dX6_sendPails_62 : decode cX6_sendPails 62 = .ok (.ireturn, 1) := by decide +kernel
abbrev m_X6_sendPails : Mt := (cX6_sendPails, RX6, "sendPails", 3, .ireturn, 4)
def f_X6_sendPails_b57 (N : Nat) (z : Nat → Nat) (k18 : Nat → Int32 → Option Nat → Hp → Option (Int32 × Hp)) (o : Nat) (v1 : Int32) (s0 : Option Nat) (x0 : Hp) : Option (Int32 × Hp) :=
  k18 o v1 s0 x0
def f_X6_sendPails_b18 (N : Nat) (z : Nat → Nat) : Nat → Nat → Int32 → Option Nat → Hp → Option (Int32 × Hp)
  | 0, _, _, _, _ => none
  | n + 1, o, v1, v2, x0 => if v2 = none then (some (v1, x0)) else (geti (some o) x0 9 162 fun i1 =>
  if i1 ≤ v1 then (some (v1, x0)) else (geti (some o) x0 9 161 fun i2 =>
  obj v2 x0 5 fun q4 => bnd (f_X2_sendPail N z q4 i2 x0) fun _ x3 =>
  geti (some o) x3 9 162 fun i5 =>
  if i5 ≤ (v1 + (1 : Int32)) then (f_X6_sendPails_b57 N z (f_X6_sendPails_b18 N z n) o (v1 + (1 : Int32)) none x3) else (obj (some o) x3 9 fun q8 => bnd (f_X6_whoSends N z q8 x3) fun r7 x6 =>
  f_X6_sendPails_b57 N z (f_X6_sendPails_b18 N z n) o (v1 + (1 : Int32)) r7 x6)))
def f_X6_sendPails_b17 (N : Nat) (z : Nat → Nat) (o : Nat) (v1 : Int32) (s0 : Option Nat) (x0 : Hp) : Option (Int32 × Hp) :=
  f_X6_sendPails_b18 N z N o v1 s0 x0
def f_X6_sendPails (N : Nat) (z : Nat → Nat) (o : Nat) (x0 : Hp) : Option (Int32 × Hp) :=
  geti (some o) x0 9 162 fun i9 =>
  if i9 ≤ 0 then (f_X6_sendPails_b17 N z o (0 : Int32) none x0) else (obj (some o) x0 9 fun q12 => bnd (f_X6_whoSends N z q12 x0) fun r11 x10 =>
  f_X6_sendPails_b17 N z o (0 : Int32) r11 x10)
set_option maxRecDepth 100000 in
set_option maxHeartbeats 4000000 in
theorem g_X6_sendPails_b57 (l : Launch) (N : Nat) (z : Nat → Nat) {k18 : Nat → Int32 → Option Nat → Hp → Option (Int32 × Hp)} (hk18 : ∀ o v1 v2 x, G l z m_X6_sendPails okT enI 18 [(0, va_rf (some o)), (1, .int v1), (2, va_rf v2)] [] x (k18 o v1 v2 x)) (o : Nat) (v1 : Int32) (s0 : Option Nat) (x0 : Hp) : G l z m_X6_sendPails okT enI 57 [(0, va_rf (some o)), (1, .int v1)] [va_rf s0] x0 (f_X6_sendPails_b57 N z k18 o v1 s0 x0) := by
  unfold f_X6_sendPails_b57
  refine G_astore_n (i := 2) (l2 := [(0, va_rf (some o)), (1, .int v1)]) [0, 1] dX6_sendPails_57 rfl (Nat.le_of_ble_eq_true rfl) rfl (sok_a (by decide) (by decide) (sok_b (by decide) rfl trivial)) ?_
  refine G_goto (tgt := 18) dX6_sendPails_58 (by decide) ?_
  refine G_lv [1, 2, 0] rfl ?_
  exact hk18 o v1 s0 x0

set_option maxRecDepth 100000 in
set_option maxHeartbeats 4000000 in
theorem g_X6_sendPails_b18 (l : Launch) (N : Nat) (z : Nat → Nat) : ∀ (n : Nat) (o : Nat) (v1 : Int32) (v2 : Option Nat) (x0 : Hp), G l z m_X6_sendPails okT enI 18 [(0, va_rf (some o)), (1, .int v1), (2, va_rf v2)] [] x0 (f_X6_sendPails_b18 N z n o v1 v2 x0) := by
  intro n
  induction n with
  | zero => intro o v1 v2 x0; exact G_none
  | succ n ih =>
  intro o v1 v2 x0
  rw [f_X6_sendPails_b18]
  refine G_aload_n 2 dX6_sendPails_18 rfl rfl ?_
  refine G_ifnull (tgt := 61) dX6_sendPails_19 (by decide) (fun _ => ?_) (fun _ => ?_)
  · refine G_iload_n 1 dX6_sendPails_61 rfl rfl ?_
    exact G_ret trivial dX6_sendPails_62 rfl
  · refine G_iload_n 1 dX6_sendPails_22 rfl rfl ?_
    refine G_aload_n 0 dX6_sendPails_23 rfl rfl ?_
    refine G_geti (k := 2) K_8 (by decide) rfl rfl rfl gw_310 rfl dX6_sendPails_24 (fun i1 => ?_)
    refine G_icmp_ge (tgt := 61) dX6_sendPails_27 (by decide) (fun _ => ?_) (fun _ => ?_)
    · refine G_iload_n 1 dX6_sendPails_61 rfl rfl ?_
      exact G_ret trivial dX6_sendPails_62 rfl
    · refine G_aload_n 2 dX6_sendPails_30 rfl rfl ?_
      refine G_aload_n 0 dX6_sendPails_31 rfl rfl ?_
      refine G_geti (k := 1) K_8 (by decide) rfl rfl rfl gw_308 rfl dX6_sendPails_32 (fun i2 => ?_)
      refine G_callV (av := [.int i2]) [] (fun q4 => ct_X2_sendPail l N z q4 i2) K_4 rfl yn_X2_sendPail (Nat.le_of_ble_eq_true rfl) (by decide) gw_726 gw_727 gw_728 gw_46 gw_729 rfl (by decide) dX6_sendPails_35 (fun _ x3 => ?_)
      refine G_iinc (i := 1) (l2 := [(0, va_rf (some o)), (2, va_rf v2)]) 1 [0, 2] dX6_sendPails_38 rfl rfl (Nat.le_of_ble_eq_true rfl) rfl (sok_b (by decide) (rf_cat _) (sok_a (by decide) (by decide) trivial)) ?_
      refine G_iload_n 0 dX6_sendPails_41 rfl rfl ?_
      refine G_aload_n 1 dX6_sendPails_42 rfl rfl ?_
      refine G_geti (k := 2) K_8 (by decide) rfl rfl rfl gw_310 rfl dX6_sendPails_43 (fun i5 => ?_)
      refine G_icmp_ge (tgt := 56) dX6_sendPails_46 (by decide) (fun _ => ?_) (fun _ => ?_)
      · refine G_null dX6_sendPails_56 ?_
        refine G_lv [1, 0] rfl ?_
        exact g_X6_sendPails_b57 l N z ih o (v1 + (1 : Int32)) none x3
      · refine G_aload_n 1 dX6_sendPails_49 rfl rfl ?_
        refine G_callV (av := []) [] (fun q8 => ct_X6_whoSends l N z q8) K_8 rfl yn_X6_whoSends (Nat.le_of_ble_eq_true rfl) (by decide) gw_709 gw_711 gw_s9 gw_42 gw_712 rfl (by decide) dX6_sendPails_50 (fun r7 x6 => ?_)
        refine G_goto (tgt := 57) dX6_sendPails_53 (by decide) ?_
        refine G_lv [1, 0] rfl ?_
        exact g_X6_sendPails_b57 l N z ih o (v1 + (1 : Int32)) r7 x6

set_option maxRecDepth 100000 in
set_option maxHeartbeats 4000000 in
theorem g_X6_sendPails_b17 (l : Launch) (N : Nat) (z : Nat → Nat) (o : Nat) (v1 : Int32) (s0 : Option Nat) (x0 : Hp) : G l z m_X6_sendPails okT enI 17 [(0, va_rf (some o)), (1, .int v1)] [va_rf s0] x0 (f_X6_sendPails_b17 N z o v1 s0 x0) := by
  unfold f_X6_sendPails_b17
  refine G_astore_n (i := 2) (l2 := [(0, va_rf (some o)), (1, .int v1)]) [0, 1] dX6_sendPails_17 rfl (Nat.le_of_ble_eq_true rfl) rfl (sok_a (by decide) (by decide) (sok_b (by decide) rfl trivial)) ?_
  refine G_lv [1, 2, 0] rfl ?_
  exact g_X6_sendPails_b18 l N z N o v1 s0 x0

set_option maxRecDepth 100000 in
set_option maxHeartbeats 4000000 in
theorem g_X6_sendPails (l : Launch) (N : Nat) (z : Nat → Nat) (o : Nat) (x0 : Hp) : G l z m_X6_sendPails okT enI 0 [(0, va_rf (some o))] [] x0 (f_X6_sendPails N z o x0) := by
  unfold f_X6_sendPails
  refine G_iconst (v := (0 : Int32)) dX6_sendPails_0 rfl ?_
  refine G_istore_n (i := 1) (l2 := [(0, va_rf (some o))]) [0] dX6_sendPails_1 rfl (Nat.le_of_ble_eq_true rfl) rfl (sok_b (by decide) (rf_cat _) trivial) ?_
  refine G_aload_n 1 dX6_sendPails_2 rfl rfl ?_
  refine G_geti (k := 2) K_8 (by decide) rfl rfl rfl gw_310 rfl dX6_sendPails_3 (fun i9 => ?_)
  refine G_if_le (tgt := 16) dX6_sendPails_6 (by decide) (fun _ => ?_) (fun _ => ?_)
  · refine G_null dX6_sendPails_16 ?_
    refine G_lv [1, 0] rfl ?_
    exact g_X6_sendPails_b17 l N z o (0 : Int32) none x0
  · refine G_aload_n 1 dX6_sendPails_9 rfl rfl ?_
    refine G_callV (av := []) [] (fun q12 => ct_X6_whoSends l N z q12) K_8 rfl yn_X6_whoSends (Nat.le_of_ble_eq_true rfl) (by decide) gw_709 gw_711 gw_s9 gw_42 gw_712 rfl (by decide) dX6_sendPails_10 (fun r11 x10 => ?_)
    refine G_goto (tgt := 17) dX6_sendPails_13 (by decide) ?_
    refine G_lv [1, 0] rfl ?_
    exact g_X6_sendPails_b17 l N z o (0 : Int32) r11 x10

theorem yn_X6_sendPails : Yn yX6_sendPails 0 := ⟨by decide +kernel, by decide +kernel, by decide +kernel⟩
theorem ct_X6_sendPails (l : Launch) (N : Nat) (z : Nat → Nat) (o : Nat) : Ct l z yX6_sendPails cX6_sendPails 3 (some .int) 4 enI [.ref o] (f_X6_sendPails N z o) :=
  Ct_i (fun x => G_lv0 (by simp only [lva_n, lva_i, lva_o, lva_r, lva_j]) (g_X6_sendPails l N z o x)) (by decide +kernel) (by simp only [lgl_n, lgl_i, lgl_o, lgl_r, lgl_j]; decide)

theorem dX6_goOneMinute_0 : decode cX6_goOneMinute 0 = .ok (.iconst 0, 1) := by decide +kernel
theorem dX6_goOneMinute_1 : decode cX6_goOneMinute 1 = .ok (.istore_n 1, 1) := by decide +kernel
theorem dX6_goOneMinute_2 : decode cX6_goOneMinute 2 = .ok (.iload_n 1, 1) := by decide +kernel
theorem dX6_goOneMinute_3 : decode cX6_goOneMinute 3 = .ok (.aload_n 0, 1) := by decide +kernel
theorem dX6_goOneMinute_4 : decode cX6_goOneMinute 4 = .ok (.getfield 30, 3) := by decide +kernel
theorem dX6_goOneMinute_7 : decode cX6_goOneMinute 7 = .ok (.getfield 96, 3) := by decide +kernel
theorem dX6_goOneMinute_10 : decode cX6_goOneMinute 10 = .ok (.if_icmp .ge 27, 3) := by decide +kernel
theorem dX6_goOneMinute_13 : decode cX6_goOneMinute 13 = .ok (.aload_n 0, 1) := by decide +kernel
theorem dX6_goOneMinute_14 : decode cX6_goOneMinute 14 = .ok (.getfield 30, 3) := by decide +kernel
theorem dX6_goOneMinute_17 : decode cX6_goOneMinute 17 = .ok (.iload_n 1, 1) := by decide +kernel
theorem dX6_goOneMinute_18 : decode cX6_goOneMinute 18 = .ok (.invokevirtual 101, 3) := by decide +kernel
theorem dX6_goOneMinute_21 : decode cX6_goOneMinute 21 = .ok (.astore_n 2, 1) := by decide +kernel
theorem dX6_goOneMinute_22 : decode cX6_goOneMinute 22 = .ok (.aload_n 2, 1) := by decide +kernel
theorem dX6_goOneMinute_23 : decode cX6_goOneMinute 23 = .ok (.ifnull 8, 3) := by decide +kernel
theorem dX6_goOneMinute_26 : decode cX6_goOneMinute 26 = .ok (.aload_n 0, 1) := by decide +kernel
theorem dX6_goOneMinute_27 : decode cX6_goOneMinute 27 = .ok (.aload_n 2, 1) := by decide +kernel
theorem dX6_goOneMinute_28 : decode cX6_goOneMinute 28 = .ok (.invokevirtual 105, 3) := by decide +kernel
theorem dX6_goOneMinute_31 : decode cX6_goOneMinute 31 = .ok (.iinc 1 1, 3) := by decide +kernel
theorem dX6_goOneMinute_34 : decode cX6_goOneMinute 34 = .ok (.goto (-32), 3) := by decide +kernel
theorem dX6_goOneMinute_37 : decode cX6_goOneMinute 37 = .ok (.aload_n 0, 1) := by decide +kernel
theorem dX6_goOneMinute_38 : decode cX6_goOneMinute 38 = .ok (.invokevirtual 109, 3) := by decide +kernel
theorem dX6_goOneMinute_41 : decode cX6_goOneMinute 41 = .ok (.iconst 0, 1) := by decide +kernel
theorem dX6_goOneMinute_42 : decode cX6_goOneMinute 42 = .ok (.istore_n 1, 1) := by decide +kernel
theorem dX6_goOneMinute_43 : decode cX6_goOneMinute 43 = .ok (.iload_n 1, 1) := by decide +kernel
theorem dX6_goOneMinute_44 : decode cX6_goOneMinute 44 = .ok (.aload_n 0, 1) := by decide +kernel
theorem dX6_goOneMinute_45 : decode cX6_goOneMinute 45 = .ok (.getfield 45, 3) := by decide +kernel
theorem dX6_goOneMinute_48 : decode cX6_goOneMinute 48 = .ok (.if_icmp .ge 27, 3) := by decide +kernel
theorem dX6_goOneMinute_51 : decode cX6_goOneMinute 51 = .ok (.aload_n 0, 1) := by decide +kernel
theorem dX6_goOneMinute_52 : decode cX6_goOneMinute 52 = .ok (.iload_n 1, 1) := by decide +kernel
theorem dX6_goOneMinute_53 : decode cX6_goOneMinute 53 = .ok (.invokevirtual 63, 3) := by decide +kernel
theorem dX6_goOneMinute_56 : decode cX6_goOneMinute 56 = .ok (.astore_n 2, 1) := by decide +kernel
theorem dX6_goOneMinute_57 : decode cX6_goOneMinute 57 = .ok (.aload_n 2, 1) := by decide +kernel
theorem dX6_goOneMinute_58 : decode cX6_goOneMinute 58 = .ok (.ifnull 11, 3) := by decide +kernel
theorem dX6_goOneMinute_61 : decode cX6_goOneMinute 61 = .ok (.aload_n 2, 1) := by decide +kernel
theorem dX6_goOneMinute_62 : decode cX6_goOneMinute 62 = .ok (.aload_n 2, 1) := by decide +kernel
theorem dX6_goOneMinute_63 : decode cX6_goOneMinute 63 = .ok (.getfield 112, 3) := by decide +kernel
theorem dX6_goOneMinute_66 : decode cX6_goOneMinute 66 = .ok (.invokevirtual 115, 3) := by decide +kernel
theorem dX6_goOneMinute_69 : decode cX6_goOneMinute 69 = .ok (.iinc 1 1, 3) := by decide +kernel
theorem dX6_goOneMinute_72 : decode cX6_goOneMinute 72 = .ok (.goto (-29), 3) := by decide +kernel
theorem dX6_goOneMinute_75 : decode cX6_goOneMinute 75 = .ok (.aload_n 0, 1) := by decide +kernel
theorem dX6_goOneMinute_76 : decode cX6_goOneMinute 76 = .ok (.invokevirtual 118, 3) := by decide +kernel
theorem dX6_goOneMinute_79 : decode cX6_goOneMinute 79 = .ok (.istore_n 1, 1) := by decide +kernel
theorem dX6_goOneMinute_80 : decode cX6_goOneMinute 80 = .ok (.aload_n 0, 1) := by decide +kernel
theorem dX6_goOneMinute_81 : decode cX6_goOneMinute 81 = .ok (.aload_n 0, 1) := by decide +kernel
theorem dX6_goOneMinute_82 : decode cX6_goOneMinute 82 = .ok (.getfield 34, 3) := by decide +kernel
theorem dX6_goOneMinute_85 : decode cX6_goOneMinute 85 = .ok (.iload_n 1, 1) := by decide +kernel
theorem dX6_goOneMinute_86 : decode cX6_goOneMinute 86 = .ok (.isub, 1) := by decide +kernel
theorem dX6_goOneMinute_87 : decode cX6_goOneMinute 87 = .ok (.putfield 51, 3) := by decide +kernel
theorem dX6_goOneMinute_90 : decode cX6_goOneMinute 90 = .ok (.aload_n 0, 1) := by decide +kernel
theorem dX6_goOneMinute_91 : decode cX6_goOneMinute 91 = .ok (.dup, 1) := by decide +kernel
theorem dX6_goOneMinute_92 : decode cX6_goOneMinute 92 = .ok (.getfield 42, 3) := by decide +kernel
theorem dX6_goOneMinute_95 : decode cX6_goOneMinute 95 = .ok (.iconst 1, 1) := by decide +kernel
theorem dX6_goOneMinute_96 : decode cX6_goOneMinute 96 = .ok (.iadd, 1) := by decide +kernel
theorem dX6_goOneMinute_97 : decode cX6_goOneMinute 97 = .ok (.putfield 42, 3) := by decide +kernel
theorem dX6_goOneMinute_100 : decode cX6_goOneMinute 100 = .ok (.iconst 0, 1) := by decide +kernel
theorem dX6_goOneMinute_101 : decode cX6_goOneMinute 101 = .ok (.istore_n 2, 1) := by decide +kernel
theorem dX6_goOneMinute_102 : decode cX6_goOneMinute 102 = .ok (.iload_n 2, 1) := by decide +kernel
theorem dX6_goOneMinute_103 : decode cX6_goOneMinute 103 = .ok (.aload_n 0, 1) := by decide +kernel
theorem dX6_goOneMinute_104 : decode cX6_goOneMinute 104 = .ok (.getfield 45, 3) := by decide +kernel
theorem dX6_goOneMinute_107 : decode cX6_goOneMinute 107 = .ok (.if_icmp .ge 23, 3) := by decide +kernel
theorem dX6_goOneMinute_110 : decode cX6_goOneMinute 110 = .ok (.aload_n 0, 1) := by decide +kernel
theorem dX6_goOneMinute_111 : decode cX6_goOneMinute 111 = .ok (.iload_n 2, 1) := by decide +kernel
theorem dX6_goOneMinute_112 : decode cX6_goOneMinute 112 = .ok (.invokevirtual 63, 3) := by decide +kernel
theorem dX6_goOneMinute_115 : decode cX6_goOneMinute 115 = .ok (.astore_n 3, 1) := by decide +kernel
theorem dX6_goOneMinute_116 : decode cX6_goOneMinute 116 = .ok (.aload_n 3, 1) := by decide +kernel
theorem dX6_goOneMinute_117 : decode cX6_goOneMinute 117 = .ok (.ifnull 7, 3) := by decide +kernel
theorem dX6_goOneMinute_120 : decode cX6_goOneMinute 120 = .ok (.aload_n 3, 1) := by decide +kernel
theorem dX6_goOneMinute_121 : decode cX6_goOneMinute 121 = .ok (.invokevirtual 122, 3) := by decide +kernel
theorem dX6_goOneMinute_124 : decode cX6_goOneMinute 124 = .ok (.iinc 2 1, 3) := by decide +kernel
theorem dX6_goOneMinute_127 : decode cX6_goOneMinute 127 = .ok (.goto (-25), 3) := by decide +kernel
theorem dX6_goOneMinute_130 : decode cX6_goOneMinute 130 = .ok (.iload_n 1, 1) := by decide +kernel
theorem dX6_goOneMinute_131 : decode cX6_goOneMinute 131 = .ok (.ireturn, 1) := by decide +kernel
abbrev m_X6_goOneMinute : Mt := (cX6_goOneMinute, RX6, "goOneMinute", 4, .ireturn, 6)
def f_X6_goOneMinute_b31 (N : Nat) (z : Nat → Nat) (k2 : Nat → Int32 → Hp → Option (Int32 × Hp)) (o : Nat) (v1 : Int32) (x0 : Hp) : Option (Int32 × Hp) :=
  k2 o (v1 + (1 : Int32)) x0
def f_X6_goOneMinute_b69 (N : Nat) (z : Nat → Nat) (k43 : Nat → Int32 → Hp → Option (Int32 × Hp)) (o : Nat) (v1 : Int32) (x0 : Hp) : Option (Int32 × Hp) :=
  k43 o (v1 + (1 : Int32)) x0
def f_X6_goOneMinute_b124 (N : Nat) (z : Nat → Nat) (k102 : Nat → Int32 → Int32 → Hp → Option (Int32 × Hp)) (o : Nat) (v1 : Int32) (v2 : Int32) (x0 : Hp) : Option (Int32 × Hp) :=
  k102 o v1 (v2 + (1 : Int32)) x0
def f_X6_goOneMinute_b102 (N : Nat) (z : Nat → Nat) : Nat → Nat → Int32 → Int32 → Hp → Option (Int32 × Hp)
  | 0, _, _, _, _ => none
  | n + 1, o, v1, v2, x0 => geti (some o) x0 9 163 fun i1 =>
  if i1 ≤ v2 then (some (v1, x0)) else (obj (some o) x0 9 fun q4 => bnd (f_X6_laneAt N z q4 v2 x0) fun r3 x2 =>
  if r3 = none then (f_X6_goOneMinute_b124 N z (f_X6_goOneMinute_b102 N z n) o v1 v2 x2) else (obj r3 x2 5 fun q6 => bnd (f_X2_beginMinute N z q6 x2) fun _ x5 =>
  f_X6_goOneMinute_b124 N z (f_X6_goOneMinute_b102 N z n) o v1 v2 x5))
def f_X6_goOneMinute_b43 (N : Nat) (z : Nat → Nat) : Nat → Nat → Int32 → Hp → Option (Int32 × Hp)
  | 0, _, _, _ => none
  | n + 1, o, v1, x0 => geti (some o) x0 9 163 fun i7 =>
  if i7 ≤ v1 then (obj (some o) x0 9 fun q10 => bnd (f_X6_sendPails N z q10 x0) fun i9 x8 =>
  geti (some o) x8 9 162 fun i11 =>
  puti (some o) x8 9 168 (i11 - i9) fun x12 =>
  geti (some o) x12 9 161 fun i13 =>
  puti (some o) x12 9 161 (i13 + (1 : Int32)) fun x14 =>
  f_X6_goOneMinute_b102 N z N o i9 (0 : Int32) x14) else (obj (some o) x0 9 fun q17 => bnd (f_X6_laneAt N z q17 v1 x0) fun r16 x15 =>
  if r16 = none then (f_X6_goOneMinute_b69 N z (f_X6_goOneMinute_b43 N z n) o v1 x15) else (geti r16 x15 5 83 fun i18 =>
  obj r16 x15 5 fun q20 => bnd (f_X2_getTokens N z q20 i18 x15) fun _ x19 =>
  f_X6_goOneMinute_b69 N z (f_X6_goOneMinute_b43 N z n) o v1 x19))
def f_X6_goOneMinute_b2 (N : Nat) (z : Nat → Nat) : Nat → Nat → Int32 → Hp → Option (Int32 × Hp)
  | 0, _, _, _ => none
  | n + 1, o, v1, x0 => getr (some o) x0 9 160 fun r21 =>
  geti r21 x0 3 43 fun i22 =>
  if i22 ≤ v1 then (obj (some o) x0 9 fun q24 => bnd (f_X6_letFolkCome N z q24 x0) fun _ x23 =>
  f_X6_goOneMinute_b43 N z N o (0 : Int32) x23) else (getr (some o) x0 9 160 fun r25 =>
  obj r25 x0 3 fun q28 => bnd (f_X0_orderAt N z q28 v1 x0) fun r27 x26 =>
  if r27 = none then (f_X6_goOneMinute_b31 N z (f_X6_goOneMinute_b2 N z n) o v1 x26) else (obj (some o) x26 9 fun q30 => bnd (f_X6_obey N z q30 r27 x26) fun _ x29 =>
  f_X6_goOneMinute_b31 N z (f_X6_goOneMinute_b2 N z n) o v1 x29))
def f_X6_goOneMinute (N : Nat) (z : Nat → Nat) (o : Nat) (x0 : Hp) : Option (Int32 × Hp) :=
  f_X6_goOneMinute_b2 N z N o (0 : Int32) x0
set_option maxRecDepth 100000 in
set_option maxHeartbeats 4000000 in
theorem g_X6_goOneMinute_b31 (l : Launch) (N : Nat) (z : Nat → Nat) {k2 : Nat → Int32 → Hp → Option (Int32 × Hp)} (hk2 : ∀ o v1 x, G l z m_X6_goOneMinute okT enI 2 [(0, va_rf (some o)), (1, .int v1)] [] x (k2 o v1 x)) (o : Nat) (v1 : Int32) (x0 : Hp) : G l z m_X6_goOneMinute okT enI 31 [(0, va_rf (some o)), (1, .int v1)] [] x0 (f_X6_goOneMinute_b31 N z k2 o v1 x0) := by
  unfold f_X6_goOneMinute_b31
  refine G_iinc (i := 1) (l2 := [(0, va_rf (some o))]) 1 [0] dX6_goOneMinute_31 rfl rfl (Nat.le_of_ble_eq_true rfl) rfl (sok_b (by decide) (rf_cat _) trivial) ?_
  refine G_goto (tgt := 2) dX6_goOneMinute_34 (by decide) ?_
  refine G_lv [1, 0] rfl ?_
  exact hk2 o (v1 + (1 : Int32)) x0

set_option maxRecDepth 100000 in
set_option maxHeartbeats 4000000 in
theorem g_X6_goOneMinute_b69 (l : Launch) (N : Nat) (z : Nat → Nat) {k43 : Nat → Int32 → Hp → Option (Int32 × Hp)} (hk43 : ∀ o v1 x, G l z m_X6_goOneMinute okT enI 43 [(0, va_rf (some o)), (1, .int v1)] [] x (k43 o v1 x)) (o : Nat) (v1 : Int32) (x0 : Hp) : G l z m_X6_goOneMinute okT enI 69 [(0, va_rf (some o)), (1, .int v1)] [] x0 (f_X6_goOneMinute_b69 N z k43 o v1 x0) := by
  unfold f_X6_goOneMinute_b69
  refine G_iinc (i := 1) (l2 := [(0, va_rf (some o))]) 1 [0] dX6_goOneMinute_69 rfl rfl (Nat.le_of_ble_eq_true rfl) rfl (sok_b (by decide) (rf_cat _) trivial) ?_
  refine G_goto (tgt := 43) dX6_goOneMinute_72 (by decide) ?_
  refine G_lv [1, 0] rfl ?_
  exact hk43 o (v1 + (1 : Int32)) x0

set_option maxRecDepth 100000 in
set_option maxHeartbeats 4000000 in
theorem g_X6_goOneMinute_b124 (l : Launch) (N : Nat) (z : Nat → Nat) {k102 : Nat → Int32 → Int32 → Hp → Option (Int32 × Hp)} (hk102 : ∀ o v1 v2 x, G l z m_X6_goOneMinute okT enI 102 [(0, va_rf (some o)), (1, .int v1), (2, .int v2)] [] x (k102 o v1 v2 x)) (o : Nat) (v1 : Int32) (v2 : Int32) (x0 : Hp) : G l z m_X6_goOneMinute okT enI 124 [(0, va_rf (some o)), (1, .int v1), (2, .int v2)] [] x0 (f_X6_goOneMinute_b124 N z k102 o v1 v2 x0) := by
  unfold f_X6_goOneMinute_b124
  refine G_iinc (i := 2) (l2 := [(0, va_rf (some o)), (1, .int v1)]) 2 [0, 1] dX6_goOneMinute_124 rfl rfl (Nat.le_of_ble_eq_true rfl) rfl (sok_a (by decide) (by decide) (sok_b (by decide) rfl trivial)) ?_
  refine G_goto (tgt := 102) dX6_goOneMinute_127 (by decide) ?_
  refine G_lv [1, 2, 0] rfl ?_
  exact hk102 o v1 (v2 + (1 : Int32)) x0

set_option maxRecDepth 100000 in
set_option maxHeartbeats 4000000 in
theorem g_X6_goOneMinute_b102 (l : Launch) (N : Nat) (z : Nat → Nat) : ∀ (n : Nat) (o : Nat) (v1 : Int32) (v2 : Int32) (x0 : Hp), G l z m_X6_goOneMinute okT enI 102 [(0, va_rf (some o)), (1, .int v1), (2, .int v2)] [] x0 (f_X6_goOneMinute_b102 N z n o v1 v2 x0) := by
  intro n
  induction n with
  | zero => intro o v1 v2 x0; exact G_none
  | succ n ih =>
  intro o v1 v2 x0
  rw [f_X6_goOneMinute_b102]
  refine G_iload_n 2 dX6_goOneMinute_102 rfl rfl ?_
  refine G_aload_n 0 dX6_goOneMinute_103 rfl rfl ?_
  refine G_geti (k := 3) K_8 (by decide) rfl rfl rfl gw_313 rfl dX6_goOneMinute_104 (fun i1 => ?_)
  refine G_icmp_ge (tgt := 130) dX6_goOneMinute_107 (by decide) (fun _ => ?_) (fun _ => ?_)
  · refine G_iload_n 1 dX6_goOneMinute_130 rfl rfl ?_
    exact G_ret trivial dX6_goOneMinute_131 rfl
  · refine G_aload_n 0 dX6_goOneMinute_110 rfl rfl ?_
    refine G_iload_n 2 dX6_goOneMinute_111 rfl rfl ?_
    refine G_callV (av := [.int v2]) [] (fun q4 => ct_X6_laneAt l N z q4 v2) K_8 rfl yn_X6_laneAt (Nat.le_of_ble_eq_true rfl) (by decide) gw_553 gw_554 gw_555 gw_42 gw_556 rfl (by decide) dX6_goOneMinute_112 (fun r3 x2 => ?_)
    refine G_astore_n (i := 3) (l2 := [(0, va_rf (some o)), (1, .int v1), (2, .int v2)]) [0, 1, 2] dX6_goOneMinute_115 rfl (Nat.le_of_ble_eq_true rfl) rfl (sok_a (by decide) (by decide) (sok_a (by decide) (by decide) (sok_b (by decide) rfl trivial))) ?_
    refine G_aload_n 0 dX6_goOneMinute_116 rfl rfl ?_
    refine G_ifnull (tgt := 124) dX6_goOneMinute_117 (by decide) (fun _ => ?_) (fun _ => ?_)
    · refine G_lv [1, 2, 3] rfl ?_
      exact g_X6_goOneMinute_b124 l N z ih o v1 v2 x2
    · refine G_aload_n 0 dX6_goOneMinute_120 rfl rfl ?_
      refine G_callV (av := []) [] (fun q6 => ct_X2_beginMinute l N z q6) K_4 rfl yn_X2_beginMinute (Nat.le_of_ble_eq_true rfl) (by decide) gw_731 gw_732 gw_733 gw_46 gw_734 rfl (by decide) dX6_goOneMinute_121 (fun _ x5 => ?_)
      refine G_lv [1, 2, 3] rfl ?_
      exact g_X6_goOneMinute_b124 l N z ih o v1 v2 x5

set_option maxRecDepth 100000 in
set_option maxHeartbeats 4000000 in
theorem g_X6_goOneMinute_b43 (l : Launch) (N : Nat) (z : Nat → Nat) : ∀ (n : Nat) (o : Nat) (v1 : Int32) (x0 : Hp), G l z m_X6_goOneMinute okT enI 43 [(0, va_rf (some o)), (1, .int v1)] [] x0 (f_X6_goOneMinute_b43 N z n o v1 x0) := by
  intro n
  induction n with
  | zero => intro o v1 x0; exact G_none
  | succ n ih =>
  intro o v1 x0
  rw [f_X6_goOneMinute_b43]
  refine G_iload_n 1 dX6_goOneMinute_43 rfl rfl ?_
  refine G_aload_n 0 dX6_goOneMinute_44 rfl rfl ?_
  refine G_geti (k := 3) K_8 (by decide) rfl rfl rfl gw_313 rfl dX6_goOneMinute_45 (fun i7 => ?_)
  refine G_icmp_ge (tgt := 75) dX6_goOneMinute_48 (by decide) (fun _ => ?_) (fun _ => ?_)
  · refine G_aload_n 0 dX6_goOneMinute_75 rfl rfl ?_
    refine G_callV (av := []) [] (fun q10 => ct_X6_sendPails l N z q10) K_8 rfl yn_X6_sendPails (Nat.le_of_ble_eq_true rfl) (by decide) gw_705 gw_707 gw_s8 gw_42 gw_708 rfl (by decide) dX6_goOneMinute_76 (fun i9 x8 => ?_)
    refine G_istore_n (i := 1) (l2 := [(0, va_rf (some o))]) [0] dX6_goOneMinute_79 rfl (Nat.le_of_ble_eq_true rfl) rfl (sok_b (by decide) (rf_cat _) trivial) ?_
    refine G_aload_n 1 dX6_goOneMinute_80 rfl rfl ?_
    refine G_aload_n 1 dX6_goOneMinute_81 rfl rfl ?_
    refine G_geti (k := 2) K_8 (by decide) rfl rfl rfl gw_310 rfl dX6_goOneMinute_82 (fun i11 => ?_)
    refine G_iload_n 0 dX6_goOneMinute_85 rfl rfl ?_
    refine G_isub dX6_goOneMinute_86 ?_
    refine G_puti (k := 8) K_8 (by decide) rfl rfl rfl gw_321 rfl (Or.inl rfl) nar_int.1 nar_int.2 dX6_goOneMinute_87 (fun x12 => ?_)
    refine G_aload_n 1 dX6_goOneMinute_90 rfl rfl ?_
    refine G_dup dX6_goOneMinute_91 (rf_cat _) ?_
    refine G_geti (k := 1) K_8 (by decide) rfl rfl rfl gw_308 rfl dX6_goOneMinute_92 (fun i13 => ?_)
    refine G_iconst (v := (1 : Int32)) dX6_goOneMinute_95 rfl ?_
    refine G_iadd dX6_goOneMinute_96 ?_
    refine G_puti (k := 1) K_8 (by decide) rfl rfl rfl gw_308 rfl (Or.inl rfl) nar_int.1 nar_int.2 dX6_goOneMinute_97 (fun x14 => ?_)
    refine G_iconst (v := (0 : Int32)) dX6_goOneMinute_100 rfl ?_
    refine G_istore_n (i := 2) (l2 := [(1, .int i9), (0, va_rf (some o))]) [0, 1] dX6_goOneMinute_101 rfl (Nat.le_of_ble_eq_true rfl) rfl (sok_b (by decide) rfl (sok_a (by decide) (by decide) trivial)) ?_
    refine G_lv [2, 1, 0] rfl ?_
    exact g_X6_goOneMinute_b102 l N z N o i9 (0 : Int32) x14
  · refine G_aload_n 0 dX6_goOneMinute_51 rfl rfl ?_
    refine G_iload_n 1 dX6_goOneMinute_52 rfl rfl ?_
    refine G_callV (av := [.int v1]) [] (fun q17 => ct_X6_laneAt l N z q17 v1) K_8 rfl yn_X6_laneAt (Nat.le_of_ble_eq_true rfl) (by decide) gw_553 gw_554 gw_555 gw_42 gw_556 rfl (by decide) dX6_goOneMinute_53 (fun r16 x15 => ?_)
    refine G_astore_n (i := 2) (l2 := [(0, va_rf (some o)), (1, .int v1)]) [0, 1] dX6_goOneMinute_56 rfl (Nat.le_of_ble_eq_true rfl) rfl (sok_a (by decide) (by decide) (sok_b (by decide) rfl trivial)) ?_
    refine G_aload_n 0 dX6_goOneMinute_57 rfl rfl ?_
    refine G_ifnull (tgt := 69) dX6_goOneMinute_58 (by decide) (fun _ => ?_) (fun _ => ?_)
    · refine G_lv [1, 2] rfl ?_
      exact g_X6_goOneMinute_b69 l N z ih o v1 x15
    · refine G_aload_n 0 dX6_goOneMinute_61 rfl rfl ?_
      refine G_aload_n 0 dX6_goOneMinute_62 rfl rfl ?_
      refine G_geti (k := 3) K_4 (by decide) rfl rfl rfl gw_218 rfl dX6_goOneMinute_63 (fun i18 => ?_)
      refine G_callV (av := [.int i18]) [] (fun q20 => ct_X2_getTokens l N z q20 i18) K_4 rfl yn_X2_getTokens (Nat.le_of_ble_eq_true rfl) (by decide) gw_700 gw_701 gw_702 gw_46 gw_703 rfl (by decide) dX6_goOneMinute_66 (fun _ x19 => ?_)
      refine G_lv [1, 2] rfl ?_
      exact g_X6_goOneMinute_b69 l N z ih o v1 x19

set_option maxRecDepth 100000 in
set_option maxHeartbeats 4000000 in
theorem g_X6_goOneMinute_b2 (l : Launch) (N : Nat) (z : Nat → Nat) : ∀ (n : Nat) (o : Nat) (v1 : Int32) (x0 : Hp), G l z m_X6_goOneMinute okT enI 2 [(0, va_rf (some o)), (1, .int v1)] [] x0 (f_X6_goOneMinute_b2 N z n o v1 x0) := by
  intro n
  induction n with
  | zero => intro o v1 x0; exact G_none
  | succ n ih =>
  intro o v1 x0
  rw [f_X6_goOneMinute_b2]
  refine G_iload_n 1 dX6_goOneMinute_2 rfl rfl ?_
  refine G_aload_n 0 dX6_goOneMinute_3 rfl rfl ?_
  refine G_getr (k := 0) K_8 (by decide) rfl rfl rfl gw_305 rfl dX6_goOneMinute_4 (fun r21 => ?_)
  refine G_geti (k := 3) K_2 (by decide) rfl rfl rfl gw_149 rfl dX6_goOneMinute_7 (fun i22 => ?_)
  refine G_icmp_ge (tgt := 37) dX6_goOneMinute_10 (by decide) (fun _ => ?_) (fun _ => ?_)
  · refine G_aload_n 0 dX6_goOneMinute_37 rfl rfl ?_
    refine G_callV (av := []) [] (fun q24 => ct_X6_letFolkCome l N z q24) K_8 rfl yn_X6_letFolkCome (Nat.le_of_ble_eq_true rfl) (by decide) gw_672 gw_674 gw_s7 gw_42 gw_675 rfl (by decide) dX6_goOneMinute_38 (fun _ x23 => ?_)
    refine G_iconst (v := (0 : Int32)) dX6_goOneMinute_41 rfl ?_
    refine G_istore_n (i := 1) (l2 := [(0, va_rf (some o))]) [0] dX6_goOneMinute_42 rfl (Nat.le_of_ble_eq_true rfl) rfl (sok_b (by decide) (rf_cat _) trivial) ?_
    refine G_lv [1, 0] rfl ?_
    exact g_X6_goOneMinute_b43 l N z N o (0 : Int32) x23
  · refine G_aload_n 0 dX6_goOneMinute_13 rfl rfl ?_
    refine G_getr (k := 0) K_8 (by decide) rfl rfl rfl gw_305 rfl dX6_goOneMinute_14 (fun r25 => ?_)
    refine G_iload_n 1 dX6_goOneMinute_17 rfl rfl ?_
    refine G_callV (av := [.int v1]) [] (fun q28 => ct_X0_orderAt l N z q28 v1) K_2 rfl yn_X0_orderAt (Nat.le_of_ble_eq_true rfl) (by decide) gw_627 gw_628 gw_629 gw_43 gw_630 rfl (by decide) dX6_goOneMinute_18 (fun r27 x26 => ?_)
    refine G_astore_n (i := 2) (l2 := [(0, va_rf (some o)), (1, .int v1)]) [0, 1] dX6_goOneMinute_21 rfl (Nat.le_of_ble_eq_true rfl) rfl (sok_a (by decide) (by decide) (sok_b (by decide) rfl trivial)) ?_
    refine G_aload_n 0 dX6_goOneMinute_22 rfl rfl ?_
    refine G_ifnull (tgt := 31) dX6_goOneMinute_23 (by decide) (fun _ => ?_) (fun _ => ?_)
    · refine G_lv [1, 2] rfl ?_
      exact g_X6_goOneMinute_b31 l N z ih o v1 x26
    · refine G_aload_n 1 dX6_goOneMinute_26 rfl rfl ?_
      refine G_aload_n 0 dX6_goOneMinute_27 rfl rfl ?_
      refine G_callV (av := [va_rf r27]) [] (fun q30 => ct_X6_obey l N z q30 r27) K_8 rfl yn_X6_obey (Nat.le_of_ble_eq_true rfl) (by decide) gw_631 gw_633 gw_s4 gw_42 gw_634 rfl (by decide) dX6_goOneMinute_28 (fun _ x29 => ?_)
      refine G_lv [1, 2] rfl ?_
      exact g_X6_goOneMinute_b31 l N z ih o v1 x29

set_option maxRecDepth 100000 in
set_option maxHeartbeats 4000000 in
theorem g_X6_goOneMinute (l : Launch) (N : Nat) (z : Nat → Nat) (o : Nat) (x0 : Hp) : G l z m_X6_goOneMinute okT enI 0 [(0, va_rf (some o))] [] x0 (f_X6_goOneMinute N z o x0) := by
  unfold f_X6_goOneMinute
  refine G_iconst (v := (0 : Int32)) dX6_goOneMinute_0 rfl ?_
  refine G_istore_n (i := 1) (l2 := [(0, va_rf (some o))]) [0] dX6_goOneMinute_1 rfl (Nat.le_of_ble_eq_true rfl) rfl (sok_b (by decide) (rf_cat _) trivial) ?_
  refine G_lv [1, 0] rfl ?_
  exact g_X6_goOneMinute_b2 l N z N o (0 : Int32) x0

theorem yn_X6_goOneMinute : Yn yX6_goOneMinute 0 := ⟨by decide +kernel, by decide +kernel, by decide +kernel⟩
theorem ct_X6_goOneMinute (l : Launch) (N : Nat) (z : Nat → Nat) (o : Nat) : Ct l z yX6_goOneMinute cX6_goOneMinute 4 (some .int) 6 enI [.ref o] (f_X6_goOneMinute N z o) :=
  Ct_i (fun x => G_lv0 (by simp only [lva_n, lva_i, lva_o, lva_r, lva_j]) (g_X6_goOneMinute l N z o x)) (by decide +kernel) (by simp only [lgl_n, lgl_i, lgl_o, lgl_r, lgl_j]; decide)

theorem dX6_shareOf_0 : decode cX6_shareOf 0 = .ok (.iload_n 1, 1) := by decide +kernel
theorem dX6_shareOf_1 : decode cX6_shareOf 1 = .ok (.tableswitch 49 5 8 #[31, 49, 39, 44], 31) := by decide +kernel
theorem dX6_shareOf_32 : decode cX6_shareOf 32 = .ok (.aload_n 0, 1) := by decide +kernel
theorem dX6_shareOf_33 : decode cX6_shareOf 33 = .ok (.getfield 225, 3) := by decide +kernel
theorem dX6_shareOf_36 : decode cX6_shareOf 36 = .ok (.getfield 229, 3) := by decide +kernel
theorem dX6_shareOf_39 : decode cX6_shareOf 39 = .ok (.ireturn, 1) := by decide +kernel
theorem dX6_shareOf_40 : decode cX6_shareOf 40 = .ok (.aload_n 0, 1) := by decide +kernel
theorem dX6_shareOf_41 : decode cX6_shareOf 41 = .ok (.getfield 234, 3) := by decide +kernel
theorem dX6_shareOf_44 : decode cX6_shareOf 44 = .ok (.ireturn, 1) := by decide +kernel
theorem dX6_shareOf_45 : decode cX6_shareOf 45 = .ok (.aload_n 0, 1) := by decide +kernel
theorem dX6_shareOf_46 : decode cX6_shareOf 46 = .ok (.getfield 237, 3) := by decide +kernel
theorem dX6_shareOf_49 : decode cX6_shareOf 49 = .ok (.ireturn, 1) := by decide +kernel
theorem dX6_shareOf_50 : decode cX6_shareOf 50 = .ok (.aload_n 0, 1) := by decide +kernel
theorem dX6_shareOf_51 : decode cX6_shareOf 51 = .ok (.getfield 240, 3) := by decide +kernel
theorem dX6_shareOf_54 : decode cX6_shareOf 54 = .ok (.ireturn, 1) := by decide +kernel
abbrev m_X6_shareOf : Mt := (cX6_shareOf, RX6, "shareOf", 2, .ireturn, 1)
def f_X6_shareOf (N : Nat) (z : Nat → Nat) (v0 : Option Nat) (v1 : Int32) (x0 : Hp) : Option (Int32 × Hp) :=
  if v1 = (5 : Int32) then (getr v0 x0 5 81 fun r2 =>
  geti r2 x0 7 120 fun i3 =>
  some (i3, x0)) else (if v1 = (6 : Int32) then (geti v0 x0 5 88 fun i5 =>
  some (i5, x0)) else (if v1 = (7 : Int32) then (geti v0 x0 5 86 fun i7 =>
  some (i7, x0)) else (if v1 = (8 : Int32) then (geti v0 x0 5 87 fun i9 =>
  some (i9, x0)) else (geti v0 x0 5 88 fun i10 =>
  some (i10, x0)))))
set_option maxRecDepth 100000 in
set_option maxHeartbeats 4000000 in
theorem g_X6_shareOf (l : Launch) (N : Nat) (z : Nat → Nat) (v0 : Option Nat) (v1 : Int32) (x0 : Hp) : G l z m_X6_shareOf okT enI 0 [(0, va_rf v0), (1, .int v1)] [] x0 (f_X6_shareOf N z v0 v1 x0) := by
  unfold f_X6_shareOf
  refine G_iload_n 1 dX6_shareOf_0 rfl rfl ?_
  refine G_if (fun hs1 => ?_) (fun hs1 => ?_)
  · refine G_tableIn (tgt := 32) dX6_shareOf_1 (by rw [hs1]; decide) (by rw [hs1]; decide) (by rw [hs1]; rfl) (by decide) ?_
    refine G_aload_n 0 dX6_shareOf_32 rfl rfl ?_
    refine G_getr (k := 1) K_4 (by decide) rfl rfl rfl gw_213 rfl dX6_shareOf_33 (fun r2 => ?_)
    refine G_geti (k := 0) K_6 (by decide) rfl rfl rfl gw_197 rfl dX6_shareOf_36 (fun i3 => ?_)
    exact G_ret trivial dX6_shareOf_39 rfl
  refine G_if (fun hs4 => ?_) (fun hs4 => ?_)
  · refine G_tableIn (tgt := 50) dX6_shareOf_1 (by rw [hs4]; decide) (by rw [hs4]; decide) (by rw [hs4]; rfl) (by decide) ?_
    refine G_aload_n 0 dX6_shareOf_50 rfl rfl ?_
    refine G_geti (k := 8) K_4 (by decide) rfl rfl rfl gw_232 rfl dX6_shareOf_51 (fun i5 => ?_)
    exact G_ret trivial dX6_shareOf_54 rfl
  refine G_if (fun hs6 => ?_) (fun hs6 => ?_)
  · refine G_tableIn (tgt := 40) dX6_shareOf_1 (by rw [hs6]; decide) (by rw [hs6]; decide) (by rw [hs6]; rfl) (by decide) ?_
    refine G_aload_n 0 dX6_shareOf_40 rfl rfl ?_
    refine G_geti (k := 6) K_4 (by decide) rfl rfl rfl gw_226 rfl dX6_shareOf_41 (fun i7 => ?_)
    exact G_ret trivial dX6_shareOf_44 rfl
  refine G_if (fun hs8 => ?_) (fun hs8 => ?_)
  · refine G_tableIn (tgt := 45) dX6_shareOf_1 (by rw [hs8]; decide) (by rw [hs8]; decide) (by rw [hs8]; rfl) (by decide) ?_
    refine G_aload_n 0 dX6_shareOf_45 rfl rfl ?_
    refine G_geti (k := 7) K_4 (by decide) rfl rfl rfl gw_230 rfl dX6_shareOf_46 (fun i9 => ?_)
    exact G_ret trivial dX6_shareOf_49 rfl
  refine G_tableOut (tgt := 50) dX6_shareOf_1 (by have q0 := i32_ne hs1; rw [show (5 : Int32).toInt = 5 from by decide] at q0; have q1 := i32_ne hs4; rw [show (6 : Int32).toInt = 6 from by decide] at q1; have q2 := i32_ne hs6; rw [show (7 : Int32).toInt = 7 from by decide] at q2; have q3 := i32_ne hs8; rw [show (8 : Int32).toInt = 8 from by decide] at q3; omega) (by decide) ?_
  refine G_aload_n 0 dX6_shareOf_50 rfl rfl ?_
  refine G_geti (k := 8) K_4 (by decide) rfl rfl rfl gw_232 rfl dX6_shareOf_51 (fun i10 => ?_)
  exact G_ret trivial dX6_shareOf_54 rfl

theorem yn_X6_shareOf : Yn yX6_shareOf 2 := ⟨by decide +kernel, by decide +kernel, by decide +kernel⟩
theorem ct_X6_shareOf (l : Launch) (N : Nat) (z : Nat → Nat) (v0 : Option Nat) (v1 : Int32) : Ct l z yX6_shareOf cX6_shareOf 2 (some .int) 1 enI [va_rf v0, .int v1] (f_X6_shareOf N z v0 v1) :=
  Ct_i (fun x => G_lv0 (by simp only [lva_n, lva_i, lva_o, lva_r, lva_j]) (g_X6_shareOf l N z v0 v1 x)) (by decide +kernel) (by simp only [lgl_n, lgl_i, lgl_o, lgl_r, lgl_j]; decide)

theorem dX6_sumOverLanes_0 : decode cX6_sumOverLanes 0 = .ok (.iconst 0, 1) := by decide +kernel
theorem dX6_sumOverLanes_1 : decode cX6_sumOverLanes 1 = .ok (.istore_n 2, 1) := by decide +kernel
theorem dX6_sumOverLanes_2 : decode cX6_sumOverLanes 2 = .ok (.iconst 0, 1) := by decide +kernel
theorem dX6_sumOverLanes_3 : decode cX6_sumOverLanes 3 = .ok (.istore_n 3, 1) := by decide +kernel
theorem dX6_sumOverLanes_4 : decode cX6_sumOverLanes 4 = .ok (.iload_n 3, 1) := by decide +kernel
theorem dX6_sumOverLanes_5 : decode cX6_sumOverLanes 5 = .ok (.aload_n 0, 1) := by decide +kernel
theorem dX6_sumOverLanes_6 : decode cX6_sumOverLanes 6 = .ok (.getfield 45, 3) := by decide +kernel
theorem dX6_sumOverLanes_9 : decode cX6_sumOverLanes 9 = .ok (.if_icmp .ge 30, 3) := by decide +kernel
theorem dX6_sumOverLanes_12 : decode cX6_sumOverLanes 12 = .ok (.aload_n 0, 1) := by decide +kernel
theorem dX6_sumOverLanes_13 : decode cX6_sumOverLanes 13 = .ok (.iload_n 3, 1) := by decide +kernel
theorem dX6_sumOverLanes_14 : decode cX6_sumOverLanes 14 = .ok (.invokevirtual 63, 3) := by decide +kernel
theorem dX6_sumOverLanes_17 : decode cX6_sumOverLanes 17 = .ok (.astore 4, 2) := by decide +kernel
theorem dX6_sumOverLanes_19 : decode cX6_sumOverLanes 19 = .ok (.aload 4, 2) := by decide +kernel
theorem dX6_sumOverLanes_21 : decode cX6_sumOverLanes 21 = .ok (.ifnull 12, 3) := by decide +kernel
theorem dX6_sumOverLanes_24 : decode cX6_sumOverLanes 24 = .ok (.iload_n 2, 1) := by decide +kernel
theorem dX6_sumOverLanes_25 : decode cX6_sumOverLanes 25 = .ok (.aload 4, 2) := by decide +kernel
theorem dX6_sumOverLanes_27 : decode cX6_sumOverLanes 27 = .ok (.iload_n 1, 1) := by decide +kernel
theorem dX6_sumOverLanes_28 : decode cX6_sumOverLanes 28 = .ok (.invokestatic 221, 3) := by decide +kernel
theorem dX6_sumOverLanes_31 : decode cX6_sumOverLanes 31 = .ok (.iadd, 1) := by decide +kernel
theorem dX6_sumOverLanes_32 : decode cX6_sumOverLanes 32 = .ok (.istore_n 2, 1) := by decide +kernel
theorem dX6_sumOverLanes_33 : decode cX6_sumOverLanes 33 = .ok (.iinc 3 1, 3) := by decide +kernel
theorem dX6_sumOverLanes_36 : decode cX6_sumOverLanes 36 = .ok (.goto (-32), 3) := by decide +kernel
theorem dX6_sumOverLanes_39 : decode cX6_sumOverLanes 39 = .ok (.iload_n 2, 1) := by decide +kernel
theorem dX6_sumOverLanes_40 : decode cX6_sumOverLanes 40 = .ok (.ireturn, 1) := by decide +kernel
abbrev m_X6_sumOverLanes : Mt := (cX6_sumOverLanes, RX6, "sumOverLanes", 5, .ireturn, 2)
def f_X6_sumOverLanes_b33 (N : Nat) (z : Nat → Nat) (k4 : Nat → Int32 → Int32 → Int32 → Hp → Option (Int32 × Hp)) (o : Nat) (v1 : Int32) (v2 : Int32) (v3 : Int32) (x0 : Hp) : Option (Int32 × Hp) :=
  k4 o v1 v2 (v3 + (1 : Int32)) x0
def f_X6_sumOverLanes_b4 (N : Nat) (z : Nat → Nat) : Nat → Nat → Int32 → Int32 → Int32 → Hp → Option (Int32 × Hp)
  | 0, _, _, _, _, _ => none
  | n + 1, o, v1, v2, v3, x0 => geti (some o) x0 9 163 fun i1 =>
  if i1 ≤ v3 then (some (v2, x0)) else (obj (some o) x0 9 fun q4 => bnd (f_X6_laneAt N z q4 v3 x0) fun r3 x2 =>
  if r3 = none then (f_X6_sumOverLanes_b33 N z (f_X6_sumOverLanes_b4 N z n) o v1 v2 v3 x2) else (bnd (f_X6_shareOf N z r3 v1 x2) fun i6 x5 =>
  f_X6_sumOverLanes_b33 N z (f_X6_sumOverLanes_b4 N z n) o v1 (v2 + i6) v3 x5))
def f_X6_sumOverLanes (N : Nat) (z : Nat → Nat) (o : Nat) (v1 : Int32) (x0 : Hp) : Option (Int32 × Hp) :=
  f_X6_sumOverLanes_b4 N z N o v1 (0 : Int32) (0 : Int32) x0
set_option maxRecDepth 100000 in
set_option maxHeartbeats 4000000 in
theorem g_X6_sumOverLanes_b33 (l : Launch) (N : Nat) (z : Nat → Nat) {k4 : Nat → Int32 → Int32 → Int32 → Hp → Option (Int32 × Hp)} (hk4 : ∀ o v1 v2 v3 x, G l z m_X6_sumOverLanes okT enI 4 [(0, va_rf (some o)), (1, .int v1), (2, .int v2), (3, .int v3)] [] x (k4 o v1 v2 v3 x)) (o : Nat) (v1 : Int32) (v2 : Int32) (v3 : Int32) (x0 : Hp) : G l z m_X6_sumOverLanes okT enI 33 [(0, va_rf (some o)), (1, .int v1), (2, .int v2), (3, .int v3)] [] x0 (f_X6_sumOverLanes_b33 N z k4 o v1 v2 v3 x0) := by
  unfold f_X6_sumOverLanes_b33
  refine G_iinc (i := 3) (l2 := [(0, va_rf (some o)), (1, .int v1), (2, .int v2)]) 3 [0, 1, 2] dX6_sumOverLanes_33 rfl rfl (Nat.le_of_ble_eq_true rfl) rfl (sok_a (by decide) (by decide) (sok_a (by decide) (by decide) (sok_b (by decide) rfl trivial))) ?_
  refine G_goto (tgt := 4) dX6_sumOverLanes_36 (by decide) ?_
  refine G_lv [1, 2, 3, 0] rfl ?_
  exact hk4 o v1 v2 (v3 + (1 : Int32)) x0

set_option maxRecDepth 100000 in
set_option maxHeartbeats 4000000 in
theorem g_X6_sumOverLanes_b4 (l : Launch) (N : Nat) (z : Nat → Nat) : ∀ (n : Nat) (o : Nat) (v1 : Int32) (v2 : Int32) (v3 : Int32) (x0 : Hp), G l z m_X6_sumOverLanes okT enI 4 [(0, va_rf (some o)), (1, .int v1), (2, .int v2), (3, .int v3)] [] x0 (f_X6_sumOverLanes_b4 N z n o v1 v2 v3 x0) := by
  intro n
  induction n with
  | zero => intro o v1 v2 v3 x0; exact G_none
  | succ n ih =>
  intro o v1 v2 v3 x0
  rw [f_X6_sumOverLanes_b4]
  refine G_iload_n 3 dX6_sumOverLanes_4 rfl rfl ?_
  refine G_aload_n 0 dX6_sumOverLanes_5 rfl rfl ?_
  refine G_geti (k := 3) K_8 (by decide) rfl rfl rfl gw_313 rfl dX6_sumOverLanes_6 (fun i1 => ?_)
  refine G_icmp_ge (tgt := 39) dX6_sumOverLanes_9 (by decide) (fun _ => ?_) (fun _ => ?_)
  · refine G_iload_n 2 dX6_sumOverLanes_39 rfl rfl ?_
    exact G_ret trivial dX6_sumOverLanes_40 rfl
  · refine G_aload_n 0 dX6_sumOverLanes_12 rfl rfl ?_
    refine G_iload_n 3 dX6_sumOverLanes_13 rfl rfl ?_
    refine G_callV (av := [.int v3]) [] (fun q4 => ct_X6_laneAt l N z q4 v3) K_8 rfl yn_X6_laneAt (Nat.le_of_ble_eq_true rfl) (by decide) gw_553 gw_554 gw_555 gw_42 gw_556 rfl (by decide) dX6_sumOverLanes_14 (fun r3 x2 => ?_)
    refine G_astore (i := 4) (l2 := [(0, va_rf (some o)), (1, .int v1), (2, .int v2), (3, .int v3)]) [0, 1, 2, 3] dX6_sumOverLanes_17 (Nat.le_of_ble_eq_true rfl) rfl (sok_a (by decide) (by decide) (sok_a (by decide) (by decide) (sok_a (by decide) (by decide) (sok_b (by decide) rfl trivial)))) ?_
    refine G_aload 0 dX6_sumOverLanes_19 rfl ?_
    refine G_ifnull (tgt := 33) dX6_sumOverLanes_21 (by decide) (fun _ => ?_) (fun _ => ?_)
    · refine G_lv [1, 2, 3, 4] rfl ?_
      exact g_X6_sumOverLanes_b33 l N z ih o v1 v2 v3 x2
    · refine G_iload_n 3 dX6_sumOverLanes_24 rfl rfl ?_
      refine G_aload 0 dX6_sumOverLanes_25 rfl ?_
      refine G_iload_n 2 dX6_sumOverLanes_27 rfl rfl ?_
      refine G_callS (av := [va_rf r3, .int v1]) [.int v2] (ct_X6_shareOf l N z r3 v1) yn_X6_shareOf (Nat.le_of_ble_eq_true rfl) (by decide) gw_557 gw_558 gw_42 gw_559 rfl (by simp only [hw_n, hw_i, hw_r, hw_j, hw_d]; decide) dX6_sumOverLanes_28 (fun i6 x5 => ?_)
      refine G_iadd dX6_sumOverLanes_31 ?_
      refine G_istore_n (i := 2) (l2 := [(4, va_rf r3), (0, va_rf (some o)), (1, .int v1), (3, .int v3)]) [0, 1, 2, 4] dX6_sumOverLanes_32 rfl (Nat.le_of_ble_eq_true rfl) rfl (sok_a (by decide) (by decide) (sok_a (by decide) (by decide) (sok_b (by decide) rfl (sok_a (by decide) (by decide) trivial)))) ?_
      refine G_lv [2, 3, 0, 4] rfl ?_
      exact g_X6_sumOverLanes_b33 l N z ih o v1 (v2 + i6) v3 x5

set_option maxRecDepth 100000 in
set_option maxHeartbeats 4000000 in
theorem g_X6_sumOverLanes (l : Launch) (N : Nat) (z : Nat → Nat) (o : Nat) (v1 : Int32) (x0 : Hp) : G l z m_X6_sumOverLanes okT enI 0 [(0, va_rf (some o)), (1, .int v1)] [] x0 (f_X6_sumOverLanes N z o v1 x0) := by
  unfold f_X6_sumOverLanes
  refine G_iconst (v := (0 : Int32)) dX6_sumOverLanes_0 rfl ?_
  refine G_istore_n (i := 2) (l2 := [(0, va_rf (some o)), (1, .int v1)]) [0, 1] dX6_sumOverLanes_1 rfl (Nat.le_of_ble_eq_true rfl) rfl (sok_a (by decide) (by decide) (sok_b (by decide) rfl trivial)) ?_
  refine G_iconst (v := (0 : Int32)) dX6_sumOverLanes_2 rfl ?_
  refine G_istore_n (i := 3) (l2 := [(2, .int (0 : Int32)), (0, va_rf (some o)), (1, .int v1)]) [0, 1, 2] dX6_sumOverLanes_3 rfl (Nat.le_of_ble_eq_true rfl) rfl (sok_b (by decide) rfl (sok_a (by decide) (by decide) (sok_a (by decide) (by decide) trivial))) ?_
  refine G_lv [2, 3, 1, 0] rfl ?_
  exact g_X6_sumOverLanes_b4 l N z N o v1 (0 : Int32) (0 : Int32) x0

theorem yn_X6_sumOverLanes : Yn yX6_sumOverLanes 1 := ⟨by decide +kernel, by decide +kernel, by decide +kernel⟩
theorem ct_X6_sumOverLanes (l : Launch) (N : Nat) (z : Nat → Nat) (o : Nat) (v1 : Int32) : Ct l z yX6_sumOverLanes cX6_sumOverLanes 5 (some .int) 2 enI [.ref o, .int v1] (f_X6_sumOverLanes N z o v1) :=
  Ct_i (fun x => G_lv0 (by simp only [lva_n, lva_i, lva_o, lva_r, lva_j]) (g_X6_sumOverLanes l N z o v1 x)) (by decide +kernel) (by simp only [lgl_n, lgl_i, lgl_o, lgl_r, lgl_j]; decide)

theorem dX6_tally_0 : decode cX6_tally 0 = .ok (.iload_n 1, 1) := by decide +kernel
theorem dX6_tally_1 : decode cX6_tally 1 = .ok (.tableswitch 106 0 11 #[63, 68, 73, 78, 83, 106, 91, 106, 106, 106, 96, 101], 63) := by decide +kernel
theorem dX6_tally_64 : decode cX6_tally 64 = .ok (.aload_n 0, 1) := by decide +kernel
theorem dX6_tally_65 : decode cX6_tally 65 = .ok (.getfield 42, 3) := by decide +kernel
theorem dX6_tally_68 : decode cX6_tally 68 = .ok (.ireturn, 1) := by decide +kernel
theorem dX6_tally_69 : decode cX6_tally 69 = .ok (.aload_n 0, 1) := by decide +kernel
theorem dX6_tally_70 : decode cX6_tally 70 = .ok (.getfield 34, 3) := by decide +kernel
theorem dX6_tally_73 : decode cX6_tally 73 = .ok (.ireturn, 1) := by decide +kernel
theorem dX6_tally_74 : decode cX6_tally 74 = .ok (.aload_n 0, 1) := by decide +kernel
theorem dX6_tally_75 : decode cX6_tally 75 = .ok (.getfield 45, 3) := by decide +kernel
theorem dX6_tally_78 : decode cX6_tally 78 = .ok (.ireturn, 1) := by decide +kernel
theorem dX6_tally_79 : decode cX6_tally 79 = .ok (.aload_n 0, 1) := by decide +kernel
theorem dX6_tally_80 : decode cX6_tally 80 = .ok (.getfield 48, 3) := by decide +kernel
theorem dX6_tally_83 : decode cX6_tally 83 = .ok (.ireturn, 1) := by decide +kernel
theorem dX6_tally_84 : decode cX6_tally 84 = .ok (.aload_n 0, 1) := by decide +kernel
theorem dX6_tally_85 : decode cX6_tally 85 = .ok (.getfield 30, 3) := by decide +kernel
theorem dX6_tally_88 : decode cX6_tally 88 = .ok (.getfield 96, 3) := by decide +kernel
theorem dX6_tally_91 : decode cX6_tally 91 = .ok (.ireturn, 1) := by decide +kernel
theorem dX6_tally_92 : decode cX6_tally 92 = .ok (.aload_n 0, 1) := by decide +kernel
theorem dX6_tally_93 : decode cX6_tally 93 = .ok (.getfield 54, 3) := by decide +kernel
theorem dX6_tally_96 : decode cX6_tally 96 = .ok (.ireturn, 1) := by decide +kernel
theorem dX6_tally_97 : decode cX6_tally 97 = .ok (.aload_n 0, 1) := by decide +kernel
theorem dX6_tally_98 : decode cX6_tally 98 = .ok (.getfield 57, 3) := by decide +kernel
theorem dX6_tally_101 : decode cX6_tally 101 = .ok (.ireturn, 1) := by decide +kernel
theorem dX6_tally_102 : decode cX6_tally 102 = .ok (.aload_n 0, 1) := by decide +kernel
theorem dX6_tally_103 : decode cX6_tally 103 = .ok (.getfield 51, 3) := by decide +kernel
theorem dX6_tally_106 : decode cX6_tally 106 = .ok (.ireturn, 1) := by decide +kernel
theorem dX6_tally_107 : decode cX6_tally 107 = .ok (.aload_n 0, 1) := by decide +kernel
theorem dX6_tally_108 : decode cX6_tally 108 = .ok (.iload_n 1, 1) := by decide +kernel
theorem dX6_tally_109 : decode cX6_tally 109 = .ok (.invokevirtual 218, 3) := by decide +kernel
theorem dX6_tally_112 : decode cX6_tally 112 = .ok (.ireturn, 1) := by decide +kernel
abbrev m_X6_tally : Mt := (cX6_tally, RX6, "tally", 2, .ireturn, 3)
def f_X6_tally (N : Nat) (z : Nat → Nat) (o : Nat) (v1 : Int32) (x0 : Hp) : Option (Int32 × Hp) :=
  if v1 = (0 : Int32) then (geti (some o) x0 9 161 fun i2 =>
  some (i2, x0)) else (if v1 = (1 : Int32) then (geti (some o) x0 9 162 fun i4 =>
  some (i4, x0)) else (if v1 = (2 : Int32) then (geti (some o) x0 9 163 fun i6 =>
  some (i6, x0)) else (if v1 = (3 : Int32) then (geti (some o) x0 9 164 fun i8 =>
  some (i8, x0)) else (if v1 = (4 : Int32) then (getr (some o) x0 9 160 fun r10 =>
  geti r10 x0 3 43 fun i11 =>
  some (i11, x0)) else (if v1 = (5 : Int32) then (obj (some o) x0 9 fun q15 => bnd (f_X6_sumOverLanes N z q15 v1 x0) fun i14 x13 =>
  some (i14, x13)) else (if v1 = (6 : Int32) then (geti (some o) x0 9 169 fun i17 =>
  some (i17, x0)) else (if v1 = (7 : Int32) then (obj (some o) x0 9 fun q21 => bnd (f_X6_sumOverLanes N z q21 v1 x0) fun i20 x19 =>
  some (i20, x19)) else (if v1 = (8 : Int32) then (obj (some o) x0 9 fun q25 => bnd (f_X6_sumOverLanes N z q25 v1 x0) fun i24 x23 =>
  some (i24, x23)) else (if v1 = (9 : Int32) then (obj (some o) x0 9 fun q29 => bnd (f_X6_sumOverLanes N z q29 v1 x0) fun i28 x27 =>
  some (i28, x27)) else (if v1 = (10 : Int32) then (geti (some o) x0 9 170 fun i31 =>
  some (i31, x0)) else (if v1 = (11 : Int32) then (geti (some o) x0 9 168 fun i33 =>
  some (i33, x0)) else (obj (some o) x0 9 fun q36 => bnd (f_X6_sumOverLanes N z q36 v1 x0) fun i35 x34 =>
  some (i35, x34)))))))))))))
set_option maxRecDepth 100000 in
set_option maxHeartbeats 4000000 in
theorem g_X6_tally (l : Launch) (N : Nat) (z : Nat → Nat) (o : Nat) (v1 : Int32) (x0 : Hp) : G l z m_X6_tally okT enI 0 [(0, va_rf (some o)), (1, .int v1)] [] x0 (f_X6_tally N z o v1 x0) := by
  unfold f_X6_tally
  refine G_iload_n 1 dX6_tally_0 rfl rfl ?_
  refine G_if (fun hs1 => ?_) (fun hs1 => ?_)
  · refine G_tableIn (tgt := 64) dX6_tally_1 (by rw [hs1]; decide) (by rw [hs1]; decide) (by rw [hs1]; rfl) (by decide) ?_
    refine G_aload_n 0 dX6_tally_64 rfl rfl ?_
    refine G_geti (k := 1) K_8 (by decide) rfl rfl rfl gw_308 rfl dX6_tally_65 (fun i2 => ?_)
    exact G_ret trivial dX6_tally_68 rfl
  refine G_if (fun hs3 => ?_) (fun hs3 => ?_)
  · refine G_tableIn (tgt := 69) dX6_tally_1 (by rw [hs3]; decide) (by rw [hs3]; decide) (by rw [hs3]; rfl) (by decide) ?_
    refine G_aload_n 0 dX6_tally_69 rfl rfl ?_
    refine G_geti (k := 2) K_8 (by decide) rfl rfl rfl gw_310 rfl dX6_tally_70 (fun i4 => ?_)
    exact G_ret trivial dX6_tally_73 rfl
  refine G_if (fun hs5 => ?_) (fun hs5 => ?_)
  · refine G_tableIn (tgt := 74) dX6_tally_1 (by rw [hs5]; decide) (by rw [hs5]; decide) (by rw [hs5]; rfl) (by decide) ?_
    refine G_aload_n 0 dX6_tally_74 rfl rfl ?_
    refine G_geti (k := 3) K_8 (by decide) rfl rfl rfl gw_313 rfl dX6_tally_75 (fun i6 => ?_)
    exact G_ret trivial dX6_tally_78 rfl
  refine G_if (fun hs7 => ?_) (fun hs7 => ?_)
  · refine G_tableIn (tgt := 79) dX6_tally_1 (by rw [hs7]; decide) (by rw [hs7]; decide) (by rw [hs7]; rfl) (by decide) ?_
    refine G_aload_n 0 dX6_tally_79 rfl rfl ?_
    refine G_geti (k := 4) K_8 (by decide) rfl rfl rfl gw_316 rfl dX6_tally_80 (fun i8 => ?_)
    exact G_ret trivial dX6_tally_83 rfl
  refine G_if (fun hs9 => ?_) (fun hs9 => ?_)
  · refine G_tableIn (tgt := 84) dX6_tally_1 (by rw [hs9]; decide) (by rw [hs9]; decide) (by rw [hs9]; rfl) (by decide) ?_
    refine G_aload_n 0 dX6_tally_84 rfl rfl ?_
    refine G_getr (k := 0) K_8 (by decide) rfl rfl rfl gw_305 rfl dX6_tally_85 (fun r10 => ?_)
    refine G_geti (k := 3) K_2 (by decide) rfl rfl rfl gw_149 rfl dX6_tally_88 (fun i11 => ?_)
    exact G_ret trivial dX6_tally_91 rfl
  refine G_if (fun hs12 => ?_) (fun hs12 => ?_)
  · refine G_tableIn (tgt := 107) dX6_tally_1 (by rw [hs12]; decide) (by rw [hs12]; decide) (by rw [hs12]; rfl) (by decide) ?_
    refine G_aload_n 0 dX6_tally_107 rfl rfl ?_
    refine G_iload_n 1 dX6_tally_108 rfl rfl ?_
    refine G_callV (av := [.int v1]) [] (fun q15 => ct_X6_sumOverLanes l N z q15 v1) K_8 rfl yn_X6_sumOverLanes (Nat.le_of_ble_eq_true rfl) (by decide) gw_549 gw_551 gw_s2 gw_42 gw_552 rfl (by decide) dX6_tally_109 (fun i14 x13 => ?_)
    exact G_ret trivial dX6_tally_112 rfl
  refine G_if (fun hs16 => ?_) (fun hs16 => ?_)
  · refine G_tableIn (tgt := 92) dX6_tally_1 (by rw [hs16]; decide) (by rw [hs16]; decide) (by rw [hs16]; rfl) (by decide) ?_
    refine G_aload_n 0 dX6_tally_92 rfl rfl ?_
    refine G_geti (k := 9) K_8 (by decide) rfl rfl rfl gw_322 rfl dX6_tally_93 (fun i17 => ?_)
    exact G_ret trivial dX6_tally_96 rfl
  refine G_if (fun hs18 => ?_) (fun hs18 => ?_)
  · refine G_tableIn (tgt := 107) dX6_tally_1 (by rw [hs18]; decide) (by rw [hs18]; decide) (by rw [hs18]; rfl) (by decide) ?_
    refine G_aload_n 0 dX6_tally_107 rfl rfl ?_
    refine G_iload_n 1 dX6_tally_108 rfl rfl ?_
    refine G_callV (av := [.int v1]) [] (fun q21 => ct_X6_sumOverLanes l N z q21 v1) K_8 rfl yn_X6_sumOverLanes (Nat.le_of_ble_eq_true rfl) (by decide) gw_549 gw_551 gw_s2 gw_42 gw_552 rfl (by decide) dX6_tally_109 (fun i20 x19 => ?_)
    exact G_ret trivial dX6_tally_112 rfl
  refine G_if (fun hs22 => ?_) (fun hs22 => ?_)
  · refine G_tableIn (tgt := 107) dX6_tally_1 (by rw [hs22]; decide) (by rw [hs22]; decide) (by rw [hs22]; rfl) (by decide) ?_
    refine G_aload_n 0 dX6_tally_107 rfl rfl ?_
    refine G_iload_n 1 dX6_tally_108 rfl rfl ?_
    refine G_callV (av := [.int v1]) [] (fun q25 => ct_X6_sumOverLanes l N z q25 v1) K_8 rfl yn_X6_sumOverLanes (Nat.le_of_ble_eq_true rfl) (by decide) gw_549 gw_551 gw_s2 gw_42 gw_552 rfl (by decide) dX6_tally_109 (fun i24 x23 => ?_)
    exact G_ret trivial dX6_tally_112 rfl
  refine G_if (fun hs26 => ?_) (fun hs26 => ?_)
  · refine G_tableIn (tgt := 107) dX6_tally_1 (by rw [hs26]; decide) (by rw [hs26]; decide) (by rw [hs26]; rfl) (by decide) ?_
    refine G_aload_n 0 dX6_tally_107 rfl rfl ?_
    refine G_iload_n 1 dX6_tally_108 rfl rfl ?_
    refine G_callV (av := [.int v1]) [] (fun q29 => ct_X6_sumOverLanes l N z q29 v1) K_8 rfl yn_X6_sumOverLanes (Nat.le_of_ble_eq_true rfl) (by decide) gw_549 gw_551 gw_s2 gw_42 gw_552 rfl (by decide) dX6_tally_109 (fun i28 x27 => ?_)
    exact G_ret trivial dX6_tally_112 rfl
  refine G_if (fun hs30 => ?_) (fun hs30 => ?_)
  · refine G_tableIn (tgt := 97) dX6_tally_1 (by rw [hs30]; decide) (by rw [hs30]; decide) (by rw [hs30]; rfl) (by decide) ?_
    refine G_aload_n 0 dX6_tally_97 rfl rfl ?_
    refine G_geti (k := 10) K_8 (by decide) rfl rfl rfl gw_323 rfl dX6_tally_98 (fun i31 => ?_)
    exact G_ret trivial dX6_tally_101 rfl
  refine G_if (fun hs32 => ?_) (fun hs32 => ?_)
  · refine G_tableIn (tgt := 102) dX6_tally_1 (by rw [hs32]; decide) (by rw [hs32]; decide) (by rw [hs32]; rfl) (by decide) ?_
    refine G_aload_n 0 dX6_tally_102 rfl rfl ?_
    refine G_geti (k := 8) K_8 (by decide) rfl rfl rfl gw_321 rfl dX6_tally_103 (fun i33 => ?_)
    exact G_ret trivial dX6_tally_106 rfl
  refine G_tableOut (tgt := 107) dX6_tally_1 (by have q0 := i32_ne hs1; rw [show (0 : Int32).toInt = 0 from by decide] at q0; have q1 := i32_ne hs3; rw [show (1 : Int32).toInt = 1 from by decide] at q1; have q2 := i32_ne hs5; rw [show (2 : Int32).toInt = 2 from by decide] at q2; have q3 := i32_ne hs7; rw [show (3 : Int32).toInt = 3 from by decide] at q3; have q4 := i32_ne hs9; rw [show (4 : Int32).toInt = 4 from by decide] at q4; have q5 := i32_ne hs12; rw [show (5 : Int32).toInt = 5 from by decide] at q5; have q6 := i32_ne hs16; rw [show (6 : Int32).toInt = 6 from by decide] at q6; have q7 := i32_ne hs18; rw [show (7 : Int32).toInt = 7 from by decide] at q7; have q8 := i32_ne hs22; rw [show (8 : Int32).toInt = 8 from by decide] at q8; have q9 := i32_ne hs26; rw [show (9 : Int32).toInt = 9 from by decide] at q9; have q10 := i32_ne hs30; rw [show (10 : Int32).toInt = 10 from by decide] at q10; have q11 := i32_ne hs32; rw [show (11 : Int32).toInt = 11 from by decide] at q11; omega) (by decide) ?_
  refine G_aload_n 0 dX6_tally_107 rfl rfl ?_
  refine G_iload_n 1 dX6_tally_108 rfl rfl ?_
  refine G_callV (av := [.int v1]) [] (fun q36 => ct_X6_sumOverLanes l N z q36 v1) K_8 rfl yn_X6_sumOverLanes (Nat.le_of_ble_eq_true rfl) (by decide) gw_549 gw_551 gw_s2 gw_42 gw_552 rfl (by decide) dX6_tally_109 (fun i35 x34 => ?_)
  exact G_ret trivial dX6_tally_112 rfl

theorem yn_X6_tally : Yn yX6_tally 1 := ⟨by decide +kernel, by decide +kernel, by decide +kernel⟩
theorem ct_X6_tally (l : Launch) (N : Nat) (z : Nat → Nat) (o : Nat) (v1 : Int32) : Ct l z yX6_tally cX6_tally 2 (some .int) 3 enI [.ref o, .int v1] (f_X6_tally N z o v1) :=
  Ct_i (fun x => G_lv0 (by simp only [lva_n, lva_i, lva_o, lva_r, lva_j]) (g_X6_tally l N z o v1 x)) (by decide +kernel) (by simp only [lgl_n, lgl_i, lgl_o, lgl_r, lgl_j]; decide)
