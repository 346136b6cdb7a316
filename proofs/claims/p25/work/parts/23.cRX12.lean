theorem dX12_init_0 : decode cX12_init 0 = .ok (.aload_n 0, 1) := by decide +kernel
theorem dX12_init_1 : decode cX12_init 1 = .ok (.invokespecial 1, 3) := by decide +kernel
theorem dX12_init_4 : decode cX12_init 4 = .ok (.aload_n 0, 1) := by decide +kernel
theorem dX12_init_5 : decode cX12_init 5 = .ok (.bipush 20, 2) := by decide +kernel
theorem dX12_init_7 : decode cX12_init 7 = .ok (.putfield 7, 3) := by decide +kernel
theorem dX12_init_10 : decode cX12_init 10 = .ok (.aload_n 0, 1) := by decide +kernel
theorem dX12_init_11 : decode cX12_init 11 = .ok (.iconst 0, 1) := by decide +kernel
theorem dX12_init_12 : decode cX12_init 12 = .ok (.anewarray 13, 3) := by decide +kernel
theorem dX12_init_15 : decode cX12_init 15 = .ok (.putfield 15, 3) := by decide +kernel
theorem dX12_init_18 : decode cX12_init 18 = .ok (.aload_n 0, 1) := by decide +kernel
theorem dX12_init_19 : decode cX12_init 19 = .ok (.iconst 0, 1) := by decide +kernel
theorem dX12_init_20 : decode cX12_init 20 = .ok (.anewarray 19, 3) := by decide +kernel
theorem dX12_init_23 : decode cX12_init 23 = .ok (.putfield 21, 3) := by decide +kernel
theorem dX12_init_26 : decode cX12_init 26 = .ok (.aload_n 0, 1) := by decide +kernel
theorem dX12_init_27 : decode cX12_init 27 = .ok (.iconst 0, 1) := by decide +kernel
theorem dX12_init_28 : decode cX12_init 28 = .ok (.anewarray 19, 3) := by decide +kernel
theorem dX12_init_31 : decode cX12_init 31 = .ok (.putfield 25, 3) := by decide +kernel
theorem dX12_init_34 : decode cX12_init 34 = .ok (.return_, 1) := by decide +kernel
abbrev m_X12_init : Mt := (cX12_init, RX12, "<init>", 1, .return_, 2)
def f_X12_init (N : Nat) (z : Nat → Nat) (o : Nat) (x0 : Hp) : Option (Unit × Hp) :=
  nn (some o) fun _ =>
  puti (some o) x0 15 281 (20 : Int32) fun x2 =>
  newa x2 106 (0 : Int32) fun r3 x4 =>
  putr (some o) x4 15 285 r3 fun x5 =>
  newa x5 107 (0 : Int32) fun r6 x7 =>
  putr (some o) x7 15 286 r6 fun x8 =>
  newa x8 107 (0 : Int32) fun r9 x10 =>
  putr (some o) x10 15 287 r9 fun x11 =>
  some ((), x11)
set_option maxRecDepth 100000 in
set_option maxHeartbeats 4000000 in
theorem g_X12_init (l : Launch) (N : Nat) (z : Nat → Nat) (o : Nat) (x0 : Hp) : G l z m_X12_init okT enV 0 [(0, va_rf (some o))] [] x0 (f_X12_init N z o x0) := by
  unfold f_X12_init
  refine G_aload_n 0 dX12_init_0 rfl rfl ?_
  refine G_objInit (st := []) gw_1338 gw_75 gw_76 (by decide) (by decide) dX12_init_1 (fun _ => ?_)
  refine G_aload_n 0 dX12_init_4 rfl rfl ?_
  refine G_bipush (v := (20 : Int32)) dX12_init_5 (by decide) ?_
  refine G_puti (k := 1) K_14 (by decide) rfl rfl rfl gw_1344 rfl (Or.inl rfl) nar_int.1 nar_int.2 dX12_init_7 (fun x2 => ?_)
  refine G_aload_n 0 dX12_init_10 rfl rfl ?_
  refine G_iconst (v := (0 : Int32)) dX12_init_11 rfl ?_
  refine G_anew (t := 6) rfl (by decide) (by decide) (fun _ => rfl) gw_1339 (by decide) dX12_init_12 (fun r3 x4 => ?_)
  refine G_putr (k := 5) K_14 (by decide) rfl rfl rfl gw_1349 rfl (Or.inl rfl) nar_arr.1 nar_arr.2 dX12_init_15 (fun x5 => ?_)
  refine G_aload_n 0 dX12_init_18 rfl rfl ?_
  refine G_iconst (v := (0 : Int32)) dX12_init_19 rfl ?_
  refine G_anewA gw_1341 dX12_init_20 (fun r6 x7 => ?_)
  refine G_putr (k := 6) K_14 (by decide) rfl rfl rfl gw_1351 rfl (Or.inl rfl) nar_arr.1 nar_arr.2 dX12_init_23 (fun x8 => ?_)
  refine G_aload_n 0 dX12_init_26 rfl rfl ?_
  refine G_iconst (v := (0 : Int32)) dX12_init_27 rfl ?_
  refine G_anewA gw_1341 dX12_init_28 (fun r9 x10 => ?_)
  refine G_putr (k := 7) K_14 (by decide) rfl rfl rfl gw_1353 rfl (Or.inl rfl) nar_arr.1 nar_arr.2 dX12_init_31 (fun x11 => ?_)
  exact G_ret trivial dX12_init_34 rfl

theorem yn_X12_init : Yn yX12_init 0 := ⟨by decide +kernel, by decide +kernel, by decide +kernel⟩
theorem ct_X12_init (l : Launch) (N : Nat) (z : Nat → Nat) (o : Nat) : Ct l z yX12_init cX12_init 1 none 2 enV [.ref o] (f_X12_init N z o) :=
  Ct_v (fun x => G_lv0 (by simp only [lva_n, lva_i, lva_o, lva_r, lva_j]) (g_X12_init l N z o x)) (by decide +kernel) (by simp only [lgl_n, lgl_i, lgl_o, lgl_r, lgl_j]; decide)

theorem dX12_bring_0 : decode cX12_bring 0 = .ok (.iconst 0, 1) := by decide +kernel
theorem dX12_bring_1 : decode cX12_bring 1 = .ok (.istore_n 3, 1) := by decide +kernel
theorem dX12_bring_2 : decode cX12_bring 2 = .ok (.iconst 0, 1) := by decide +kernel
theorem dX12_bring_3 : decode cX12_bring 3 = .ok (.istore 4, 2) := by decide +kernel
theorem dX12_bring_5 : decode cX12_bring 5 = .ok (.iload 4, 2) := by decide +kernel
theorem dX12_bring_7 : decode cX12_bring 7 = .ok (.iload_n 2, 1) := by decide +kernel
theorem dX12_bring_8 : decode cX12_bring 8 = .ok (.if_icmp .ge 80, 3) := by decide +kernel
theorem dX12_bring_11 : decode cX12_bring 11 = .ok (.aload_n 0, 1) := by decide +kernel
theorem dX12_bring_12 : decode cX12_bring 12 = .ok (.dup, 1) := by decide +kernel
theorem dX12_bring_13 : decode cX12_bring 13 = .ok (.getfield 32, 3) := by decide +kernel
theorem dX12_bring_16 : decode cX12_bring 16 = .ok (.iconst 1, 1) := by decide +kernel
theorem dX12_bring_17 : decode cX12_bring 17 = .ok (.iadd, 1) := by decide +kernel
theorem dX12_bring_18 : decode cX12_bring 18 = .ok (.putfield 32, 3) := by decide +kernel
theorem dX12_bring_21 : decode cX12_bring 21 = .ok (.aload_n 1, 1) := by decide +kernel
theorem dX12_bring_22 : decode cX12_bring 22 = .ok (.getfield 75, 3) := by decide +kernel
theorem dX12_bring_25 : decode cX12_bring 25 = .ok (.aload_n 1, 1) := by decide +kernel
theorem dX12_bring_26 : decode cX12_bring 26 = .ok (.getfield 68, 3) := by decide +kernel
theorem dX12_bring_29 : decode cX12_bring 29 = .ok (.if_icmp .ne 30, 3) := by decide +kernel
theorem dX12_bring_32 : decode cX12_bring 32 = .ok (.iinc 3 1, 3) := by decide +kernel
theorem dX12_bring_35 : decode cX12_bring 35 = .ok (.aload_n 1, 1) := by decide +kernel
theorem dX12_bring_36 : decode cX12_bring 36 = .ok (.dup, 1) := by decide +kernel
theorem dX12_bring_37 : decode cX12_bring 37 = .ok (.getfield 84, 3) := by decide +kernel
theorem dX12_bring_40 : decode cX12_bring 40 = .ok (.iconst 1, 1) := by decide +kernel
theorem dX12_bring_41 : decode cX12_bring 41 = .ok (.iadd, 1) := by decide +kernel
theorem dX12_bring_42 : decode cX12_bring 42 = .ok (.putfield 84, 3) := by decide +kernel
theorem dX12_bring_45 : decode cX12_bring 45 = .ok (.aload_n 1, 1) := by decide +kernel
theorem dX12_bring_46 : decode cX12_bring 46 = .ok (.getfield 71, 3) := by decide +kernel
theorem dX12_bring_49 : decode cX12_bring 49 = .ok (.ifCond .ne 6, 3) := by decide +kernel
theorem dX12_bring_52 : decode cX12_bring 52 = .ok (.goto 30, 3) := by decide +kernel
theorem dX12_bring_55 : decode cX12_bring 55 = .ok (.aload_n 1, 1) := by decide +kernel
theorem dX12_bring_56 : decode cX12_bring 56 = .ok (.invokevirtual 96, 3) := by decide +kernel
theorem dX12_bring_59 : decode cX12_bring 59 = .ok (.aload_n 1, 1) := by decide +kernel
theorem dX12_bring_60 : decode cX12_bring 60 = .ok (.getfield 78, 3) := by decide +kernel
theorem dX12_bring_63 : decode cX12_bring 63 = .ok (.aload_n 1, 1) := by decide +kernel
theorem dX12_bring_64 : decode cX12_bring 64 = .ok (.getfield 75, 3) := by decide +kernel
theorem dX12_bring_67 : decode cX12_bring 67 = .ok (.aload_n 0, 1) := by decide +kernel
theorem dX12_bring_68 : decode cX12_bring 68 = .ok (.getfield 29, 3) := by decide +kernel
theorem dX12_bring_71 : decode cX12_bring 71 = .ok (.iastore, 1) := by decide +kernel
theorem dX12_bring_72 : decode cX12_bring 72 = .ok (.aload_n 1, 1) := by decide +kernel
theorem dX12_bring_73 : decode cX12_bring 73 = .ok (.dup, 1) := by decide +kernel
theorem dX12_bring_74 : decode cX12_bring 74 = .ok (.getfield 75, 3) := by decide +kernel
theorem dX12_bring_77 : decode cX12_bring 77 = .ok (.iconst 1, 1) := by decide +kernel
theorem dX12_bring_78 : decode cX12_bring 78 = .ok (.iadd, 1) := by decide +kernel
theorem dX12_bring_79 : decode cX12_bring 79 = .ok (.putfield 75, 3) := by decide +kernel
theorem dX12_bring_82 : decode cX12_bring 82 = .ok (.iinc 4 1, 3) := by decide +kernel
theorem dX12_bring_85 : decode cX12_bring 85 = .ok (.goto (-80), 3) := by decide +kernel
theorem dX12_bring_88 : decode cX12_bring 88 = .ok (.iload_n 3, 1) := by decide +kernel
theorem dX12_bring_89 : decode cX12_bring 89 = .ok (.ireturn, 1) := by decide +kernel
abbrev m_X12_bring : Mt := (cX12_bring, RX12, "bring", 5, .ireturn, 2)
def f_X12_bring_b82 (N : Nat) (z : Nat → Nat) (k5 : Nat → Option Nat → Int32 → Int32 → Int32 → Hp → Option (Int32 × Hp)) (o : Nat) (v1 : Option Nat) (v2 : Int32) (v3 : Int32) (v4 : Int32) (x0 : Hp) : Option (Int32 × Hp) :=
  k5 o v1 v2 v3 (v4 + (1 : Int32)) x0
def f_X12_bring_b59 (N : Nat) (z : Nat → Nat) (k5 : Nat → Option Nat → Int32 → Int32 → Int32 → Hp → Option (Int32 × Hp)) (o : Nat) (v1 : Option Nat) (v2 : Int32) (v3 : Int32) (v4 : Int32) (x0 : Hp) : Option (Int32 × Hp) :=
  getr v1 x0 14 269 fun r1 =>
  geti v1 x0 14 270 fun i2 =>
  geti (some o) x0 15 280 fun i3 =>
  asti r1 x0 101 i2 i3 fun x4 =>
  geti v1 x4 14 270 fun i5 =>
  puti v1 x4 14 270 (i5 + (1 : Int32)) fun x6 =>
  f_X12_bring_b82 N z k5 o v1 v2 v3 v4 x6
def f_X12_bring_b5 (N : Nat) (z : Nat → Nat) : Nat → Nat → Option Nat → Int32 → Int32 → Int32 → Hp → Option (Int32 × Hp)
  | 0, _, _, _, _, _, _ => none
  | n + 1, o, v1, v2, v3, v4, x0 => if v2 ≤ v4 then (some (v3, x0)) else (geti (some o) x0 15 282 fun i7 =>
  puti (some o) x0 15 282 (i7 + (1 : Int32)) fun x8 =>
  geti v1 x8 14 270 fun i9 =>
  geti v1 x8 14 267 fun i10 =>
  if i9 = i10 then (geti v1 x8 14 272 fun i11 =>
  puti v1 x8 14 272 (i11 + (1 : Int32)) fun x12 =>
  geti v1 x12 14 268 fun i13 =>
  if i13 = 0 then (f_X12_bring_b82 N z (f_X12_bring_b5 N z n) o v1 v2 (v3 + (1 : Int32)) v4 x12) else (obj v1 x12 14 fun q15 => bnd (f_X11_pop N z q15 x12) fun _ x14 =>
  f_X12_bring_b59 N z (f_X12_bring_b5 N z n) o v1 v2 (v3 + (1 : Int32)) v4 x14)) else (f_X12_bring_b59 N z (f_X12_bring_b5 N z n) o v1 v2 v3 v4 x8))
def f_X12_bring (N : Nat) (z : Nat → Nat) (o : Nat) (v1 : Option Nat) (v2 : Int32) (x0 : Hp) : Option (Int32 × Hp) :=
  f_X12_bring_b5 N z N o v1 v2 (0 : Int32) (0 : Int32) x0
set_option maxRecDepth 100000 in
set_option maxHeartbeats 4000000 in
theorem g_X12_bring_b82 (l : Launch) (N : Nat) (z : Nat → Nat) {k5 : Nat → Option Nat → Int32 → Int32 → Int32 → Hp → Option (Int32 × Hp)} (hk5 : ∀ o v1 v2 v3 v4 x, G l z m_X12_bring okT enI 5 [(0, va_rf (some o)), (1, va_rf v1), (2, .int v2), (3, .int v3), (4, .int v4)] [] x (k5 o v1 v2 v3 v4 x)) (o : Nat) (v1 : Option Nat) (v2 : Int32) (v3 : Int32) (v4 : Int32) (x0 : Hp) : G l z m_X12_bring okT enI 82 [(0, va_rf (some o)), (1, va_rf v1), (2, .int v2), (3, .int v3), (4, .int v4)] [] x0 (f_X12_bring_b82 N z k5 o v1 v2 v3 v4 x0) := by
  unfold f_X12_bring_b82
  refine G_iinc (i := 4) (l2 := [(0, va_rf (some o)), (1, va_rf v1), (2, .int v2), (3, .int v3)]) 4 [0, 1, 2, 3] dX12_bring_82 rfl rfl (Nat.le_of_ble_eq_true rfl) rfl (sok_a (by decide) (by decide) (sok_a (by decide) (by decide) (sok_a (by decide) (by decide) (sok_b (by decide) rfl trivial)))) ?_
  refine G_goto (tgt := 5) dX12_bring_85 (by decide) ?_
  refine G_lv [1, 2, 3, 4, 0] rfl ?_
  exact hk5 o v1 v2 v3 (v4 + (1 : Int32)) x0

set_option maxRecDepth 100000 in
set_option maxHeartbeats 4000000 in
theorem g_X12_bring_b59 (l : Launch) (N : Nat) (z : Nat → Nat) {k5 : Nat → Option Nat → Int32 → Int32 → Int32 → Hp → Option (Int32 × Hp)} (hk5 : ∀ o v1 v2 v3 v4 x, G l z m_X12_bring okT enI 5 [(0, va_rf (some o)), (1, va_rf v1), (2, .int v2), (3, .int v3), (4, .int v4)] [] x (k5 o v1 v2 v3 v4 x)) (o : Nat) (v1 : Option Nat) (v2 : Int32) (v3 : Int32) (v4 : Int32) (x0 : Hp) : G l z m_X12_bring okT enI 59 [(0, va_rf (some o)), (1, va_rf v1), (2, .int v2), (3, .int v3), (4, .int v4)] [] x0 (f_X12_bring_b59 N z k5 o v1 v2 v3 v4 x0) := by
  unfold f_X12_bring_b59
  refine G_aload_n 1 dX12_bring_59 rfl rfl ?_
  refine G_getr (k := 9) K_13 (by decide) rfl rfl rfl gw_1405 rfl dX12_bring_60 (fun r1 => ?_)
  refine G_aload_n 1 dX12_bring_63 rfl rfl ?_
  refine G_geti (k := 10) K_13 (by decide) rfl rfl rfl gw_1407 rfl dX12_bring_64 (fun i2 => ?_)
  refine G_aload_n 0 dX12_bring_67 rfl rfl ?_
  refine G_geti (k := 0) K_14 (by decide) rfl rfl rfl gw_1343 rfl dX12_bring_68 (fun i3 => ?_)
  refine G_iast dX12_bring_71 (fun x4 => ?_)
  refine G_aload_n 1 dX12_bring_72 rfl rfl ?_
  refine G_dup dX12_bring_73 (rf_cat _) ?_
  refine G_geti (k := 10) K_13 (by decide) rfl rfl rfl gw_1407 rfl dX12_bring_74 (fun i5 => ?_)
  refine G_iconst (v := (1 : Int32)) dX12_bring_77 rfl ?_
  refine G_iadd dX12_bring_78 ?_
  refine G_puti (k := 10) K_13 (by decide) rfl rfl rfl gw_1407 rfl (Or.inl rfl) nar_int.1 nar_int.2 dX12_bring_79 (fun x6 => ?_)
  refine G_lv [0, 1, 2, 3, 4] rfl ?_
  exact g_X12_bring_b82 l N z hk5 o v1 v2 v3 v4 x6

set_option maxRecDepth 100000 in
set_option maxHeartbeats 4000000 in
theorem g_X12_bring_b5 (l : Launch) (N : Nat) (z : Nat → Nat) : ∀ (n : Nat) (o : Nat) (v1 : Option Nat) (v2 : Int32) (v3 : Int32) (v4 : Int32) (x0 : Hp), G l z m_X12_bring okT enI 5 [(0, va_rf (some o)), (1, va_rf v1), (2, .int v2), (3, .int v3), (4, .int v4)] [] x0 (f_X12_bring_b5 N z n o v1 v2 v3 v4 x0) := by
  intro n
  induction n with
  | zero => intro o v1 v2 v3 v4 x0; exact G_none
  | succ n ih =>
  intro o v1 v2 v3 v4 x0
  rw [f_X12_bring_b5]
  refine G_iload 4 dX12_bring_5 rfl ?_
  refine G_iload_n 2 dX12_bring_7 rfl rfl ?_
  refine G_icmp_ge (tgt := 88) dX12_bring_8 (by decide) (fun _ => ?_) (fun _ => ?_)
  · refine G_iload_n 3 dX12_bring_88 rfl rfl ?_
    exact G_ret trivial dX12_bring_89 rfl
  · refine G_aload_n 0 dX12_bring_11 rfl rfl ?_
    refine G_dup dX12_bring_12 (rf_cat _) ?_
    refine G_geti (k := 2) K_14 (by decide) rfl rfl rfl gw_1346 rfl dX12_bring_13 (fun i7 => ?_)
    refine G_iconst (v := (1 : Int32)) dX12_bring_16 rfl ?_
    refine G_iadd dX12_bring_17 ?_
    refine G_puti (k := 2) K_14 (by decide) rfl rfl rfl gw_1346 rfl (Or.inl rfl) nar_int.1 nar_int.2 dX12_bring_18 (fun x8 => ?_)
    refine G_aload_n 1 dX12_bring_21 rfl rfl ?_
    refine G_geti (k := 10) K_13 (by decide) rfl rfl rfl gw_1407 rfl dX12_bring_22 (fun i9 => ?_)
    refine G_aload_n 1 dX12_bring_25 rfl rfl ?_
    refine G_geti (k := 7) K_13 (by decide) rfl rfl rfl gw_1400 rfl dX12_bring_26 (fun i10 => ?_)
    refine G_icmp_ne (tgt := 59) dX12_bring_29 (by decide) (fun _ => ?_) (fun _ => ?_)
    · refine G_iinc (i := 3) (l2 := [(0, va_rf (some o)), (1, va_rf v1), (2, .int v2), (4, .int v4)]) 3 [0, 1, 2, 4] dX12_bring_32 rfl rfl (Nat.le_of_ble_eq_true rfl) rfl (sok_a (by decide) (by decide) (sok_a (by decide) (by decide) (sok_b (by decide) rfl (sok_a (by decide) (by decide) trivial)))) ?_
      refine G_aload_n 2 dX12_bring_35 rfl rfl ?_
      refine G_dup dX12_bring_36 (rf_cat _) ?_
      refine G_geti (k := 12) K_13 (by decide) rfl rfl rfl gw_1409 rfl dX12_bring_37 (fun i11 => ?_)
      refine G_iconst (v := (1 : Int32)) dX12_bring_40 rfl ?_
      refine G_iadd dX12_bring_41 ?_
      refine G_puti (k := 12) K_13 (by decide) rfl rfl rfl gw_1409 rfl (Or.inl rfl) nar_int.1 nar_int.2 dX12_bring_42 (fun x12 => ?_)
      refine G_aload_n 2 dX12_bring_45 rfl rfl ?_
      refine G_geti (k := 8) K_13 (by decide) rfl rfl rfl gw_1402 rfl dX12_bring_46 (fun i13 => ?_)
      refine G_if_ne (tgt := 55) dX12_bring_49 (by decide) (fun _ => ?_) (fun _ => ?_)
      · refine G_goto (tgt := 82) dX12_bring_52 (by decide) ?_
        refine G_lv [1, 2, 3, 0, 4] rfl ?_
        exact g_X12_bring_b82 l N z ih o v1 v2 (v3 + (1 : Int32)) v4 x12
      · refine G_aload_n 2 dX12_bring_55 rfl rfl ?_
        refine G_callV (av := []) [] (fun q15 => ct_X11_pop l N z q15) K_13 rfl yn_X11_pop (Nat.le_of_ble_eq_true rfl) (by decide) gw_803 gw_804 gw_805 gw_55 gw_806 rfl (by decide) dX12_bring_56 (fun _ x14 => ?_)
        refine G_lv [1, 2, 3, 0, 4] rfl ?_
        exact g_X12_bring_b59 l N z ih o v1 v2 (v3 + (1 : Int32)) v4 x14
    · refine G_lv [0, 1, 2, 3, 4] rfl ?_
      exact g_X12_bring_b59 l N z ih o v1 v2 v3 v4 x8

set_option maxRecDepth 100000 in
set_option maxHeartbeats 4000000 in
theorem g_X12_bring (l : Launch) (N : Nat) (z : Nat → Nat) (o : Nat) (v1 : Option Nat) (v2 : Int32) (x0 : Hp) : G l z m_X12_bring okT enI 0 [(0, va_rf (some o)), (1, va_rf v1), (2, .int v2)] [] x0 (f_X12_bring N z o v1 v2 x0) := by
  unfold f_X12_bring
  refine G_iconst (v := (0 : Int32)) dX12_bring_0 rfl ?_
  refine G_istore_n (i := 3) (l2 := [(0, va_rf (some o)), (1, va_rf v1), (2, .int v2)]) [0, 1, 2] dX12_bring_1 rfl (Nat.le_of_ble_eq_true rfl) rfl (sok_a (by decide) (by decide) (sok_a (by decide) (by decide) (sok_b (by decide) rfl trivial))) ?_
  refine G_iconst (v := (0 : Int32)) dX12_bring_2 rfl ?_
  refine G_istore (i := 4) (l2 := [(3, .int (0 : Int32)), (0, va_rf (some o)), (1, va_rf v1), (2, .int v2)]) [0, 1, 2, 3] dX12_bring_3 (Nat.le_of_ble_eq_true rfl) rfl (sok_b (by decide) rfl (sok_a (by decide) (by decide) (sok_a (by decide) (by decide) (sok_a (by decide) (by decide) trivial)))) ?_
  refine G_lv [2, 3, 4, 1, 0] rfl ?_
  exact g_X12_bring_b5 l N z N o v1 v2 (0 : Int32) (0 : Int32) x0

theorem yn_X12_bring : Yn yX12_bring 2 := ⟨by decide +kernel, by decide +kernel, by decide +kernel⟩
theorem ct_X12_bring (l : Launch) (N : Nat) (z : Nat → Nat) (o : Nat) (v1 : Option Nat) (v2 : Int32) : Ct l z yX12_bring cX12_bring 5 (some .int) 2 enI [.ref o, va_rf v1, .int v2] (f_X12_bring N z o v1 v2) :=
  Ct_i (fun x => G_lv0 (by simp only [lva_n, lva_i, lva_o, lva_r, lva_j]) (g_X12_bring l N z o v1 v2 x)) (by decide +kernel) (by simp only [lgl_n, lgl_i, lgl_o, lgl_r, lgl_j]; decide)

theorem dX12_value_0 : decode cX12_value 0 = .ok (.iload_n 1, 1) := by decide +kernel
theorem dX12_value_1 : decode cX12_value 1 = .ok (.tableswitch 84 0 5 #[39, 41, 48, 58, 67, 74], 39) := by decide +kernel
theorem dX12_value_40 : decode cX12_value 40 = .ok (.iload_n 3, 1) := by decide +kernel
theorem dX12_value_41 : decode cX12_value 41 = .ok (.ireturn, 1) := by decide +kernel
theorem dX12_value_42 : decode cX12_value 42 = .ok (.aload_n 0, 1) := by decide +kernel
theorem dX12_value_43 : decode cX12_value 43 = .ok (.getfield 29, 3) := by decide +kernel
theorem dX12_value_46 : decode cX12_value 46 = .ok (.iload_n 3, 1) := by decide +kernel
theorem dX12_value_47 : decode cX12_value 47 = .ok (.isub, 1) := by decide +kernel
theorem dX12_value_48 : decode cX12_value 48 = .ok (.ireturn, 1) := by decide +kernel
theorem dX12_value_49 : decode cX12_value 49 = .ok (.aload_n 0, 1) := by decide +kernel
theorem dX12_value_50 : decode cX12_value 50 = .ok (.getfield 38, 3) := by decide +kernel
theorem dX12_value_53 : decode cX12_value 53 = .ok (.aload_n 2, 1) := by decide +kernel
theorem dX12_value_54 : decode cX12_value 54 = .ok (.getfield 65, 3) := by decide +kernel
theorem dX12_value_57 : decode cX12_value 57 = .ok (.iadd, 1) := by decide +kernel
theorem dX12_value_58 : decode cX12_value 58 = .ok (.ireturn, 1) := by decide +kernel
theorem dX12_value_59 : decode cX12_value 59 = .ok (.aload_n 2, 1) := by decide +kernel
theorem dX12_value_60 : decode cX12_value 60 = .ok (.getfield 75, 3) := by decide +kernel
theorem dX12_value_63 : decode cX12_value 63 = .ok (.iconst 2, 1) := by decide +kernel
theorem dX12_value_64 : decode cX12_value 64 = .ok (.imul, 1) := by decide +kernel
theorem dX12_value_65 : decode cX12_value 65 = .ok (.iload_n 3, 1) := by decide +kernel
theorem dX12_value_66 : decode cX12_value 66 = .ok (.isub, 1) := by decide +kernel
theorem dX12_value_67 : decode cX12_value 67 = .ok (.ireturn, 1) := by decide +kernel
theorem dX12_value_68 : decode cX12_value 68 = .ok (.aload_n 2, 1) := by decide +kernel
theorem dX12_value_69 : decode cX12_value 69 = .ok (.getfield 81, 3) := by decide +kernel
theorem dX12_value_72 : decode cX12_value 72 = .ok (.iconst 2, 1) := by decide +kernel
theorem dX12_value_73 : decode cX12_value 73 = .ok (.idiv, 1) := by decide +kernel
theorem dX12_value_74 : decode cX12_value 74 = .ok (.ireturn, 1) := by decide +kernel
theorem dX12_value_75 : decode cX12_value 75 = .ok (.aload_n 2, 1) := by decide +kernel
theorem dX12_value_76 : decode cX12_value 76 = .ok (.getfield 84, 3) := by decide +kernel
theorem dX12_value_79 : decode cX12_value 79 = .ok (.aload_n 2, 1) := by decide +kernel
theorem dX12_value_80 : decode cX12_value 80 = .ok (.getfield 87, 3) := by decide +kernel
theorem dX12_value_83 : decode cX12_value 83 = .ok (.isub, 1) := by decide +kernel
theorem dX12_value_84 : decode cX12_value 84 = .ok (.ireturn, 1) := by decide +kernel
theorem dX12_value_85 : decode cX12_value 85 = .ok (.iload_n 3, 1) := by decide +kernel
theorem dX12_value_86 : decode cX12_value 86 = .ok (.bipush 30, 2) := by decide +kernel
theorem dX12_value_88 : decode cX12_value 88 = .ok (.aload_n 2, 1) := by decide +kernel
theorem dX12_value_89 : decode cX12_value 89 = .ok (.getfield 65, 3) := by decide +kernel
theorem dX12_value_92 : decode cX12_value 92 = .ok (.isub, 1) := by decide +kernel
theorem dX12_value_93 : decode cX12_value 93 = .ok (.invokestatic 99, 3) := by decide +kernel
theorem dX12_value_96 : decode cX12_value 96 = .ok (.ireturn, 1) := by decide +kernel
abbrev m_X12_value : Mt := (cX12_value, RX12, "value", 4, .ireturn, 2)
def f_X12_value (N : Nat) (z : Nat → Nat) (o : Nat) (v1 : Int32) (v2 : Option Nat) (v3 : Int32) (x0 : Hp) : Option (Int32 × Hp) :=
  if v1 = (0 : Int32) then (some (v3, x0)) else (if v1 = (1 : Int32) then (geti (some o) x0 15 280 fun i3 =>
  some (i3 - v3, x0)) else (if v1 = (2 : Int32) then (geti (some o) x0 15 284 fun i5 =>
  geti v2 x0 14 266 fun i6 =>
  some (i5 + i6, x0)) else (if v1 = (3 : Int32) then (geti v2 x0 14 270 fun i8 =>
  some ((i8 * (2 : Int32)) - v3, x0)) else (if v1 = (4 : Int32) then (geti v2 x0 14 271 fun i10 =>
  nz (2 : Int32) <|
  some (i10 / (2 : Int32), x0)) else (if v1 = (5 : Int32) then (geti v2 x0 14 272 fun i12 =>
  geti v2 x0 14 273 fun i13 =>
  some (i12 - i13, x0)) else (geti v2 x0 14 266 fun i14 =>
  some ((if ((30 : Int32) - i14) < v3 then ((30 : Int32) - i14) else v3), x0)))))))
set_option maxRecDepth 100000 in
set_option maxHeartbeats 4000000 in
theorem g_X12_value (l : Launch) (N : Nat) (z : Nat → Nat) (o : Nat) (v1 : Int32) (v2 : Option Nat) (v3 : Int32) (x0 : Hp) : G l z m_X12_value okT enI 0 [(0, va_rf (some o)), (1, .int v1), (2, va_rf v2), (3, .int v3)] [] x0 (f_X12_value N z o v1 v2 v3 x0) := by
  unfold f_X12_value
  refine G_iload_n 1 dX12_value_0 rfl rfl ?_
  refine G_if (fun hs1 => ?_) (fun hs1 => ?_)
  · refine G_tableIn (tgt := 40) dX12_value_1 (by rw [hs1]; decide) (by rw [hs1]; decide) (by rw [hs1]; rfl) (by decide) ?_
    refine G_iload_n 3 dX12_value_40 rfl rfl ?_
    exact G_ret trivial dX12_value_41 rfl
  refine G_if (fun hs2 => ?_) (fun hs2 => ?_)
  · refine G_tableIn (tgt := 42) dX12_value_1 (by rw [hs2]; decide) (by rw [hs2]; decide) (by rw [hs2]; rfl) (by decide) ?_
    refine G_aload_n 0 dX12_value_42 rfl rfl ?_
    refine G_geti (k := 0) K_14 (by decide) rfl rfl rfl gw_1343 rfl dX12_value_43 (fun i3 => ?_)
    refine G_iload_n 3 dX12_value_46 rfl rfl ?_
    refine G_isub dX12_value_47 ?_
    exact G_ret trivial dX12_value_48 rfl
  refine G_if (fun hs4 => ?_) (fun hs4 => ?_)
  · refine G_tableIn (tgt := 49) dX12_value_1 (by rw [hs4]; decide) (by rw [hs4]; decide) (by rw [hs4]; rfl) (by decide) ?_
    refine G_aload_n 0 dX12_value_49 rfl rfl ?_
    refine G_geti (k := 4) K_14 (by decide) rfl rfl rfl gw_1348 rfl dX12_value_50 (fun i5 => ?_)
    refine G_aload_n 2 dX12_value_53 rfl rfl ?_
    refine G_geti (k := 6) K_13 (by decide) rfl rfl rfl gw_1398 rfl dX12_value_54 (fun i6 => ?_)
    refine G_iadd dX12_value_57 ?_
    exact G_ret trivial dX12_value_58 rfl
  refine G_if (fun hs7 => ?_) (fun hs7 => ?_)
  · refine G_tableIn (tgt := 59) dX12_value_1 (by rw [hs7]; decide) (by rw [hs7]; decide) (by rw [hs7]; rfl) (by decide) ?_
    refine G_aload_n 2 dX12_value_59 rfl rfl ?_
    refine G_geti (k := 10) K_13 (by decide) rfl rfl rfl gw_1407 rfl dX12_value_60 (fun i8 => ?_)
    refine G_iconst (v := (2 : Int32)) dX12_value_63 rfl ?_
    refine G_imul dX12_value_64 ?_
    refine G_iload_n 3 dX12_value_65 rfl rfl ?_
    refine G_isub dX12_value_66 ?_
    exact G_ret trivial dX12_value_67 rfl
  refine G_if (fun hs9 => ?_) (fun hs9 => ?_)
  · refine G_tableIn (tgt := 68) dX12_value_1 (by rw [hs9]; decide) (by rw [hs9]; decide) (by rw [hs9]; rfl) (by decide) ?_
    refine G_aload_n 2 dX12_value_68 rfl rfl ?_
    refine G_geti (k := 11) K_13 (by decide) rfl rfl rfl gw_1408 rfl dX12_value_69 (fun i10 => ?_)
    refine G_iconst (v := (2 : Int32)) dX12_value_72 rfl ?_
    refine G_idiv dX12_value_73 ?_
    exact G_ret trivial dX12_value_74 rfl
  refine G_if (fun hs11 => ?_) (fun hs11 => ?_)
  · refine G_tableIn (tgt := 75) dX12_value_1 (by rw [hs11]; decide) (by rw [hs11]; decide) (by rw [hs11]; rfl) (by decide) ?_
    refine G_aload_n 2 dX12_value_75 rfl rfl ?_
    refine G_geti (k := 12) K_13 (by decide) rfl rfl rfl gw_1409 rfl dX12_value_76 (fun i12 => ?_)
    refine G_aload_n 2 dX12_value_79 rfl rfl ?_
    refine G_geti (k := 13) K_13 (by decide) rfl rfl rfl gw_1410 rfl dX12_value_80 (fun i13 => ?_)
    refine G_isub dX12_value_83 ?_
    exact G_ret trivial dX12_value_84 rfl
  refine G_tableOut (tgt := 85) dX12_value_1 (by have q0 := i32_ne hs1; rw [show (0 : Int32).toInt = 0 from by decide] at q0; have q1 := i32_ne hs2; rw [show (1 : Int32).toInt = 1 from by decide] at q1; have q2 := i32_ne hs4; rw [show (2 : Int32).toInt = 2 from by decide] at q2; have q3 := i32_ne hs7; rw [show (3 : Int32).toInt = 3 from by decide] at q3; have q4 := i32_ne hs9; rw [show (4 : Int32).toInt = 4 from by decide] at q4; have q5 := i32_ne hs11; rw [show (5 : Int32).toInt = 5 from by decide] at q5; omega) (by decide) ?_
  refine G_iload_n 3 dX12_value_85 rfl rfl ?_
  refine G_bipush (v := (30 : Int32)) dX12_value_86 (by decide) ?_
  refine G_aload_n 2 dX12_value_88 rfl rfl ?_
  refine G_geti (k := 6) K_13 (by decide) rfl rfl rfl gw_1398 rfl dX12_value_89 (fun i14 => ?_)
  refine G_isub dX12_value_92 ?_
  refine G_mmin (st := []) gw_798 gw_670 gw_59 gw_671 (by decide) (by decide) dX12_value_93 ?_
  exact G_ret trivial dX12_value_96 rfl

theorem yn_X12_value : Yn yX12_value 3 := ⟨by decide +kernel, by decide +kernel, by decide +kernel⟩
theorem ct_X12_value (l : Launch) (N : Nat) (z : Nat → Nat) (o : Nat) (v1 : Int32) (v2 : Option Nat) (v3 : Int32) : Ct l z yX12_value cX12_value 4 (some .int) 2 enI [.ref o, .int v1, va_rf v2, .int v3] (f_X12_value N z o v1 v2 v3) :=
  Ct_i (fun x => G_lv0 (by simp only [lva_n, lva_i, lva_o, lva_r, lva_j]) (g_X12_value l N z o v1 v2 v3 x)) (by decide +kernel) (by simp only [lgl_n, lgl_i, lgl_o, lgl_r, lgl_j]; decide)

theorem dX12_told_0 : decode cX12_told 0 = .ok (.iload_n 0, 1) := by decide +kernel
theorem dX12_told_1 : decode cX12_told 1 = .ok (.tableswitch 182 0 5 #[39, 59, 79, 99, 128, 153], 39) := by decide +kernel
theorem dX12_told_40 : decode cX12_told 40 = .ok (.new 105, 3) := by decide +kernel
theorem dX12_told_43 : decode cX12_told 43 = .ok (.dup, 1) := by decide +kernel
theorem dX12_told_44 : decode cX12_told 44 = .ok (.invokespecial 107, 3) := by decide +kernel
theorem dX12_told_47 : decode cX12_told 47 = .ok (.ldc 108, 2) := by decide +kernel
theorem dX12_told_49 : decode cX12_told 49 = .ok (.invokevirtual 110, 3) := by decide +kernel
theorem dX12_told_52 : decode cX12_told 52 = .ok (.iload_n 2, 1) := by decide +kernel
theorem dX12_told_53 : decode cX12_told 53 = .ok (.invokevirtual 114, 3) := by decide +kernel
theorem dX12_told_56 : decode cX12_told 56 = .ok (.invokevirtual 117, 3) := by decide +kernel
theorem dX12_told_59 : decode cX12_told 59 = .ok (.areturn, 1) := by decide +kernel
theorem dX12_told_60 : decode cX12_told 60 = .ok (.new 105, 3) := by decide +kernel
theorem dX12_told_63 : decode cX12_told 63 = .ok (.dup, 1) := by decide +kernel
theorem dX12_told_64 : decode cX12_told 64 = .ok (.invokespecial 107, 3) := by decide +kernel
theorem dX12_told_67 : decode cX12_told 67 = .ok (.ldc 121, 2) := by decide +kernel
theorem dX12_told_69 : decode cX12_told 69 = .ok (.invokevirtual 110, 3) := by decide +kernel
theorem dX12_told_72 : decode cX12_told 72 = .ok (.iload_n 2, 1) := by decide +kernel
theorem dX12_told_73 : decode cX12_told 73 = .ok (.invokevirtual 114, 3) := by decide +kernel
theorem dX12_told_76 : decode cX12_told 76 = .ok (.invokevirtual 117, 3) := by decide +kernel
theorem dX12_told_79 : decode cX12_told 79 = .ok (.areturn, 1) := by decide +kernel
theorem dX12_told_80 : decode cX12_told 80 = .ok (.new 105, 3) := by decide +kernel
theorem dX12_told_83 : decode cX12_told 83 = .ok (.dup, 1) := by decide +kernel
theorem dX12_told_84 : decode cX12_told 84 = .ok (.invokespecial 107, 3) := by decide +kernel
theorem dX12_told_87 : decode cX12_told 87 = .ok (.ldc 123, 2) := by decide +kernel
theorem dX12_told_89 : decode cX12_told 89 = .ok (.invokevirtual 110, 3) := by decide +kernel
theorem dX12_told_92 : decode cX12_told 92 = .ok (.iload_n 1, 1) := by decide +kernel
theorem dX12_told_93 : decode cX12_told 93 = .ok (.invokevirtual 114, 3) := by decide +kernel
theorem dX12_told_96 : decode cX12_told 96 = .ok (.invokevirtual 117, 3) := by decide +kernel
theorem dX12_told_99 : decode cX12_told 99 = .ok (.areturn, 1) := by decide +kernel
theorem dX12_told_100 : decode cX12_told 100 = .ok (.new 105, 3) := by decide +kernel
theorem dX12_told_103 : decode cX12_told 103 = .ok (.dup, 1) := by decide +kernel
theorem dX12_told_104 : decode cX12_told 104 = .ok (.invokespecial 107, 3) := by decide +kernel
theorem dX12_told_107 : decode cX12_told 107 = .ok (.ldc 125, 2) := by decide +kernel
theorem dX12_told_109 : decode cX12_told 109 = .ok (.invokevirtual 110, 3) := by decide +kernel
theorem dX12_told_112 : decode cX12_told 112 = .ok (.iload_n 1, 1) := by decide +kernel
theorem dX12_told_113 : decode cX12_told 113 = .ok (.invokevirtual 114, 3) := by decide +kernel
theorem dX12_told_116 : decode cX12_told 116 = .ok (.ldc 127, 2) := by decide +kernel
theorem dX12_told_118 : decode cX12_told 118 = .ok (.invokevirtual 110, 3) := by decide +kernel
theorem dX12_told_121 : decode cX12_told 121 = .ok (.iload_n 2, 1) := by decide +kernel
theorem dX12_told_122 : decode cX12_told 122 = .ok (.invokevirtual 114, 3) := by decide +kernel
theorem dX12_told_125 : decode cX12_told 125 = .ok (.invokevirtual 117, 3) := by decide +kernel
theorem dX12_told_128 : decode cX12_told 128 = .ok (.areturn, 1) := by decide +kernel
theorem dX12_told_129 : decode cX12_told 129 = .ok (.new 105, 3) := by decide +kernel
theorem dX12_told_132 : decode cX12_told 132 = .ok (.dup, 1) := by decide +kernel
theorem dX12_told_133 : decode cX12_told 133 = .ok (.invokespecial 107, 3) := by decide +kernel
theorem dX12_told_136 : decode cX12_told 136 = .ok (.ldc 129, 2) := by decide +kernel
theorem dX12_told_138 : decode cX12_told 138 = .ok (.invokevirtual 110, 3) := by decide +kernel
theorem dX12_told_141 : decode cX12_told 141 = .ok (.iload_n 1, 1) := by decide +kernel
theorem dX12_told_142 : decode cX12_told 142 = .ok (.invokevirtual 114, 3) := by decide +kernel
theorem dX12_told_145 : decode cX12_told 145 = .ok (.ldc 131, 2) := by decide +kernel
theorem dX12_told_147 : decode cX12_told 147 = .ok (.invokevirtual 110, 3) := by decide +kernel
theorem dX12_told_150 : decode cX12_told 150 = .ok (.invokevirtual 117, 3) := by decide +kernel
theorem dX12_told_153 : decode cX12_told 153 = .ok (.areturn, 1) := by decide +kernel
theorem dX12_told_154 : decode cX12_told 154 = .ok (.new 105, 3) := by decide +kernel
theorem dX12_told_157 : decode cX12_told 157 = .ok (.dup, 1) := by decide +kernel
theorem dX12_told_158 : decode cX12_told 158 = .ok (.invokespecial 107, 3) := by decide +kernel
theorem dX12_told_161 : decode cX12_told 161 = .ok (.ldc 133, 2) := by decide +kernel
theorem dX12_told_163 : decode cX12_told 163 = .ok (.invokevirtual 110, 3) := by decide +kernel
theorem dX12_told_166 : decode cX12_told 166 = .ok (.iload_n 1, 1) := by decide +kernel
theorem dX12_told_167 : decode cX12_told 167 = .ok (.invokevirtual 114, 3) := by decide +kernel
theorem dX12_told_170 : decode cX12_told 170 = .ok (.ldc 135, 2) := by decide +kernel
theorem dX12_told_172 : decode cX12_told 172 = .ok (.invokevirtual 110, 3) := by decide +kernel
theorem dX12_told_175 : decode cX12_told 175 = .ok (.iload_n 1, 1) := by decide +kernel
theorem dX12_told_176 : decode cX12_told 176 = .ok (.invokevirtual 114, 3) := by decide +kernel
theorem dX12_told_179 : decode cX12_told 179 = .ok (.invokevirtual 117, 3) := by decide +kernel
theorem dX12_told_182 : decode cX12_told 182 = .ok (.areturn, 1) := by decide +kernel
theorem dX12_told_183 : decode cX12_told 183 = .ok (.new 105, 3) := by decide +kernel
theorem dX12_told_186 : decode cX12_told 186 = .ok (.dup, 1) := by decide +kernel
theorem dX12_told_187 : decode cX12_told 187 = .ok (.invokespecial 107, 3) := by decide +kernel
theorem dX12_told_190 : decode cX12_told 190 = .ok (.ldc 137, 2) := by decide +kernel
theorem dX12_told_192 : decode cX12_told 192 = .ok (.invokevirtual 110, 3) := by decide +kernel
theorem dX12_told_195 : decode cX12_told 195 = .ok (.iload_n 2, 1) := by decide +kernel
theorem dX12_told_196 : decode cX12_told 196 = .ok (.invokevirtual 114, 3) := by decide +kernel
theorem dX12_told_199 : decode cX12_told 199 = .ok (.ldc 139, 2) := by decide +kernel
theorem dX12_told_201 : decode cX12_told 201 = .ok (.invokevirtual 110, 3) := by decide +kernel
theorem dX12_told_204 : decode cX12_told 204 = .ok (.iload_n 1, 1) := by decide +kernel
theorem dX12_told_205 : decode cX12_told 205 = .ok (.invokevirtual 114, 3) := by decide +kernel
theorem dX12_told_208 : decode cX12_told 208 = .ok (.ldc 141, 2) := by decide +kernel
theorem dX12_told_210 : decode cX12_told 210 = .ok (.invokevirtual 110, 3) := by decide +kernel
theorem dX12_told_213 : decode cX12_told 213 = .ok (.invokevirtual 117, 3) := by decide +kernel
theorem dX12_told_216 : decode cX12_told 216 = .ok (.areturn, 1) := by decide +kernel
abbrev m_X12_told : Mt := (cX12_told, RX12, "told", 3, .areturn, 7)
def f_X12_told (N : Nat) (z : Nat → Nat) (v0 : Int32) (v1 : Int32) (v2 : Int32) (x0 : Hp) : Option (Option Nat × Hp) :=
  if v0 = (0 : Int32) then (newo x0 2 4 fun r2 x3 =>
  obj r2 x3 2 fun q5 => bnd (f_J4_init_da8c8 N z q5 x3) fun _ x4 =>
  obj r2 x4 2 fun q8 => bnd (f_J4_append_15ec4 N z q8 (some (z 23)) x4) fun r7 x6 =>
  obj r7 x6 2 fun q11 => bnd (f_J4_append_bf812 N z q11 v2 x6) fun r10 x9 =>
  obj r10 x9 2 fun q14 => bnd (f_J4_toString_0e30d N z q14 x9) fun r13 x12 =>
  some (r13, x12)) else (if v0 = (1 : Int32) then (newo x0 2 4 fun r16 x17 =>
  obj r16 x17 2 fun q19 => bnd (f_J4_init_da8c8 N z q19 x17) fun _ x18 =>
  obj r16 x18 2 fun q22 => bnd (f_J4_append_15ec4 N z q22 (some (z 24)) x18) fun r21 x20 =>
  obj r21 x20 2 fun q25 => bnd (f_J4_append_bf812 N z q25 v2 x20) fun r24 x23 =>
  obj r24 x23 2 fun q28 => bnd (f_J4_toString_0e30d N z q28 x23) fun r27 x26 =>
  some (r27, x26)) else (if v0 = (2 : Int32) then (newo x0 2 4 fun r30 x31 =>
  obj r30 x31 2 fun q33 => bnd (f_J4_init_da8c8 N z q33 x31) fun _ x32 =>
  obj r30 x32 2 fun q36 => bnd (f_J4_append_15ec4 N z q36 (some (z 25)) x32) fun r35 x34 =>
  obj r35 x34 2 fun q39 => bnd (f_J4_append_bf812 N z q39 v1 x34) fun r38 x37 =>
  obj r38 x37 2 fun q42 => bnd (f_J4_toString_0e30d N z q42 x37) fun r41 x40 =>
  some (r41, x40)) else (if v0 = (3 : Int32) then (newo x0 2 4 fun r44 x45 =>
  obj r44 x45 2 fun q47 => bnd (f_J4_init_da8c8 N z q47 x45) fun _ x46 =>
  obj r44 x46 2 fun q50 => bnd (f_J4_append_15ec4 N z q50 (some (z 26)) x46) fun r49 x48 =>
  obj r49 x48 2 fun q53 => bnd (f_J4_append_bf812 N z q53 v1 x48) fun r52 x51 =>
  obj r52 x51 2 fun q56 => bnd (f_J4_append_15ec4 N z q56 (some (z 27)) x51) fun r55 x54 =>
  obj r55 x54 2 fun q59 => bnd (f_J4_append_bf812 N z q59 v2 x54) fun r58 x57 =>
  obj r58 x57 2 fun q62 => bnd (f_J4_toString_0e30d N z q62 x57) fun r61 x60 =>
  some (r61, x60)) else (if v0 = (4 : Int32) then (newo x0 2 4 fun r64 x65 =>
  obj r64 x65 2 fun q67 => bnd (f_J4_init_da8c8 N z q67 x65) fun _ x66 =>
  obj r64 x66 2 fun q70 => bnd (f_J4_append_15ec4 N z q70 (some (z 28)) x66) fun r69 x68 =>
  obj r69 x68 2 fun q73 => bnd (f_J4_append_bf812 N z q73 v1 x68) fun r72 x71 =>
  obj r72 x71 2 fun q76 => bnd (f_J4_append_15ec4 N z q76 (some (z 29)) x71) fun r75 x74 =>
  obj r75 x74 2 fun q79 => bnd (f_J4_toString_0e30d N z q79 x74) fun r78 x77 =>
  some (r78, x77)) else (if v0 = (5 : Int32) then (newo x0 2 4 fun r81 x82 =>
  obj r81 x82 2 fun q84 => bnd (f_J4_init_da8c8 N z q84 x82) fun _ x83 =>
  obj r81 x83 2 fun q87 => bnd (f_J4_append_15ec4 N z q87 (some (z 30)) x83) fun r86 x85 =>
  obj r86 x85 2 fun q90 => bnd (f_J4_append_bf812 N z q90 v1 x85) fun r89 x88 =>
  obj r89 x88 2 fun q93 => bnd (f_J4_append_15ec4 N z q93 (some (z 31)) x88) fun r92 x91 =>
  obj r92 x91 2 fun q96 => bnd (f_J4_append_bf812 N z q96 v1 x91) fun r95 x94 =>
  obj r95 x94 2 fun q99 => bnd (f_J4_toString_0e30d N z q99 x94) fun r98 x97 =>
  some (r98, x97)) else (newo x0 2 4 fun r100 x101 =>
  obj r100 x101 2 fun q103 => bnd (f_J4_init_da8c8 N z q103 x101) fun _ x102 =>
  obj r100 x102 2 fun q106 => bnd (f_J4_append_15ec4 N z q106 (some (z 32)) x102) fun r105 x104 =>
  obj r105 x104 2 fun q109 => bnd (f_J4_append_bf812 N z q109 v2 x104) fun r108 x107 =>
  obj r108 x107 2 fun q112 => bnd (f_J4_append_15ec4 N z q112 (some (z 33)) x107) fun r111 x110 =>
  obj r111 x110 2 fun q115 => bnd (f_J4_append_bf812 N z q115 v1 x110) fun r114 x113 =>
  obj r114 x113 2 fun q118 => bnd (f_J4_append_15ec4 N z q118 (some (z 34)) x113) fun r117 x116 =>
  obj r117 x116 2 fun q121 => bnd (f_J4_toString_0e30d N z q121 x116) fun r120 x119 =>
  some (r120, x119)))))))
set_option maxRecDepth 100000 in
set_option maxHeartbeats 4000000 in
theorem g_X12_told (l : Launch) (N : Nat) (z : Nat → Nat) (v0 : Int32) (v1 : Int32) (v2 : Int32) (x0 : Hp) : G l z m_X12_told okT enR 0 [(0, .int v0), (1, .int v1), (2, .int v2)] [] x0 (f_X12_told N z v0 v1 v2 x0) := by
  unfold f_X12_told
  refine G_iload_n 0 dX12_told_0 rfl rfl ?_
  refine G_if (fun hs1 => ?_) (fun hs1 => ?_)
  · refine G_tableIn (tgt := 40) dX12_told_1 (by rw [hs1]; decide) (by rw [hs1]; decide) (by rw [hs1]; rfl) (by decide) ?_
    refine G_new K_1 rfl gw_854 gw_855 gw_57 dX12_told_40 (fun r2 x3 => ?_)
    refine G_dup dX12_told_43 (rf_cat _) ?_
    refine G_callI (av := []) [va_rf r2] (fun q5 => ct_J4_init_da8c8 l N z q5) rfl yn_J4_init_da8c8 (Nat.le_of_ble_eq_true rfl) (by decide) gw_856 gw_857 gw_57 gw_858 rfl (by simp only [hw_n, hw_i, hw_r, hw_j, hw_d]; decide) dX12_told_44 (fun x4 => ?_)
    refine G_ldcS (q := 23) (tx := "") gs_23 rfl dX12_told_47 ?_
    refine G_callV (av := [va_rf (some (z 23))]) [] (fun q8 => ct_J4_append_15ec4 l N z q8 (some (z 23))) K_1 rfl yn_J4_append_15ec4 (Nat.le_of_ble_eq_true rfl) (by decide) gw_885 gw_886 gw_887 gw_57 gw_888 rfl (by decide) dX12_told_49 (fun r7 x6 => ?_)
    refine G_iload_n 2 dX12_told_52 rfl rfl ?_
    refine G_callV (av := [.int v2]) [] (fun q11 => ct_J4_append_bf812 l N z q11 v2) K_1 rfl yn_J4_append_bf812 (Nat.le_of_ble_eq_true rfl) (by decide) gw_982 gw_983 gw_984 gw_57 gw_985 rfl (by decide) dX12_told_53 (fun r10 x9 => ?_)
    refine G_callV (av := []) [] (fun q14 => ct_J4_toString_0e30d l N z q14) K_1 rfl yn_J4_toString_0e30d (Nat.le_of_ble_eq_true rfl) (by decide) gw_1032 gw_1033 gw_1034 gw_57 gw_1035 rfl (by decide) dX12_told_56 (fun r13 x12 => ?_)
    exact G_ret trivial dX12_told_59 rfl
  refine G_if (fun hs15 => ?_) (fun hs15 => ?_)
  · refine G_tableIn (tgt := 60) dX12_told_1 (by rw [hs15]; decide) (by rw [hs15]; decide) (by rw [hs15]; rfl) (by decide) ?_
    refine G_new K_1 rfl gw_854 gw_855 gw_57 dX12_told_60 (fun r16 x17 => ?_)
    refine G_dup dX12_told_63 (rf_cat _) ?_
    refine G_callI (av := []) [va_rf r16] (fun q19 => ct_J4_init_da8c8 l N z q19) rfl yn_J4_init_da8c8 (Nat.le_of_ble_eq_true rfl) (by decide) gw_856 gw_857 gw_57 gw_858 rfl (by simp only [hw_n, hw_i, hw_r, hw_j, hw_d]; decide) dX12_told_64 (fun x18 => ?_)
    refine G_ldcS (q := 24) (tx := "minute - ") gs_24 rfl dX12_told_67 ?_
    refine G_callV (av := [va_rf (some (z 24))]) [] (fun q22 => ct_J4_append_15ec4 l N z q22 (some (z 24))) K_1 rfl yn_J4_append_15ec4 (Nat.le_of_ble_eq_true rfl) (by decide) gw_885 gw_886 gw_887 gw_57 gw_888 rfl (by decide) dX12_told_69 (fun r21 x20 => ?_)
    refine G_iload_n 2 dX12_told_72 rfl rfl ?_
    refine G_callV (av := [.int v2]) [] (fun q25 => ct_J4_append_bf812 l N z q25 v2) K_1 rfl yn_J4_append_bf812 (Nat.le_of_ble_eq_true rfl) (by decide) gw_982 gw_983 gw_984 gw_57 gw_985 rfl (by decide) dX12_told_73 (fun r24 x23 => ?_)
    refine G_callV (av := []) [] (fun q28 => ct_J4_toString_0e30d l N z q28) K_1 rfl yn_J4_toString_0e30d (Nat.le_of_ble_eq_true rfl) (by decide) gw_1032 gw_1033 gw_1034 gw_57 gw_1035 rfl (by decide) dX12_told_76 (fun r27 x26 => ?_)
    exact G_ret trivial dX12_told_79 rfl
  refine G_if (fun hs29 => ?_) (fun hs29 => ?_)
  · refine G_tableIn (tgt := 80) dX12_told_1 (by rw [hs29]; decide) (by rw [hs29]; decide) (by rw [hs29]; rfl) (by decide) ?_
    refine G_new K_1 rfl gw_854 gw_855 gw_57 dX12_told_80 (fun r30 x31 => ?_)
    refine G_dup dX12_told_83 (rf_cat _) ?_
    refine G_callI (av := []) [va_rf r30] (fun q33 => ct_J4_init_da8c8 l N z q33) rfl yn_J4_init_da8c8 (Nat.le_of_ble_eq_true rfl) (by decide) gw_856 gw_857 gw_57 gw_858 rfl (by simp only [hw_n, hw_i, hw_r, hw_j, hw_d]; decide) dX12_told_84 (fun x32 => ?_)
    refine G_ldcS (q := 25) (tx := "spare+tokens l") gs_25 rfl dX12_told_87 ?_
    refine G_callV (av := [va_rf (some (z 25))]) [] (fun q36 => ct_J4_append_15ec4 l N z q36 (some (z 25))) K_1 rfl yn_J4_append_15ec4 (Nat.le_of_ble_eq_true rfl) (by decide) gw_885 gw_886 gw_887 gw_57 gw_888 rfl (by decide) dX12_told_89 (fun r35 x34 => ?_)
    refine G_iload_n 1 dX12_told_92 rfl rfl ?_
    refine G_callV (av := [.int v1]) [] (fun q39 => ct_J4_append_bf812 l N z q39 v1) K_1 rfl yn_J4_append_bf812 (Nat.le_of_ble_eq_true rfl) (by decide) gw_982 gw_983 gw_984 gw_57 gw_985 rfl (by decide) dX12_told_93 (fun r38 x37 => ?_)
    refine G_callV (av := []) [] (fun q42 => ct_J4_toString_0e30d l N z q42) K_1 rfl yn_J4_toString_0e30d (Nat.le_of_ble_eq_true rfl) (by decide) gw_1032 gw_1033 gw_1034 gw_57 gw_1035 rfl (by decide) dX12_told_96 (fun r41 x40 => ?_)
    exact G_ret trivial dX12_told_99 rfl
  refine G_if (fun hs43 => ?_) (fun hs43 => ?_)
  · refine G_tableIn (tgt := 100) dX12_told_1 (by rw [hs43]; decide) (by rw [hs43]; decide) (by rw [hs43]; rfl) (by decide) ?_
    refine G_new K_1 rfl gw_854 gw_855 gw_57 dX12_told_100 (fun r44 x45 => ?_)
    refine G_dup dX12_told_103 (rf_cat _) ?_
    refine G_callI (av := []) [va_rf r44] (fun q47 => ct_J4_init_da8c8 l N z q47) rfl yn_J4_init_da8c8 (Nat.le_of_ble_eq_true rfl) (by decide) gw_856 gw_857 gw_57 gw_858 rfl (by simp only [hw_n, hw_i, hw_r, hw_j, hw_d]; decide) dX12_told_104 (fun x46 => ?_)
    refine G_ldcS (q := 26) (tx := "waits l") gs_26 rfl dX12_told_107 ?_
    refine G_callV (av := [va_rf (some (z 26))]) [] (fun q50 => ct_J4_append_15ec4 l N z q50 (some (z 26))) K_1 rfl yn_J4_append_15ec4 (Nat.le_of_ble_eq_true rfl) (by decide) gw_885 gw_886 gw_887 gw_57 gw_888 rfl (by decide) dX12_told_109 (fun r49 x48 => ?_)
    refine G_iload_n 1 dX12_told_112 rfl rfl ?_
    refine G_callV (av := [.int v1]) [] (fun q53 => ct_J4_append_bf812 l N z q53 v1) K_1 rfl yn_J4_append_bf812 (Nat.le_of_ble_eq_true rfl) (by decide) gw_982 gw_983 gw_984 gw_57 gw_985 rfl (by decide) dX12_told_113 (fun r52 x51 => ?_)
    refine G_ldcS (q := 27) (tx := " * 2 - ") gs_27 rfl dX12_told_116 ?_
    refine G_callV (av := [va_rf (some (z 27))]) [] (fun q56 => ct_J4_append_15ec4 l N z q56 (some (z 27))) K_1 rfl yn_J4_append_15ec4 (Nat.le_of_ble_eq_true rfl) (by decide) gw_885 gw_886 gw_887 gw_57 gw_888 rfl (by decide) dX12_told_118 (fun r55 x54 => ?_)
    refine G_iload_n 2 dX12_told_121 rfl rfl ?_
    refine G_callV (av := [.int v2]) [] (fun q59 => ct_J4_append_bf812 l N z q59 v2) K_1 rfl yn_J4_append_bf812 (Nat.le_of_ble_eq_true rfl) (by decide) gw_982 gw_983 gw_984 gw_57 gw_985 rfl (by decide) dX12_told_122 (fun r58 x57 => ?_)
    refine G_callV (av := []) [] (fun q62 => ct_J4_toString_0e30d l N z q62) K_1 rfl yn_J4_toString_0e30d (Nat.le_of_ble_eq_true rfl) (by decide) gw_1032 gw_1033 gw_1034 gw_57 gw_1035 rfl (by decide) dX12_told_125 (fun r61 x60 => ?_)
    exact G_ret trivial dX12_told_128 rfl
  refine G_if (fun hs63 => ?_) (fun hs63 => ?_)
  · refine G_tableIn (tgt := 129) dX12_told_1 (by rw [hs63]; decide) (by rw [hs63]; decide) (by rw [hs63]; rfl) (by decide) ?_
    refine G_new K_1 rfl gw_854 gw_855 gw_57 dX12_told_129 (fun r64 x65 => ?_)
    refine G_dup dX12_told_132 (rf_cat _) ?_
    refine G_callI (av := []) [va_rf r64] (fun q67 => ct_J4_init_da8c8 l N z q67) rfl yn_J4_init_da8c8 (Nat.le_of_ble_eq_true rfl) (by decide) gw_856 gw_857 gw_57 gw_858 rfl (by simp only [hw_n, hw_i, hw_r, hw_j, hw_d]; decide) dX12_told_133 (fun x66 => ?_)
    refine G_ldcS (q := 28) (tx := "sent l") gs_28 rfl dX12_told_136 ?_
    refine G_callV (av := [va_rf (some (z 28))]) [] (fun q70 => ct_J4_append_15ec4 l N z q70 (some (z 28))) K_1 rfl yn_J4_append_15ec4 (Nat.le_of_ble_eq_true rfl) (by decide) gw_885 gw_886 gw_887 gw_57 gw_888 rfl (by decide) dX12_told_138 (fun r69 x68 => ?_)
    refine G_iload_n 1 dX12_told_141 rfl rfl ?_
    refine G_callV (av := [.int v1]) [] (fun q73 => ct_J4_append_bf812 l N z q73 v1) K_1 rfl yn_J4_append_bf812 (Nat.le_of_ble_eq_true rfl) (by decide) gw_982 gw_983 gw_984 gw_57 gw_985 rfl (by decide) dX12_told_142 (fun r72 x71 => ?_)
    refine G_ldcS (q := 29) (tx := "/2") gs_29 rfl dX12_told_145 ?_
    refine G_callV (av := [va_rf (some (z 29))]) [] (fun q76 => ct_J4_append_15ec4 l N z q76 (some (z 29))) K_1 rfl yn_J4_append_15ec4 (Nat.le_of_ble_eq_true rfl) (by decide) gw_885 gw_886 gw_887 gw_57 gw_888 rfl (by decide) dX12_told_147 (fun r75 x74 => ?_)
    refine G_callV (av := []) [] (fun q79 => ct_J4_toString_0e30d l N z q79) K_1 rfl yn_J4_toString_0e30d (Nat.le_of_ble_eq_true rfl) (by decide) gw_1032 gw_1033 gw_1034 gw_57 gw_1035 rfl (by decide) dX12_told_150 (fun r78 x77 => ?_)
    exact G_ret trivial dX12_told_153 rfl
  refine G_if (fun hs80 => ?_) (fun hs80 => ?_)
  · refine G_tableIn (tgt := 154) dX12_told_1 (by rw [hs80]; decide) (by rw [hs80]; decide) (by rw [hs80]; rfl) (by decide) ?_
    refine G_new K_1 rfl gw_854 gw_855 gw_57 dX12_told_154 (fun r81 x82 => ?_)
    refine G_dup dX12_told_157 (rf_cat _) ?_
    refine G_callI (av := []) [va_rf r81] (fun q84 => ct_J4_init_da8c8 l N z q84) rfl yn_J4_init_da8c8 (Nat.le_of_ble_eq_true rfl) (by decide) gw_856 gw_857 gw_57 gw_858 rfl (by simp only [hw_n, hw_i, hw_r, hw_j, hw_d]; decide) dX12_told_158 (fun x83 => ?_)
    refine G_ldcS (q := 30) (tx := "lost l") gs_30 rfl dX12_told_161 ?_
    refine G_callV (av := [va_rf (some (z 30))]) [] (fun q87 => ct_J4_append_15ec4 l N z q87 (some (z 30))) K_1 rfl yn_J4_append_15ec4 (Nat.le_of_ble_eq_true rfl) (by decide) gw_885 gw_886 gw_887 gw_57 gw_888 rfl (by decide) dX12_told_163 (fun r86 x85 => ?_)
    refine G_iload_n 1 dX12_told_166 rfl rfl ?_
    refine G_callV (av := [.int v1]) [] (fun q90 => ct_J4_append_bf812 l N z q90 v1) K_1 rfl yn_J4_append_bf812 (Nat.le_of_ble_eq_true rfl) (by decide) gw_982 gw_983 gw_984 gw_57 gw_985 rfl (by decide) dX12_told_167 (fun r89 x88 => ?_)
    refine G_ldcS (q := 31) (tx := " - lent l") gs_31 rfl dX12_told_170 ?_
    refine G_callV (av := [va_rf (some (z 31))]) [] (fun q93 => ct_J4_append_15ec4 l N z q93 (some (z 31))) K_1 rfl yn_J4_append_15ec4 (Nat.le_of_ble_eq_true rfl) (by decide) gw_885 gw_886 gw_887 gw_57 gw_888 rfl (by decide) dX12_told_172 (fun r92 x91 => ?_)
    refine G_iload_n 1 dX12_told_175 rfl rfl ?_
    refine G_callV (av := [.int v1]) [] (fun q96 => ct_J4_append_bf812 l N z q96 v1) K_1 rfl yn_J4_append_bf812 (Nat.le_of_ble_eq_true rfl) (by decide) gw_982 gw_983 gw_984 gw_57 gw_985 rfl (by decide) dX12_told_176 (fun r95 x94 => ?_)
    refine G_callV (av := []) [] (fun q99 => ct_J4_toString_0e30d l N z q99) K_1 rfl yn_J4_toString_0e30d (Nat.le_of_ble_eq_true rfl) (by decide) gw_1032 gw_1033 gw_1034 gw_57 gw_1035 rfl (by decide) dX12_told_179 (fun r98 x97 => ?_)
    exact G_ret trivial dX12_told_182 rfl
  refine G_tableOut (tgt := 183) dX12_told_1 (by have q0 := i32_ne hs1; rw [show (0 : Int32).toInt = 0 from by decide] at q0; have q1 := i32_ne hs15; rw [show (1 : Int32).toInt = 1 from by decide] at q1; have q2 := i32_ne hs29; rw [show (2 : Int32).toInt = 2 from by decide] at q2; have q3 := i32_ne hs43; rw [show (3 : Int32).toInt = 3 from by decide] at q3; have q4 := i32_ne hs63; rw [show (4 : Int32).toInt = 4 from by decide] at q4; have q5 := i32_ne hs80; rw [show (5 : Int32).toInt = 5 from by decide] at q5; omega) (by decide) ?_
  refine G_new K_1 rfl gw_854 gw_855 gw_57 dX12_told_183 (fun r100 x101 => ?_)
  refine G_dup dX12_told_186 (rf_cat _) ?_
  refine G_callI (av := []) [va_rf r100] (fun q103 => ct_J4_init_da8c8 l N z q103) rfl yn_J4_init_da8c8 (Nat.le_of_ble_eq_true rfl) (by decide) gw_856 gw_857 gw_57 gw_858 rfl (by simp only [hw_n, hw_i, hw_r, hw_j, hw_d]; decide) dX12_told_187 (fun x102 => ?_)
  refine G_ldcS (q := 32) (tx := "min(") gs_32 rfl dX12_told_190 ?_
  refine G_callV (av := [va_rf (some (z 32))]) [] (fun q106 => ct_J4_append_15ec4 l N z q106 (some (z 32))) K_1 rfl yn_J4_append_15ec4 (Nat.le_of_ble_eq_true rfl) (by decide) gw_885 gw_886 gw_887 gw_57 gw_888 rfl (by decide) dX12_told_192 (fun r105 x104 => ?_)
  refine G_iload_n 2 dX12_told_195 rfl rfl ?_
  refine G_callV (av := [.int v2]) [] (fun q109 => ct_J4_append_bf812 l N z q109 v2) K_1 rfl yn_J4_append_bf812 (Nat.le_of_ble_eq_true rfl) (by decide) gw_982 gw_983 gw_984 gw_57 gw_985 rfl (by decide) dX12_told_196 (fun r108 x107 => ?_)
  refine G_ldcS (q := 33) (tx := ",30 - tokens l") gs_33 rfl dX12_told_199 ?_
  refine G_callV (av := [va_rf (some (z 33))]) [] (fun q112 => ct_J4_append_15ec4 l N z q112 (some (z 33))) K_1 rfl yn_J4_append_15ec4 (Nat.le_of_ble_eq_true rfl) (by decide) gw_885 gw_886 gw_887 gw_57 gw_888 rfl (by decide) dX12_told_201 (fun r111 x110 => ?_)
  refine G_iload_n 1 dX12_told_204 rfl rfl ?_
  refine G_callV (av := [.int v1]) [] (fun q115 => ct_J4_append_bf812 l N z q115 v1) K_1 rfl yn_J4_append_bf812 (Nat.le_of_ble_eq_true rfl) (by decide) gw_982 gw_983 gw_984 gw_57 gw_985 rfl (by decide) dX12_told_205 (fun r114 x113 => ?_)
  refine G_ldcS (q := 34) (tx := ")") gs_34 rfl dX12_told_208 ?_
  refine G_callV (av := [va_rf (some (z 34))]) [] (fun q118 => ct_J4_append_15ec4 l N z q118 (some (z 34))) K_1 rfl yn_J4_append_15ec4 (Nat.le_of_ble_eq_true rfl) (by decide) gw_885 gw_886 gw_887 gw_57 gw_888 rfl (by decide) dX12_told_210 (fun r117 x116 => ?_)
  refine G_callV (av := []) [] (fun q121 => ct_J4_toString_0e30d l N z q121) K_1 rfl yn_J4_toString_0e30d (Nat.le_of_ble_eq_true rfl) (by decide) gw_1032 gw_1033 gw_1034 gw_57 gw_1035 rfl (by decide) dX12_told_213 (fun r120 x119 => ?_)
  exact G_ret trivial dX12_told_216 rfl

theorem yn_X12_told : Yn yX12_told 3 := ⟨by decide +kernel, by decide +kernel, by decide +kernel⟩
theorem ct_X12_told (l : Launch) (N : Nat) (z : Nat → Nat) (v0 : Int32) (v1 : Int32) (v2 : Int32) : Ct l z yX12_told cX12_told 3 (some (.object "java/lang/String")) 7 enR [.int v0, .int v1, .int v2] (f_X12_told N z v0 v1 v2) :=
  Ct_r (fun x => G_lv0 (by simp only [lva_n, lva_i, lva_o, lva_r, lva_j]) (g_X12_told l N z v0 v1 v2 x)) (by decide +kernel) (by simp only [lgl_n, lgl_i, lgl_o, lgl_r, lgl_j]; decide)

theorem dX12_holds_0 : decode cX12_holds 0 = .ok (.aload_n 0, 1) := by decide +kernel
theorem dX12_holds_1 : decode cX12_holds 1 = .ok (.getfield 15, 3) := by decide +kernel
theorem dX12_holds_4 : decode cX12_holds 4 = .ok (.iload_n 2, 1) := by decide +kernel
theorem dX12_holds_5 : decode cX12_holds 5 = .ok (.aaload, 1) := by decide +kernel
theorem dX12_holds_6 : decode cX12_holds 6 = .ok (.astore 4, 2) := by decide +kernel
theorem dX12_holds_8 : decode cX12_holds 8 = .ok (.iload_n 1, 1) := by decide +kernel
theorem dX12_holds_9 : decode cX12_holds 9 = .ok (.tableswitch 167 0 5 #[39, 58, 72, 86, 108, 142], 39) := by decide +kernel
theorem dX12_holds_48 : decode cX12_holds 48 = .ok (.aload 4, 2) := by decide +kernel
theorem dX12_holds_50 : decode cX12_holds 50 = .ok (.getfield 75, 3) := by decide +kernel
theorem dX12_holds_53 : decode cX12_holds 53 = .ok (.aload 4, 2) := by decide +kernel
theorem dX12_holds_55 : decode cX12_holds 55 = .ok (.getfield 68, 3) := by decide +kernel
theorem dX12_holds_58 : decode cX12_holds 58 = .ok (.if_icmp .ne 7, 3) := by decide +kernel
theorem dX12_holds_61 : decode cX12_holds 61 = .ok (.iconst 1, 1) := by decide +kernel
theorem dX12_holds_62 : decode cX12_holds 62 = .ok (.goto 4, 3) := by decide +kernel
theorem dX12_holds_65 : decode cX12_holds 65 = .ok (.iconst 0, 1) := by decide +kernel
theorem dX12_holds_66 : decode cX12_holds 66 = .ok (.ireturn, 1) := by decide +kernel
theorem dX12_holds_67 : decode cX12_holds 67 = .ok (.aload 4, 2) := by decide +kernel
theorem dX12_holds_69 : decode cX12_holds 69 = .ok (.getfield 65, 3) := by decide +kernel
theorem dX12_holds_72 : decode cX12_holds 72 = .ok (.ifCond .le 7, 3) := by decide +kernel
theorem dX12_holds_75 : decode cX12_holds 75 = .ok (.iconst 1, 1) := by decide +kernel
theorem dX12_holds_76 : decode cX12_holds 76 = .ok (.goto 4, 3) := by decide +kernel
theorem dX12_holds_79 : decode cX12_holds 79 = .ok (.iconst 0, 1) := by decide +kernel
theorem dX12_holds_80 : decode cX12_holds 80 = .ok (.ireturn, 1) := by decide +kernel
theorem dX12_holds_81 : decode cX12_holds 81 = .ok (.aload_n 0, 1) := by decide +kernel
theorem dX12_holds_82 : decode cX12_holds 82 = .ok (.getfield 29, 3) := by decide +kernel
theorem dX12_holds_85 : decode cX12_holds 85 = .ok (.iload_n 3, 1) := by decide +kernel
theorem dX12_holds_86 : decode cX12_holds 86 = .ok (.if_icmp .lt 7, 3) := by decide +kernel
theorem dX12_holds_89 : decode cX12_holds 89 = .ok (.iconst 1, 1) := by decide +kernel
theorem dX12_holds_90 : decode cX12_holds 90 = .ok (.goto 4, 3) := by decide +kernel
theorem dX12_holds_93 : decode cX12_holds 93 = .ok (.iconst 0, 1) := by decide +kernel
theorem dX12_holds_94 : decode cX12_holds 94 = .ok (.ireturn, 1) := by decide +kernel
theorem dX12_holds_95 : decode cX12_holds 95 = .ok (.aload 4, 2) := by decide +kernel
theorem dX12_holds_97 : decode cX12_holds 97 = .ok (.getfield 65, 3) := by decide +kernel
theorem dX12_holds_100 : decode cX12_holds 100 = .ok (.ifCond .eq 11, 3) := by decide +kernel
theorem dX12_holds_103 : decode cX12_holds 103 = .ok (.aload_n 0, 1) := by decide +kernel
theorem dX12_holds_104 : decode cX12_holds 104 = .ok (.getfield 38, 3) := by decide +kernel
theorem dX12_holds_107 : decode cX12_holds 107 = .ok (.iload_n 3, 1) := by decide +kernel
theorem dX12_holds_108 : decode cX12_holds 108 = .ok (.if_icmp .ge 7, 3) := by decide +kernel
theorem dX12_holds_111 : decode cX12_holds 111 = .ok (.iconst 1, 1) := by decide +kernel
theorem dX12_holds_112 : decode cX12_holds 112 = .ok (.goto 4, 3) := by decide +kernel
theorem dX12_holds_115 : decode cX12_holds 115 = .ok (.iconst 0, 1) := by decide +kernel
theorem dX12_holds_116 : decode cX12_holds 116 = .ok (.ireturn, 1) := by decide +kernel
theorem dX12_holds_117 : decode cX12_holds 117 = .ok (.aload 4, 2) := by decide +kernel
theorem dX12_holds_119 : decode cX12_holds 119 = .ok (.getfield 75, 3) := by decide +kernel
theorem dX12_holds_122 : decode cX12_holds 122 = .ok (.aload 4, 2) := by decide +kernel
theorem dX12_holds_124 : decode cX12_holds 124 = .ok (.getfield 68, 3) := by decide +kernel
theorem dX12_holds_127 : decode cX12_holds 127 = .ok (.if_icmp .ge 22, 3) := by decide +kernel
theorem dX12_holds_130 : decode cX12_holds 130 = .ok (.aload_n 0, 1) := by decide +kernel
theorem dX12_holds_131 : decode cX12_holds 131 = .ok (.getfield 29, 3) := by decide +kernel
theorem dX12_holds_134 : decode cX12_holds 134 = .ok (.iconst 4, 1) := by decide +kernel
theorem dX12_holds_135 : decode cX12_holds 135 = .ok (.idiv, 1) := by decide +kernel
theorem dX12_holds_136 : decode cX12_holds 136 = .ok (.iconst 4, 1) := by decide +kernel
theorem dX12_holds_137 : decode cX12_holds 137 = .ok (.imul, 1) := by decide +kernel
theorem dX12_holds_138 : decode cX12_holds 138 = .ok (.aload_n 0, 1) := by decide +kernel
theorem dX12_holds_139 : decode cX12_holds 139 = .ok (.getfield 29, 3) := by decide +kernel
theorem dX12_holds_142 : decode cX12_holds 142 = .ok (.if_icmp .ne 7, 3) := by decide +kernel
theorem dX12_holds_145 : decode cX12_holds 145 = .ok (.iconst 1, 1) := by decide +kernel
theorem dX12_holds_146 : decode cX12_holds 146 = .ok (.goto 4, 3) := by decide +kernel
theorem dX12_holds_149 : decode cX12_holds 149 = .ok (.iconst 0, 1) := by decide +kernel
theorem dX12_holds_150 : decode cX12_holds 150 = .ok (.ireturn, 1) := by decide +kernel
theorem dX12_holds_151 : decode cX12_holds 151 = .ok (.aload_n 0, 1) := by decide +kernel
theorem dX12_holds_152 : decode cX12_holds 152 = .ok (.iconst 3, 1) := by decide +kernel
theorem dX12_holds_153 : decode cX12_holds 153 = .ok (.aload 4, 2) := by decide +kernel
theorem dX12_holds_155 : decode cX12_holds 155 = .ok (.iload_n 3, 1) := by decide +kernel
theorem dX12_holds_156 : decode cX12_holds 156 = .ok (.invokevirtual 143, 3) := by decide +kernel
theorem dX12_holds_159 : decode cX12_holds 159 = .ok (.aload_n 0, 1) := by decide +kernel
theorem dX12_holds_160 : decode cX12_holds 160 = .ok (.iconst 2, 1) := by decide +kernel
theorem dX12_holds_161 : decode cX12_holds 161 = .ok (.aload 4, 2) := by decide +kernel
theorem dX12_holds_163 : decode cX12_holds 163 = .ok (.iload_n 3, 1) := by decide +kernel
theorem dX12_holds_164 : decode cX12_holds 164 = .ok (.invokevirtual 143, 3) := by decide +kernel
theorem dX12_holds_167 : decode cX12_holds 167 = .ok (.if_icmp .le 7, 3) := by decide +kernel
theorem dX12_holds_170 : decode cX12_holds 170 = .ok (.iconst 1, 1) := by decide +kernel
theorem dX12_holds_171 : decode cX12_holds 171 = .ok (.goto 4, 3) := by decide +kernel
theorem dX12_holds_174 : decode cX12_holds 174 = .ok (.iconst 0, 1) := by decide +kernel
theorem dX12_holds_175 : decode cX12_holds 175 = .ok (.ireturn, 1) := by decide +kernel
theorem dX12_holds_176 : decode cX12_holds 176 = .ok (.iconst 1, 1) := by decide +kernel
theorem dX12_holds_177 : decode cX12_holds 177 = .ok (.ireturn, 1) := by decide +kernel
abbrev m_X12_holds : Mt := (cX12_holds, RX12, "holds", 5, .ireturn, 3)
def f_X12_holds_b111 (N : Nat) (z : Nat → Nat) (x0 : Hp) : Option (Int32 × Hp) :=
  some ((1 : Int32), x0)
def f_X12_holds (N : Nat) (z : Nat → Nat) (o : Nat) (v1 : Int32) (v2 : Int32) (v3 : Int32) (x0 : Hp) : Option (Int32 × Hp) :=
  getr (some o) x0 15 285 fun r1 =>
  aldr r1 x0 106 v2 fun r2 =>
  if v1 = (0 : Int32) then (geti r2 x0 14 270 fun i4 =>
  geti r2 x0 14 267 fun i5 =>
  if i4 = i5 then (some ((1 : Int32), x0)) else (some ((0 : Int32), x0))) else (if v1 = (1 : Int32) then (geti r2 x0 14 266 fun i7 =>
  if i7 ≤ 0 then (some ((0 : Int32), x0)) else (some ((1 : Int32), x0))) else (if v1 = (2 : Int32) then (geti (some o) x0 15 280 fun i9 =>
  if i9 < v3 then (some ((0 : Int32), x0)) else (some ((1 : Int32), x0))) else (if v1 = (3 : Int32) then (geti r2 x0 14 266 fun i11 =>
  if i11 = 0 then (f_X12_holds_b111 N z x0) else (geti (some o) x0 15 284 fun i12 =>
  if v3 ≤ i12 then (some ((0 : Int32), x0)) else (f_X12_holds_b111 N z x0))) else (if v1 = (4 : Int32) then (geti r2 x0 14 270 fun i14 =>
  geti r2 x0 14 267 fun i15 =>
  if i15 ≤ i14 then (some ((0 : Int32), x0)) else (geti (some o) x0 15 280 fun i16 =>
  nz (4 : Int32) <|
  geti (some o) x0 15 280 fun i17 =>
  if ((i16 / (4 : Int32)) * (4 : Int32)) = i17 then (some ((1 : Int32), x0)) else (some ((0 : Int32), x0)))) else (if v1 = (5 : Int32) then (obj (some o) x0 15 fun q21 => bnd (f_X12_value N z q21 (3 : Int32) r2 v3 x0) fun i20 x19 =>
  obj (some o) x19 15 fun q24 => bnd (f_X12_value N z q24 (2 : Int32) r2 v3 x19) fun i23 x22 =>
  if i20 ≤ i23 then (some ((0 : Int32), x22)) else (some ((1 : Int32), x22))) else (some ((1 : Int32), x0)))))))
set_option maxRecDepth 100000 in
set_option maxHeartbeats 4000000 in
theorem g_X12_holds_b111 (l : Launch) (N : Nat) (z : Nat → Nat) (x0 : Hp) : G l z m_X12_holds okZ enI 111 [] [] x0 (f_X12_holds_b111 N z  x0) := by
  unfold f_X12_holds_b111
  refine G_iconst (v := (1 : Int32)) dX12_holds_111 rfl ?_
  refine G_goto (tgt := 116) dX12_holds_112 (by decide) ?_
  exact G_ret (Or.inr rfl) dX12_holds_116 rfl

set_option maxRecDepth 100000 in
set_option maxHeartbeats 4000000 in
theorem g_X12_holds (l : Launch) (N : Nat) (z : Nat → Nat) (o : Nat) (v1 : Int32) (v2 : Int32) (v3 : Int32) (x0 : Hp) : G l z m_X12_holds okZ enI 0 [(0, va_rf (some o)), (1, .int v1), (2, .int v2), (3, .int v3)] [] x0 (f_X12_holds N z o v1 v2 v3 x0) := by
  unfold f_X12_holds
  refine G_aload_n 0 dX12_holds_0 rfl rfl ?_
  refine G_getr (k := 5) K_14 (by decide) rfl rfl rfl gw_1349 rfl dX12_holds_1 (fun r1 => ?_)
  refine G_iload_n 2 dX12_holds_4 rfl rfl ?_
  refine G_aald (t := 6) rfl (by decide) (by decide) dX12_holds_5 (fun r2 => ?_)
  refine G_astore (i := 4) (l2 := [(0, va_rf (some o)), (1, .int v1), (2, .int v2), (3, .int v3)]) [0, 1, 2, 3] dX12_holds_6 (Nat.le_of_ble_eq_true rfl) rfl (sok_a (by decide) (by decide) (sok_a (by decide) (by decide) (sok_a (by decide) (by decide) (sok_b (by decide) rfl trivial)))) ?_
  refine G_iload_n 2 dX12_holds_8 rfl rfl ?_
  refine G_if (fun hs3 => ?_) (fun hs3 => ?_)
  · refine G_tableIn (tgt := 48) dX12_holds_9 (by rw [hs3]; decide) (by rw [hs3]; decide) (by rw [hs3]; rfl) (by decide) ?_
    refine G_aload 0 dX12_holds_48 rfl ?_
    refine G_geti (k := 10) K_13 (by decide) rfl rfl rfl gw_1407 rfl dX12_holds_50 (fun i4 => ?_)
    refine G_aload 0 dX12_holds_53 rfl ?_
    refine G_geti (k := 7) K_13 (by decide) rfl rfl rfl gw_1400 rfl dX12_holds_55 (fun i5 => ?_)
    refine G_icmp_ne (tgt := 65) dX12_holds_58 (by decide) (fun _ => ?_) (fun _ => ?_)
    · refine G_iconst (v := (1 : Int32)) dX12_holds_61 rfl ?_
      refine G_goto (tgt := 66) dX12_holds_62 (by decide) ?_
      exact G_ret (Or.inr rfl) dX12_holds_66 rfl
    · refine G_iconst (v := (0 : Int32)) dX12_holds_65 rfl ?_
      exact G_ret (Or.inl rfl) dX12_holds_66 rfl
  refine G_if (fun hs6 => ?_) (fun hs6 => ?_)
  · refine G_tableIn (tgt := 67) dX12_holds_9 (by rw [hs6]; decide) (by rw [hs6]; decide) (by rw [hs6]; rfl) (by decide) ?_
    refine G_aload 0 dX12_holds_67 rfl ?_
    refine G_geti (k := 6) K_13 (by decide) rfl rfl rfl gw_1398 rfl dX12_holds_69 (fun i7 => ?_)
    refine G_if_le (tgt := 79) dX12_holds_72 (by decide) (fun _ => ?_) (fun _ => ?_)
    · refine G_iconst (v := (0 : Int32)) dX12_holds_79 rfl ?_
      exact G_ret (Or.inl rfl) dX12_holds_80 rfl
    · refine G_iconst (v := (1 : Int32)) dX12_holds_75 rfl ?_
      refine G_goto (tgt := 80) dX12_holds_76 (by decide) ?_
      exact G_ret (Or.inr rfl) dX12_holds_80 rfl
  refine G_if (fun hs8 => ?_) (fun hs8 => ?_)
  · refine G_tableIn (tgt := 81) dX12_holds_9 (by rw [hs8]; decide) (by rw [hs8]; decide) (by rw [hs8]; rfl) (by decide) ?_
    refine G_aload_n 1 dX12_holds_81 rfl rfl ?_
    refine G_geti (k := 0) K_14 (by decide) rfl rfl rfl gw_1343 rfl dX12_holds_82 (fun i9 => ?_)
    refine G_iload_n 4 dX12_holds_85 rfl rfl ?_
    refine G_icmp_lt (tgt := 93) dX12_holds_86 (by decide) (fun _ => ?_) (fun _ => ?_)
    · refine G_iconst (v := (0 : Int32)) dX12_holds_93 rfl ?_
      exact G_ret (Or.inl rfl) dX12_holds_94 rfl
    · refine G_iconst (v := (1 : Int32)) dX12_holds_89 rfl ?_
      refine G_goto (tgt := 94) dX12_holds_90 (by decide) ?_
      exact G_ret (Or.inr rfl) dX12_holds_94 rfl
  refine G_if (fun hs10 => ?_) (fun hs10 => ?_)
  · refine G_tableIn (tgt := 95) dX12_holds_9 (by rw [hs10]; decide) (by rw [hs10]; decide) (by rw [hs10]; rfl) (by decide) ?_
    refine G_aload 0 dX12_holds_95 rfl ?_
    refine G_geti (k := 6) K_13 (by decide) rfl rfl rfl gw_1398 rfl dX12_holds_97 (fun i11 => ?_)
    refine G_if_eq (tgt := 111) dX12_holds_100 (by decide) (fun _ => ?_) (fun _ => ?_)
    · refine G_lv [] rfl ?_
      exact g_X12_holds_b111 l N z x0
    · refine G_aload_n 1 dX12_holds_103 rfl rfl ?_
      refine G_geti (k := 4) K_14 (by decide) rfl rfl rfl gw_1348 rfl dX12_holds_104 (fun i12 => ?_)
      refine G_iload_n 4 dX12_holds_107 rfl rfl ?_
      refine G_icmp_ge (tgt := 115) dX12_holds_108 (by decide) (fun _ => ?_) (fun _ => ?_)
      · refine G_iconst (v := (0 : Int32)) dX12_holds_115 rfl ?_
        exact G_ret (Or.inl rfl) dX12_holds_116 rfl
      · refine G_lv [] rfl ?_
        exact g_X12_holds_b111 l N z x0
  refine G_if (fun hs13 => ?_) (fun hs13 => ?_)
  · refine G_tableIn (tgt := 117) dX12_holds_9 (by rw [hs13]; decide) (by rw [hs13]; decide) (by rw [hs13]; rfl) (by decide) ?_
    refine G_aload 0 dX12_holds_117 rfl ?_
    refine G_geti (k := 10) K_13 (by decide) rfl rfl rfl gw_1407 rfl dX12_holds_119 (fun i14 => ?_)
    refine G_aload 0 dX12_holds_122 rfl ?_
    refine G_geti (k := 7) K_13 (by decide) rfl rfl rfl gw_1400 rfl dX12_holds_124 (fun i15 => ?_)
    refine G_icmp_ge (tgt := 149) dX12_holds_127 (by decide) (fun _ => ?_) (fun _ => ?_)
    · refine G_iconst (v := (0 : Int32)) dX12_holds_149 rfl ?_
      exact G_ret (Or.inl rfl) dX12_holds_150 rfl
    · refine G_aload_n 1 dX12_holds_130 rfl rfl ?_
      refine G_geti (k := 0) K_14 (by decide) rfl rfl rfl gw_1343 rfl dX12_holds_131 (fun i16 => ?_)
      refine G_iconst (v := (4 : Int32)) dX12_holds_134 rfl ?_
      refine G_idiv dX12_holds_135 ?_
      refine G_iconst (v := (4 : Int32)) dX12_holds_136 rfl ?_
      refine G_imul dX12_holds_137 ?_
      refine G_aload_n 1 dX12_holds_138 rfl rfl ?_
      refine G_geti (k := 0) K_14 (by decide) rfl rfl rfl gw_1343 rfl dX12_holds_139 (fun i17 => ?_)
      refine G_icmp_ne (tgt := 149) dX12_holds_142 (by decide) (fun _ => ?_) (fun _ => ?_)
      · refine G_iconst (v := (1 : Int32)) dX12_holds_145 rfl ?_
        refine G_goto (tgt := 150) dX12_holds_146 (by decide) ?_
        exact G_ret (Or.inr rfl) dX12_holds_150 rfl
      · refine G_iconst (v := (0 : Int32)) dX12_holds_149 rfl ?_
        exact G_ret (Or.inl rfl) dX12_holds_150 rfl
  refine G_if (fun hs18 => ?_) (fun hs18 => ?_)
  · refine G_tableIn (tgt := 151) dX12_holds_9 (by rw [hs18]; decide) (by rw [hs18]; decide) (by rw [hs18]; rfl) (by decide) ?_
    refine G_aload_n 1 dX12_holds_151 rfl rfl ?_
    refine G_iconst (v := (3 : Int32)) dX12_holds_152 rfl ?_
    refine G_aload 0 dX12_holds_153 rfl ?_
    refine G_iload_n 4 dX12_holds_155 rfl rfl ?_
    refine G_callV (av := [.int (3 : Int32), va_rf r2, .int v3]) [] (fun q21 => ct_X12_value l N z q21 (3 : Int32) r2 v3) K_14 rfl yn_X12_value (Nat.le_of_ble_eq_true rfl) (by decide) gw_794 gw_796 gw_s12 gw_54 gw_797 rfl (by decide) dX12_holds_156 (fun i20 x19 => ?_)
    refine G_aload_n 1 dX12_holds_159 rfl rfl ?_
    refine G_iconst (v := (2 : Int32)) dX12_holds_160 rfl ?_
    refine G_aload 0 dX12_holds_161 rfl ?_
    refine G_iload_n 4 dX12_holds_163 rfl rfl ?_
    refine G_callV (av := [.int (2 : Int32), va_rf r2, .int v3]) [.int i20] (fun q24 => ct_X12_value l N z q24 (2 : Int32) r2 v3) K_14 rfl yn_X12_value (Nat.le_of_ble_eq_true rfl) (by decide) gw_794 gw_796 gw_s12 gw_54 gw_797 rfl (by simp only [hw_n, hw_i, hw_r, hw_j, hw_d]; decide) dX12_holds_164 (fun i23 x22 => ?_)
    refine G_icmp_le (tgt := 174) dX12_holds_167 (by decide) (fun _ => ?_) (fun _ => ?_)
    · refine G_iconst (v := (0 : Int32)) dX12_holds_174 rfl ?_
      exact G_ret (Or.inl rfl) dX12_holds_175 rfl
    · refine G_iconst (v := (1 : Int32)) dX12_holds_170 rfl ?_
      refine G_goto (tgt := 175) dX12_holds_171 (by decide) ?_
      exact G_ret (Or.inr rfl) dX12_holds_175 rfl
  refine G_tableOut (tgt := 176) dX12_holds_9 (by have q0 := i32_ne hs3; rw [show (0 : Int32).toInt = 0 from by decide] at q0; have q1 := i32_ne hs6; rw [show (1 : Int32).toInt = 1 from by decide] at q1; have q2 := i32_ne hs8; rw [show (2 : Int32).toInt = 2 from by decide] at q2; have q3 := i32_ne hs10; rw [show (3 : Int32).toInt = 3 from by decide] at q3; have q4 := i32_ne hs13; rw [show (4 : Int32).toInt = 4 from by decide] at q4; have q5 := i32_ne hs18; rw [show (5 : Int32).toInt = 5 from by decide] at q5; omega) (by decide) ?_
  refine G_iconst (v := (1 : Int32)) dX12_holds_176 rfl ?_
  exact G_ret (Or.inr rfl) dX12_holds_177 rfl

theorem yn_X12_holds : Yn yX12_holds 3 := ⟨by decide +kernel, by decide +kernel, by decide +kernel⟩
theorem ct_X12_holds (l : Launch) (N : Nat) (z : Nat → Nat) (o : Nat) (v1 : Int32) (v2 : Int32) (v3 : Int32) : Ct l z yX12_holds cX12_holds 5 (some .boolean) 3 enI [.ref o, .int v1, .int v2, .int v3] (f_X12_holds N z o v1 v2 v3) :=
  Ct_z (fun x => G_lv0 (by simp only [lva_n, lva_i, lva_o, lva_r, lva_j]) (g_X12_holds l N z o v1 v2 v3 x)) (by decide +kernel) (by simp only [lgl_n, lgl_i, lgl_o, lgl_r, lgl_j]; decide)

theorem dX12_test_0 : decode cX12_test 0 = .ok (.iload_n 0, 1) := by decide +kernel
theorem dX12_test_1 : decode cX12_test 1 = .ok (.tableswitch 187 0 5 #[39, 59, 79, 99, 128, 153], 39) := by decide +kernel
theorem dX12_test_40 : decode cX12_test 40 = .ok (.new 105, 3) := by decide +kernel
theorem dX12_test_43 : decode cX12_test 43 = .ok (.dup, 1) := by decide +kernel
theorem dX12_test_44 : decode cX12_test 44 = .ok (.invokespecial 107, 3) := by decide +kernel
theorem dX12_test_47 : decode cX12_test 47 = .ok (.ldc 147, 2) := by decide +kernel
theorem dX12_test_49 : decode cX12_test 49 = .ok (.invokevirtual 110, 3) := by decide +kernel
theorem dX12_test_52 : decode cX12_test 52 = .ok (.iload_n 1, 1) := by decide +kernel
theorem dX12_test_53 : decode cX12_test 53 = .ok (.invokevirtual 114, 3) := by decide +kernel
theorem dX12_test_56 : decode cX12_test 56 = .ok (.invokevirtual 117, 3) := by decide +kernel
theorem dX12_test_59 : decode cX12_test 59 = .ok (.areturn, 1) := by decide +kernel
theorem dX12_test_60 : decode cX12_test 60 = .ok (.new 105, 3) := by decide +kernel
theorem dX12_test_63 : decode cX12_test 63 = .ok (.dup, 1) := by decide +kernel
theorem dX12_test_64 : decode cX12_test 64 = .ok (.invokespecial 107, 3) := by decide +kernel
theorem dX12_test_67 : decode cX12_test 67 = .ok (.ldc 149, 2) := by decide +kernel
theorem dX12_test_69 : decode cX12_test 69 = .ok (.invokevirtual 110, 3) := by decide +kernel
theorem dX12_test_72 : decode cX12_test 72 = .ok (.iload_n 1, 1) := by decide +kernel
theorem dX12_test_73 : decode cX12_test 73 = .ok (.invokevirtual 114, 3) := by decide +kernel
theorem dX12_test_76 : decode cX12_test 76 = .ok (.invokevirtual 117, 3) := by decide +kernel
theorem dX12_test_79 : decode cX12_test 79 = .ok (.areturn, 1) := by decide +kernel
theorem dX12_test_80 : decode cX12_test 80 = .ok (.new 105, 3) := by decide +kernel
theorem dX12_test_83 : decode cX12_test 83 = .ok (.dup, 1) := by decide +kernel
theorem dX12_test_84 : decode cX12_test 84 = .ok (.invokespecial 107, 3) := by decide +kernel
theorem dX12_test_87 : decode cX12_test 87 = .ok (.ldc 151, 2) := by decide +kernel
theorem dX12_test_89 : decode cX12_test 89 = .ok (.invokevirtual 110, 3) := by decide +kernel
theorem dX12_test_92 : decode cX12_test 92 = .ok (.iload_n 2, 1) := by decide +kernel
theorem dX12_test_93 : decode cX12_test 93 = .ok (.invokevirtual 114, 3) := by decide +kernel
theorem dX12_test_96 : decode cX12_test 96 = .ok (.invokevirtual 117, 3) := by decide +kernel
theorem dX12_test_99 : decode cX12_test 99 = .ok (.areturn, 1) := by decide +kernel
theorem dX12_test_100 : decode cX12_test 100 = .ok (.new 105, 3) := by decide +kernel
theorem dX12_test_103 : decode cX12_test 103 = .ok (.dup, 1) := by decide +kernel
theorem dX12_test_104 : decode cX12_test 104 = .ok (.invokespecial 107, 3) := by decide +kernel
theorem dX12_test_107 : decode cX12_test 107 = .ok (.ldc 153, 2) := by decide +kernel
theorem dX12_test_109 : decode cX12_test 109 = .ok (.invokevirtual 110, 3) := by decide +kernel
theorem dX12_test_112 : decode cX12_test 112 = .ok (.iload_n 1, 1) := by decide +kernel
theorem dX12_test_113 : decode cX12_test 113 = .ok (.invokevirtual 114, 3) := by decide +kernel
theorem dX12_test_116 : decode cX12_test 116 = .ok (.ldc 155, 2) := by decide +kernel
theorem dX12_test_118 : decode cX12_test 118 = .ok (.invokevirtual 110, 3) := by decide +kernel
theorem dX12_test_121 : decode cX12_test 121 = .ok (.iload_n 2, 1) := by decide +kernel
theorem dX12_test_122 : decode cX12_test 122 = .ok (.invokevirtual 114, 3) := by decide +kernel
theorem dX12_test_125 : decode cX12_test 125 = .ok (.invokevirtual 117, 3) := by decide +kernel
theorem dX12_test_128 : decode cX12_test 128 = .ok (.areturn, 1) := by decide +kernel
theorem dX12_test_129 : decode cX12_test 129 = .ok (.new 105, 3) := by decide +kernel
theorem dX12_test_132 : decode cX12_test 132 = .ok (.dup, 1) := by decide +kernel
theorem dX12_test_133 : decode cX12_test 133 = .ok (.invokespecial 107, 3) := by decide +kernel
theorem dX12_test_136 : decode cX12_test 136 = .ok (.ldc 157, 2) := by decide +kernel
theorem dX12_test_138 : decode cX12_test 138 = .ok (.invokevirtual 110, 3) := by decide +kernel
theorem dX12_test_141 : decode cX12_test 141 = .ok (.iload_n 1, 1) := by decide +kernel
theorem dX12_test_142 : decode cX12_test 142 = .ok (.invokevirtual 114, 3) := by decide +kernel
theorem dX12_test_145 : decode cX12_test 145 = .ok (.ldc 159, 2) := by decide +kernel
theorem dX12_test_147 : decode cX12_test 147 = .ok (.invokevirtual 110, 3) := by decide +kernel
theorem dX12_test_150 : decode cX12_test 150 = .ok (.invokevirtual 117, 3) := by decide +kernel
theorem dX12_test_153 : decode cX12_test 153 = .ok (.areturn, 1) := by decide +kernel
theorem dX12_test_154 : decode cX12_test 154 = .ok (.new 105, 3) := by decide +kernel
theorem dX12_test_157 : decode cX12_test 157 = .ok (.dup, 1) := by decide +kernel
theorem dX12_test_158 : decode cX12_test 158 = .ok (.invokespecial 107, 3) := by decide +kernel
theorem dX12_test_161 : decode cX12_test 161 = .ok (.iconst 3, 1) := by decide +kernel
theorem dX12_test_162 : decode cX12_test 162 = .ok (.iload_n 1, 1) := by decide +kernel
theorem dX12_test_163 : decode cX12_test 163 = .ok (.iload_n 2, 1) := by decide +kernel
theorem dX12_test_164 : decode cX12_test 164 = .ok (.invokestatic 161, 3) := by decide +kernel
theorem dX12_test_167 : decode cX12_test 167 = .ok (.invokevirtual 110, 3) := by decide +kernel
theorem dX12_test_170 : decode cX12_test 170 = .ok (.ldc 165, 2) := by decide +kernel
theorem dX12_test_172 : decode cX12_test 172 = .ok (.invokevirtual 110, 3) := by decide +kernel
theorem dX12_test_175 : decode cX12_test 175 = .ok (.iconst 2, 1) := by decide +kernel
theorem dX12_test_176 : decode cX12_test 176 = .ok (.iload_n 1, 1) := by decide +kernel
theorem dX12_test_177 : decode cX12_test 177 = .ok (.iload_n 2, 1) := by decide +kernel
theorem dX12_test_178 : decode cX12_test 178 = .ok (.invokestatic 161, 3) := by decide +kernel
theorem dX12_test_181 : decode cX12_test 181 = .ok (.invokevirtual 110, 3) := by decide +kernel
theorem dX12_test_184 : decode cX12_test 184 = .ok (.invokevirtual 117, 3) := by decide +kernel
theorem dX12_test_187 : decode cX12_test 187 = .ok (.areturn, 1) := by decide +kernel
theorem dX12_test_188 : decode cX12_test 188 = .ok (.ldc 167, 2) := by decide +kernel
theorem dX12_test_190 : decode cX12_test 190 = .ok (.areturn, 1) := by decide +kernel
abbrev m_X12_test : Mt := (cX12_test, RX12, "test", 3, .areturn, 8)
def f_X12_test (N : Nat) (z : Nat → Nat) (v0 : Int32) (v1 : Int32) (v2 : Int32) (x0 : Hp) : Option (Option Nat × Hp) :=
  if v0 = (0 : Int32) then (newo x0 2 4 fun r2 x3 =>
  obj r2 x3 2 fun q5 => bnd (f_J4_init_da8c8 N z q5 x3) fun _ x4 =>
  obj r2 x4 2 fun q8 => bnd (f_J4_append_15ec4 N z q8 (some (z 36)) x4) fun r7 x6 =>
  obj r7 x6 2 fun q11 => bnd (f_J4_append_bf812 N z q11 v1 x6) fun r10 x9 =>
  obj r10 x9 2 fun q14 => bnd (f_J4_toString_0e30d N z q14 x9) fun r13 x12 =>
  some (r13, x12)) else (if v0 = (1 : Int32) then (newo x0 2 4 fun r16 x17 =>
  obj r16 x17 2 fun q19 => bnd (f_J4_init_da8c8 N z q19 x17) fun _ x18 =>
  obj r16 x18 2 fun q22 => bnd (f_J4_append_15ec4 N z q22 (some (z 37)) x18) fun r21 x20 =>
  obj r21 x20 2 fun q25 => bnd (f_J4_append_bf812 N z q25 v1 x20) fun r24 x23 =>
  obj r24 x23 2 fun q28 => bnd (f_J4_toString_0e30d N z q28 x23) fun r27 x26 =>
  some (r27, x26)) else (if v0 = (2 : Int32) then (newo x0 2 4 fun r30 x31 =>
  obj r30 x31 2 fun q33 => bnd (f_J4_init_da8c8 N z q33 x31) fun _ x32 =>
  obj r30 x32 2 fun q36 => bnd (f_J4_append_15ec4 N z q36 (some (z 38)) x32) fun r35 x34 =>
  obj r35 x34 2 fun q39 => bnd (f_J4_append_bf812 N z q39 v2 x34) fun r38 x37 =>
  obj r38 x37 2 fun q42 => bnd (f_J4_toString_0e30d N z q42 x37) fun r41 x40 =>
  some (r41, x40)) else (if v0 = (3 : Int32) then (newo x0 2 4 fun r44 x45 =>
  obj r44 x45 2 fun q47 => bnd (f_J4_init_da8c8 N z q47 x45) fun _ x46 =>
  obj r44 x46 2 fun q50 => bnd (f_J4_append_15ec4 N z q50 (some (z 39)) x46) fun r49 x48 =>
  obj r49 x48 2 fun q53 => bnd (f_J4_append_bf812 N z q53 v1 x48) fun r52 x51 =>
  obj r52 x51 2 fun q56 => bnd (f_J4_append_15ec4 N z q56 (some (z 40)) x51) fun r55 x54 =>
  obj r55 x54 2 fun q59 => bnd (f_J4_append_bf812 N z q59 v2 x54) fun r58 x57 =>
  obj r58 x57 2 fun q62 => bnd (f_J4_toString_0e30d N z q62 x57) fun r61 x60 =>
  some (r61, x60)) else (if v0 = (4 : Int32) then (newo x0 2 4 fun r64 x65 =>
  obj r64 x65 2 fun q67 => bnd (f_J4_init_da8c8 N z q67 x65) fun _ x66 =>
  obj r64 x66 2 fun q70 => bnd (f_J4_append_15ec4 N z q70 (some (z 41)) x66) fun r69 x68 =>
  obj r69 x68 2 fun q73 => bnd (f_J4_append_bf812 N z q73 v1 x68) fun r72 x71 =>
  obj r72 x71 2 fun q76 => bnd (f_J4_append_15ec4 N z q76 (some (z 42)) x71) fun r75 x74 =>
  obj r75 x74 2 fun q79 => bnd (f_J4_toString_0e30d N z q79 x74) fun r78 x77 =>
  some (r78, x77)) else (if v0 = (5 : Int32) then (newo x0 2 4 fun r81 x82 =>
  obj r81 x82 2 fun q84 => bnd (f_J4_init_da8c8 N z q84 x82) fun _ x83 =>
  bnd (f_X12_told N z (3 : Int32) v1 v2 x83) fun r86 x85 =>
  obj r81 x85 2 fun q89 => bnd (f_J4_append_15ec4 N z q89 r86 x85) fun r88 x87 =>
  obj r88 x87 2 fun q92 => bnd (f_J4_append_15ec4 N z q92 (some (z 43)) x87) fun r91 x90 =>
  bnd (f_X12_told N z (2 : Int32) v1 v2 x90) fun r94 x93 =>
  obj r91 x93 2 fun q97 => bnd (f_J4_append_15ec4 N z q97 r94 x93) fun r96 x95 =>
  obj r96 x95 2 fun q100 => bnd (f_J4_toString_0e30d N z q100 x95) fun r99 x98 =>
  some (r99, x98)) else (some (some (z 44), x0)))))))
set_option maxRecDepth 100000 in
set_option maxHeartbeats 4000000 in
theorem g_X12_test (l : Launch) (N : Nat) (z : Nat → Nat) (v0 : Int32) (v1 : Int32) (v2 : Int32) (x0 : Hp) : G l z m_X12_test okT enR 0 [(0, .int v0), (1, .int v1), (2, .int v2)] [] x0 (f_X12_test N z v0 v1 v2 x0) := by
  unfold f_X12_test
  refine G_iload_n 0 dX12_test_0 rfl rfl ?_
  refine G_if (fun hs1 => ?_) (fun hs1 => ?_)
  · refine G_tableIn (tgt := 40) dX12_test_1 (by rw [hs1]; decide) (by rw [hs1]; decide) (by rw [hs1]; rfl) (by decide) ?_
    refine G_new K_1 rfl gw_854 gw_855 gw_57 dX12_test_40 (fun r2 x3 => ?_)
    refine G_dup dX12_test_43 (rf_cat _) ?_
    refine G_callI (av := []) [va_rf r2] (fun q5 => ct_J4_init_da8c8 l N z q5) rfl yn_J4_init_da8c8 (Nat.le_of_ble_eq_true rfl) (by decide) gw_856 gw_857 gw_57 gw_858 rfl (by simp only [hw_n, hw_i, hw_r, hw_j, hw_d]; decide) dX12_test_44 (fun x4 => ?_)
    refine G_ldcS (q := 36) (tx := "full l") gs_36 rfl dX12_test_47 ?_
    refine G_callV (av := [va_rf (some (z 36))]) [] (fun q8 => ct_J4_append_15ec4 l N z q8 (some (z 36))) K_1 rfl yn_J4_append_15ec4 (Nat.le_of_ble_eq_true rfl) (by decide) gw_885 gw_886 gw_887 gw_57 gw_888 rfl (by decide) dX12_test_49 (fun r7 x6 => ?_)
    refine G_iload_n 1 dX12_test_52 rfl rfl ?_
    refine G_callV (av := [.int v1]) [] (fun q11 => ct_J4_append_bf812 l N z q11 v1) K_1 rfl yn_J4_append_bf812 (Nat.le_of_ble_eq_true rfl) (by decide) gw_982 gw_983 gw_984 gw_57 gw_985 rfl (by decide) dX12_test_53 (fun r10 x9 => ?_)
    refine G_callV (av := []) [] (fun q14 => ct_J4_toString_0e30d l N z q14) K_1 rfl yn_J4_toString_0e30d (Nat.le_of_ble_eq_true rfl) (by decide) gw_1032 gw_1033 gw_1034 gw_57 gw_1035 rfl (by decide) dX12_test_56 (fun r13 x12 => ?_)
    exact G_ret trivial dX12_test_59 rfl
  refine G_if (fun hs15 => ?_) (fun hs15 => ?_)
  · refine G_tableIn (tgt := 60) dX12_test_1 (by rw [hs15]; decide) (by rw [hs15]; decide) (by rw [hs15]; rfl) (by decide) ?_
    refine G_new K_1 rfl gw_854 gw_855 gw_57 dX12_test_60 (fun r16 x17 => ?_)
    refine G_dup dX12_test_63 (rf_cat _) ?_
    refine G_callI (av := []) [va_rf r16] (fun q19 => ct_J4_init_da8c8 l N z q19) rfl yn_J4_init_da8c8 (Nat.le_of_ble_eq_true rfl) (by decide) gw_856 gw_857 gw_57 gw_858 rfl (by simp only [hw_n, hw_i, hw_r, hw_j, hw_d]; decide) dX12_test_64 (fun x18 => ?_)
    refine G_ldcS (q := 37) (tx := "not dry l") gs_37 rfl dX12_test_67 ?_
    refine G_callV (av := [va_rf (some (z 37))]) [] (fun q22 => ct_J4_append_15ec4 l N z q22 (some (z 37))) K_1 rfl yn_J4_append_15ec4 (Nat.le_of_ble_eq_true rfl) (by decide) gw_885 gw_886 gw_887 gw_57 gw_888 rfl (by decide) dX12_test_69 (fun r21 x20 => ?_)
    refine G_iload_n 1 dX12_test_72 rfl rfl ?_
    refine G_callV (av := [.int v1]) [] (fun q25 => ct_J4_append_bf812 l N z q25 v1) K_1 rfl yn_J4_append_bf812 (Nat.le_of_ble_eq_true rfl) (by decide) gw_982 gw_983 gw_984 gw_57 gw_985 rfl (by decide) dX12_test_73 (fun r24 x23 => ?_)
    refine G_callV (av := []) [] (fun q28 => ct_J4_toString_0e30d l N z q28) K_1 rfl yn_J4_toString_0e30d (Nat.le_of_ble_eq_true rfl) (by decide) gw_1032 gw_1033 gw_1034 gw_57 gw_1035 rfl (by decide) dX12_test_76 (fun r27 x26 => ?_)
    exact G_ret trivial dX12_test_79 rfl
  refine G_if (fun hs29 => ?_) (fun hs29 => ?_)
  · refine G_tableIn (tgt := 80) dX12_test_1 (by rw [hs29]; decide) (by rw [hs29]; decide) (by rw [hs29]; rfl) (by decide) ?_
    refine G_new K_1 rfl gw_854 gw_855 gw_57 dX12_test_80 (fun r30 x31 => ?_)
    refine G_dup dX12_test_83 (rf_cat _) ?_
    refine G_callI (av := []) [va_rf r30] (fun q33 => ct_J4_init_da8c8 l N z q33) rfl yn_J4_init_da8c8 (Nat.le_of_ble_eq_true rfl) (by decide) gw_856 gw_857 gw_57 gw_858 rfl (by simp only [hw_n, hw_i, hw_r, hw_j, hw_d]; decide) dX12_test_84 (fun x32 => ?_)
    refine G_ldcS (q := 38) (tx := "minute >= ") gs_38 rfl dX12_test_87 ?_
    refine G_callV (av := [va_rf (some (z 38))]) [] (fun q36 => ct_J4_append_15ec4 l N z q36 (some (z 38))) K_1 rfl yn_J4_append_15ec4 (Nat.le_of_ble_eq_true rfl) (by decide) gw_885 gw_886 gw_887 gw_57 gw_888 rfl (by decide) dX12_test_89 (fun r35 x34 => ?_)
    refine G_iload_n 2 dX12_test_92 rfl rfl ?_
    refine G_callV (av := [.int v2]) [] (fun q39 => ct_J4_append_bf812 l N z q39 v2) K_1 rfl yn_J4_append_bf812 (Nat.le_of_ble_eq_true rfl) (by decide) gw_982 gw_983 gw_984 gw_57 gw_985 rfl (by decide) dX12_test_93 (fun r38 x37 => ?_)
    refine G_callV (av := []) [] (fun q42 => ct_J4_toString_0e30d l N z q42) K_1 rfl yn_J4_toString_0e30d (Nat.le_of_ble_eq_true rfl) (by decide) gw_1032 gw_1033 gw_1034 gw_57 gw_1035 rfl (by decide) dX12_test_96 (fun r41 x40 => ?_)
    exact G_ret trivial dX12_test_99 rfl
  refine G_if (fun hs43 => ?_) (fun hs43 => ?_)
  · refine G_tableIn (tgt := 100) dX12_test_1 (by rw [hs43]; decide) (by rw [hs43]; decide) (by rw [hs43]; rfl) (by decide) ?_
    refine G_new K_1 rfl gw_854 gw_855 gw_57 dX12_test_100 (fun r44 x45 => ?_)
    refine G_dup dX12_test_103 (rf_cat _) ?_
    refine G_callI (av := []) [va_rf r44] (fun q47 => ct_J4_init_da8c8 l N z q47) rfl yn_J4_init_da8c8 (Nat.le_of_ble_eq_true rfl) (by decide) gw_856 gw_857 gw_57 gw_858 rfl (by simp only [hw_n, hw_i, hw_r, hw_j, hw_d]; decide) dX12_test_104 (fun x46 => ?_)
    refine G_ldcS (q := 39) (tx := "dry l") gs_39 rfl dX12_test_107 ?_
    refine G_callV (av := [va_rf (some (z 39))]) [] (fun q50 => ct_J4_append_15ec4 l N z q50 (some (z 39))) K_1 rfl yn_J4_append_15ec4 (Nat.le_of_ble_eq_true rfl) (by decide) gw_885 gw_886 gw_887 gw_57 gw_888 rfl (by decide) dX12_test_109 (fun r49 x48 => ?_)
    refine G_iload_n 1 dX12_test_112 rfl rfl ?_
    refine G_callV (av := [.int v1]) [] (fun q53 => ct_J4_append_bf812 l N z q53 v1) K_1 rfl yn_J4_append_bf812 (Nat.le_of_ble_eq_true rfl) (by decide) gw_982 gw_983 gw_984 gw_57 gw_985 rfl (by decide) dX12_test_113 (fun r52 x51 => ?_)
    refine G_ldcS (q := 40) (tx := " or spare < ") gs_40 rfl dX12_test_116 ?_
    refine G_callV (av := [va_rf (some (z 40))]) [] (fun q56 => ct_J4_append_15ec4 l N z q56 (some (z 40))) K_1 rfl yn_J4_append_15ec4 (Nat.le_of_ble_eq_true rfl) (by decide) gw_885 gw_886 gw_887 gw_57 gw_888 rfl (by decide) dX12_test_118 (fun r55 x54 => ?_)
    refine G_iload_n 2 dX12_test_121 rfl rfl ?_
    refine G_callV (av := [.int v2]) [] (fun q59 => ct_J4_append_bf812 l N z q59 v2) K_1 rfl yn_J4_append_bf812 (Nat.le_of_ble_eq_true rfl) (by decide) gw_982 gw_983 gw_984 gw_57 gw_985 rfl (by decide) dX12_test_122 (fun r58 x57 => ?_)
    refine G_callV (av := []) [] (fun q62 => ct_J4_toString_0e30d l N z q62) K_1 rfl yn_J4_toString_0e30d (Nat.le_of_ble_eq_true rfl) (by decide) gw_1032 gw_1033 gw_1034 gw_57 gw_1035 rfl (by decide) dX12_test_125 (fun r61 x60 => ?_)
    exact G_ret trivial dX12_test_128 rfl
  refine G_if (fun hs63 => ?_) (fun hs63 => ?_)
  · refine G_tableIn (tgt := 129) dX12_test_1 (by rw [hs63]; decide) (by rw [hs63]; decide) (by rw [hs63]; rfl) (by decide) ?_
    refine G_new K_1 rfl gw_854 gw_855 gw_57 dX12_test_129 (fun r64 x65 => ?_)
    refine G_dup dX12_test_132 (rf_cat _) ?_
    refine G_callI (av := []) [va_rf r64] (fun q67 => ct_J4_init_da8c8 l N z q67) rfl yn_J4_init_da8c8 (Nat.le_of_ble_eq_true rfl) (by decide) gw_856 gw_857 gw_57 gw_858 rfl (by simp only [hw_n, hw_i, hw_r, hw_j, hw_d]; decide) dX12_test_133 (fun x66 => ?_)
    refine G_ldcS (q := 41) (tx := "[not full l") gs_41 rfl dX12_test_136 ?_
    refine G_callV (av := [va_rf (some (z 41))]) [] (fun q70 => ct_J4_append_15ec4 l N z q70 (some (z 41))) K_1 rfl yn_J4_append_15ec4 (Nat.le_of_ble_eq_true rfl) (by decide) gw_885 gw_886 gw_887 gw_57 gw_888 rfl (by decide) dX12_test_138 (fun r69 x68 => ?_)
    refine G_iload_n 1 dX12_test_141 rfl rfl ?_
    refine G_callV (av := [.int v1]) [] (fun q73 => ct_J4_append_bf812 l N z q73 v1) K_1 rfl yn_J4_append_bf812 (Nat.le_of_ble_eq_true rfl) (by decide) gw_982 gw_983 gw_984 gw_57 gw_985 rfl (by decide) dX12_test_142 (fun r72 x71 => ?_)
    refine G_ldcS (q := 42) (tx := " and minute / 4 * 4 = minute]") gs_42 rfl dX12_test_145 ?_
    refine G_callV (av := [va_rf (some (z 42))]) [] (fun q76 => ct_J4_append_15ec4 l N z q76 (some (z 42))) K_1 rfl yn_J4_append_15ec4 (Nat.le_of_ble_eq_true rfl) (by decide) gw_885 gw_886 gw_887 gw_57 gw_888 rfl (by decide) dX12_test_147 (fun r75 x74 => ?_)
    refine G_callV (av := []) [] (fun q79 => ct_J4_toString_0e30d l N z q79) K_1 rfl yn_J4_toString_0e30d (Nat.le_of_ble_eq_true rfl) (by decide) gw_1032 gw_1033 gw_1034 gw_57 gw_1035 rfl (by decide) dX12_test_150 (fun r78 x77 => ?_)
    exact G_ret trivial dX12_test_153 rfl
  refine G_if (fun hs80 => ?_) (fun hs80 => ?_)
  · refine G_tableIn (tgt := 154) dX12_test_1 (by rw [hs80]; decide) (by rw [hs80]; decide) (by rw [hs80]; rfl) (by decide) ?_
    refine G_new K_1 rfl gw_854 gw_855 gw_57 dX12_test_154 (fun r81 x82 => ?_)
    refine G_dup dX12_test_157 (rf_cat _) ?_
    refine G_callI (av := []) [va_rf r81] (fun q84 => ct_J4_init_da8c8 l N z q84) rfl yn_J4_init_da8c8 (Nat.le_of_ble_eq_true rfl) (by decide) gw_856 gw_857 gw_57 gw_858 rfl (by simp only [hw_n, hw_i, hw_r, hw_j, hw_d]; decide) dX12_test_158 (fun x83 => ?_)
    refine G_iconst (v := (3 : Int32)) dX12_test_161 rfl ?_
    refine G_iload_n 1 dX12_test_162 rfl rfl ?_
    refine G_iload_n 2 dX12_test_163 rfl rfl ?_
    refine G_callS (av := [.int (3 : Int32), .int v1, .int v2]) [va_rf r81] (ct_X12_told l N z (3 : Int32) v1 v2) yn_X12_told (Nat.le_of_ble_eq_true rfl) (by decide) gw_1028 gw_1029 gw_54 gw_1030 rfl (by simp only [hw_n, hw_i, hw_r, hw_j, hw_d]; decide) dX12_test_164 (fun r86 x85 => ?_)
    refine G_callV (av := [va_rf r86]) [] (fun q89 => ct_J4_append_15ec4 l N z q89 r86) K_1 rfl yn_J4_append_15ec4 (Nat.le_of_ble_eq_true rfl) (by decide) gw_885 gw_886 gw_887 gw_57 gw_888 rfl (by decide) dX12_test_167 (fun r88 x87 => ?_)
    refine G_ldcS (q := 43) (tx := " > ") gs_43 rfl dX12_test_170 ?_
    refine G_callV (av := [va_rf (some (z 43))]) [] (fun q92 => ct_J4_append_15ec4 l N z q92 (some (z 43))) K_1 rfl yn_J4_append_15ec4 (Nat.le_of_ble_eq_true rfl) (by decide) gw_885 gw_886 gw_887 gw_57 gw_888 rfl (by decide) dX12_test_172 (fun r91 x90 => ?_)
    refine G_iconst (v := (2 : Int32)) dX12_test_175 rfl ?_
    refine G_iload_n 1 dX12_test_176 rfl rfl ?_
    refine G_iload_n 2 dX12_test_177 rfl rfl ?_
    refine G_callS (av := [.int (2 : Int32), .int v1, .int v2]) [va_rf r91] (ct_X12_told l N z (2 : Int32) v1 v2) yn_X12_told (Nat.le_of_ble_eq_true rfl) (by decide) gw_1028 gw_1029 gw_54 gw_1030 rfl (by simp only [hw_n, hw_i, hw_r, hw_j, hw_d]; decide) dX12_test_178 (fun r94 x93 => ?_)
    refine G_callV (av := [va_rf r94]) [] (fun q97 => ct_J4_append_15ec4 l N z q97 r94) K_1 rfl yn_J4_append_15ec4 (Nat.le_of_ble_eq_true rfl) (by decide) gw_885 gw_886 gw_887 gw_57 gw_888 rfl (by decide) dX12_test_181 (fun r96 x95 => ?_)
    refine G_callV (av := []) [] (fun q100 => ct_J4_toString_0e30d l N z q100) K_1 rfl yn_J4_toString_0e30d (Nat.le_of_ble_eq_true rfl) (by decide) gw_1032 gw_1033 gw_1034 gw_57 gw_1035 rfl (by decide) dX12_test_184 (fun r99 x98 => ?_)
    exact G_ret trivial dX12_test_187 rfl
  refine G_tableOut (tgt := 188) dX12_test_1 (by have q0 := i32_ne hs1; rw [show (0 : Int32).toInt = 0 from by decide] at q0; have q1 := i32_ne hs15; rw [show (1 : Int32).toInt = 1 from by decide] at q1; have q2 := i32_ne hs29; rw [show (2 : Int32).toInt = 2 from by decide] at q2; have q3 := i32_ne hs43; rw [show (3 : Int32).toInt = 3 from by decide] at q3; have q4 := i32_ne hs63; rw [show (4 : Int32).toInt = 4 from by decide] at q4; have q5 := i32_ne hs80; rw [show (5 : Int32).toInt = 5 from by decide] at q5; omega) (by decide) ?_
  refine G_ldcS (q := 44) (tx := "2 > 1") gs_44 rfl dX12_test_188 ?_
  exact G_ret trivial dX12_test_190 rfl

theorem yn_X12_test : Yn yX12_test 3 := ⟨by decide +kernel, by decide +kernel, by decide +kernel⟩
theorem ct_X12_test (l : Launch) (N : Nat) (z : Nat → Nat) (v0 : Int32) (v1 : Int32) (v2 : Int32) : Ct l z yX12_test cX12_test 3 (some (.object "java/lang/String")) 8 enR [.int v0, .int v1, .int v2] (f_X12_test N z v0 v1 v2) :=
  Ct_r (fun x => G_lv0 (by simp only [lva_n, lva_i, lva_o, lva_r, lva_j]) (g_X12_test l N z v0 v1 v2 x)) (by decide +kernel) (by simp only [lgl_n, lgl_i, lgl_o, lgl_r, lgl_j]; decide)

theorem dX12_pass_0 : decode cX12_pass 0 = .ok (.aload_n 0, 1) := by decide +kernel
theorem dX12_pass_1 : decode cX12_pass 1 = .ok (.getfield 15, 3) := by decide +kernel
theorem dX12_pass_4 : decode cX12_pass 4 = .ok (.astore_n 1, 1) := by decide +kernel
theorem dX12_pass_5 : decode cX12_pass 5 = .ok (.aload_n 1, 1) := by decide +kernel
theorem dX12_pass_6 : decode cX12_pass 6 = .ok (.arraylength, 1) := by decide +kernel
theorem dX12_pass_7 : decode cX12_pass 7 = .ok (.istore_n 2, 1) := by decide +kernel
theorem dX12_pass_8 : decode cX12_pass 8 = .ok (.iconst 0, 1) := by decide +kernel
theorem dX12_pass_9 : decode cX12_pass 9 = .ok (.istore_n 3, 1) := by decide +kernel
theorem dX12_pass_10 : decode cX12_pass 10 = .ok (.iload_n 3, 1) := by decide +kernel
theorem dX12_pass_11 : decode cX12_pass 11 = .ok (.iload_n 2, 1) := by decide +kernel
theorem dX12_pass_12 : decode cX12_pass 12 = .ok (.if_icmp .ge 20, 3) := by decide +kernel
theorem dX12_pass_15 : decode cX12_pass 15 = .ok (.aload_n 1, 1) := by decide +kernel
theorem dX12_pass_16 : decode cX12_pass 16 = .ok (.iload_n 3, 1) := by decide +kernel
theorem dX12_pass_17 : decode cX12_pass 17 = .ok (.aaload, 1) := by decide +kernel
theorem dX12_pass_18 : decode cX12_pass 18 = .ok (.astore 4, 2) := by decide +kernel
theorem dX12_pass_20 : decode cX12_pass 20 = .ok (.aload 4, 2) := by decide +kernel
theorem dX12_pass_22 : decode cX12_pass 22 = .ok (.iconst 0, 1) := by decide +kernel
theorem dX12_pass_23 : decode cX12_pass 23 = .ok (.putfield 169, 3) := by decide +kernel
theorem dX12_pass_26 : decode cX12_pass 26 = .ok (.iinc 3 1, 3) := by decide +kernel
theorem dX12_pass_29 : decode cX12_pass 29 = .ok (.goto (-19), 3) := by decide +kernel
theorem dX12_pass_32 : decode cX12_pass 32 = .ok (.aload_n 0, 1) := by decide +kernel
theorem dX12_pass_33 : decode cX12_pass 33 = .ok (.getfield 25, 3) := by decide +kernel
theorem dX12_pass_36 : decode cX12_pass 36 = .ok (.astore_n 1, 1) := by decide +kernel
theorem dX12_pass_37 : decode cX12_pass 37 = .ok (.aload_n 1, 1) := by decide +kernel
theorem dX12_pass_38 : decode cX12_pass 38 = .ok (.arraylength, 1) := by decide +kernel
theorem dX12_pass_39 : decode cX12_pass 39 = .ok (.istore_n 2, 1) := by decide +kernel
theorem dX12_pass_40 : decode cX12_pass 40 = .ok (.iconst 0, 1) := by decide +kernel
theorem dX12_pass_41 : decode cX12_pass 41 = .ok (.istore_n 3, 1) := by decide +kernel
theorem dX12_pass_42 : decode cX12_pass 42 = .ok (.iload_n 3, 1) := by decide +kernel
theorem dX12_pass_43 : decode cX12_pass 43 = .ok (.iload_n 2, 1) := by decide +kernel
theorem dX12_pass_44 : decode cX12_pass 44 = .ok (.if_icmp .ge 235, 3) := by decide +kernel
theorem dX12_pass_47 : decode cX12_pass 47 = .ok (.aload_n 1, 1) := by decide +kernel
theorem dX12_pass_48 : decode cX12_pass 48 = .ok (.iload_n 3, 1) := by decide +kernel
theorem dX12_pass_49 : decode cX12_pass 49 = .ok (.aaload, 1) := by decide +kernel
theorem dX12_pass_50 : decode cX12_pass 50 = .ok (.astore 4, 2) := by decide +kernel
theorem dX12_pass_52 : decode cX12_pass 52 = .ok (.aload_n 0, 1) := by decide +kernel
theorem dX12_pass_53 : decode cX12_pass 53 = .ok (.aload 4, 2) := by decide +kernel
theorem dX12_pass_55 : decode cX12_pass 55 = .ok (.iconst 5, 1) := by decide +kernel
theorem dX12_pass_56 : decode cX12_pass 56 = .ok (.iaload, 1) := by decide +kernel
theorem dX12_pass_57 : decode cX12_pass 57 = .ok (.aload 4, 2) := by decide +kernel
theorem dX12_pass_59 : decode cX12_pass 59 = .ok (.bipush 6, 2) := by decide +kernel
theorem dX12_pass_61 : decode cX12_pass 61 = .ok (.iaload, 1) := by decide +kernel
theorem dX12_pass_62 : decode cX12_pass 62 = .ok (.aload 4, 2) := by decide +kernel
theorem dX12_pass_64 : decode cX12_pass 64 = .ok (.bipush 7, 2) := by decide +kernel
theorem dX12_pass_66 : decode cX12_pass 66 = .ok (.iaload, 1) := by decide +kernel
theorem dX12_pass_67 : decode cX12_pass 67 = .ok (.invokevirtual 172, 3) := by decide +kernel
theorem dX12_pass_70 : decode cX12_pass 70 = .ok (.ifCond .ne 6, 3) := by decide +kernel
theorem dX12_pass_73 : decode cX12_pass 73 = .ok (.goto 200, 3) := by decide +kernel
theorem dX12_pass_76 : decode cX12_pass 76 = .ok (.aload_n 0, 1) := by decide +kernel
theorem dX12_pass_77 : decode cX12_pass 77 = .ok (.getfield 15, 3) := by decide +kernel
theorem dX12_pass_80 : decode cX12_pass 80 = .ok (.aload 4, 2) := by decide +kernel
theorem dX12_pass_82 : decode cX12_pass 82 = .ok (.iconst 1, 1) := by decide +kernel
theorem dX12_pass_83 : decode cX12_pass 83 = .ok (.iaload, 1) := by decide +kernel
theorem dX12_pass_84 : decode cX12_pass 84 = .ok (.aaload, 1) := by decide +kernel
theorem dX12_pass_85 : decode cX12_pass 85 = .ok (.astore 5, 2) := by decide +kernel
theorem dX12_pass_87 : decode cX12_pass 87 = .ok (.aload 4, 2) := by decide +kernel
theorem dX12_pass_89 : decode cX12_pass 89 = .ok (.iconst 0, 1) := by decide +kernel
theorem dX12_pass_90 : decode cX12_pass 90 = .ok (.iaload, 1) := by decide +kernel
theorem dX12_pass_91 : decode cX12_pass 91 = .ok (.iconst 2, 1) := by decide +kernel
theorem dX12_pass_92 : decode cX12_pass 92 = .ok (.if_icmp .ne 7, 3) := by decide +kernel
theorem dX12_pass_95 : decode cX12_pass 95 = .ok (.iconst 0, 1) := by decide +kernel
theorem dX12_pass_96 : decode cX12_pass 96 = .ok (.goto 24, 3) := by decide +kernel
theorem dX12_pass_99 : decode cX12_pass 99 = .ok (.aload_n 0, 1) := by decide +kernel
theorem dX12_pass_100 : decode cX12_pass 100 = .ok (.aload 4, 2) := by decide +kernel
theorem dX12_pass_102 : decode cX12_pass 102 = .ok (.iconst 2, 1) := by decide +kernel
theorem dX12_pass_103 : decode cX12_pass 103 = .ok (.iaload, 1) := by decide +kernel
theorem dX12_pass_104 : decode cX12_pass 104 = .ok (.aload_n 0, 1) := by decide +kernel
theorem dX12_pass_105 : decode cX12_pass 105 = .ok (.getfield 15, 3) := by decide +kernel
theorem dX12_pass_108 : decode cX12_pass 108 = .ok (.aload 4, 2) := by decide +kernel
theorem dX12_pass_110 : decode cX12_pass 110 = .ok (.iconst 3, 1) := by decide +kernel
theorem dX12_pass_111 : decode cX12_pass 111 = .ok (.iaload, 1) := by decide +kernel
theorem dX12_pass_112 : decode cX12_pass 112 = .ok (.aaload, 1) := by decide +kernel
theorem dX12_pass_113 : decode cX12_pass 113 = .ok (.aload 4, 2) := by decide +kernel
theorem dX12_pass_115 : decode cX12_pass 115 = .ok (.iconst 4, 1) := by decide +kernel
theorem dX12_pass_116 : decode cX12_pass 116 = .ok (.iaload, 1) := by decide +kernel
theorem dX12_pass_117 : decode cX12_pass 117 = .ok (.invokevirtual 143, 3) := by decide +kernel
theorem dX12_pass_120 : decode cX12_pass 120 = .ok (.istore 6, 2) := by decide +kernel
theorem dX12_pass_122 : decode cX12_pass 122 = .ok (.iload 6, 2) := by decide +kernel
theorem dX12_pass_124 : decode cX12_pass 124 = .ok (.ifCond .ge 7, 3) := by decide +kernel
theorem dX12_pass_127 : decode cX12_pass 127 = .ok (.iconst 0, 1) := by decide +kernel
theorem dX12_pass_128 : decode cX12_pass 128 = .ok (.goto 17, 3) := by decide +kernel
theorem dX12_pass_131 : decode cX12_pass 131 = .ok (.iload 6, 2) := by decide +kernel
theorem dX12_pass_133 : decode cX12_pass 133 = .ok (.bipush 30, 2) := by decide +kernel
theorem dX12_pass_135 : decode cX12_pass 135 = .ok (.if_icmp .le 8, 3) := by decide +kernel
theorem dX12_pass_138 : decode cX12_pass 138 = .ok (.bipush 30, 2) := by decide +kernel
theorem dX12_pass_140 : decode cX12_pass 140 = .ok (.goto 5, 3) := by decide +kernel
theorem dX12_pass_143 : decode cX12_pass 143 = .ok (.iload 6, 2) := by decide +kernel
theorem dX12_pass_145 : decode cX12_pass 145 = .ok (.istore 6, 2) := by decide +kernel
theorem dX12_pass_147 : decode cX12_pass 147 = .ok (.aload 4, 2) := by decide +kernel
theorem dX12_pass_149 : decode cX12_pass 149 = .ok (.iconst 0, 1) := by decide +kernel
theorem dX12_pass_150 : decode cX12_pass 150 = .ok (.iaload, 1) := by decide +kernel
theorem dX12_pass_151 : decode cX12_pass 151 = .ok (.ifCond .ne 21, 3) := by decide +kernel
theorem dX12_pass_154 : decode cX12_pass 154 = .ok (.aload 5, 2) := by decide +kernel
theorem dX12_pass_156 : decode cX12_pass 156 = .ok (.getfield 53, 3) := by decide +kernel
theorem dX12_pass_159 : decode cX12_pass 159 = .ok (.iload 6, 2) := by decide +kernel
theorem dX12_pass_161 : decode cX12_pass 161 = .ok (.if_icmp .eq 7, 3) := by decide +kernel
theorem dX12_pass_164 : decode cX12_pass 164 = .ok (.iconst 1, 1) := by decide +kernel
theorem dX12_pass_165 : decode cX12_pass 165 = .ok (.goto 46, 3) := by decide +kernel
theorem dX12_pass_168 : decode cX12_pass 168 = .ok (.iconst 0, 1) := by decide +kernel
theorem dX12_pass_169 : decode cX12_pass 169 = .ok (.goto 42, 3) := by decide +kernel
theorem dX12_pass_172 : decode cX12_pass 172 = .ok (.aload 4, 2) := by decide +kernel
theorem dX12_pass_174 : decode cX12_pass 174 = .ok (.iconst 0, 1) := by decide +kernel
theorem dX12_pass_175 : decode cX12_pass 175 = .ok (.iaload, 1) := by decide +kernel
theorem dX12_pass_176 : decode cX12_pass 176 = .ok (.iconst 1, 1) := by decide +kernel
theorem dX12_pass_177 : decode cX12_pass 177 = .ok (.if_icmp .ne 21, 3) := by decide +kernel
theorem dX12_pass_180 : decode cX12_pass 180 = .ok (.aload 5, 2) := by decide +kernel
theorem dX12_pass_182 : decode cX12_pass 182 = .ok (.getfield 56, 3) := by decide +kernel
theorem dX12_pass_185 : decode cX12_pass 185 = .ok (.iload 6, 2) := by decide +kernel
theorem dX12_pass_187 : decode cX12_pass 187 = .ok (.if_icmp .eq 7, 3) := by decide +kernel
theorem dX12_pass_190 : decode cX12_pass 190 = .ok (.iconst 1, 1) := by decide +kernel
theorem dX12_pass_191 : decode cX12_pass 191 = .ok (.goto 20, 3) := by decide +kernel
theorem dX12_pass_194 : decode cX12_pass 194 = .ok (.iconst 0, 1) := by decide +kernel
theorem dX12_pass_195 : decode cX12_pass 195 = .ok (.goto 16, 3) := by decide +kernel
theorem dX12_pass_198 : decode cX12_pass 198 = .ok (.aload 5, 2) := by decide +kernel
theorem dX12_pass_200 : decode cX12_pass 200 = .ok (.getfield 169, 3) := by decide +kernel
theorem dX12_pass_203 : decode cX12_pass 203 = .ok (.ifCond .ne 7, 3) := by decide +kernel
theorem dX12_pass_206 : decode cX12_pass 206 = .ok (.iconst 1, 1) := by decide +kernel
theorem dX12_pass_207 : decode cX12_pass 207 = .ok (.goto 4, 3) := by decide +kernel
theorem dX12_pass_210 : decode cX12_pass 210 = .ok (.iconst 0, 1) := by decide +kernel
theorem dX12_pass_211 : decode cX12_pass 211 = .ok (.istore 7, 2) := by decide +kernel
theorem dX12_pass_213 : decode cX12_pass 213 = .ok (.aload 4, 2) := by decide +kernel
theorem dX12_pass_215 : decode cX12_pass 215 = .ok (.iconst 0, 1) := by decide +kernel
theorem dX12_pass_216 : decode cX12_pass 216 = .ok (.iaload, 1) := by decide +kernel
theorem dX12_pass_217 : decode cX12_pass 217 = .ok (.ifCond .ne 13, 3) := by decide +kernel
theorem dX12_pass_220 : decode cX12_pass 220 = .ok (.aload 5, 2) := by decide +kernel
theorem dX12_pass_222 : decode cX12_pass 222 = .ok (.iload 6, 2) := by decide +kernel
theorem dX12_pass_224 : decode cX12_pass 224 = .ok (.putfield 53, 3) := by decide +kernel
theorem dX12_pass_227 : decode cX12_pass 227 = .ok (.goto 27, 3) := by decide +kernel
theorem dX12_pass_230 : decode cX12_pass 230 = .ok (.aload 4, 2) := by decide +kernel
theorem dX12_pass_232 : decode cX12_pass 232 = .ok (.iconst 0, 1) := by decide +kernel
theorem dX12_pass_233 : decode cX12_pass 233 = .ok (.iaload, 1) := by decide +kernel
theorem dX12_pass_234 : decode cX12_pass 234 = .ok (.iconst 1, 1) := by decide +kernel
theorem dX12_pass_235 : decode cX12_pass 235 = .ok (.if_icmp .ne 13, 3) := by decide +kernel
theorem dX12_pass_238 : decode cX12_pass 238 = .ok (.aload 5, 2) := by decide +kernel
theorem dX12_pass_240 : decode cX12_pass 240 = .ok (.iload 6, 2) := by decide +kernel
theorem dX12_pass_242 : decode cX12_pass 242 = .ok (.putfield 56, 3) := by decide +kernel
theorem dX12_pass_245 : decode cX12_pass 245 = .ok (.goto 9, 3) := by decide +kernel
theorem dX12_pass_248 : decode cX12_pass 248 = .ok (.aload 5, 2) := by decide +kernel
theorem dX12_pass_250 : decode cX12_pass 250 = .ok (.iconst 1, 1) := by decide +kernel
theorem dX12_pass_251 : decode cX12_pass 251 = .ok (.putfield 169, 3) := by decide +kernel
theorem dX12_pass_254 : decode cX12_pass 254 = .ok (.aload_n 0, 1) := by decide +kernel
theorem dX12_pass_255 : decode cX12_pass 255 = .ok (.dup, 1) := by decide +kernel
theorem dX12_pass_256 : decode cX12_pass 256 = .ok (.getfield 35, 3) := by decide +kernel
theorem dX12_pass_259 : decode cX12_pass 259 = .ok (.iload 7, 2) := by decide +kernel
theorem dX12_pass_261 : decode cX12_pass 261 = .ok (.ifCond .eq 7, 3) := by decide +kernel
theorem dX12_pass_264 : decode cX12_pass 264 = .ok (.iconst 1, 1) := by decide +kernel
theorem dX12_pass_265 : decode cX12_pass 265 = .ok (.goto 4, 3) := by decide +kernel
theorem dX12_pass_268 : decode cX12_pass 268 = .ok (.iconst 0, 1) := by decide +kernel
theorem dX12_pass_269 : decode cX12_pass 269 = .ok (.iadd, 1) := by decide +kernel
theorem dX12_pass_270 : decode cX12_pass 270 = .ok (.putfield 35, 3) := by decide +kernel
theorem dX12_pass_273 : decode cX12_pass 273 = .ok (.iinc 3 1, 3) := by decide +kernel
theorem dX12_pass_276 : decode cX12_pass 276 = .ok (.goto (-234), 3) := by decide +kernel
theorem dX12_pass_279 : decode cX12_pass 279 = .ok (.aload_n 0, 1) := by decide +kernel
theorem dX12_pass_280 : decode cX12_pass 280 = .ok (.getfield 21, 3) := by decide +kernel
theorem dX12_pass_283 : decode cX12_pass 283 = .ok (.astore_n 1, 1) := by decide +kernel
theorem dX12_pass_284 : decode cX12_pass 284 = .ok (.aload_n 1, 1) := by decide +kernel
theorem dX12_pass_285 : decode cX12_pass 285 = .ok (.arraylength, 1) := by decide +kernel
theorem dX12_pass_286 : decode cX12_pass 286 = .ok (.istore_n 2, 1) := by decide +kernel
theorem dX12_pass_287 : decode cX12_pass 287 = .ok (.iconst 0, 1) := by decide +kernel
theorem dX12_pass_288 : decode cX12_pass 288 = .ok (.istore_n 3, 1) := by decide +kernel
theorem dX12_pass_289 : decode cX12_pass 289 = .ok (.iload_n 3, 1) := by decide +kernel
theorem dX12_pass_290 : decode cX12_pass 290 = .ok (.iload_n 2, 1) := by decide +kernel
theorem dX12_pass_291 : decode cX12_pass 291 = .ok (.if_icmp .ge 74, 3) := by decide +kernel
theorem dX12_pass_294 : decode cX12_pass 294 = .ok (.aload_n 1, 1) := by decide +kernel
theorem dX12_pass_295 : decode cX12_pass 295 = .ok (.iload_n 3, 1) := by decide +kernel
theorem dX12_pass_296 : decode cX12_pass 296 = .ok (.aaload, 1) := by decide +kernel
theorem dX12_pass_297 : decode cX12_pass 297 = .ok (.astore 4, 2) := by decide +kernel
theorem dX12_pass_299 : decode cX12_pass 299 = .ok (.aload_n 0, 1) := by decide +kernel
theorem dX12_pass_300 : decode cX12_pass 300 = .ok (.getfield 29, 3) := by decide +kernel
theorem dX12_pass_303 : decode cX12_pass 303 = .ok (.aload 4, 2) := by decide +kernel
theorem dX12_pass_305 : decode cX12_pass 305 = .ok (.iconst 3, 1) := by decide +kernel
theorem dX12_pass_306 : decode cX12_pass 306 = .ok (.iaload, 1) := by decide +kernel
theorem dX12_pass_307 : decode cX12_pass 307 = .ok (.if_icmp .lt 52, 3) := by decide +kernel
theorem dX12_pass_310 : decode cX12_pass 310 = .ok (.aload_n 0, 1) := by decide +kernel
theorem dX12_pass_311 : decode cX12_pass 311 = .ok (.getfield 29, 3) := by decide +kernel
theorem dX12_pass_314 : decode cX12_pass 314 = .ok (.aload 4, 2) := by decide +kernel
theorem dX12_pass_316 : decode cX12_pass 316 = .ok (.iconst 3, 1) := by decide +kernel
theorem dX12_pass_317 : decode cX12_pass 317 = .ok (.iaload, 1) := by decide +kernel
theorem dX12_pass_318 : decode cX12_pass 318 = .ok (.isub, 1) := by decide +kernel
theorem dX12_pass_319 : decode cX12_pass 319 = .ok (.aload 4, 2) := by decide +kernel
theorem dX12_pass_321 : decode cX12_pass 321 = .ok (.iconst 2, 1) := by decide +kernel
theorem dX12_pass_322 : decode cX12_pass 322 = .ok (.iaload, 1) := by decide +kernel
theorem dX12_pass_323 : decode cX12_pass 323 = .ok (.irem, 1) := by decide +kernel
theorem dX12_pass_324 : decode cX12_pass 324 = .ok (.ifCond .le 6, 3) := by decide +kernel
theorem dX12_pass_327 : decode cX12_pass 327 = .ok (.goto 32, 3) := by decide +kernel
theorem dX12_pass_330 : decode cX12_pass 330 = .ok (.aload_n 0, 1) := by decide +kernel
theorem dX12_pass_331 : decode cX12_pass 331 = .ok (.aload_n 0, 1) := by decide +kernel
theorem dX12_pass_332 : decode cX12_pass 332 = .ok (.getfield 15, 3) := by decide +kernel
theorem dX12_pass_335 : decode cX12_pass 335 = .ok (.aload 4, 2) := by decide +kernel
theorem dX12_pass_337 : decode cX12_pass 337 = .ok (.iconst 0, 1) := by decide +kernel
theorem dX12_pass_338 : decode cX12_pass 338 = .ok (.iaload, 1) := by decide +kernel
theorem dX12_pass_339 : decode cX12_pass 339 = .ok (.aaload, 1) := by decide +kernel
theorem dX12_pass_340 : decode cX12_pass 340 = .ok (.aload 4, 2) := by decide +kernel
theorem dX12_pass_342 : decode cX12_pass 342 = .ok (.iconst 1, 1) := by decide +kernel
theorem dX12_pass_343 : decode cX12_pass 343 = .ok (.iaload, 1) := by decide +kernel
theorem dX12_pass_344 : decode cX12_pass 344 = .ok (.invokevirtual 175, 3) := by decide +kernel
theorem dX12_pass_347 : decode cX12_pass 347 = .ok (.pop, 1) := by decide +kernel
theorem dX12_pass_348 : decode cX12_pass 348 = .ok (.aload 4, 2) := by decide +kernel
theorem dX12_pass_350 : decode cX12_pass 350 = .ok (.iconst 4, 1) := by decide +kernel
theorem dX12_pass_351 : decode cX12_pass 351 = .ok (.dup2, 1) := by decide +kernel
theorem dX12_pass_352 : decode cX12_pass 352 = .ok (.iaload, 1) := by decide +kernel
theorem dX12_pass_353 : decode cX12_pass 353 = .ok (.aload 4, 2) := by decide +kernel
theorem dX12_pass_355 : decode cX12_pass 355 = .ok (.iconst 1, 1) := by decide +kernel
theorem dX12_pass_356 : decode cX12_pass 356 = .ok (.iaload, 1) := by decide +kernel
theorem dX12_pass_357 : decode cX12_pass 357 = .ok (.iadd, 1) := by decide +kernel
theorem dX12_pass_358 : decode cX12_pass 358 = .ok (.iastore, 1) := by decide +kernel
theorem dX12_pass_359 : decode cX12_pass 359 = .ok (.iinc 3 1, 3) := by decide +kernel
theorem dX12_pass_362 : decode cX12_pass 362 = .ok (.goto (-73), 3) := by decide +kernel
theorem dX12_pass_365 : decode cX12_pass 365 = .ok (.aload_n 0, 1) := by decide +kernel
theorem dX12_pass_366 : decode cX12_pass 366 = .ok (.getfield 15, 3) := by decide +kernel
theorem dX12_pass_369 : decode cX12_pass 369 = .ok (.astore_n 1, 1) := by decide +kernel
theorem dX12_pass_370 : decode cX12_pass 370 = .ok (.aload_n 1, 1) := by decide +kernel
theorem dX12_pass_371 : decode cX12_pass 371 = .ok (.arraylength, 1) := by decide +kernel
theorem dX12_pass_372 : decode cX12_pass 372 = .ok (.istore_n 2, 1) := by decide +kernel
theorem dX12_pass_373 : decode cX12_pass 373 = .ok (.iconst 0, 1) := by decide +kernel
theorem dX12_pass_374 : decode cX12_pass 374 = .ok (.istore_n 3, 1) := by decide +kernel
theorem dX12_pass_375 : decode cX12_pass 375 = .ok (.iload_n 3, 1) := by decide +kernel
theorem dX12_pass_376 : decode cX12_pass 376 = .ok (.iload_n 2, 1) := by decide +kernel
theorem dX12_pass_377 : decode cX12_pass 377 = .ok (.if_icmp .ge 69, 3) := by decide +kernel
theorem dX12_pass_380 : decode cX12_pass 380 = .ok (.aload_n 1, 1) := by decide +kernel
theorem dX12_pass_381 : decode cX12_pass 381 = .ok (.iload_n 3, 1) := by decide +kernel
theorem dX12_pass_382 : decode cX12_pass 382 = .ok (.aaload, 1) := by decide +kernel
theorem dX12_pass_383 : decode cX12_pass 383 = .ok (.astore 4, 2) := by decide +kernel
theorem dX12_pass_385 : decode cX12_pass 385 = .ok (.aload 4, 2) := by decide +kernel
theorem dX12_pass_387 : decode cX12_pass 387 = .ok (.aload 4, 2) := by decide +kernel
theorem dX12_pass_389 : decode cX12_pass 389 = .ok (.getfield 65, 3) := by decide +kernel
theorem dX12_pass_392 : decode cX12_pass 392 = .ok (.aload 4, 2) := by decide +kernel
theorem dX12_pass_394 : decode cX12_pass 394 = .ok (.getfield 53, 3) := by decide +kernel
theorem dX12_pass_397 : decode cX12_pass 397 = .ok (.iadd, 1) := by decide +kernel
theorem dX12_pass_398 : decode cX12_pass 398 = .ok (.aload 4, 2) := by decide +kernel
theorem dX12_pass_400 : decode cX12_pass 400 = .ok (.getfield 59, 3) := by decide +kernel
theorem dX12_pass_403 : decode cX12_pass 403 = .ok (.if_icmp .le 11, 3) := by decide +kernel
theorem dX12_pass_406 : decode cX12_pass 406 = .ok (.aload 4, 2) := by decide +kernel
theorem dX12_pass_408 : decode cX12_pass 408 = .ok (.getfield 59, 3) := by decide +kernel
theorem dX12_pass_411 : decode cX12_pass 411 = .ok (.goto 14, 3) := by decide +kernel
theorem dX12_pass_414 : decode cX12_pass 414 = .ok (.aload 4, 2) := by decide +kernel
theorem dX12_pass_416 : decode cX12_pass 416 = .ok (.getfield 65, 3) := by decide +kernel
theorem dX12_pass_419 : decode cX12_pass 419 = .ok (.aload 4, 2) := by decide +kernel
theorem dX12_pass_421 : decode cX12_pass 421 = .ok (.getfield 53, 3) := by decide +kernel
theorem dX12_pass_424 : decode cX12_pass 424 = .ok (.iadd, 1) := by decide +kernel
theorem dX12_pass_425 : decode cX12_pass 425 = .ok (.putfield 65, 3) := by decide +kernel
theorem dX12_pass_428 : decode cX12_pass 428 = .ok (.aload 4, 2) := by decide +kernel
theorem dX12_pass_430 : decode cX12_pass 430 = .ok (.iconst 0, 1) := by decide +kernel
theorem dX12_pass_431 : decode cX12_pass 431 = .ok (.putfield 179, 3) := by decide +kernel
theorem dX12_pass_434 : decode cX12_pass 434 = .ok (.aload 4, 2) := by decide +kernel
theorem dX12_pass_436 : decode cX12_pass 436 = .ok (.iconst 0, 1) := by decide +kernel
theorem dX12_pass_437 : decode cX12_pass 437 = .ok (.putfield 182, 3) := by decide +kernel
theorem dX12_pass_440 : decode cX12_pass 440 = .ok (.iinc 3 1, 3) := by decide +kernel
theorem dX12_pass_443 : decode cX12_pass 443 = .ok (.goto (-68), 3) := by decide +kernel
theorem dX12_pass_446 : decode cX12_pass 446 = .ok (.aload_n 0, 1) := by decide +kernel
theorem dX12_pass_447 : decode cX12_pass 447 = .ok (.getfield 7, 3) := by decide +kernel
theorem dX12_pass_450 : decode cX12_pass 450 = .ok (.istore_n 1, 1) := by decide +kernel
theorem dX12_pass_451 : decode cX12_pass 451 = .ok (.iload_n 1, 1) := by decide +kernel
theorem dX12_pass_452 : decode cX12_pass 452 = .ok (.ifCond .le 189, 3) := by decide +kernel
theorem dX12_pass_455 : decode cX12_pass 455 = .ok (.aconst_null, 1) := by decide +kernel
theorem dX12_pass_456 : decode cX12_pass 456 = .ok (.astore_n 2, 1) := by decide +kernel
theorem dX12_pass_457 : decode cX12_pass 457 = .ok (.aload_n 0, 1) := by decide +kernel
theorem dX12_pass_458 : decode cX12_pass 458 = .ok (.getfield 15, 3) := by decide +kernel
theorem dX12_pass_461 : decode cX12_pass 461 = .ok (.astore_n 3, 1) := by decide +kernel
theorem dX12_pass_462 : decode cX12_pass 462 = .ok (.aload_n 3, 1) := by decide +kernel
theorem dX12_pass_463 : decode cX12_pass 463 = .ok (.arraylength, 1) := by decide +kernel
theorem dX12_pass_464 : decode cX12_pass 464 = .ok (.istore 4, 2) := by decide +kernel
theorem dX12_pass_466 : decode cX12_pass 466 = .ok (.iconst 0, 1) := by decide +kernel
theorem dX12_pass_467 : decode cX12_pass 467 = .ok (.istore 5, 2) := by decide +kernel
theorem dX12_pass_469 : decode cX12_pass 469 = .ok (.iload 5, 2) := by decide +kernel
theorem dX12_pass_471 : decode cX12_pass 471 = .ok (.iload 4, 2) := by decide +kernel
theorem dX12_pass_473 : decode cX12_pass 473 = .ok (.if_icmp .ge 42, 3) := by decide +kernel
theorem dX12_pass_476 : decode cX12_pass 476 = .ok (.aload_n 3, 1) := by decide +kernel
theorem dX12_pass_477 : decode cX12_pass 477 = .ok (.iload 5, 2) := by decide +kernel
theorem dX12_pass_479 : decode cX12_pass 479 = .ok (.aaload, 1) := by decide +kernel
theorem dX12_pass_480 : decode cX12_pass 480 = .ok (.astore 6, 2) := by decide +kernel
theorem dX12_pass_482 : decode cX12_pass 482 = .ok (.aload 6, 2) := by decide +kernel
theorem dX12_pass_484 : decode cX12_pass 484 = .ok (.invokevirtual 185, 3) := by decide +kernel
theorem dX12_pass_487 : decode cX12_pass 487 = .ok (.ifCond .eq 22, 3) := by decide +kernel
theorem dX12_pass_490 : decode cX12_pass 490 = .ok (.aload_n 2, 1) := by decide +kernel
theorem dX12_pass_491 : decode cX12_pass 491 = .ok (.ifnull 15, 3) := by decide +kernel
theorem dX12_pass_494 : decode cX12_pass 494 = .ok (.aload 6, 2) := by decide +kernel
theorem dX12_pass_496 : decode cX12_pass 496 = .ok (.invokevirtual 189, 3) := by decide +kernel
theorem dX12_pass_499 : decode cX12_pass 499 = .ok (.aload_n 2, 1) := by decide +kernel
theorem dX12_pass_500 : decode cX12_pass 500 = .ok (.invokevirtual 189, 3) := by decide +kernel
theorem dX12_pass_503 : decode cX12_pass 503 = .ok (.if_icmp .ge 6, 3) := by decide +kernel
theorem dX12_pass_506 : decode cX12_pass 506 = .ok (.aload 6, 2) := by decide +kernel
theorem dX12_pass_508 : decode cX12_pass 508 = .ok (.astore_n 2, 1) := by decide +kernel
theorem dX12_pass_509 : decode cX12_pass 509 = .ok (.iinc 5 1, 3) := by decide +kernel
theorem dX12_pass_512 : decode cX12_pass 512 = .ok (.goto (-43), 3) := by decide +kernel
theorem dX12_pass_515 : decode cX12_pass 515 = .ok (.aload_n 2, 1) := by decide +kernel
theorem dX12_pass_516 : decode cX12_pass 516 = .ok (.ifnonnull 6, 3) := by decide +kernel
theorem dX12_pass_519 : decode cX12_pass 519 = .ok (.goto 122, 3) := by decide +kernel
theorem dX12_pass_522 : decode cX12_pass 522 = .ok (.aload_n 2, 1) := by decide +kernel
theorem dX12_pass_523 : decode cX12_pass 523 = .ok (.invokevirtual 193, 3) := by decide +kernel
theorem dX12_pass_526 : decode cX12_pass 526 = .ok (.astore_n 3, 1) := by decide +kernel
theorem dX12_pass_527 : decode cX12_pass 527 = .ok (.aload_n 3, 1) := by decide +kernel
theorem dX12_pass_528 : decode cX12_pass 528 = .ok (.dup, 1) := by decide +kernel
theorem dX12_pass_529 : decode cX12_pass 529 = .ok (.getfield 65, 3) := by decide +kernel
theorem dX12_pass_532 : decode cX12_pass 532 = .ok (.iconst 1, 1) := by decide +kernel
theorem dX12_pass_533 : decode cX12_pass 533 = .ok (.isub, 1) := by decide +kernel
theorem dX12_pass_534 : decode cX12_pass 534 = .ok (.putfield 65, 3) := by decide +kernel
theorem dX12_pass_537 : decode cX12_pass 537 = .ok (.aload_n 3, 1) := by decide +kernel
theorem dX12_pass_538 : decode cX12_pass 538 = .ok (.aload_n 2, 1) := by decide +kernel
theorem dX12_pass_539 : decode cX12_pass 539 = .ok (.if_acmp .eq 23, 3) := by decide +kernel
theorem dX12_pass_542 : decode cX12_pass 542 = .ok (.aload_n 3, 1) := by decide +kernel
theorem dX12_pass_543 : decode cX12_pass 543 = .ok (.dup, 1) := by decide +kernel
theorem dX12_pass_544 : decode cX12_pass 544 = .ok (.getfield 87, 3) := by decide +kernel
theorem dX12_pass_547 : decode cX12_pass 547 = .ok (.iconst 1, 1) := by decide +kernel
theorem dX12_pass_548 : decode cX12_pass 548 = .ok (.iadd, 1) := by decide +kernel
theorem dX12_pass_549 : decode cX12_pass 549 = .ok (.putfield 87, 3) := by decide +kernel
theorem dX12_pass_552 : decode cX12_pass 552 = .ok (.aload_n 2, 1) := by decide +kernel
theorem dX12_pass_553 : decode cX12_pass 553 = .ok (.dup, 1) := by decide +kernel
theorem dX12_pass_554 : decode cX12_pass 554 = .ok (.getfield 90, 3) := by decide +kernel
theorem dX12_pass_557 : decode cX12_pass 557 = .ok (.iconst 1, 1) := by decide +kernel
theorem dX12_pass_558 : decode cX12_pass 558 = .ok (.iadd, 1) := by decide +kernel
theorem dX12_pass_559 : decode cX12_pass 559 = .ok (.putfield 90, 3) := by decide +kernel
theorem dX12_pass_562 : decode cX12_pass 562 = .ok (.aload_n 2, 1) := by decide +kernel
theorem dX12_pass_563 : decode cX12_pass 563 = .ok (.dup, 1) := by decide +kernel
theorem dX12_pass_564 : decode cX12_pass 564 = .ok (.getfield 93, 3) := by decide +kernel
theorem dX12_pass_567 : decode cX12_pass 567 = .ok (.aload_n 0, 1) := by decide +kernel
theorem dX12_pass_568 : decode cX12_pass 568 = .ok (.getfield 29, 3) := by decide +kernel
theorem dX12_pass_571 : decode cX12_pass 571 = .ok (.aload_n 2, 1) := by decide +kernel
theorem dX12_pass_572 : decode cX12_pass 572 = .ok (.getfield 78, 3) := by decide +kernel
theorem dX12_pass_575 : decode cX12_pass 575 = .ok (.iconst 0, 1) := by decide +kernel
theorem dX12_pass_576 : decode cX12_pass 576 = .ok (.iaload, 1) := by decide +kernel
theorem dX12_pass_577 : decode cX12_pass 577 = .ok (.isub, 1) := by decide +kernel
theorem dX12_pass_578 : decode cX12_pass 578 = .ok (.iadd, 1) := by decide +kernel
theorem dX12_pass_579 : decode cX12_pass 579 = .ok (.putfield 93, 3) := by decide +kernel
theorem dX12_pass_582 : decode cX12_pass 582 = .ok (.aload_n 2, 1) := by decide +kernel
theorem dX12_pass_583 : decode cX12_pass 583 = .ok (.invokevirtual 96, 3) := by decide +kernel
theorem dX12_pass_586 : decode cX12_pass 586 = .ok (.aload_n 2, 1) := by decide +kernel
theorem dX12_pass_587 : decode cX12_pass 587 = .ok (.dup, 1) := by decide +kernel
theorem dX12_pass_588 : decode cX12_pass 588 = .ok (.getfield 81, 3) := by decide +kernel
theorem dX12_pass_591 : decode cX12_pass 591 = .ok (.iconst 1, 1) := by decide +kernel
theorem dX12_pass_592 : decode cX12_pass 592 = .ok (.iadd, 1) := by decide +kernel
theorem dX12_pass_593 : decode cX12_pass 593 = .ok (.putfield 81, 3) := by decide +kernel
theorem dX12_pass_596 : decode cX12_pass 596 = .ok (.aload_n 2, 1) := by decide +kernel
theorem dX12_pass_597 : decode cX12_pass 597 = .ok (.dup, 1) := by decide +kernel
theorem dX12_pass_598 : decode cX12_pass 598 = .ok (.getfield 179, 3) := by decide +kernel
theorem dX12_pass_601 : decode cX12_pass 601 = .ok (.iconst 1, 1) := by decide +kernel
theorem dX12_pass_602 : decode cX12_pass 602 = .ok (.iadd, 1) := by decide +kernel
theorem dX12_pass_603 : decode cX12_pass 603 = .ok (.putfield 179, 3) := by decide +kernel
theorem dX12_pass_606 : decode cX12_pass 606 = .ok (.aload_n 2, 1) := by decide +kernel
theorem dX12_pass_607 : decode cX12_pass 607 = .ok (.astore 4, 2) := by decide +kernel
theorem dX12_pass_609 : decode cX12_pass 609 = .ok (.aload 4, 2) := by decide +kernel
theorem dX12_pass_611 : decode cX12_pass 611 = .ok (.ifnull 24, 3) := by decide +kernel
theorem dX12_pass_614 : decode cX12_pass 614 = .ok (.aload 4, 2) := by decide +kernel
theorem dX12_pass_616 : decode cX12_pass 616 = .ok (.dup, 1) := by decide +kernel
theorem dX12_pass_617 : decode cX12_pass 617 = .ok (.getfield 182, 3) := by decide +kernel
theorem dX12_pass_620 : decode cX12_pass 620 = .ok (.iconst 1, 1) := by decide +kernel
theorem dX12_pass_621 : decode cX12_pass 621 = .ok (.iadd, 1) := by decide +kernel
theorem dX12_pass_622 : decode cX12_pass 622 = .ok (.putfield 182, 3) := by decide +kernel
theorem dX12_pass_625 : decode cX12_pass 625 = .ok (.aload 4, 2) := by decide +kernel
theorem dX12_pass_627 : decode cX12_pass 627 = .ok (.getfield 46, 3) := by decide +kernel
theorem dX12_pass_630 : decode cX12_pass 630 = .ok (.astore 4, 2) := by decide +kernel
theorem dX12_pass_632 : decode cX12_pass 632 = .ok (.goto (-23), 3) := by decide +kernel
theorem dX12_pass_635 : decode cX12_pass 635 = .ok (.iinc 1 (-1), 3) := by decide +kernel
theorem dX12_pass_638 : decode cX12_pass 638 = .ok (.goto (-187), 3) := by decide +kernel
theorem dX12_pass_641 : decode cX12_pass 641 = .ok (.aload_n 0, 1) := by decide +kernel
theorem dX12_pass_642 : decode cX12_pass 642 = .ok (.iload_n 1, 1) := by decide +kernel
theorem dX12_pass_643 : decode cX12_pass 643 = .ok (.putfield 38, 3) := by decide +kernel
theorem dX12_pass_646 : decode cX12_pass 646 = .ok (.aload_n 0, 1) := by decide +kernel
theorem dX12_pass_647 : decode cX12_pass 647 = .ok (.dup, 1) := by decide +kernel
theorem dX12_pass_648 : decode cX12_pass 648 = .ok (.getfield 29, 3) := by decide +kernel
theorem dX12_pass_651 : decode cX12_pass 651 = .ok (.iconst 1, 1) := by decide +kernel
theorem dX12_pass_652 : decode cX12_pass 652 = .ok (.iadd, 1) := by decide +kernel
theorem dX12_pass_653 : decode cX12_pass 653 = .ok (.putfield 29, 3) := by decide +kernel
theorem dX12_pass_656 : decode cX12_pass 656 = .ok (.aload_n 0, 1) := by decide +kernel
theorem dX12_pass_657 : decode cX12_pass 657 = .ok (.getfield 15, 3) := by decide +kernel
theorem dX12_pass_660 : decode cX12_pass 660 = .ok (.astore_n 2, 1) := by decide +kernel
theorem dX12_pass_661 : decode cX12_pass 661 = .ok (.aload_n 2, 1) := by decide +kernel
theorem dX12_pass_662 : decode cX12_pass 662 = .ok (.arraylength, 1) := by decide +kernel
theorem dX12_pass_663 : decode cX12_pass 663 = .ok (.istore_n 3, 1) := by decide +kernel
theorem dX12_pass_664 : decode cX12_pass 664 = .ok (.iconst 0, 1) := by decide +kernel
theorem dX12_pass_665 : decode cX12_pass 665 = .ok (.istore 4, 2) := by decide +kernel
theorem dX12_pass_667 : decode cX12_pass 667 = .ok (.iload 4, 2) := by decide +kernel
theorem dX12_pass_669 : decode cX12_pass 669 = .ok (.iload_n 3, 1) := by decide +kernel
theorem dX12_pass_670 : decode cX12_pass 670 = .ok (.if_icmp .ge 21, 3) := by decide +kernel
theorem dX12_pass_673 : decode cX12_pass 673 = .ok (.aload_n 2, 1) := by decide +kernel
theorem dX12_pass_674 : decode cX12_pass 674 = .ok (.iload 4, 2) := by decide +kernel
theorem dX12_pass_676 : decode cX12_pass 676 = .ok (.aaload, 1) := by decide +kernel
theorem dX12_pass_677 : decode cX12_pass 677 = .ok (.astore 5, 2) := by decide +kernel
theorem dX12_pass_679 : decode cX12_pass 679 = .ok (.aload 5, 2) := by decide +kernel
theorem dX12_pass_681 : decode cX12_pass 681 = .ok (.iconst 0, 1) := by decide +kernel
theorem dX12_pass_682 : decode cX12_pass 682 = .ok (.putfield 169, 3) := by decide +kernel
theorem dX12_pass_685 : decode cX12_pass 685 = .ok (.iinc 4 1, 3) := by decide +kernel
theorem dX12_pass_688 : decode cX12_pass 688 = .ok (.goto (-21), 3) := by decide +kernel
theorem dX12_pass_691 : decode cX12_pass 691 = .ok (.return_, 1) := by decide +kernel
abbrev m_X12_pass : Mt := (cX12_pass, RX12, "pass", 8, .return_, 4)
def f_X12_pass_b273 (N : Nat) (z : Nat → Nat) (k42 : Nat → Option Nat → Int32 → Int32 → Hp → Option (Unit × Hp)) (o : Nat) (v1 : Option Nat) (v2 : Int32) (v3 : Int32) (x0 : Hp) : Option (Unit × Hp) :=
  k42 o v1 v2 (v3 + (1 : Int32)) x0
def f_X12_pass_b269 (N : Nat) (z : Nat → Nat) (k42 : Nat → Option Nat → Int32 → Int32 → Hp → Option (Unit × Hp)) (o : Nat) (v1 : Option Nat) (v2 : Int32) (v3 : Int32) (s0 : Int32) (s1 : Int32) (s2 : Option Nat) (x0 : Hp) : Option (Unit × Hp) :=
  puti s2 x0 15 283 (s1 + s0) fun x1 =>
  f_X12_pass_b273 N z k42 o v1 v2 v3 x1
def f_X12_pass_b254 (N : Nat) (z : Nat → Nat) (k42 : Nat → Option Nat → Int32 → Int32 → Hp → Option (Unit × Hp)) (o : Nat) (v1 : Option Nat) (v2 : Int32) (v3 : Int32) (v7 : Int32) (x0 : Hp) : Option (Unit × Hp) :=
  geti (some o) x0 15 283 fun i2 =>
  if v7 = 0 then (f_X12_pass_b269 N z k42 o v1 v2 v3 (0 : Int32) i2 (some o) x0) else (f_X12_pass_b269 N z k42 o v1 v2 v3 (1 : Int32) i2 (some o) x0)
def f_X12_pass_b211 (N : Nat) (z : Nat → Nat) (k42 : Nat → Option Nat → Int32 → Int32 → Hp → Option (Unit × Hp)) (o : Nat) (v1 : Option Nat) (v2 : Int32) (v3 : Int32) (v4 : Option Nat) (v5 : Option Nat) (v6 : Int32) (s0 : Int32) (x0 : Hp) : Option (Unit × Hp) :=
  aldi v4 x0 101 (0 : Int32) fun i3 =>
  if i3 = 0 then (puti v5 x0 14 262 v6 fun x7 =>
  f_X12_pass_b254 N z k42 o v1 v2 v3 s0 x7) else (aldi v4 x0 101 (0 : Int32) fun i4 =>
  if i4 = (1 : Int32) then (puti v5 x0 14 263 v6 fun x6 =>
  f_X12_pass_b254 N z k42 o v1 v2 v3 s0 x6) else (puti v5 x0 14 276 (1 : Int32) fun x5 =>
  f_X12_pass_b254 N z k42 o v1 v2 v3 s0 x5))
def f_X12_pass_b145 (N : Nat) (z : Nat → Nat) (k42 : Nat → Option Nat → Int32 → Int32 → Hp → Option (Unit × Hp)) (o : Nat) (v1 : Option Nat) (v2 : Int32) (v3 : Int32) (v4 : Option Nat) (v5 : Option Nat) (s0 : Int32) (x0 : Hp) : Option (Unit × Hp) :=
  aldi v4 x0 101 (0 : Int32) fun i8 =>
  if i8 = 0 then (geti v5 x0 14 262 fun i12 =>
  if i12 = s0 then (f_X12_pass_b211 N z k42 o v1 v2 v3 v4 v5 s0 (0 : Int32) x0) else (f_X12_pass_b211 N z k42 o v1 v2 v3 v4 v5 s0 (1 : Int32) x0)) else (aldi v4 x0 101 (0 : Int32) fun i9 =>
  if i9 = (1 : Int32) then (geti v5 x0 14 263 fun i11 =>
  if i11 = s0 then (f_X12_pass_b211 N z k42 o v1 v2 v3 v4 v5 s0 (0 : Int32) x0) else (f_X12_pass_b211 N z k42 o v1 v2 v3 v4 v5 s0 (1 : Int32) x0)) else (geti v5 x0 14 276 fun i10 =>
  if i10 = 0 then (f_X12_pass_b211 N z k42 o v1 v2 v3 v4 v5 s0 (1 : Int32) x0) else (f_X12_pass_b211 N z k42 o v1 v2 v3 v4 v5 s0 (0 : Int32) x0)))
def f_X12_pass_b120 (N : Nat) (z : Nat → Nat) (k42 : Nat → Option Nat → Int32 → Int32 → Hp → Option (Unit × Hp)) (o : Nat) (v1 : Option Nat) (v2 : Int32) (v3 : Int32) (v4 : Option Nat) (v5 : Option Nat) (s0 : Int32) (x0 : Hp) : Option (Unit × Hp) :=
  if 0 ≤ s0 then (if s0 ≤ (30 : Int32) then (f_X12_pass_b145 N z k42 o v1 v2 v3 v4 v5 s0 x0) else (f_X12_pass_b145 N z k42 o v1 v2 v3 v4 v5 (30 : Int32) x0)) else (f_X12_pass_b145 N z k42 o v1 v2 v3 v4 v5 (0 : Int32) x0)
def f_X12_pass_b359 (N : Nat) (z : Nat → Nat) (k289 : Nat → Option Nat → Int32 → Int32 → Hp → Option (Unit × Hp)) (o : Nat) (v1 : Option Nat) (v2 : Int32) (v3 : Int32) (x0 : Hp) : Option (Unit × Hp) :=
  k289 o v1 v2 (v3 + (1 : Int32)) x0
def f_X12_pass_b425 (N : Nat) (z : Nat → Nat) (k375 : Nat → Option Nat → Int32 → Int32 → Hp → Option (Unit × Hp)) (o : Nat) (v1 : Option Nat) (v2 : Int32) (v3 : Int32) (v4 : Option Nat) (s0 : Int32) (s1 : Option Nat) (x0 : Hp) : Option (Unit × Hp) :=
  puti s1 x0 14 266 s0 fun x13 =>
  puti v4 x13 14 277 (0 : Int32) fun x14 =>
  puti v4 x14 14 278 (0 : Int32) fun x15 =>
  k375 o v1 v2 (v3 + (1 : Int32)) x15
def f_X12_pass_b509 (N : Nat) (z : Nat → Nat) (k451 : Nat → Int32 → Hp → Option (Unit × Hp)) (k469 : Nat → Int32 → Option Nat → Option Nat → Int32 → Int32 → Hp → Option (Unit × Hp)) (o : Nat) (v1 : Int32) (v2 : Option Nat) (v3 : Option Nat) (v4 : Int32) (v5 : Int32) (x0 : Hp) : Option (Unit × Hp) :=
  k469 o v1 v2 v3 v4 (v5 + (1 : Int32)) x0
def f_X12_pass_b506 (N : Nat) (z : Nat → Nat) (k451 : Nat → Int32 → Hp → Option (Unit × Hp)) (k469 : Nat → Int32 → Option Nat → Option Nat → Int32 → Int32 → Hp → Option (Unit × Hp)) (o : Nat) (v1 : Int32) (v3 : Option Nat) (v4 : Int32) (v5 : Int32) (v6 : Option Nat) (x0 : Hp) : Option (Unit × Hp) :=
  f_X12_pass_b509 N z k451 k469 o v1 v6 v3 v4 v5 x0
def f_X12_pass_b609 (N : Nat) (z : Nat → Nat) (k451 : Nat → Int32 → Hp → Option (Unit × Hp)) : Nat → Nat → Int32 → Option Nat → Hp → Option (Unit × Hp)
  | 0, _, _, _, _ => none
  | n + 1, o, v1, v4, x0 => if v4 = none then (k451 o (v1 + (-1 : Int32)) x0) else (geti v4 x0 14 278 fun i16 =>
  puti v4 x0 14 278 (i16 + (1 : Int32)) fun x17 =>
  getr v4 x17 14 260 fun r18 =>
  f_X12_pass_b609 N z k451 n o v1 r18 x17)
def f_X12_pass_b562 (N : Nat) (z : Nat → Nat) (k451 : Nat → Int32 → Hp → Option (Unit × Hp)) (o : Nat) (v1 : Int32) (v2 : Option Nat) (x0 : Hp) : Option (Unit × Hp) :=
  geti v2 x0 14 275 fun i19 =>
  geti (some o) x0 15 280 fun i20 =>
  getr v2 x0 14 269 fun r21 =>
  aldi r21 x0 101 (0 : Int32) fun i22 =>
  puti v2 x0 14 275 (i19 + (i20 - i22)) fun x23 =>
  obj v2 x23 14 fun q25 => bnd (f_X11_pop N z q25 x23) fun _ x24 =>
  geti v2 x24 14 271 fun i26 =>
  puti v2 x24 14 271 (i26 + (1 : Int32)) fun x27 =>
  geti v2 x27 14 277 fun i28 =>
  puti v2 x27 14 277 (i28 + (1 : Int32)) fun x29 =>
  f_X12_pass_b609 N z k451 N o v1 v2 x29
def f_X12_pass_b667 (N : Nat) (z : Nat → Nat) : Nat → Option Nat → Int32 → Int32 → Hp → Option (Unit × Hp)
  | 0, _, _, _, _ => none
  | n + 1, v2, v3, v4, x0 => if v3 ≤ v4 then (some ((), x0)) else (aldr v2 x0 106 v4 fun r30 =>
  puti r30 x0 14 276 (0 : Int32) fun x31 =>
  f_X12_pass_b667 N z n v2 v3 (v4 + (1 : Int32)) x31)
def f_X12_pass_b641 (N : Nat) (z : Nat → Nat) (o : Nat) (v1 : Int32) (x0 : Hp) : Option (Unit × Hp) :=
  puti (some o) x0 15 284 v1 fun x32 =>
  geti (some o) x32 15 280 fun i33 =>
  puti (some o) x32 15 280 (i33 + (1 : Int32)) fun x34 =>
  getr (some o) x34 15 285 fun r35 =>
  alen r35 x34 106 fun i36 =>
  f_X12_pass_b667 N z N r35 i36 (0 : Int32) x34
def f_X12_pass_b469 (N : Nat) (z : Nat → Nat) (k451 : Nat → Int32 → Hp → Option (Unit × Hp)) : Nat → Nat → Int32 → Option Nat → Option Nat → Int32 → Int32 → Hp → Option (Unit × Hp)
  | 0, _, _, _, _, _, _, _ => none
  | n + 1, o, v1, v2, v3, v4, v5, x0 => if v4 ≤ v5 then (if v2 = none then (f_X12_pass_b641 N z o v1 x0) else (obj v2 x0 14 fun q39 => bnd (f_X11_lender N z q39 x0) fun r38 x37 =>
  geti r38 x37 14 266 fun i40 =>
  puti r38 x37 14 266 (i40 - (1 : Int32)) fun x41 =>
  if r38 = v2 then (f_X12_pass_b562 N z k451 o v1 v2 x41) else (geti r38 x41 14 273 fun i42 =>
  puti r38 x41 14 273 (i42 + (1 : Int32)) fun x43 =>
  geti v2 x43 14 274 fun i44 =>
  puti v2 x43 14 274 (i44 + (1 : Int32)) fun x45 =>
  f_X12_pass_b562 N z k451 o v1 v2 x45))) else (aldr v3 x0 106 v5 fun r46 =>
  obj r46 x0 14 fun q49 => bnd (f_X11_can N z q49 x0) fun i48 x47 =>
  if i48 = 0 then (f_X12_pass_b509 N z k451 (f_X12_pass_b469 N z k451 n) o v1 v2 v3 v4 v5 x47) else (if v2 = none then (f_X12_pass_b506 N z k451 (f_X12_pass_b469 N z k451 n) o v1 v3 v4 v5 r46 x47) else (obj r46 x47 14 fun q52 => bnd (f_X11_order N z q52 x47) fun i51 x50 =>
  obj v2 x50 14 fun q55 => bnd (f_X11_order N z q55 x50) fun i54 x53 =>
  if i54 ≤ i51 then (f_X12_pass_b509 N z k451 (f_X12_pass_b469 N z k451 n) o v1 v2 v3 v4 v5 x53) else (f_X12_pass_b506 N z k451 (f_X12_pass_b469 N z k451 n) o v1 v3 v4 v5 r46 x53))))
def f_X12_pass_b451 (N : Nat) (z : Nat → Nat) : Nat → Nat → Int32 → Hp → Option (Unit × Hp)
  | 0, _, _, _ => none
  | n + 1, o, v1, x0 => if v1 ≤ 0 then (f_X12_pass_b641 N z o v1 x0) else (getr (some o) x0 15 285 fun r56 =>
  alen r56 x0 106 fun i57 =>
  f_X12_pass_b469 N z (f_X12_pass_b451 N z n) N o v1 none r56 i57 (0 : Int32) x0)
def f_X12_pass_b375 (N : Nat) (z : Nat → Nat) : Nat → Nat → Option Nat → Int32 → Int32 → Hp → Option (Unit × Hp)
  | 0, _, _, _, _, _ => none
  | n + 1, o, v1, v2, v3, x0 => if v2 ≤ v3 then (geti (some o) x0 15 281 fun i58 =>
  f_X12_pass_b451 N z N o i58 x0) else (aldr v1 x0 106 v3 fun r59 =>
  geti r59 x0 14 266 fun i60 =>
  geti r59 x0 14 262 fun i61 =>
  geti r59 x0 14 264 fun i62 =>
  if (i60 + i61) ≤ i62 then (geti r59 x0 14 266 fun i63 =>
  geti r59 x0 14 262 fun i64 =>
  f_X12_pass_b425 N z (f_X12_pass_b375 N z n) o v1 v2 v3 r59 (i63 + i64) r59 x0) else (geti r59 x0 14 264 fun i65 =>
  f_X12_pass_b425 N z (f_X12_pass_b375 N z n) o v1 v2 v3 r59 i65 r59 x0))
def f_X12_pass_b289 (N : Nat) (z : Nat → Nat) : Nat → Nat → Option Nat → Int32 → Int32 → Hp → Option (Unit × Hp)
  | 0, _, _, _, _, _ => none
  | n + 1, o, v1, v2, v3, x0 => if v2 ≤ v3 then (getr (some o) x0 15 285 fun r66 =>
  alen r66 x0 106 fun i67 =>
  f_X12_pass_b375 N z N o r66 i67 (0 : Int32) x0) else (aldr v1 x0 107 v3 fun r68 =>
  geti (some o) x0 15 280 fun i69 =>
  aldi r68 x0 101 (3 : Int32) fun i70 =>
  if i69 < i70 then (f_X12_pass_b359 N z (f_X12_pass_b289 N z n) o v1 v2 v3 x0) else (geti (some o) x0 15 280 fun i71 =>
  aldi r68 x0 101 (3 : Int32) fun i72 =>
  aldi r68 x0 101 (2 : Int32) fun i73 =>
  nz i73 <|
  if ((i71 - i72) - (i71 - i72) / i73 * i73) ≤ 0 then (getr (some o) x0 15 285 fun r74 =>
  aldi r68 x0 101 (0 : Int32) fun i75 =>
  aldr r74 x0 106 i75 fun r76 =>
  aldi r68 x0 101 (1 : Int32) fun i77 =>
  obj (some o) x0 15 fun q80 => bnd (f_X12_bring N z q80 r76 i77 x0) fun i79 x78 =>
  aldi r68 x78 101 (4 : Int32) fun i81 =>
  aldi r68 x78 101 (1 : Int32) fun i82 =>
  asti r68 x78 101 (4 : Int32) (i81 + i82) fun x83 =>
  f_X12_pass_b359 N z (f_X12_pass_b289 N z n) o v1 v2 v3 x83) else (f_X12_pass_b359 N z (f_X12_pass_b289 N z n) o v1 v2 v3 x0)))
def f_X12_pass_b42 (N : Nat) (z : Nat → Nat) : Nat → Nat → Option Nat → Int32 → Int32 → Hp → Option (Unit × Hp)
  | 0, _, _, _, _, _ => none
  | n + 1, o, v1, v2, v3, x0 => if v2 ≤ v3 then (getr (some o) x0 15 286 fun r84 =>
  alen r84 x0 107 fun i85 =>
  f_X12_pass_b289 N z N o r84 i85 (0 : Int32) x0) else (aldr v1 x0 107 v3 fun r86 =>
  aldi r86 x0 101 (5 : Int32) fun i87 =>
  aldi r86 x0 101 (6 : Int32) fun i88 =>
  aldi r86 x0 101 (7 : Int32) fun i89 =>
  obj (some o) x0 15 fun q92 => bnd (f_X12_holds N z q92 i87 i88 i89 x0) fun i91 x90 =>
  if i91 = 0 then (f_X12_pass_b273 N z (f_X12_pass_b42 N z n) o v1 v2 v3 x90) else (getr (some o) x90 15 285 fun r93 =>
  aldi r86 x90 101 (1 : Int32) fun i94 =>
  aldr r93 x90 106 i94 fun r95 =>
  aldi r86 x90 101 (0 : Int32) fun i96 =>
  if i96 = (2 : Int32) then (f_X12_pass_b120 N z (f_X12_pass_b42 N z n) o v1 v2 v3 r86 r95 (0 : Int32) x90) else (aldi r86 x90 101 (2 : Int32) fun i97 =>
  getr (some o) x90 15 285 fun r98 =>
  aldi r86 x90 101 (3 : Int32) fun i99 =>
  aldr r98 x90 106 i99 fun r100 =>
  aldi r86 x90 101 (4 : Int32) fun i101 =>
  obj (some o) x90 15 fun q104 => bnd (f_X12_value N z q104 i97 r100 i101 x90) fun i103 x102 =>
  f_X12_pass_b120 N z (f_X12_pass_b42 N z n) o v1 v2 v3 r86 r95 i103 x102)))
def f_X12_pass_b10 (N : Nat) (z : Nat → Nat) : Nat → Nat → Option Nat → Int32 → Int32 → Hp → Option (Unit × Hp)
  | 0, _, _, _, _, _ => none
  | n + 1, o, v1, v2, v3, x0 => if v2 ≤ v3 then (getr (some o) x0 15 287 fun r105 =>
  alen r105 x0 107 fun i106 =>
  f_X12_pass_b42 N z N o r105 i106 (0 : Int32) x0) else (aldr v1 x0 106 v3 fun r107 =>
  puti r107 x0 14 276 (0 : Int32) fun x108 =>
  f_X12_pass_b10 N z n o v1 v2 (v3 + (1 : Int32)) x108)
def f_X12_pass (N : Nat) (z : Nat → Nat) (o : Nat) (x0 : Hp) : Option (Unit × Hp) :=
  getr (some o) x0 15 285 fun r109 =>
  alen r109 x0 106 fun i110 =>
  f_X12_pass_b10 N z N o r109 i110 (0 : Int32) x0
set_option maxRecDepth 100000 in
set_option maxHeartbeats 4000000 in
theorem g_X12_pass_b273 (l : Launch) (N : Nat) (z : Nat → Nat) {k42 : Nat → Option Nat → Int32 → Int32 → Hp → Option (Unit × Hp)} (hk42 : ∀ o v1 v2 v3 x, G l z m_X12_pass okT enV 42 [(0, va_rf (some o)), (1, va_rf v1), (2, .int v2), (3, .int v3)] [] x (k42 o v1 v2 v3 x)) (o : Nat) (v1 : Option Nat) (v2 : Int32) (v3 : Int32) (x0 : Hp) : G l z m_X12_pass okT enV 273 [(0, va_rf (some o)), (1, va_rf v1), (2, .int v2), (3, .int v3)] [] x0 (f_X12_pass_b273 N z k42 o v1 v2 v3 x0) := by
  unfold f_X12_pass_b273
  refine G_iinc (i := 3) (l2 := [(0, va_rf (some o)), (1, va_rf v1), (2, .int v2)]) 3 [0, 1, 2] dX12_pass_273 rfl rfl (Nat.le_of_ble_eq_true rfl) rfl (sok_a (by decide) (by decide) (sok_a (by decide) (by decide) (sok_b (by decide) rfl trivial))) ?_
  refine G_goto (tgt := 42) dX12_pass_276 (by decide) ?_
  refine G_lv [1, 2, 3, 0] rfl ?_
  exact hk42 o v1 v2 (v3 + (1 : Int32)) x0

set_option maxRecDepth 100000 in
set_option maxHeartbeats 4000000 in
theorem g_X12_pass_b269 (l : Launch) (N : Nat) (z : Nat → Nat) {k42 : Nat → Option Nat → Int32 → Int32 → Hp → Option (Unit × Hp)} (hk42 : ∀ o v1 v2 v3 x, G l z m_X12_pass okT enV 42 [(0, va_rf (some o)), (1, va_rf v1), (2, .int v2), (3, .int v3)] [] x (k42 o v1 v2 v3 x)) (o : Nat) (v1 : Option Nat) (v2 : Int32) (v3 : Int32) (s0 : Int32) (s1 : Int32) (s2 : Option Nat) (x0 : Hp) : G l z m_X12_pass okT enV 269 [(0, va_rf (some o)), (1, va_rf v1), (2, .int v2), (3, .int v3)] [.int s0, .int s1, va_rf s2] x0 (f_X12_pass_b269 N z k42 o v1 v2 v3 s0 s1 s2 x0) := by
  unfold f_X12_pass_b269
  refine G_iadd dX12_pass_269 ?_
  refine G_puti (k := 3) K_14 (by decide) rfl rfl rfl gw_1347 rfl (Or.inl rfl) nar_int.1 nar_int.2 dX12_pass_270 (fun x1 => ?_)
  refine G_lv [0, 1, 2, 3] rfl ?_
  exact g_X12_pass_b273 l N z hk42 o v1 v2 v3 x1

set_option maxRecDepth 100000 in
set_option maxHeartbeats 4000000 in
theorem g_X12_pass_b254 (l : Launch) (N : Nat) (z : Nat → Nat) {k42 : Nat → Option Nat → Int32 → Int32 → Hp → Option (Unit × Hp)} (hk42 : ∀ o v1 v2 v3 x, G l z m_X12_pass okT enV 42 [(0, va_rf (some o)), (1, va_rf v1), (2, .int v2), (3, .int v3)] [] x (k42 o v1 v2 v3 x)) (o : Nat) (v1 : Option Nat) (v2 : Int32) (v3 : Int32) (v7 : Int32) (x0 : Hp) : G l z m_X12_pass okT enV 254 [(0, va_rf (some o)), (1, va_rf v1), (2, .int v2), (3, .int v3), (7, .int v7)] [] x0 (f_X12_pass_b254 N z k42 o v1 v2 v3 v7 x0) := by
  unfold f_X12_pass_b254
  refine G_aload_n 0 dX12_pass_254 rfl rfl ?_
  refine G_dup dX12_pass_255 (rf_cat _) ?_
  refine G_geti (k := 3) K_14 (by decide) rfl rfl rfl gw_1347 rfl dX12_pass_256 (fun i2 => ?_)
  refine G_iload 4 dX12_pass_259 rfl ?_
  refine G_if_eq (tgt := 268) dX12_pass_261 (by decide) (fun _ => ?_) (fun _ => ?_)
  · refine G_iconst (v := (0 : Int32)) dX12_pass_268 rfl ?_
    refine G_lv [0, 1, 2, 3] rfl ?_
    exact g_X12_pass_b269 l N z hk42 o v1 v2 v3 (0 : Int32) i2 (some o) x0
  · refine G_iconst (v := (1 : Int32)) dX12_pass_264 rfl ?_
    refine G_goto (tgt := 269) dX12_pass_265 (by decide) ?_
    refine G_lv [0, 1, 2, 3] rfl ?_
    exact g_X12_pass_b269 l N z hk42 o v1 v2 v3 (1 : Int32) i2 (some o) x0

set_option maxRecDepth 100000 in
set_option maxHeartbeats 4000000 in
theorem g_X12_pass_b211 (l : Launch) (N : Nat) (z : Nat → Nat) {k42 : Nat → Option Nat → Int32 → Int32 → Hp → Option (Unit × Hp)} (hk42 : ∀ o v1 v2 v3 x, G l z m_X12_pass okT enV 42 [(0, va_rf (some o)), (1, va_rf v1), (2, .int v2), (3, .int v3)] [] x (k42 o v1 v2 v3 x)) (o : Nat) (v1 : Option Nat) (v2 : Int32) (v3 : Int32) (v4 : Option Nat) (v5 : Option Nat) (v6 : Int32) (s0 : Int32) (x0 : Hp) : G l z m_X12_pass okT enV 211 [(0, va_rf (some o)), (1, va_rf v1), (2, .int v2), (3, .int v3), (4, va_rf v4), (5, va_rf v5), (6, .int v6)] [.int s0] x0 (f_X12_pass_b211 N z k42 o v1 v2 v3 v4 v5 v6 s0 x0) := by
  unfold f_X12_pass_b211
  refine G_istore (i := 7) (l2 := [(0, va_rf (some o)), (1, va_rf v1), (2, .int v2), (3, .int v3), (4, va_rf v4), (5, va_rf v5), (6, .int v6)]) [0, 1, 2, 3, 4, 5, 6] dX12_pass_211 (Nat.le_of_ble_eq_true rfl) rfl (sok_a (by decide) (by decide) (sok_a (by decide) (by decide) (sok_a (by decide) (by decide) (sok_a (by decide) (by decide) (sok_a (by decide) (by decide) (sok_a (by decide) (by decide) (sok_b (by decide) rfl trivial))))))) ?_
  refine G_aload 5 dX12_pass_213 rfl ?_
  refine G_iconst (v := (0 : Int32)) dX12_pass_215 rfl ?_
  refine G_iald dX12_pass_216 (fun i3 => ?_)
  refine G_if_ne (tgt := 230) dX12_pass_217 (by decide) (fun _ => ?_) (fun _ => ?_)
  · refine G_aload 6 dX12_pass_220 rfl ?_
    refine G_iload 7 dX12_pass_222 rfl ?_
    refine G_puti (k := 2) K_13 (by decide) rfl rfl rfl gw_1388 rfl (Or.inl rfl) nar_int.1 nar_int.2 dX12_pass_224 (fun x7 => ?_)
    refine G_goto (tgt := 254) dX12_pass_227 (by decide) ?_
    refine G_lv [1, 2, 3, 4, 0] rfl ?_
    exact g_X12_pass_b254 l N z hk42 o v1 v2 v3 s0 x7
  · refine G_aload 5 dX12_pass_230 rfl ?_
    refine G_iconst (v := (0 : Int32)) dX12_pass_232 rfl ?_
    refine G_iald dX12_pass_233 (fun i4 => ?_)
    refine G_iconst (v := (1 : Int32)) dX12_pass_234 rfl ?_
    refine G_icmp_ne (tgt := 248) dX12_pass_235 (by decide) (fun _ => ?_) (fun _ => ?_)
    · refine G_aload 6 dX12_pass_238 rfl ?_
      refine G_iload 7 dX12_pass_240 rfl ?_
      refine G_puti (k := 3) K_13 (by decide) rfl rfl rfl gw_1391 rfl (Or.inl rfl) nar_int.1 nar_int.2 dX12_pass_242 (fun x6 => ?_)
      refine G_goto (tgt := 254) dX12_pass_245 (by decide) ?_
      refine G_lv [1, 2, 3, 4, 0] rfl ?_
      exact g_X12_pass_b254 l N z hk42 o v1 v2 v3 s0 x6
    · refine G_aload 6 dX12_pass_248 rfl ?_
      refine G_iconst (v := (1 : Int32)) dX12_pass_250 rfl ?_
      refine G_puti (k := 16) K_13 (by decide) rfl rfl rfl gw_1414 rfl (Or.inl rfl) (by decide) (by decide) dX12_pass_251 (fun x5 => ?_)
      refine G_lv [1, 2, 3, 4, 0] rfl ?_
      exact g_X12_pass_b254 l N z hk42 o v1 v2 v3 s0 x5

set_option maxRecDepth 100000 in
set_option maxHeartbeats 4000000 in
theorem g_X12_pass_b145 (l : Launch) (N : Nat) (z : Nat → Nat) {k42 : Nat → Option Nat → Int32 → Int32 → Hp → Option (Unit × Hp)} (hk42 : ∀ o v1 v2 v3 x, G l z m_X12_pass okT enV 42 [(0, va_rf (some o)), (1, va_rf v1), (2, .int v2), (3, .int v3)] [] x (k42 o v1 v2 v3 x)) (o : Nat) (v1 : Option Nat) (v2 : Int32) (v3 : Int32) (v4 : Option Nat) (v5 : Option Nat) (s0 : Int32) (x0 : Hp) : G l z m_X12_pass okT enV 145 [(0, va_rf (some o)), (1, va_rf v1), (2, .int v2), (3, .int v3), (4, va_rf v4), (5, va_rf v5)] [.int s0] x0 (f_X12_pass_b145 N z k42 o v1 v2 v3 v4 v5 s0 x0) := by
  unfold f_X12_pass_b145
  refine G_istore (i := 6) (l2 := [(0, va_rf (some o)), (1, va_rf v1), (2, .int v2), (3, .int v3), (4, va_rf v4), (5, va_rf v5)]) [0, 1, 2, 3, 4, 5] dX12_pass_145 (Nat.le_of_ble_eq_true rfl) rfl (sok_a (by decide) (by decide) (sok_a (by decide) (by decide) (sok_a (by decide) (by decide) (sok_a (by decide) (by decide) (sok_a (by decide) (by decide) (sok_b (by decide) (rf_cat _) trivial)))))) ?_
  refine G_aload 5 dX12_pass_147 rfl ?_
  refine G_iconst (v := (0 : Int32)) dX12_pass_149 rfl ?_
  refine G_iald dX12_pass_150 (fun i8 => ?_)
  refine G_if_ne (tgt := 172) dX12_pass_151 (by decide) (fun _ => ?_) (fun _ => ?_)
  · refine G_aload 6 dX12_pass_154 rfl ?_
    refine G_geti (k := 2) K_13 (by decide) rfl rfl rfl gw_1388 rfl dX12_pass_156 (fun i12 => ?_)
    refine G_iload 0 dX12_pass_159 rfl ?_
    refine G_icmp_eq (tgt := 168) dX12_pass_161 (by decide) (fun _ => ?_) (fun _ => ?_)
    · refine G_iconst (v := (0 : Int32)) dX12_pass_168 rfl ?_
      refine G_goto (tgt := 211) dX12_pass_169 (by decide) ?_
      refine G_lv [1, 2, 3, 4, 5, 6, 0] rfl ?_
      exact g_X12_pass_b211 l N z hk42 o v1 v2 v3 v4 v5 s0 (0 : Int32) x0
    · refine G_iconst (v := (1 : Int32)) dX12_pass_164 rfl ?_
      refine G_goto (tgt := 211) dX12_pass_165 (by decide) ?_
      refine G_lv [1, 2, 3, 4, 5, 6, 0] rfl ?_
      exact g_X12_pass_b211 l N z hk42 o v1 v2 v3 v4 v5 s0 (1 : Int32) x0
  · refine G_aload 5 dX12_pass_172 rfl ?_
    refine G_iconst (v := (0 : Int32)) dX12_pass_174 rfl ?_
    refine G_iald dX12_pass_175 (fun i9 => ?_)
    refine G_iconst (v := (1 : Int32)) dX12_pass_176 rfl ?_
    refine G_icmp_ne (tgt := 198) dX12_pass_177 (by decide) (fun _ => ?_) (fun _ => ?_)
    · refine G_aload 6 dX12_pass_180 rfl ?_
      refine G_geti (k := 3) K_13 (by decide) rfl rfl rfl gw_1391 rfl dX12_pass_182 (fun i11 => ?_)
      refine G_iload 0 dX12_pass_185 rfl ?_
      refine G_icmp_eq (tgt := 194) dX12_pass_187 (by decide) (fun _ => ?_) (fun _ => ?_)
      · refine G_iconst (v := (0 : Int32)) dX12_pass_194 rfl ?_
        refine G_goto (tgt := 211) dX12_pass_195 (by decide) ?_
        refine G_lv [1, 2, 3, 4, 5, 6, 0] rfl ?_
        exact g_X12_pass_b211 l N z hk42 o v1 v2 v3 v4 v5 s0 (0 : Int32) x0
      · refine G_iconst (v := (1 : Int32)) dX12_pass_190 rfl ?_
        refine G_goto (tgt := 211) dX12_pass_191 (by decide) ?_
        refine G_lv [1, 2, 3, 4, 5, 6, 0] rfl ?_
        exact g_X12_pass_b211 l N z hk42 o v1 v2 v3 v4 v5 s0 (1 : Int32) x0
    · refine G_aload 6 dX12_pass_198 rfl ?_
      refine G_geti (k := 16) K_13 (by decide) rfl rfl rfl gw_1414 rfl dX12_pass_200 (fun i10 => ?_)
      refine G_if_ne (tgt := 210) dX12_pass_203 (by decide) (fun _ => ?_) (fun _ => ?_)
      · refine G_iconst (v := (1 : Int32)) dX12_pass_206 rfl ?_
        refine G_goto (tgt := 211) dX12_pass_207 (by decide) ?_
        refine G_lv [1, 2, 3, 4, 5, 6, 0] rfl ?_
        exact g_X12_pass_b211 l N z hk42 o v1 v2 v3 v4 v5 s0 (1 : Int32) x0
      · refine G_iconst (v := (0 : Int32)) dX12_pass_210 rfl ?_
        refine G_lv [1, 2, 3, 4, 5, 6, 0] rfl ?_
        exact g_X12_pass_b211 l N z hk42 o v1 v2 v3 v4 v5 s0 (0 : Int32) x0

set_option maxRecDepth 100000 in
set_option maxHeartbeats 4000000 in
theorem g_X12_pass_b120 (l : Launch) (N : Nat) (z : Nat → Nat) {k42 : Nat → Option Nat → Int32 → Int32 → Hp → Option (Unit × Hp)} (hk42 : ∀ o v1 v2 v3 x, G l z m_X12_pass okT enV 42 [(0, va_rf (some o)), (1, va_rf v1), (2, .int v2), (3, .int v3)] [] x (k42 o v1 v2 v3 x)) (o : Nat) (v1 : Option Nat) (v2 : Int32) (v3 : Int32) (v4 : Option Nat) (v5 : Option Nat) (s0 : Int32) (x0 : Hp) : G l z m_X12_pass okT enV 120 [(0, va_rf (some o)), (1, va_rf v1), (2, .int v2), (3, .int v3), (4, va_rf v4), (5, va_rf v5)] [.int s0] x0 (f_X12_pass_b120 N z k42 o v1 v2 v3 v4 v5 s0 x0) := by
  unfold f_X12_pass_b120
  refine G_istore (i := 6) (l2 := [(0, va_rf (some o)), (1, va_rf v1), (2, .int v2), (3, .int v3), (4, va_rf v4), (5, va_rf v5)]) [0, 1, 2, 3, 4, 5] dX12_pass_120 (Nat.le_of_ble_eq_true rfl) rfl (sok_a (by decide) (by decide) (sok_a (by decide) (by decide) (sok_a (by decide) (by decide) (sok_a (by decide) (by decide) (sok_a (by decide) (by decide) (sok_b (by decide) (rf_cat _) trivial)))))) ?_
  refine G_iload 0 dX12_pass_122 rfl ?_
  refine G_if_ge (tgt := 131) dX12_pass_124 (by decide) (fun _ => ?_) (fun _ => ?_)
  · refine G_iload 0 dX12_pass_131 rfl ?_
    refine G_bipush (v := (30 : Int32)) dX12_pass_133 (by decide) ?_
    refine G_icmp_le (tgt := 143) dX12_pass_135 (by decide) (fun _ => ?_) (fun _ => ?_)
    · refine G_iload 0 dX12_pass_143 rfl ?_
      refine G_lv [1, 2, 3, 4, 5, 6] rfl ?_
      exact g_X12_pass_b145 l N z hk42 o v1 v2 v3 v4 v5 s0 x0
    · refine G_bipush (v := (30 : Int32)) dX12_pass_138 (by decide) ?_
      refine G_goto (tgt := 145) dX12_pass_140 (by decide) ?_
      refine G_lv [1, 2, 3, 4, 5, 6] rfl ?_
      exact g_X12_pass_b145 l N z hk42 o v1 v2 v3 v4 v5 (30 : Int32) x0
  · refine G_iconst (v := (0 : Int32)) dX12_pass_127 rfl ?_
    refine G_goto (tgt := 145) dX12_pass_128 (by decide) ?_
    refine G_lv [1, 2, 3, 4, 5, 6] rfl ?_
    exact g_X12_pass_b145 l N z hk42 o v1 v2 v3 v4 v5 (0 : Int32) x0

set_option maxRecDepth 100000 in
set_option maxHeartbeats 4000000 in
theorem g_X12_pass_b359 (l : Launch) (N : Nat) (z : Nat → Nat) {k289 : Nat → Option Nat → Int32 → Int32 → Hp → Option (Unit × Hp)} (hk289 : ∀ o v1 v2 v3 x, G l z m_X12_pass okT enV 289 [(0, va_rf (some o)), (1, va_rf v1), (2, .int v2), (3, .int v3)] [] x (k289 o v1 v2 v3 x)) (o : Nat) (v1 : Option Nat) (v2 : Int32) (v3 : Int32) (x0 : Hp) : G l z m_X12_pass okT enV 359 [(0, va_rf (some o)), (1, va_rf v1), (2, .int v2), (3, .int v3)] [] x0 (f_X12_pass_b359 N z k289 o v1 v2 v3 x0) := by
  unfold f_X12_pass_b359
  refine G_iinc (i := 3) (l2 := [(0, va_rf (some o)), (1, va_rf v1), (2, .int v2)]) 3 [0, 1, 2] dX12_pass_359 rfl rfl (Nat.le_of_ble_eq_true rfl) rfl (sok_a (by decide) (by decide) (sok_a (by decide) (by decide) (sok_b (by decide) rfl trivial))) ?_
  refine G_goto (tgt := 289) dX12_pass_362 (by decide) ?_
  refine G_lv [1, 2, 3, 0] rfl ?_
  exact hk289 o v1 v2 (v3 + (1 : Int32)) x0

set_option maxRecDepth 100000 in
set_option maxHeartbeats 4000000 in
theorem g_X12_pass_b425 (l : Launch) (N : Nat) (z : Nat → Nat) {k375 : Nat → Option Nat → Int32 → Int32 → Hp → Option (Unit × Hp)} (hk375 : ∀ o v1 v2 v3 x, G l z m_X12_pass okT enV 375 [(0, va_rf (some o)), (1, va_rf v1), (2, .int v2), (3, .int v3)] [] x (k375 o v1 v2 v3 x)) (o : Nat) (v1 : Option Nat) (v2 : Int32) (v3 : Int32) (v4 : Option Nat) (s0 : Int32) (s1 : Option Nat) (x0 : Hp) : G l z m_X12_pass okT enV 425 [(0, va_rf (some o)), (1, va_rf v1), (2, .int v2), (3, .int v3), (4, va_rf v4)] [.int s0, va_rf s1] x0 (f_X12_pass_b425 N z k375 o v1 v2 v3 v4 s0 s1 x0) := by
  unfold f_X12_pass_b425
  refine G_puti (k := 6) K_13 (by decide) rfl rfl rfl gw_1398 rfl (Or.inl rfl) nar_int.1 nar_int.2 dX12_pass_425 (fun x13 => ?_)
  refine G_aload 4 dX12_pass_428 rfl ?_
  refine G_iconst (v := (0 : Int32)) dX12_pass_430 rfl ?_
  refine G_puti (k := 17) K_13 (by decide) rfl rfl rfl gw_1416 rfl (Or.inl rfl) nar_int.1 nar_int.2 dX12_pass_431 (fun x14 => ?_)
  refine G_aload 4 dX12_pass_434 rfl ?_
  refine G_iconst (v := (0 : Int32)) dX12_pass_436 rfl ?_
  refine G_puti (k := 18) K_13 (by decide) rfl rfl rfl gw_1418 rfl (Or.inl rfl) nar_int.1 nar_int.2 dX12_pass_437 (fun x15 => ?_)
  refine G_iinc (i := 3) (l2 := [(0, va_rf (some o)), (1, va_rf v1), (2, .int v2), (4, va_rf v4)]) 3 [0, 1, 2, 4] dX12_pass_440 rfl rfl (Nat.le_of_ble_eq_true rfl) rfl (sok_a (by decide) (by decide) (sok_a (by decide) (by decide) (sok_b (by decide) rfl (sok_a (by decide) (by decide) trivial)))) ?_
  refine G_goto (tgt := 375) dX12_pass_443 (by decide) ?_
  refine G_lv [1, 2, 3, 0] rfl ?_
  exact hk375 o v1 v2 (v3 + (1 : Int32)) x15

set_option maxRecDepth 100000 in
set_option maxHeartbeats 4000000 in
theorem g_X12_pass_b509 (l : Launch) (N : Nat) (z : Nat → Nat) {k451 : Nat → Int32 → Hp → Option (Unit × Hp)} (hk451 : ∀ o v1 x, G l z m_X12_pass okT enV 451 [(0, va_rf (some o)), (1, .int v1)] [] x (k451 o v1 x)) {k469 : Nat → Int32 → Option Nat → Option Nat → Int32 → Int32 → Hp → Option (Unit × Hp)} (hk469 : ∀ o v1 v2 v3 v4 v5 x, G l z m_X12_pass okT enV 469 [(0, va_rf (some o)), (1, .int v1), (2, va_rf v2), (3, va_rf v3), (4, .int v4), (5, .int v5)] [] x (k469 o v1 v2 v3 v4 v5 x)) (o : Nat) (v1 : Int32) (v2 : Option Nat) (v3 : Option Nat) (v4 : Int32) (v5 : Int32) (x0 : Hp) : G l z m_X12_pass okT enV 509 [(0, va_rf (some o)), (1, .int v1), (2, va_rf v2), (3, va_rf v3), (4, .int v4), (5, .int v5)] [] x0 (f_X12_pass_b509 N z k451 k469 o v1 v2 v3 v4 v5 x0) := by
  unfold f_X12_pass_b509
  refine G_iinc (i := 5) (l2 := [(0, va_rf (some o)), (1, .int v1), (2, va_rf v2), (3, va_rf v3), (4, .int v4)]) 5 [0, 1, 2, 3, 4] dX12_pass_509 rfl rfl (Nat.le_of_ble_eq_true rfl) rfl (sok_a (by decide) (by decide) (sok_a (by decide) (by decide) (sok_a (by decide) (by decide) (sok_a (by decide) (by decide) (sok_b (by decide) rfl trivial))))) ?_
  refine G_goto (tgt := 469) dX12_pass_512 (by decide) ?_
  refine G_lv [1, 2, 3, 4, 5, 0] rfl ?_
  exact hk469 o v1 v2 v3 v4 (v5 + (1 : Int32)) x0

set_option maxRecDepth 100000 in
set_option maxHeartbeats 4000000 in
theorem g_X12_pass_b506 (l : Launch) (N : Nat) (z : Nat → Nat) {k451 : Nat → Int32 → Hp → Option (Unit × Hp)} (hk451 : ∀ o v1 x, G l z m_X12_pass okT enV 451 [(0, va_rf (some o)), (1, .int v1)] [] x (k451 o v1 x)) {k469 : Nat → Int32 → Option Nat → Option Nat → Int32 → Int32 → Hp → Option (Unit × Hp)} (hk469 : ∀ o v1 v2 v3 v4 v5 x, G l z m_X12_pass okT enV 469 [(0, va_rf (some o)), (1, .int v1), (2, va_rf v2), (3, va_rf v3), (4, .int v4), (5, .int v5)] [] x (k469 o v1 v2 v3 v4 v5 x)) (o : Nat) (v1 : Int32) (v3 : Option Nat) (v4 : Int32) (v5 : Int32) (v6 : Option Nat) (x0 : Hp) : G l z m_X12_pass okT enV 506 [(0, va_rf (some o)), (1, .int v1), (3, va_rf v3), (4, .int v4), (5, .int v5), (6, va_rf v6)] [] x0 (f_X12_pass_b506 N z k451 k469 o v1 v3 v4 v5 v6 x0) := by
  unfold f_X12_pass_b506
  refine G_aload 5 dX12_pass_506 rfl ?_
  refine G_astore_n (i := 2) (l2 := [(0, va_rf (some o)), (1, .int v1), (3, va_rf v3), (4, .int v4), (5, .int v5), (6, va_rf v6)]) [0, 1, 2, 3, 4, 5] dX12_pass_508 rfl (Nat.le_of_ble_eq_true rfl) rfl (sok_a (by decide) (by decide) (sok_b (by decide) rfl (sok_a (by decide) (by decide) (sok_a (by decide) (by decide) (sok_a (by decide) (by decide) (sok_a (by decide) (by decide) trivial)))))) ?_
  refine G_lv [1, 2, 0, 3, 4, 5] rfl ?_
  exact g_X12_pass_b509 l N z hk451 hk469 o v1 v6 v3 v4 v5 x0

set_option maxRecDepth 100000 in
set_option maxHeartbeats 4000000 in
theorem g_X12_pass_b609 (l : Launch) (N : Nat) (z : Nat → Nat) {k451 : Nat → Int32 → Hp → Option (Unit × Hp)} (hk451 : ∀ o v1 x, G l z m_X12_pass okT enV 451 [(0, va_rf (some o)), (1, .int v1)] [] x (k451 o v1 x)) : ∀ (n : Nat) (o : Nat) (v1 : Int32) (v4 : Option Nat) (x0 : Hp), G l z m_X12_pass okT enV 609 [(0, va_rf (some o)), (1, .int v1), (4, va_rf v4)] [] x0 (f_X12_pass_b609 N z k451 n o v1 v4 x0) := by
  intro n
  induction n with
  | zero => intro o v1 v4 x0; exact G_none
  | succ n ih =>
  intro o v1 v4 x0
  rw [f_X12_pass_b609]
  refine G_aload 2 dX12_pass_609 rfl ?_
  refine G_ifnull (tgt := 635) dX12_pass_611 (by decide) (fun _ => ?_) (fun _ => ?_)
  · refine G_iinc (i := 1) (l2 := [(0, va_rf (some o)), (4, va_rf v4)]) 1 [0, 2] dX12_pass_635 rfl rfl (Nat.le_of_ble_eq_true rfl) rfl (sok_b (by decide) (rf_cat _) (sok_a (by decide) (by decide) trivial)) ?_
    refine G_goto (tgt := 451) dX12_pass_638 (by decide) ?_
    refine G_lv [1, 0] rfl ?_
    exact hk451 o (v1 + (-1 : Int32)) x0
  · refine G_aload 2 dX12_pass_614 rfl ?_
    refine G_dup dX12_pass_616 (rf_cat _) ?_
    refine G_geti (k := 18) K_13 (by decide) rfl rfl rfl gw_1418 rfl dX12_pass_617 (fun i16 => ?_)
    refine G_iconst (v := (1 : Int32)) dX12_pass_620 rfl ?_
    refine G_iadd dX12_pass_621 ?_
    refine G_puti (k := 18) K_13 (by decide) rfl rfl rfl gw_1418 rfl (Or.inl rfl) nar_int.1 nar_int.2 dX12_pass_622 (fun x17 => ?_)
    refine G_aload 2 dX12_pass_625 rfl ?_
    refine G_getr (k := 0) K_13 (by decide) rfl rfl rfl gw_1384 rfl dX12_pass_627 (fun r18 => ?_)
    refine G_astore (i := 4) (l2 := [(0, va_rf (some o)), (1, .int v1)]) [0, 1] dX12_pass_630 (Nat.le_of_ble_eq_true rfl) rfl (sok_a (by decide) (by decide) (sok_a (by decide) (by decide) trivial)) ?_
    refine G_goto (tgt := 609) dX12_pass_632 (by decide) ?_
    refine G_lv [1, 2, 0] rfl ?_
    exact ih o v1 r18 x17

set_option maxRecDepth 100000 in
set_option maxHeartbeats 4000000 in
theorem g_X12_pass_b562 (l : Launch) (N : Nat) (z : Nat → Nat) {k451 : Nat → Int32 → Hp → Option (Unit × Hp)} (hk451 : ∀ o v1 x, G l z m_X12_pass okT enV 451 [(0, va_rf (some o)), (1, .int v1)] [] x (k451 o v1 x)) (o : Nat) (v1 : Int32) (v2 : Option Nat) (x0 : Hp) : G l z m_X12_pass okT enV 562 [(0, va_rf (some o)), (1, .int v1), (2, va_rf v2)] [] x0 (f_X12_pass_b562 N z k451 o v1 v2 x0) := by
  unfold f_X12_pass_b562
  refine G_aload_n 2 dX12_pass_562 rfl rfl ?_
  refine G_dup dX12_pass_563 (rf_cat _) ?_
  refine G_geti (k := 15) K_13 (by decide) rfl rfl rfl gw_1412 rfl dX12_pass_564 (fun i19 => ?_)
  refine G_aload_n 0 dX12_pass_567 rfl rfl ?_
  refine G_geti (k := 0) K_14 (by decide) rfl rfl rfl gw_1343 rfl dX12_pass_568 (fun i20 => ?_)
  refine G_aload_n 2 dX12_pass_571 rfl rfl ?_
  refine G_getr (k := 9) K_13 (by decide) rfl rfl rfl gw_1405 rfl dX12_pass_572 (fun r21 => ?_)
  refine G_iconst (v := (0 : Int32)) dX12_pass_575 rfl ?_
  refine G_iald dX12_pass_576 (fun i22 => ?_)
  refine G_isub dX12_pass_577 ?_
  refine G_iadd dX12_pass_578 ?_
  refine G_puti (k := 15) K_13 (by decide) rfl rfl rfl gw_1412 rfl (Or.inl rfl) nar_int.1 nar_int.2 dX12_pass_579 (fun x23 => ?_)
  refine G_aload_n 2 dX12_pass_582 rfl rfl ?_
  refine G_callV (av := []) [] (fun q25 => ct_X11_pop l N z q25) K_13 rfl yn_X11_pop (Nat.le_of_ble_eq_true rfl) (by decide) gw_803 gw_804 gw_805 gw_55 gw_806 rfl (by decide) dX12_pass_583 (fun _ x24 => ?_)
  refine G_aload_n 2 dX12_pass_586 rfl rfl ?_
  refine G_dup dX12_pass_587 (rf_cat _) ?_
  refine G_geti (k := 11) K_13 (by decide) rfl rfl rfl gw_1408 rfl dX12_pass_588 (fun i26 => ?_)
  refine G_iconst (v := (1 : Int32)) dX12_pass_591 rfl ?_
  refine G_iadd dX12_pass_592 ?_
  refine G_puti (k := 11) K_13 (by decide) rfl rfl rfl gw_1408 rfl (Or.inl rfl) nar_int.1 nar_int.2 dX12_pass_593 (fun x27 => ?_)
  refine G_aload_n 2 dX12_pass_596 rfl rfl ?_
  refine G_dup dX12_pass_597 (rf_cat _) ?_
  refine G_geti (k := 17) K_13 (by decide) rfl rfl rfl gw_1416 rfl dX12_pass_598 (fun i28 => ?_)
  refine G_iconst (v := (1 : Int32)) dX12_pass_601 rfl ?_
  refine G_iadd dX12_pass_602 ?_
  refine G_puti (k := 17) K_13 (by decide) rfl rfl rfl gw_1416 rfl (Or.inl rfl) nar_int.1 nar_int.2 dX12_pass_603 (fun x29 => ?_)
  refine G_aload_n 2 dX12_pass_606 rfl rfl ?_
  refine G_astore (i := 4) (l2 := [(0, va_rf (some o)), (1, .int v1), (2, va_rf v2)]) [0, 1, 2] dX12_pass_607 (Nat.le_of_ble_eq_true rfl) rfl (sok_a (by decide) (by decide) (sok_a (by decide) (by decide) (sok_a (by decide) (by decide) trivial))) ?_
  refine G_lv [1, 2, 0] rfl ?_
  exact g_X12_pass_b609 l N z hk451 N o v1 v2 x29

set_option maxRecDepth 100000 in
set_option maxHeartbeats 4000000 in
theorem g_X12_pass_b667 (l : Launch) (N : Nat) (z : Nat → Nat) : ∀ (n : Nat) (v2 : Option Nat) (v3 : Int32) (v4 : Int32) (x0 : Hp), G l z m_X12_pass okT enV 667 [(2, va_rf v2), (3, .int v3), (4, .int v4)] [] x0 (f_X12_pass_b667 N z n v2 v3 v4 x0) := by
  intro n
  induction n with
  | zero => intro v2 v3 v4 x0; exact G_none
  | succ n ih =>
  intro v2 v3 v4 x0
  rw [f_X12_pass_b667]
  refine G_iload 2 dX12_pass_667 rfl ?_
  refine G_iload_n 1 dX12_pass_669 rfl rfl ?_
  refine G_icmp_ge (tgt := 691) dX12_pass_670 (by decide) (fun _ => ?_) (fun _ => ?_)
  · exact G_ret trivial dX12_pass_691 rfl
  · refine G_aload_n 0 dX12_pass_673 rfl rfl ?_
    refine G_iload 2 dX12_pass_674 rfl ?_
    refine G_aald (t := 6) rfl (by decide) (by decide) dX12_pass_676 (fun r30 => ?_)
    refine G_astore (i := 5) (l2 := [(2, va_rf v2), (3, .int v3), (4, .int v4)]) [0, 1, 2] dX12_pass_677 (Nat.le_of_ble_eq_true rfl) rfl (sok_a (by decide) (by decide) (sok_a (by decide) (by decide) (sok_b (by decide) rfl trivial))) ?_
    refine G_aload 0 dX12_pass_679 rfl ?_
    refine G_iconst (v := (0 : Int32)) dX12_pass_681 rfl ?_
    refine G_puti (k := 16) K_13 (by decide) rfl rfl rfl gw_1414 rfl (Or.inl rfl) (by decide) (by decide) dX12_pass_682 (fun x31 => ?_)
    refine G_iinc (i := 4) (l2 := [(5, va_rf r30), (2, va_rf v2), (3, .int v3)]) 3 [0, 1, 2] dX12_pass_685 rfl rfl (Nat.le_of_ble_eq_true rfl) rfl (sok_a (by decide) (by decide) (sok_a (by decide) (by decide) (sok_b (by decide) rfl trivial))) ?_
    refine G_goto (tgt := 667) dX12_pass_688 (by decide) ?_
    refine G_lv [2, 3, 0] rfl ?_
    exact ih v2 v3 (v4 + (1 : Int32)) x31

set_option maxRecDepth 100000 in
set_option maxHeartbeats 4000000 in
theorem g_X12_pass_b641 (l : Launch) (N : Nat) (z : Nat → Nat) (o : Nat) (v1 : Int32) (x0 : Hp) : G l z m_X12_pass okT enV 641 [(0, va_rf (some o)), (1, .int v1)] [] x0 (f_X12_pass_b641 N z o v1 x0) := by
  unfold f_X12_pass_b641
  refine G_aload_n 0 dX12_pass_641 rfl rfl ?_
  refine G_iload_n 1 dX12_pass_642 rfl rfl ?_
  refine G_puti (k := 4) K_14 (by decide) rfl rfl rfl gw_1348 rfl (Or.inl rfl) nar_int.1 nar_int.2 dX12_pass_643 (fun x32 => ?_)
  refine G_aload_n 0 dX12_pass_646 rfl rfl ?_
  refine G_dup dX12_pass_647 (rf_cat _) ?_
  refine G_geti (k := 0) K_14 (by decide) rfl rfl rfl gw_1343 rfl dX12_pass_648 (fun i33 => ?_)
  refine G_iconst (v := (1 : Int32)) dX12_pass_651 rfl ?_
  refine G_iadd dX12_pass_652 ?_
  refine G_puti (k := 0) K_14 (by decide) rfl rfl rfl gw_1343 rfl (Or.inl rfl) nar_int.1 nar_int.2 dX12_pass_653 (fun x34 => ?_)
  refine G_aload_n 0 dX12_pass_656 rfl rfl ?_
  refine G_getr (k := 5) K_14 (by decide) rfl rfl rfl gw_1349 rfl dX12_pass_657 (fun r35 => ?_)
  refine G_astore_n (i := 2) (l2 := [(0, va_rf (some o)), (1, .int v1)]) [0, 1] dX12_pass_660 rfl (Nat.le_of_ble_eq_true rfl) rfl (sok_a (by decide) (by decide) (sok_b (by decide) rfl trivial)) ?_
  refine G_aload_n 0 dX12_pass_661 rfl rfl ?_
  refine G_alen (t := 6) rfl (by decide) dX12_pass_662 (fun i36 => ?_)
  refine G_istore_n (i := 3) (l2 := [(2, va_rf r35), (0, va_rf (some o)), (1, .int v1)]) [0, 1, 2] dX12_pass_663 rfl (Nat.le_of_ble_eq_true rfl) rfl (sok_b (by decide) (rf_cat _) (sok_a (by decide) (by decide) (sok_a (by decide) (by decide) trivial))) ?_
  refine G_iconst (v := (0 : Int32)) dX12_pass_664 rfl ?_
  refine G_istore (i := 4) (l2 := [(3, .int i36), (2, va_rf r35), (0, va_rf (some o)), (1, .int v1)]) [0, 1, 2, 3] dX12_pass_665 (Nat.le_of_ble_eq_true rfl) rfl (sok_b (by decide) rfl (sok_a (by decide) (by decide) (sok_a (by decide) (by decide) (sok_a (by decide) (by decide) trivial)))) ?_
  refine G_lv [2, 1, 0] rfl ?_
  exact g_X12_pass_b667 l N z N r35 i36 (0 : Int32) x34

set_option maxRecDepth 100000 in
set_option maxHeartbeats 4000000 in
theorem g_X12_pass_b469 (l : Launch) (N : Nat) (z : Nat → Nat) {k451 : Nat → Int32 → Hp → Option (Unit × Hp)} (hk451 : ∀ o v1 x, G l z m_X12_pass okT enV 451 [(0, va_rf (some o)), (1, .int v1)] [] x (k451 o v1 x)) : ∀ (n : Nat) (o : Nat) (v1 : Int32) (v2 : Option Nat) (v3 : Option Nat) (v4 : Int32) (v5 : Int32) (x0 : Hp), G l z m_X12_pass okT enV 469 [(0, va_rf (some o)), (1, .int v1), (2, va_rf v2), (3, va_rf v3), (4, .int v4), (5, .int v5)] [] x0 (f_X12_pass_b469 N z k451 n o v1 v2 v3 v4 v5 x0) := by
  intro n
  induction n with
  | zero => intro o v1 v2 v3 v4 v5 x0; exact G_none
  | succ n ih =>
  intro o v1 v2 v3 v4 v5 x0
  rw [f_X12_pass_b469]
  refine G_iload 5 dX12_pass_469 rfl ?_
  refine G_iload 4 dX12_pass_471 rfl ?_
  refine G_icmp_ge (tgt := 515) dX12_pass_473 (by decide) (fun _ => ?_) (fun _ => ?_)
  · refine G_aload_n 2 dX12_pass_515 rfl rfl ?_
    refine G_ifnonnull (tgt := 522) dX12_pass_516 (by decide) (fun _ => ?_) (fun _ => ?_)
    · refine G_goto (tgt := 641) dX12_pass_519 (by decide) ?_
      refine G_lv [0, 1] rfl ?_
      exact g_X12_pass_b641 l N z o v1 x0
    · refine G_aload_n 2 dX12_pass_522 rfl rfl ?_
      refine G_callV (av := []) [] (fun q39 => ct_X11_lender l N z q39) K_13 rfl yn_X11_lender (Nat.le_of_ble_eq_true rfl) (by decide) gw_819 gw_812 gw_813 gw_55 gw_814 rfl (by decide) dX12_pass_523 (fun r38 x37 => ?_)
      refine G_astore_n (i := 3) (l2 := [(0, va_rf (some o)), (1, .int v1), (2, va_rf v2), (4, .int v4), (5, .int v5)]) [0, 1, 2, 4, 5] dX12_pass_526 rfl (Nat.le_of_ble_eq_true rfl) rfl (sok_a (by decide) (by decide) (sok_a (by decide) (by decide) (sok_b (by decide) (rf_cat _) (sok_a (by decide) (by decide) (sok_a (by decide) (by decide) trivial))))) ?_
      refine G_aload_n 0 dX12_pass_527 rfl rfl ?_
      refine G_dup dX12_pass_528 (rf_cat _) ?_
      refine G_geti (k := 6) K_13 (by decide) rfl rfl rfl gw_1398 rfl dX12_pass_529 (fun i40 => ?_)
      refine G_iconst (v := (1 : Int32)) dX12_pass_532 rfl ?_
      refine G_isub dX12_pass_533 ?_
      refine G_puti (k := 6) K_13 (by decide) rfl rfl rfl gw_1398 rfl (Or.inl rfl) nar_int.1 nar_int.2 dX12_pass_534 (fun x41 => ?_)
      refine G_aload_n 0 dX12_pass_537 rfl rfl ?_
      refine G_aload_n 3 dX12_pass_538 rfl rfl ?_
      refine G_acmp_eq (tgt := 562) dX12_pass_539 (by decide) (fun _ => ?_) (fun _ => ?_)
      · refine G_lv [1, 2, 3] rfl ?_
        exact g_X12_pass_b562 l N z hk451 o v1 v2 x41
      · refine G_aload_n 0 dX12_pass_542 rfl rfl ?_
        refine G_dup dX12_pass_543 (rf_cat _) ?_
        refine G_geti (k := 13) K_13 (by decide) rfl rfl rfl gw_1410 rfl dX12_pass_544 (fun i42 => ?_)
        refine G_iconst (v := (1 : Int32)) dX12_pass_547 rfl ?_
        refine G_iadd dX12_pass_548 ?_
        refine G_puti (k := 13) K_13 (by decide) rfl rfl rfl gw_1410 rfl (Or.inl rfl) nar_int.1 nar_int.2 dX12_pass_549 (fun x43 => ?_)
        refine G_aload_n 3 dX12_pass_552 rfl rfl ?_
        refine G_dup dX12_pass_553 (rf_cat _) ?_
        refine G_geti (k := 14) K_13 (by decide) rfl rfl rfl gw_1411 rfl dX12_pass_554 (fun i44 => ?_)
        refine G_iconst (v := (1 : Int32)) dX12_pass_557 rfl ?_
        refine G_iadd dX12_pass_558 ?_
        refine G_puti (k := 14) K_13 (by decide) rfl rfl rfl gw_1411 rfl (Or.inl rfl) nar_int.1 nar_int.2 dX12_pass_559 (fun x45 => ?_)
        refine G_lv [1, 2, 3] rfl ?_
        exact g_X12_pass_b562 l N z hk451 o v1 v2 x45
  · refine G_aload_n 3 dX12_pass_476 rfl rfl ?_
    refine G_iload 5 dX12_pass_477 rfl ?_
    refine G_aald (t := 6) rfl (by decide) (by decide) dX12_pass_479 (fun r46 => ?_)
    refine G_astore (i := 6) (l2 := [(0, va_rf (some o)), (1, .int v1), (2, va_rf v2), (3, va_rf v3), (4, .int v4), (5, .int v5)]) [0, 1, 2, 3, 4, 5] dX12_pass_480 (Nat.le_of_ble_eq_true rfl) rfl (sok_a (by decide) (by decide) (sok_a (by decide) (by decide) (sok_a (by decide) (by decide) (sok_a (by decide) (by decide) (sok_a (by decide) (by decide) (sok_b (by decide) rfl trivial)))))) ?_
    refine G_aload 0 dX12_pass_482 rfl ?_
    refine G_callV (av := []) [] (fun q49 => ct_X11_can l N z q49) K_13 rfl yn_X11_can (Nat.le_of_ble_eq_true rfl) (by decide) gw_807 gw_808 gw_809 gw_55 gw_810 rfl (by decide) dX12_pass_484 (fun i48 x47 => ?_)
    refine G_if_eq (tgt := 509) dX12_pass_487 (by decide) (fun _ => ?_) (fun _ => ?_)
    · refine G_lv [1, 2, 3, 4, 5, 6] rfl ?_
      exact g_X12_pass_b509 l N z hk451 ih o v1 v2 v3 v4 v5 x47
    · refine G_aload_n 3 dX12_pass_490 rfl rfl ?_
      refine G_ifnull (tgt := 506) dX12_pass_491 (by decide) (fun _ => ?_) (fun _ => ?_)
      · refine G_lv [1, 2, 4, 5, 6, 0] rfl ?_
        exact g_X12_pass_b506 l N z hk451 ih o v1 v3 v4 v5 r46 x47
      · refine G_aload 0 dX12_pass_494 rfl ?_
        refine G_callV (av := []) [] (fun q52 => ct_X11_order l N z q52) K_13 rfl yn_X11_order (Nat.le_of_ble_eq_true rfl) (by decide) gw_815 gw_816 gw_817 gw_55 gw_818 rfl (by decide) dX12_pass_496 (fun i51 x50 => ?_)
        refine G_aload_n 3 dX12_pass_499 rfl rfl ?_
        refine G_callV (av := []) [.int i51] (fun q55 => ct_X11_order l N z q55) K_13 rfl yn_X11_order (Nat.le_of_ble_eq_true rfl) (by decide) gw_815 gw_816 gw_817 gw_55 gw_818 rfl (by simp only [hw_n, hw_i, hw_r, hw_j, hw_d]; decide) dX12_pass_500 (fun i54 x53 => ?_)
        refine G_icmp_ge (tgt := 509) dX12_pass_503 (by decide) (fun _ => ?_) (fun _ => ?_)
        · refine G_lv [1, 2, 3, 4, 5, 6] rfl ?_
          exact g_X12_pass_b509 l N z hk451 ih o v1 v2 v3 v4 v5 x53
        · refine G_lv [1, 2, 4, 5, 6, 0] rfl ?_
          exact g_X12_pass_b506 l N z hk451 ih o v1 v3 v4 v5 r46 x53

set_option maxRecDepth 100000 in
set_option maxHeartbeats 4000000 in
theorem g_X12_pass_b451 (l : Launch) (N : Nat) (z : Nat → Nat) : ∀ (n : Nat) (o : Nat) (v1 : Int32) (x0 : Hp), G l z m_X12_pass okT enV 451 [(0, va_rf (some o)), (1, .int v1)] [] x0 (f_X12_pass_b451 N z n o v1 x0) := by
  intro n
  induction n with
  | zero => intro o v1 x0; exact G_none
  | succ n ih =>
  intro o v1 x0
  rw [f_X12_pass_b451]
  refine G_iload_n 1 dX12_pass_451 rfl rfl ?_
  refine G_if_le (tgt := 641) dX12_pass_452 (by decide) (fun _ => ?_) (fun _ => ?_)
  · refine G_lv [0, 1] rfl ?_
    exact g_X12_pass_b641 l N z o v1 x0
  · refine G_null dX12_pass_455 ?_
    refine G_astore_n (i := 2) (l2 := [(0, va_rf (some o)), (1, .int v1)]) [0, 1] dX12_pass_456 rfl (Nat.le_of_ble_eq_true rfl) rfl (sok_a (by decide) (by decide) (sok_b (by decide) rfl trivial)) ?_
    refine G_aload_n 1 dX12_pass_457 rfl rfl ?_
    refine G_getr (k := 5) K_14 (by decide) rfl rfl rfl gw_1349 rfl dX12_pass_458 (fun r56 => ?_)
    refine G_astore_n (i := 3) (l2 := [(2, va_rf none), (0, va_rf (some o)), (1, .int v1)]) [0, 1, 2] dX12_pass_461 rfl (Nat.le_of_ble_eq_true rfl) rfl (sok_b (by decide) (rf_cat _) (sok_a (by decide) (by decide) (sok_a (by decide) (by decide) trivial))) ?_
    refine G_aload_n 0 dX12_pass_462 rfl rfl ?_
    refine G_alen (t := 6) rfl (by decide) dX12_pass_463 (fun i57 => ?_)
    refine G_istore (i := 4) (l2 := [(3, va_rf r56), (2, va_rf none), (0, va_rf (some o)), (1, .int v1)]) [0, 1, 2, 3] dX12_pass_464 (Nat.le_of_ble_eq_true rfl) rfl (sok_b (by decide) (rf_cat _) (sok_a (by decide) (by decide) (sok_a (by decide) (by decide) (sok_a (by decide) (by decide) trivial)))) ?_
    refine G_iconst (v := (0 : Int32)) dX12_pass_466 rfl ?_
    refine G_istore (i := 5) (l2 := [(4, .int i57), (3, va_rf r56), (2, va_rf none), (0, va_rf (some o)), (1, .int v1)]) [0, 1, 2, 3, 4] dX12_pass_467 (Nat.le_of_ble_eq_true rfl) rfl (sok_b (by decide) rfl (sok_a (by decide) (by decide) (sok_a (by decide) (by decide) (sok_a (by decide) (by decide) (sok_a (by decide) (by decide) trivial))))) ?_
    refine G_lv [4, 5, 3, 2, 1, 0] rfl ?_
    exact g_X12_pass_b469 l N z ih N o v1 none r56 i57 (0 : Int32) x0

set_option maxRecDepth 100000 in
set_option maxHeartbeats 4000000 in
theorem g_X12_pass_b375 (l : Launch) (N : Nat) (z : Nat → Nat) : ∀ (n : Nat) (o : Nat) (v1 : Option Nat) (v2 : Int32) (v3 : Int32) (x0 : Hp), G l z m_X12_pass okT enV 375 [(0, va_rf (some o)), (1, va_rf v1), (2, .int v2), (3, .int v3)] [] x0 (f_X12_pass_b375 N z n o v1 v2 v3 x0) := by
  intro n
  induction n with
  | zero => intro o v1 v2 v3 x0; exact G_none
  | succ n ih =>
  intro o v1 v2 v3 x0
  rw [f_X12_pass_b375]
  refine G_iload_n 3 dX12_pass_375 rfl rfl ?_
  refine G_iload_n 2 dX12_pass_376 rfl rfl ?_
  refine G_icmp_ge (tgt := 446) dX12_pass_377 (by decide) (fun _ => ?_) (fun _ => ?_)
  · refine G_aload_n 0 dX12_pass_446 rfl rfl ?_
    refine G_geti (k := 1) K_14 (by decide) rfl rfl rfl gw_1344 rfl dX12_pass_447 (fun i58 => ?_)
    refine G_istore_n (i := 1) (l2 := [(0, va_rf (some o)), (2, .int v2), (3, .int v3)]) [0, 2, 3] dX12_pass_450 rfl (Nat.le_of_ble_eq_true rfl) rfl (sok_b (by decide) (rf_cat _) (sok_a (by decide) (by decide) (sok_a (by decide) (by decide) trivial))) ?_
    refine G_lv [1, 0] rfl ?_
    exact g_X12_pass_b451 l N z N o i58 x0
  · refine G_aload_n 1 dX12_pass_380 rfl rfl ?_
    refine G_iload_n 3 dX12_pass_381 rfl rfl ?_
    refine G_aald (t := 6) rfl (by decide) (by decide) dX12_pass_382 (fun r59 => ?_)
    refine G_astore (i := 4) (l2 := [(0, va_rf (some o)), (1, va_rf v1), (2, .int v2), (3, .int v3)]) [0, 1, 2, 3] dX12_pass_383 (Nat.le_of_ble_eq_true rfl) rfl (sok_a (by decide) (by decide) (sok_a (by decide) (by decide) (sok_a (by decide) (by decide) (sok_b (by decide) rfl trivial)))) ?_
    refine G_aload 0 dX12_pass_385 rfl ?_
    refine G_aload 0 dX12_pass_387 rfl ?_
    refine G_geti (k := 6) K_13 (by decide) rfl rfl rfl gw_1398 rfl dX12_pass_389 (fun i60 => ?_)
    refine G_aload 0 dX12_pass_392 rfl ?_
    refine G_geti (k := 2) K_13 (by decide) rfl rfl rfl gw_1388 rfl dX12_pass_394 (fun i61 => ?_)
    refine G_iadd dX12_pass_397 ?_
    refine G_aload 0 dX12_pass_398 rfl ?_
    refine G_geti (k := 4) K_13 (by decide) rfl rfl rfl gw_1393 rfl dX12_pass_400 (fun i62 => ?_)
    refine G_icmp_le (tgt := 414) dX12_pass_403 (by decide) (fun _ => ?_) (fun _ => ?_)
    · refine G_aload 0 dX12_pass_414 rfl ?_
      refine G_geti (k := 6) K_13 (by decide) rfl rfl rfl gw_1398 rfl dX12_pass_416 (fun i63 => ?_)
      refine G_aload 0 dX12_pass_419 rfl ?_
      refine G_geti (k := 2) K_13 (by decide) rfl rfl rfl gw_1388 rfl dX12_pass_421 (fun i64 => ?_)
      refine G_iadd dX12_pass_424 ?_
      refine G_lv [1, 2, 3, 4, 0] rfl ?_
      exact g_X12_pass_b425 l N z ih o v1 v2 v3 r59 (i63 + i64) r59 x0
    · refine G_aload 0 dX12_pass_406 rfl ?_
      refine G_geti (k := 4) K_13 (by decide) rfl rfl rfl gw_1393 rfl dX12_pass_408 (fun i65 => ?_)
      refine G_goto (tgt := 425) dX12_pass_411 (by decide) ?_
      refine G_lv [1, 2, 3, 4, 0] rfl ?_
      exact g_X12_pass_b425 l N z ih o v1 v2 v3 r59 i65 r59 x0

set_option maxRecDepth 100000 in
set_option maxHeartbeats 4000000 in
theorem g_X12_pass_b289 (l : Launch) (N : Nat) (z : Nat → Nat) : ∀ (n : Nat) (o : Nat) (v1 : Option Nat) (v2 : Int32) (v3 : Int32) (x0 : Hp), G l z m_X12_pass okT enV 289 [(0, va_rf (some o)), (1, va_rf v1), (2, .int v2), (3, .int v3)] [] x0 (f_X12_pass_b289 N z n o v1 v2 v3 x0) := by
  intro n
  induction n with
  | zero => intro o v1 v2 v3 x0; exact G_none
  | succ n ih =>
  intro o v1 v2 v3 x0
  rw [f_X12_pass_b289]
  refine G_iload_n 3 dX12_pass_289 rfl rfl ?_
  refine G_iload_n 2 dX12_pass_290 rfl rfl ?_
  refine G_icmp_ge (tgt := 365) dX12_pass_291 (by decide) (fun _ => ?_) (fun _ => ?_)
  · refine G_aload_n 0 dX12_pass_365 rfl rfl ?_
    refine G_getr (k := 5) K_14 (by decide) rfl rfl rfl gw_1349 rfl dX12_pass_366 (fun r66 => ?_)
    refine G_astore_n (i := 1) (l2 := [(0, va_rf (some o)), (2, .int v2), (3, .int v3)]) [0, 2, 3] dX12_pass_369 rfl (Nat.le_of_ble_eq_true rfl) rfl (sok_b (by decide) (rf_cat _) (sok_a (by decide) (by decide) (sok_a (by decide) (by decide) trivial))) ?_
    refine G_aload_n 0 dX12_pass_370 rfl rfl ?_
    refine G_alen (t := 6) rfl (by decide) dX12_pass_371 (fun i67 => ?_)
    refine G_istore_n (i := 2) (l2 := [(1, va_rf r66), (0, va_rf (some o)), (3, .int v3)]) [0, 1, 3] dX12_pass_372 rfl (Nat.le_of_ble_eq_true rfl) rfl (sok_b (by decide) (rf_cat _) (sok_a (by decide) (by decide) (sok_a (by decide) (by decide) trivial))) ?_
    refine G_iconst (v := (0 : Int32)) dX12_pass_373 rfl ?_
    refine G_istore_n (i := 3) (l2 := [(2, .int i67), (1, va_rf r66), (0, va_rf (some o))]) [0, 1, 2] dX12_pass_374 rfl (Nat.le_of_ble_eq_true rfl) rfl (sok_b (by decide) rfl (sok_a (by decide) (by decide) (sok_a (by decide) (by decide) trivial))) ?_
    refine G_lv [3, 2, 1, 0] rfl ?_
    exact g_X12_pass_b375 l N z N o r66 i67 (0 : Int32) x0
  · refine G_aload_n 1 dX12_pass_294 rfl rfl ?_
    refine G_iload_n 3 dX12_pass_295 rfl rfl ?_
    refine G_aald (t := 7) rfl (by decide) (by decide) dX12_pass_296 (fun r68 => ?_)
    refine G_astore (i := 4) (l2 := [(0, va_rf (some o)), (1, va_rf v1), (2, .int v2), (3, .int v3)]) [0, 1, 2, 3] dX12_pass_297 (Nat.le_of_ble_eq_true rfl) rfl (sok_a (by decide) (by decide) (sok_a (by decide) (by decide) (sok_a (by decide) (by decide) (sok_b (by decide) rfl trivial)))) ?_
    refine G_aload_n 1 dX12_pass_299 rfl rfl ?_
    refine G_geti (k := 0) K_14 (by decide) rfl rfl rfl gw_1343 rfl dX12_pass_300 (fun i69 => ?_)
    refine G_aload 0 dX12_pass_303 rfl ?_
    refine G_iconst (v := (3 : Int32)) dX12_pass_305 rfl ?_
    refine G_iald dX12_pass_306 (fun i70 => ?_)
    refine G_icmp_lt (tgt := 359) dX12_pass_307 (by decide) (fun _ => ?_) (fun _ => ?_)
    · refine G_lv [1, 2, 3, 4] rfl ?_
      exact g_X12_pass_b359 l N z ih o v1 v2 v3 x0
    · refine G_aload_n 1 dX12_pass_310 rfl rfl ?_
      refine G_geti (k := 0) K_14 (by decide) rfl rfl rfl gw_1343 rfl dX12_pass_311 (fun i71 => ?_)
      refine G_aload 0 dX12_pass_314 rfl ?_
      refine G_iconst (v := (3 : Int32)) dX12_pass_316 rfl ?_
      refine G_iald dX12_pass_317 (fun i72 => ?_)
      refine G_isub dX12_pass_318 ?_
      refine G_aload 0 dX12_pass_319 rfl ?_
      refine G_iconst (v := (2 : Int32)) dX12_pass_321 rfl ?_
      refine G_iald dX12_pass_322 (fun i73 => ?_)
      refine G_irem dX12_pass_323 ?_
      refine G_if_le (tgt := 330) dX12_pass_324 (by decide) (fun _ => ?_) (fun _ => ?_)
      · refine G_aload_n 1 dX12_pass_330 rfl rfl ?_
        refine G_aload_n 1 dX12_pass_331 rfl rfl ?_
        refine G_getr (k := 5) K_14 (by decide) rfl rfl rfl gw_1349 rfl dX12_pass_332 (fun r74 => ?_)
        refine G_aload 0 dX12_pass_335 rfl ?_
        refine G_iconst (v := (0 : Int32)) dX12_pass_337 rfl ?_
        refine G_iald dX12_pass_338 (fun i75 => ?_)
        refine G_aald (t := 6) rfl (by decide) (by decide) dX12_pass_339 (fun r76 => ?_)
        refine G_aload 0 dX12_pass_340 rfl ?_
        refine G_iconst (v := (1 : Int32)) dX12_pass_342 rfl ?_
        refine G_iald dX12_pass_343 (fun i77 => ?_)
        refine G_callV (av := [va_rf r76, .int i77]) [] (fun q80 => ct_X12_bring l N z q80 r76 i77) K_14 rfl yn_X12_bring (Nat.le_of_ble_eq_true rfl) (by decide) gw_799 gw_800 gw_801 gw_54 gw_802 rfl (by decide) dX12_pass_344 (fun i79 x78 => ?_)
        refine G_pop dX12_pass_347 rfl ?_
        refine G_aload 0 dX12_pass_348 rfl ?_
        refine G_iconst (v := (4 : Int32)) dX12_pass_350 rfl ?_
        refine G_dup2 dX12_pass_351 rfl (rf_cat _) ?_
        refine G_iald dX12_pass_352 (fun i81 => ?_)
        refine G_aload 0 dX12_pass_353 rfl ?_
        refine G_iconst (v := (1 : Int32)) dX12_pass_355 rfl ?_
        refine G_iald dX12_pass_356 (fun i82 => ?_)
        refine G_iadd dX12_pass_357 ?_
        refine G_iast dX12_pass_358 (fun x83 => ?_)
        refine G_lv [1, 2, 3, 4] rfl ?_
        exact g_X12_pass_b359 l N z ih o v1 v2 v3 x83
      · refine G_goto (tgt := 359) dX12_pass_327 (by decide) ?_
        refine G_lv [1, 2, 3, 4] rfl ?_
        exact g_X12_pass_b359 l N z ih o v1 v2 v3 x0

set_option maxRecDepth 100000 in
set_option maxHeartbeats 4000000 in
theorem g_X12_pass_b42 (l : Launch) (N : Nat) (z : Nat → Nat) : ∀ (n : Nat) (o : Nat) (v1 : Option Nat) (v2 : Int32) (v3 : Int32) (x0 : Hp), G l z m_X12_pass okT enV 42 [(0, va_rf (some o)), (1, va_rf v1), (2, .int v2), (3, .int v3)] [] x0 (f_X12_pass_b42 N z n o v1 v2 v3 x0) := by
  intro n
  induction n with
  | zero => intro o v1 v2 v3 x0; exact G_none
  | succ n ih =>
  intro o v1 v2 v3 x0
  rw [f_X12_pass_b42]
  refine G_iload_n 3 dX12_pass_42 rfl rfl ?_
  refine G_iload_n 2 dX12_pass_43 rfl rfl ?_
  refine G_icmp_ge (tgt := 279) dX12_pass_44 (by decide) (fun _ => ?_) (fun _ => ?_)
  · refine G_aload_n 0 dX12_pass_279 rfl rfl ?_
    refine G_getr (k := 6) K_14 (by decide) rfl rfl rfl gw_1351 rfl dX12_pass_280 (fun r84 => ?_)
    refine G_astore_n (i := 1) (l2 := [(0, va_rf (some o)), (2, .int v2), (3, .int v3)]) [0, 2, 3] dX12_pass_283 rfl (Nat.le_of_ble_eq_true rfl) rfl (sok_b (by decide) (rf_cat _) (sok_a (by decide) (by decide) (sok_a (by decide) (by decide) trivial))) ?_
    refine G_aload_n 0 dX12_pass_284 rfl rfl ?_
    refine G_alen (t := 7) rfl (by decide) dX12_pass_285 (fun i85 => ?_)
    refine G_istore_n (i := 2) (l2 := [(1, va_rf r84), (0, va_rf (some o)), (3, .int v3)]) [0, 1, 3] dX12_pass_286 rfl (Nat.le_of_ble_eq_true rfl) rfl (sok_b (by decide) (rf_cat _) (sok_a (by decide) (by decide) (sok_a (by decide) (by decide) trivial))) ?_
    refine G_iconst (v := (0 : Int32)) dX12_pass_287 rfl ?_
    refine G_istore_n (i := 3) (l2 := [(2, .int i85), (1, va_rf r84), (0, va_rf (some o))]) [0, 1, 2] dX12_pass_288 rfl (Nat.le_of_ble_eq_true rfl) rfl (sok_b (by decide) rfl (sok_a (by decide) (by decide) (sok_a (by decide) (by decide) trivial))) ?_
    refine G_lv [3, 2, 1, 0] rfl ?_
    exact g_X12_pass_b289 l N z N o r84 i85 (0 : Int32) x0
  · refine G_aload_n 1 dX12_pass_47 rfl rfl ?_
    refine G_iload_n 3 dX12_pass_48 rfl rfl ?_
    refine G_aald (t := 7) rfl (by decide) (by decide) dX12_pass_49 (fun r86 => ?_)
    refine G_astore (i := 4) (l2 := [(0, va_rf (some o)), (1, va_rf v1), (2, .int v2), (3, .int v3)]) [0, 1, 2, 3] dX12_pass_50 (Nat.le_of_ble_eq_true rfl) rfl (sok_a (by decide) (by decide) (sok_a (by decide) (by decide) (sok_a (by decide) (by decide) (sok_b (by decide) rfl trivial)))) ?_
    refine G_aload_n 1 dX12_pass_52 rfl rfl ?_
    refine G_aload 0 dX12_pass_53 rfl ?_
    refine G_iconst (v := (5 : Int32)) dX12_pass_55 rfl ?_
    refine G_iald dX12_pass_56 (fun i87 => ?_)
    refine G_aload 0 dX12_pass_57 rfl ?_
    refine G_bipush (v := (6 : Int32)) dX12_pass_59 (by decide) ?_
    refine G_iald dX12_pass_61 (fun i88 => ?_)
    refine G_aload 0 dX12_pass_62 rfl ?_
    refine G_bipush (v := (7 : Int32)) dX12_pass_64 (by decide) ?_
    refine G_iald dX12_pass_66 (fun i89 => ?_)
    refine G_callV (av := [.int i87, .int i88, .int i89]) [] (fun q92 => ct_X12_holds l N z q92 i87 i88 i89) K_14 rfl yn_X12_holds (Nat.le_of_ble_eq_true rfl) (by decide) gw_789 gw_791 gw_s11 gw_54 gw_793 rfl (by decide) dX12_pass_67 (fun i91 x90 => ?_)
    refine G_if_ne (tgt := 76) dX12_pass_70 (by decide) (fun _ => ?_) (fun _ => ?_)
    · refine G_goto (tgt := 273) dX12_pass_73 (by decide) ?_
      refine G_lv [1, 2, 3, 4] rfl ?_
      exact g_X12_pass_b273 l N z ih o v1 v2 v3 x90
    · refine G_aload_n 1 dX12_pass_76 rfl rfl ?_
      refine G_getr (k := 5) K_14 (by decide) rfl rfl rfl gw_1349 rfl dX12_pass_77 (fun r93 => ?_)
      refine G_aload 0 dX12_pass_80 rfl ?_
      refine G_iconst (v := (1 : Int32)) dX12_pass_82 rfl ?_
      refine G_iald dX12_pass_83 (fun i94 => ?_)
      refine G_aald (t := 6) rfl (by decide) (by decide) dX12_pass_84 (fun r95 => ?_)
      refine G_astore (i := 5) (l2 := [(4, va_rf r86), (0, va_rf (some o)), (1, va_rf v1), (2, .int v2), (3, .int v3)]) [0, 1, 2, 3, 4] dX12_pass_85 (Nat.le_of_ble_eq_true rfl) rfl (sok_b (by decide) (rf_cat _) (sok_a (by decide) (by decide) (sok_a (by decide) (by decide) (sok_a (by decide) (by decide) (sok_a (by decide) (by decide) trivial))))) ?_
      refine G_aload 1 dX12_pass_87 rfl ?_
      refine G_iconst (v := (0 : Int32)) dX12_pass_89 rfl ?_
      refine G_iald dX12_pass_90 (fun i96 => ?_)
      refine G_iconst (v := (2 : Int32)) dX12_pass_91 rfl ?_
      refine G_icmp_ne (tgt := 99) dX12_pass_92 (by decide) (fun _ => ?_) (fun _ => ?_)
      · refine G_iconst (v := (0 : Int32)) dX12_pass_95 rfl ?_
        refine G_goto (tgt := 120) dX12_pass_96 (by decide) ?_
        refine G_lv [2, 3, 4, 5, 1, 0] rfl ?_
        exact g_X12_pass_b120 l N z ih o v1 v2 v3 r86 r95 (0 : Int32) x90
      · refine G_aload_n 2 dX12_pass_99 rfl rfl ?_
        refine G_aload 1 dX12_pass_100 rfl ?_
        refine G_iconst (v := (2 : Int32)) dX12_pass_102 rfl ?_
        refine G_iald dX12_pass_103 (fun i97 => ?_)
        refine G_aload_n 2 dX12_pass_104 rfl rfl ?_
        refine G_getr (k := 5) K_14 (by decide) rfl rfl rfl gw_1349 rfl dX12_pass_105 (fun r98 => ?_)
        refine G_aload 1 dX12_pass_108 rfl ?_
        refine G_iconst (v := (3 : Int32)) dX12_pass_110 rfl ?_
        refine G_iald dX12_pass_111 (fun i99 => ?_)
        refine G_aald (t := 6) rfl (by decide) (by decide) dX12_pass_112 (fun r100 => ?_)
        refine G_aload 1 dX12_pass_113 rfl ?_
        refine G_iconst (v := (4 : Int32)) dX12_pass_115 rfl ?_
        refine G_iald dX12_pass_116 (fun i101 => ?_)
        refine G_callV (av := [.int i97, va_rf r100, .int i101]) [] (fun q104 => ct_X12_value l N z q104 i97 r100 i101) K_14 rfl yn_X12_value (Nat.le_of_ble_eq_true rfl) (by decide) gw_794 gw_796 gw_s12 gw_54 gw_797 rfl (by decide) dX12_pass_117 (fun i103 x102 => ?_)
        refine G_lv [2, 3, 4, 5, 1, 0] rfl ?_
        exact g_X12_pass_b120 l N z ih o v1 v2 v3 r86 r95 i103 x102

set_option maxRecDepth 100000 in
set_option maxHeartbeats 4000000 in
theorem g_X12_pass_b10 (l : Launch) (N : Nat) (z : Nat → Nat) : ∀ (n : Nat) (o : Nat) (v1 : Option Nat) (v2 : Int32) (v3 : Int32) (x0 : Hp), G l z m_X12_pass okT enV 10 [(0, va_rf (some o)), (1, va_rf v1), (2, .int v2), (3, .int v3)] [] x0 (f_X12_pass_b10 N z n o v1 v2 v3 x0) := by
  intro n
  induction n with
  | zero => intro o v1 v2 v3 x0; exact G_none
  | succ n ih =>
  intro o v1 v2 v3 x0
  rw [f_X12_pass_b10]
  refine G_iload_n 3 dX12_pass_10 rfl rfl ?_
  refine G_iload_n 2 dX12_pass_11 rfl rfl ?_
  refine G_icmp_ge (tgt := 32) dX12_pass_12 (by decide) (fun _ => ?_) (fun _ => ?_)
  · refine G_aload_n 0 dX12_pass_32 rfl rfl ?_
    refine G_getr (k := 7) K_14 (by decide) rfl rfl rfl gw_1353 rfl dX12_pass_33 (fun r105 => ?_)
    refine G_astore_n (i := 1) (l2 := [(0, va_rf (some o)), (2, .int v2), (3, .int v3)]) [0, 2, 3] dX12_pass_36 rfl (Nat.le_of_ble_eq_true rfl) rfl (sok_b (by decide) (rf_cat _) (sok_a (by decide) (by decide) (sok_a (by decide) (by decide) trivial))) ?_
    refine G_aload_n 0 dX12_pass_37 rfl rfl ?_
    refine G_alen (t := 7) rfl (by decide) dX12_pass_38 (fun i106 => ?_)
    refine G_istore_n (i := 2) (l2 := [(1, va_rf r105), (0, va_rf (some o)), (3, .int v3)]) [0, 1, 3] dX12_pass_39 rfl (Nat.le_of_ble_eq_true rfl) rfl (sok_b (by decide) (rf_cat _) (sok_a (by decide) (by decide) (sok_a (by decide) (by decide) trivial))) ?_
    refine G_iconst (v := (0 : Int32)) dX12_pass_40 rfl ?_
    refine G_istore_n (i := 3) (l2 := [(2, .int i106), (1, va_rf r105), (0, va_rf (some o))]) [0, 1, 2] dX12_pass_41 rfl (Nat.le_of_ble_eq_true rfl) rfl (sok_b (by decide) rfl (sok_a (by decide) (by decide) (sok_a (by decide) (by decide) trivial))) ?_
    refine G_lv [3, 2, 1, 0] rfl ?_
    exact g_X12_pass_b42 l N z N o r105 i106 (0 : Int32) x0
  · refine G_aload_n 1 dX12_pass_15 rfl rfl ?_
    refine G_iload_n 3 dX12_pass_16 rfl rfl ?_
    refine G_aald (t := 6) rfl (by decide) (by decide) dX12_pass_17 (fun r107 => ?_)
    refine G_astore (i := 4) (l2 := [(0, va_rf (some o)), (1, va_rf v1), (2, .int v2), (3, .int v3)]) [0, 1, 2, 3] dX12_pass_18 (Nat.le_of_ble_eq_true rfl) rfl (sok_a (by decide) (by decide) (sok_a (by decide) (by decide) (sok_a (by decide) (by decide) (sok_b (by decide) rfl trivial)))) ?_
    refine G_aload 0 dX12_pass_20 rfl ?_
    refine G_iconst (v := (0 : Int32)) dX12_pass_22 rfl ?_
    refine G_puti (k := 16) K_13 (by decide) rfl rfl rfl gw_1414 rfl (Or.inl rfl) (by decide) (by decide) dX12_pass_23 (fun x108 => ?_)
    refine G_iinc (i := 3) (l2 := [(4, va_rf r107), (0, va_rf (some o)), (1, va_rf v1), (2, .int v2)]) 4 [0, 1, 2, 3] dX12_pass_26 rfl rfl (Nat.le_of_ble_eq_true rfl) rfl (sok_a (by decide) (by decide) (sok_a (by decide) (by decide) (sok_a (by decide) (by decide) (sok_b (by decide) rfl trivial)))) ?_
    refine G_goto (tgt := 10) dX12_pass_29 (by decide) ?_
    refine G_lv [2, 3, 4, 0] rfl ?_
    exact ih o v1 v2 (v3 + (1 : Int32)) x108

set_option maxRecDepth 100000 in
set_option maxHeartbeats 4000000 in
theorem g_X12_pass (l : Launch) (N : Nat) (z : Nat → Nat) (o : Nat) (x0 : Hp) : G l z m_X12_pass okT enV 0 [(0, va_rf (some o))] [] x0 (f_X12_pass N z o x0) := by
  unfold f_X12_pass
  refine G_aload_n 0 dX12_pass_0 rfl rfl ?_
  refine G_getr (k := 5) K_14 (by decide) rfl rfl rfl gw_1349 rfl dX12_pass_1 (fun r109 => ?_)
  refine G_astore_n (i := 1) (l2 := [(0, va_rf (some o))]) [0] dX12_pass_4 rfl (Nat.le_of_ble_eq_true rfl) rfl (sok_b (by decide) (rf_cat _) trivial) ?_
  refine G_aload_n 0 dX12_pass_5 rfl rfl ?_
  refine G_alen (t := 6) rfl (by decide) dX12_pass_6 (fun i110 => ?_)
  refine G_istore_n (i := 2) (l2 := [(1, va_rf r109), (0, va_rf (some o))]) [0, 1] dX12_pass_7 rfl (Nat.le_of_ble_eq_true rfl) rfl (sok_b (by decide) (rf_cat _) (sok_a (by decide) (by decide) trivial)) ?_
  refine G_iconst (v := (0 : Int32)) dX12_pass_8 rfl ?_
  refine G_istore_n (i := 3) (l2 := [(2, .int i110), (1, va_rf r109), (0, va_rf (some o))]) [0, 1, 2] dX12_pass_9 rfl (Nat.le_of_ble_eq_true rfl) rfl (sok_b (by decide) rfl (sok_a (by decide) (by decide) (sok_a (by decide) (by decide) trivial))) ?_
  refine G_lv [3, 2, 1, 0] rfl ?_
  exact g_X12_pass_b10 l N z N o r109 i110 (0 : Int32) x0

theorem yn_X12_pass : Yn yX12_pass 0 := ⟨by decide +kernel, by decide +kernel, by decide +kernel⟩
theorem ct_X12_pass (l : Launch) (N : Nat) (z : Nat → Nat) (o : Nat) : Ct l z yX12_pass cX12_pass 8 none 4 enV [.ref o] (f_X12_pass N z o) :=
  Ct_v (fun x => G_lv0 (by simp only [lva_n, lva_i, lva_o, lva_r, lva_j]) (g_X12_pass l N z o x)) (by decide +kernel) (by simp only [lgl_n, lgl_i, lgl_o, lgl_r, lgl_j]; decide)

theorem dX12_behind_0 : decode cX12_behind 0 = .ok (.iconst 0, 1) := by decide +kernel
theorem dX12_behind_1 : decode cX12_behind 1 = .ok (.istore_n 2, 1) := by decide +kernel
theorem dX12_behind_2 : decode cX12_behind 2 = .ok (.iload_n 2, 1) := by decide +kernel
theorem dX12_behind_3 : decode cX12_behind 3 = .ok (.iload_n 1, 1) := by decide +kernel
theorem dX12_behind_4 : decode cX12_behind 4 = .ok (.if_icmp .ge 13, 3) := by decide +kernel
theorem dX12_behind_7 : decode cX12_behind 7 = .ok (.aload_n 0, 1) := by decide +kernel
theorem dX12_behind_8 : decode cX12_behind 8 = .ok (.invokevirtual 197, 3) := by decide +kernel
theorem dX12_behind_11 : decode cX12_behind 11 = .ok (.iinc 2 1, 3) := by decide +kernel
theorem dX12_behind_14 : decode cX12_behind 14 = .ok (.goto (-12), 3) := by decide +kernel
theorem dX12_behind_17 : decode cX12_behind 17 = .ok (.aload_n 0, 1) := by decide +kernel
theorem dX12_behind_18 : decode cX12_behind 18 = .ok (.areturn, 1) := by decide +kernel
abbrev m_X12_behind : Mt := (cX12_behind, RX12, "behind", 3, .areturn, 5)
def f_X12_behind_b2 (N : Nat) (z : Nat → Nat) : Nat → Nat → Int32 → Int32 → Hp → Option (Option Nat × Hp)
  | 0, _, _, _, _ => none
  | n + 1, o, v1, v2, x0 => if v1 ≤ v2 then (some (some o, x0)) else (obj (some o) x0 15 fun q2 => bnd (f_X12_pass N z q2 x0) fun _ x1 =>
  f_X12_behind_b2 N z n o v1 (v2 + (1 : Int32)) x1)
def f_X12_behind (N : Nat) (z : Nat → Nat) (o : Nat) (v1 : Int32) (x0 : Hp) : Option (Option Nat × Hp) :=
  f_X12_behind_b2 N z N o v1 (0 : Int32) x0
set_option maxRecDepth 100000 in
set_option maxHeartbeats 4000000 in
theorem g_X12_behind_b2 (l : Launch) (N : Nat) (z : Nat → Nat) : ∀ (n : Nat) (o : Nat) (v1 : Int32) (v2 : Int32) (x0 : Hp), G l z m_X12_behind okT enR 2 [(0, va_rf (some o)), (1, .int v1), (2, .int v2)] [] x0 (f_X12_behind_b2 N z n o v1 v2 x0) := by
  intro n
  induction n with
  | zero => intro o v1 v2 x0; exact G_none
  | succ n ih =>
  intro o v1 v2 x0
  rw [f_X12_behind_b2]
  refine G_iload_n 2 dX12_behind_2 rfl rfl ?_
  refine G_iload_n 1 dX12_behind_3 rfl rfl ?_
  refine G_icmp_ge (tgt := 17) dX12_behind_4 (by decide) (fun _ => ?_) (fun _ => ?_)
  · refine G_aload_n 0 dX12_behind_17 rfl rfl ?_
    exact G_ret trivial dX12_behind_18 rfl
  · refine G_aload_n 0 dX12_behind_7 rfl rfl ?_
    refine G_callV (av := []) [] (fun q2 => ct_X12_pass l N z q2) K_14 rfl yn_X12_pass (Nat.le_of_ble_eq_true rfl) (by decide) gw_1496 gw_786 gw_787 gw_54 gw_788 rfl (by decide) dX12_behind_8 (fun _ x1 => ?_)
    refine G_iinc (i := 2) (l2 := [(0, va_rf (some o)), (1, .int v1)]) 2 [0, 1] dX12_behind_11 rfl rfl (Nat.le_of_ble_eq_true rfl) rfl (sok_a (by decide) (by decide) (sok_b (by decide) rfl trivial)) ?_
    refine G_goto (tgt := 2) dX12_behind_14 (by decide) ?_
    refine G_lv [1, 2, 0] rfl ?_
    exact ih o v1 (v2 + (1 : Int32)) x1

set_option maxRecDepth 100000 in
set_option maxHeartbeats 4000000 in
theorem g_X12_behind (l : Launch) (N : Nat) (z : Nat → Nat) (o : Nat) (v1 : Int32) (x0 : Hp) : G l z m_X12_behind okT enR 0 [(0, va_rf (some o)), (1, .int v1)] [] x0 (f_X12_behind N z o v1 x0) := by
  unfold f_X12_behind
  refine G_iconst (v := (0 : Int32)) dX12_behind_0 rfl ?_
  refine G_istore_n (i := 2) (l2 := [(0, va_rf (some o)), (1, .int v1)]) [0, 1] dX12_behind_1 rfl (Nat.le_of_ble_eq_true rfl) rfl (sok_a (by decide) (by decide) (sok_b (by decide) rfl trivial)) ?_
  refine G_lv [1, 2, 0] rfl ?_
  exact g_X12_behind_b2 l N z N o v1 (0 : Int32) x0

theorem yn_X12_behind : Yn yX12_behind 1 := ⟨by decide +kernel, by decide +kernel, by decide +kernel⟩
theorem ct_X12_behind (l : Launch) (N : Nat) (z : Nat → Nat) (o : Nat) (v1 : Int32) : Ct l z yX12_behind cX12_behind 3 (some (.object "BucketBrigadeLaw$Sim")) 5 enR [.ref o, .int v1] (f_X12_behind N z o v1) :=
  Ct_r (fun x => G_lv0 (by simp only [lva_n, lva_i, lva_o, lva_r, lva_j]) (g_X12_behind l N z o v1 x)) (by decide +kernel) (by simp only [lgl_n, lgl_i, lgl_o, lgl_r, lgl_j]; decide)

theorem dX12_counted_0 : decode cX12_counted 0 = .ok (.iconst 0, 1) := by decide +kernel
theorem dX12_counted_1 : decode cX12_counted 1 = .ok (.istore_n 2, 1) := by decide +kernel
theorem dX12_counted_2 : decode cX12_counted 2 = .ok (.iconst 0, 1) := by decide +kernel
theorem dX12_counted_3 : decode cX12_counted 3 = .ok (.istore_n 3, 1) := by decide +kernel
theorem dX12_counted_4 : decode cX12_counted 4 = .ok (.iconst 0, 1) := by decide +kernel
theorem dX12_counted_5 : decode cX12_counted 5 = .ok (.istore 4, 2) := by decide +kernel
theorem dX12_counted_7 : decode cX12_counted 7 = .ok (.iconst 0, 1) := by decide +kernel
theorem dX12_counted_8 : decode cX12_counted 8 = .ok (.istore 5, 2) := by decide +kernel
theorem dX12_counted_10 : decode cX12_counted 10 = .ok (.aload_n 0, 1) := by decide +kernel
theorem dX12_counted_11 : decode cX12_counted 11 = .ok (.getfield 15, 3) := by decide +kernel
theorem dX12_counted_14 : decode cX12_counted 14 = .ok (.astore 6, 2) := by decide +kernel
theorem dX12_counted_16 : decode cX12_counted 16 = .ok (.aload 6, 2) := by decide +kernel
theorem dX12_counted_18 : decode cX12_counted 18 = .ok (.arraylength, 1) := by decide +kernel
theorem dX12_counted_19 : decode cX12_counted 19 = .ok (.istore 7, 2) := by decide +kernel
theorem dX12_counted_21 : decode cX12_counted 21 = .ok (.iconst 0, 1) := by decide +kernel
theorem dX12_counted_22 : decode cX12_counted 22 = .ok (.istore 8, 2) := by decide +kernel
theorem dX12_counted_24 : decode cX12_counted 24 = .ok (.iload 8, 2) := by decide +kernel
theorem dX12_counted_26 : decode cX12_counted 26 = .ok (.iload 7, 2) := by decide +kernel
theorem dX12_counted_28 : decode cX12_counted 28 = .ok (.if_icmp .ge 52, 3) := by decide +kernel
theorem dX12_counted_31 : decode cX12_counted 31 = .ok (.aload 6, 2) := by decide +kernel
theorem dX12_counted_33 : decode cX12_counted 33 = .ok (.iload 8, 2) := by decide +kernel
theorem dX12_counted_35 : decode cX12_counted 35 = .ok (.aaload, 1) := by decide +kernel
theorem dX12_counted_36 : decode cX12_counted 36 = .ok (.astore 9, 2) := by decide +kernel
theorem dX12_counted_38 : decode cX12_counted 38 = .ok (.iload_n 2, 1) := by decide +kernel
theorem dX12_counted_39 : decode cX12_counted 39 = .ok (.aload 9, 2) := by decide +kernel
theorem dX12_counted_41 : decode cX12_counted 41 = .ok (.getfield 75, 3) := by decide +kernel
theorem dX12_counted_44 : decode cX12_counted 44 = .ok (.iadd, 1) := by decide +kernel
theorem dX12_counted_45 : decode cX12_counted 45 = .ok (.istore_n 2, 1) := by decide +kernel
theorem dX12_counted_46 : decode cX12_counted 46 = .ok (.iload_n 3, 1) := by decide +kernel
theorem dX12_counted_47 : decode cX12_counted 47 = .ok (.aload 9, 2) := by decide +kernel
theorem dX12_counted_49 : decode cX12_counted 49 = .ok (.getfield 81, 3) := by decide +kernel
theorem dX12_counted_52 : decode cX12_counted 52 = .ok (.iadd, 1) := by decide +kernel
theorem dX12_counted_53 : decode cX12_counted 53 = .ok (.istore_n 3, 1) := by decide +kernel
theorem dX12_counted_54 : decode cX12_counted 54 = .ok (.iload 4, 2) := by decide +kernel
theorem dX12_counted_56 : decode cX12_counted 56 = .ok (.aload 9, 2) := by decide +kernel
theorem dX12_counted_58 : decode cX12_counted 58 = .ok (.getfield 84, 3) := by decide +kernel
theorem dX12_counted_61 : decode cX12_counted 61 = .ok (.iadd, 1) := by decide +kernel
theorem dX12_counted_62 : decode cX12_counted 62 = .ok (.istore 4, 2) := by decide +kernel
theorem dX12_counted_64 : decode cX12_counted 64 = .ok (.iload 5, 2) := by decide +kernel
theorem dX12_counted_66 : decode cX12_counted 66 = .ok (.aload 9, 2) := by decide +kernel
theorem dX12_counted_68 : decode cX12_counted 68 = .ok (.getfield 90, 3) := by decide +kernel
theorem dX12_counted_71 : decode cX12_counted 71 = .ok (.iadd, 1) := by decide +kernel
theorem dX12_counted_72 : decode cX12_counted 72 = .ok (.istore 5, 2) := by decide +kernel
theorem dX12_counted_74 : decode cX12_counted 74 = .ok (.iinc 8 1, 3) := by decide +kernel
theorem dX12_counted_77 : decode cX12_counted 77 = .ok (.goto (-53), 3) := by decide +kernel
theorem dX12_counted_80 : decode cX12_counted 80 = .ok (.bipush 13, 2) := by decide +kernel
theorem dX12_counted_82 : decode cX12_counted 82 = .ok (.newarray .int, 2) := by decide +kernel
theorem dX12_counted_84 : decode cX12_counted 84 = .ok (.dup, 1) := by decide +kernel
theorem dX12_counted_85 : decode cX12_counted 85 = .ok (.iconst 0, 1) := by decide +kernel
theorem dX12_counted_86 : decode cX12_counted 86 = .ok (.aload_n 0, 1) := by decide +kernel
theorem dX12_counted_87 : decode cX12_counted 87 = .ok (.getfield 29, 3) := by decide +kernel
theorem dX12_counted_90 : decode cX12_counted 90 = .ok (.iastore, 1) := by decide +kernel
theorem dX12_counted_91 : decode cX12_counted 91 = .ok (.dup, 1) := by decide +kernel
theorem dX12_counted_92 : decode cX12_counted 92 = .ok (.iconst 1, 1) := by decide +kernel
theorem dX12_counted_93 : decode cX12_counted 93 = .ok (.aload_n 0, 1) := by decide +kernel
theorem dX12_counted_94 : decode cX12_counted 94 = .ok (.getfield 7, 3) := by decide +kernel
theorem dX12_counted_97 : decode cX12_counted 97 = .ok (.iastore, 1) := by decide +kernel
theorem dX12_counted_98 : decode cX12_counted 98 = .ok (.dup, 1) := by decide +kernel
theorem dX12_counted_99 : decode cX12_counted 99 = .ok (.iconst 2, 1) := by decide +kernel
theorem dX12_counted_100 : decode cX12_counted 100 = .ok (.aload_n 0, 1) := by decide +kernel
theorem dX12_counted_101 : decode cX12_counted 101 = .ok (.getfield 15, 3) := by decide +kernel
theorem dX12_counted_104 : decode cX12_counted 104 = .ok (.arraylength, 1) := by decide +kernel
theorem dX12_counted_105 : decode cX12_counted 105 = .ok (.iastore, 1) := by decide +kernel
theorem dX12_counted_106 : decode cX12_counted 106 = .ok (.dup, 1) := by decide +kernel
theorem dX12_counted_107 : decode cX12_counted 107 = .ok (.iconst 3, 1) := by decide +kernel
theorem dX12_counted_108 : decode cX12_counted 108 = .ok (.aload_n 0, 1) := by decide +kernel
theorem dX12_counted_109 : decode cX12_counted 109 = .ok (.getfield 21, 3) := by decide +kernel
theorem dX12_counted_112 : decode cX12_counted 112 = .ok (.arraylength, 1) := by decide +kernel
theorem dX12_counted_113 : decode cX12_counted 113 = .ok (.iastore, 1) := by decide +kernel
theorem dX12_counted_114 : decode cX12_counted 114 = .ok (.dup, 1) := by decide +kernel
theorem dX12_counted_115 : decode cX12_counted 115 = .ok (.iconst 4, 1) := by decide +kernel
theorem dX12_counted_116 : decode cX12_counted 116 = .ok (.aload_n 0, 1) := by decide +kernel
theorem dX12_counted_117 : decode cX12_counted 117 = .ok (.getfield 25, 3) := by decide +kernel
theorem dX12_counted_120 : decode cX12_counted 120 = .ok (.arraylength, 1) := by decide +kernel
theorem dX12_counted_121 : decode cX12_counted 121 = .ok (.iastore, 1) := by decide +kernel
theorem dX12_counted_122 : decode cX12_counted 122 = .ok (.dup, 1) := by decide +kernel
theorem dX12_counted_123 : decode cX12_counted 123 = .ok (.iconst 5, 1) := by decide +kernel
theorem dX12_counted_124 : decode cX12_counted 124 = .ok (.iload_n 2, 1) := by decide +kernel
theorem dX12_counted_125 : decode cX12_counted 125 = .ok (.iastore, 1) := by decide +kernel
theorem dX12_counted_126 : decode cX12_counted 126 = .ok (.dup, 1) := by decide +kernel
theorem dX12_counted_127 : decode cX12_counted 127 = .ok (.bipush 6, 2) := by decide +kernel
theorem dX12_counted_129 : decode cX12_counted 129 = .ok (.aload_n 0, 1) := by decide +kernel
theorem dX12_counted_130 : decode cX12_counted 130 = .ok (.getfield 32, 3) := by decide +kernel
theorem dX12_counted_133 : decode cX12_counted 133 = .ok (.iastore, 1) := by decide +kernel
theorem dX12_counted_134 : decode cX12_counted 134 = .ok (.dup, 1) := by decide +kernel
theorem dX12_counted_135 : decode cX12_counted 135 = .ok (.bipush 7, 2) := by decide +kernel
theorem dX12_counted_137 : decode cX12_counted 137 = .ok (.iload_n 3, 1) := by decide +kernel
theorem dX12_counted_138 : decode cX12_counted 138 = .ok (.iastore, 1) := by decide +kernel
theorem dX12_counted_139 : decode cX12_counted 139 = .ok (.dup, 1) := by decide +kernel
theorem dX12_counted_140 : decode cX12_counted 140 = .ok (.bipush 8, 2) := by decide +kernel
theorem dX12_counted_142 : decode cX12_counted 142 = .ok (.iload 4, 2) := by decide +kernel
theorem dX12_counted_144 : decode cX12_counted 144 = .ok (.iastore, 1) := by decide +kernel
theorem dX12_counted_145 : decode cX12_counted 145 = .ok (.dup, 1) := by decide +kernel
theorem dX12_counted_146 : decode cX12_counted 146 = .ok (.bipush 9, 2) := by decide +kernel
theorem dX12_counted_148 : decode cX12_counted 148 = .ok (.iload 5, 2) := by decide +kernel
theorem dX12_counted_150 : decode cX12_counted 150 = .ok (.iastore, 1) := by decide +kernel
theorem dX12_counted_151 : decode cX12_counted 151 = .ok (.dup, 1) := by decide +kernel
theorem dX12_counted_152 : decode cX12_counted 152 = .ok (.bipush 10, 2) := by decide +kernel
theorem dX12_counted_154 : decode cX12_counted 154 = .ok (.aload_n 0, 1) := by decide +kernel
theorem dX12_counted_155 : decode cX12_counted 155 = .ok (.getfield 35, 3) := by decide +kernel
theorem dX12_counted_158 : decode cX12_counted 158 = .ok (.iastore, 1) := by decide +kernel
theorem dX12_counted_159 : decode cX12_counted 159 = .ok (.dup, 1) := by decide +kernel
theorem dX12_counted_160 : decode cX12_counted 160 = .ok (.bipush 11, 2) := by decide +kernel
theorem dX12_counted_162 : decode cX12_counted 162 = .ok (.aload_n 0, 1) := by decide +kernel
theorem dX12_counted_163 : decode cX12_counted 163 = .ok (.getfield 38, 3) := by decide +kernel
theorem dX12_counted_166 : decode cX12_counted 166 = .ok (.iastore, 1) := by decide +kernel
theorem dX12_counted_167 : decode cX12_counted 167 = .ok (.dup, 1) := by decide +kernel
theorem dX12_counted_168 : decode cX12_counted 168 = .ok (.bipush 12, 2) := by decide +kernel
theorem dX12_counted_170 : decode cX12_counted 170 = .ok (.iconst 0, 1) := by decide +kernel
theorem dX12_counted_171 : decode cX12_counted 171 = .ok (.iastore, 1) := by decide +kernel
theorem dX12_counted_172 : decode cX12_counted 172 = .ok (.astore 6, 2) := by decide +kernel
theorem dX12_counted_174 : decode cX12_counted 174 = .ok (.aload 6, 2) := by decide +kernel
theorem dX12_counted_176 : decode cX12_counted 176 = .ok (.iload_n 1, 1) := by decide +kernel
theorem dX12_counted_177 : decode cX12_counted 177 = .ok (.iaload, 1) := by decide +kernel
theorem dX12_counted_178 : decode cX12_counted 178 = .ok (.ireturn, 1) := by decide +kernel
abbrev m_X12_counted : Mt := (cX12_counted, RX12, "counted", 10, .ireturn, 1)
def f_X12_counted_b24 (N : Nat) (z : Nat → Nat) : Nat → Nat → Int32 → Int32 → Int32 → Int32 → Int32 → Option Nat → Int32 → Int32 → Hp → Option (Int32 × Hp)
  | 0, _, _, _, _, _, _, _, _, _, _ => none
  | n + 1, o, v1, v2, v3, v4, v5, v6, v7, v8, x0 => if v7 ≤ v8 then (newa x0 101 (13 : Int32) fun r1 x2 =>
  geti (some o) x2 15 280 fun i3 =>
  asti r1 x2 101 (0 : Int32) i3 fun x4 =>
  geti (some o) x4 15 281 fun i5 =>
  asti r1 x4 101 (1 : Int32) i5 fun x6 =>
  getr (some o) x6 15 285 fun r7 =>
  alen r7 x6 106 fun i8 =>
  asti r1 x6 101 (2 : Int32) i8 fun x9 =>
  getr (some o) x9 15 286 fun r10 =>
  alen r10 x9 107 fun i11 =>
  asti r1 x9 101 (3 : Int32) i11 fun x12 =>
  getr (some o) x12 15 287 fun r13 =>
  alen r13 x12 107 fun i14 =>
  asti r1 x12 101 (4 : Int32) i14 fun x15 =>
  asti r1 x15 101 (5 : Int32) v2 fun x16 =>
  geti (some o) x16 15 282 fun i17 =>
  asti r1 x16 101 (6 : Int32) i17 fun x18 =>
  asti r1 x18 101 (7 : Int32) v3 fun x19 =>
  asti r1 x19 101 (8 : Int32) v4 fun x20 =>
  asti r1 x20 101 (9 : Int32) v5 fun x21 =>
  geti (some o) x21 15 283 fun i22 =>
  asti r1 x21 101 (10 : Int32) i22 fun x23 =>
  geti (some o) x23 15 284 fun i24 =>
  asti r1 x23 101 (11 : Int32) i24 fun x25 =>
  asti r1 x25 101 (12 : Int32) (0 : Int32) fun x26 =>
  aldi r1 x26 101 v1 fun i27 =>
  some (i27, x26)) else (aldr v6 x0 106 v8 fun r28 =>
  geti r28 x0 14 270 fun i29 =>
  geti r28 x0 14 271 fun i30 =>
  geti r28 x0 14 272 fun i31 =>
  geti r28 x0 14 274 fun i32 =>
  f_X12_counted_b24 N z n o v1 (v2 + i29) (v3 + i30) (v4 + i31) (v5 + i32) v6 v7 (v8 + (1 : Int32)) x0)
def f_X12_counted (N : Nat) (z : Nat → Nat) (o : Nat) (v1 : Int32) (x0 : Hp) : Option (Int32 × Hp) :=
  getr (some o) x0 15 285 fun r33 =>
  alen r33 x0 106 fun i34 =>
  f_X12_counted_b24 N z N o v1 (0 : Int32) (0 : Int32) (0 : Int32) (0 : Int32) r33 i34 (0 : Int32) x0
set_option maxRecDepth 100000 in
set_option maxHeartbeats 4000000 in
theorem g_X12_counted_b24 (l : Launch) (N : Nat) (z : Nat → Nat) : ∀ (n : Nat) (o : Nat) (v1 : Int32) (v2 : Int32) (v3 : Int32) (v4 : Int32) (v5 : Int32) (v6 : Option Nat) (v7 : Int32) (v8 : Int32) (x0 : Hp), G l z m_X12_counted okT enI 24 [(0, va_rf (some o)), (1, .int v1), (2, .int v2), (3, .int v3), (4, .int v4), (5, .int v5), (6, va_rf v6), (7, .int v7), (8, .int v8)] [] x0 (f_X12_counted_b24 N z n o v1 v2 v3 v4 v5 v6 v7 v8 x0) := by
  intro n
  induction n with
  | zero => intro o v1 v2 v3 v4 v5 v6 v7 v8 x0; exact G_none
  | succ n ih =>
  intro o v1 v2 v3 v4 v5 v6 v7 v8 x0
  rw [f_X12_counted_b24]
  refine G_iload 8 dX12_counted_24 rfl ?_
  refine G_iload 7 dX12_counted_26 rfl ?_
  refine G_icmp_ge (tgt := 80) dX12_counted_28 (by decide) (fun _ => ?_) (fun _ => ?_)
  · refine G_bipush (v := (13 : Int32)) dX12_counted_80 (by decide) ?_
    refine G_newa (t := 1) rfl (Or.inr (Or.inl ⟨rfl, rfl⟩)) gw_140 dX12_counted_82 (fun r1 x2 => ?_)
    refine G_dup dX12_counted_84 (rf_cat _) ?_
    refine G_iconst (v := (0 : Int32)) dX12_counted_85 rfl ?_
    refine G_aload_n 0 dX12_counted_86 rfl rfl ?_
    refine G_geti (k := 0) K_14 (by decide) rfl rfl rfl gw_1343 rfl dX12_counted_87 (fun i3 => ?_)
    refine G_iast dX12_counted_90 (fun x4 => ?_)
    refine G_dup dX12_counted_91 (rf_cat _) ?_
    refine G_iconst (v := (1 : Int32)) dX12_counted_92 rfl ?_
    refine G_aload_n 0 dX12_counted_93 rfl rfl ?_
    refine G_geti (k := 1) K_14 (by decide) rfl rfl rfl gw_1344 rfl dX12_counted_94 (fun i5 => ?_)
    refine G_iast dX12_counted_97 (fun x6 => ?_)
    refine G_dup dX12_counted_98 (rf_cat _) ?_
    refine G_iconst (v := (2 : Int32)) dX12_counted_99 rfl ?_
    refine G_aload_n 0 dX12_counted_100 rfl rfl ?_
    refine G_getr (k := 5) K_14 (by decide) rfl rfl rfl gw_1349 rfl dX12_counted_101 (fun r7 => ?_)
    refine G_alen (t := 6) rfl (by decide) dX12_counted_104 (fun i8 => ?_)
    refine G_iast dX12_counted_105 (fun x9 => ?_)
    refine G_dup dX12_counted_106 (rf_cat _) ?_
    refine G_iconst (v := (3 : Int32)) dX12_counted_107 rfl ?_
    refine G_aload_n 0 dX12_counted_108 rfl rfl ?_
    refine G_getr (k := 6) K_14 (by decide) rfl rfl rfl gw_1351 rfl dX12_counted_109 (fun r10 => ?_)
    refine G_alen (t := 7) rfl (by decide) dX12_counted_112 (fun i11 => ?_)
    refine G_iast dX12_counted_113 (fun x12 => ?_)
    refine G_dup dX12_counted_114 (rf_cat _) ?_
    refine G_iconst (v := (4 : Int32)) dX12_counted_115 rfl ?_
    refine G_aload_n 0 dX12_counted_116 rfl rfl ?_
    refine G_getr (k := 7) K_14 (by decide) rfl rfl rfl gw_1353 rfl dX12_counted_117 (fun r13 => ?_)
    refine G_alen (t := 7) rfl (by decide) dX12_counted_120 (fun i14 => ?_)
    refine G_iast dX12_counted_121 (fun x15 => ?_)
    refine G_dup dX12_counted_122 (rf_cat _) ?_
    refine G_iconst (v := (5 : Int32)) dX12_counted_123 rfl ?_
    refine G_iload_n 2 dX12_counted_124 rfl rfl ?_
    refine G_iast dX12_counted_125 (fun x16 => ?_)
    refine G_dup dX12_counted_126 (rf_cat _) ?_
    refine G_bipush (v := (6 : Int32)) dX12_counted_127 (by decide) ?_
    refine G_aload_n 0 dX12_counted_129 rfl rfl ?_
    refine G_geti (k := 2) K_14 (by decide) rfl rfl rfl gw_1346 rfl dX12_counted_130 (fun i17 => ?_)
    refine G_iast dX12_counted_133 (fun x18 => ?_)
    refine G_dup dX12_counted_134 (rf_cat _) ?_
    refine G_bipush (v := (7 : Int32)) dX12_counted_135 (by decide) ?_
    refine G_iload_n 3 dX12_counted_137 rfl rfl ?_
    refine G_iast dX12_counted_138 (fun x19 => ?_)
    refine G_dup dX12_counted_139 (rf_cat _) ?_
    refine G_bipush (v := (8 : Int32)) dX12_counted_140 (by decide) ?_
    refine G_iload 4 dX12_counted_142 rfl ?_
    refine G_iast dX12_counted_144 (fun x20 => ?_)
    refine G_dup dX12_counted_145 (rf_cat _) ?_
    refine G_bipush (v := (9 : Int32)) dX12_counted_146 (by decide) ?_
    refine G_iload 5 dX12_counted_148 rfl ?_
    refine G_iast dX12_counted_150 (fun x21 => ?_)
    refine G_dup dX12_counted_151 (rf_cat _) ?_
    refine G_bipush (v := (10 : Int32)) dX12_counted_152 (by decide) ?_
    refine G_aload_n 0 dX12_counted_154 rfl rfl ?_
    refine G_geti (k := 3) K_14 (by decide) rfl rfl rfl gw_1347 rfl dX12_counted_155 (fun i22 => ?_)
    refine G_iast dX12_counted_158 (fun x23 => ?_)
    refine G_dup dX12_counted_159 (rf_cat _) ?_
    refine G_bipush (v := (11 : Int32)) dX12_counted_160 (by decide) ?_
    refine G_aload_n 0 dX12_counted_162 rfl rfl ?_
    refine G_geti (k := 4) K_14 (by decide) rfl rfl rfl gw_1348 rfl dX12_counted_163 (fun i24 => ?_)
    refine G_iast dX12_counted_166 (fun x25 => ?_)
    refine G_dup dX12_counted_167 (rf_cat _) ?_
    refine G_bipush (v := (12 : Int32)) dX12_counted_168 (by decide) ?_
    refine G_iconst (v := (0 : Int32)) dX12_counted_170 rfl ?_
    refine G_iast dX12_counted_171 (fun x26 => ?_)
    refine G_astore (i := 6) (l2 := [(0, va_rf (some o)), (1, .int v1), (2, .int v2), (3, .int v3), (4, .int v4), (5, .int v5), (7, .int v7), (8, .int v8)]) [0, 1, 2, 3, 4, 5, 7, 8] dX12_counted_172 (Nat.le_of_ble_eq_true rfl) rfl (sok_a (by decide) (by decide) (sok_a (by decide) (by decide) (sok_a (by decide) (by decide) (sok_a (by decide) (by decide) (sok_a (by decide) (by decide) (sok_b (by decide) rfl (sok_a (by decide) (by decide) (sok_a (by decide) (by decide) trivial)))))))) ?_
    refine G_aload 0 dX12_counted_174 rfl ?_
    refine G_iload_n 2 dX12_counted_176 rfl rfl ?_
    refine G_iald dX12_counted_177 (fun i27 => ?_)
    exact G_ret trivial dX12_counted_178 rfl
  · refine G_aload 6 dX12_counted_31 rfl ?_
    refine G_iload 8 dX12_counted_33 rfl ?_
    refine G_aald (t := 6) rfl (by decide) (by decide) dX12_counted_35 (fun r28 => ?_)
    refine G_astore (i := 9) (l2 := [(0, va_rf (some o)), (1, .int v1), (2, .int v2), (3, .int v3), (4, .int v4), (5, .int v5), (6, va_rf v6), (7, .int v7), (8, .int v8)]) [0, 1, 2, 3, 4, 5, 6, 7, 8] dX12_counted_36 (Nat.le_of_ble_eq_true rfl) rfl (sok_a (by decide) (by decide) (sok_a (by decide) (by decide) (sok_a (by decide) (by decide) (sok_a (by decide) (by decide) (sok_a (by decide) (by decide) (sok_a (by decide) (by decide) (sok_a (by decide) (by decide) (sok_a (by decide) (by decide) (sok_b (by decide) rfl trivial))))))))) ?_
    refine G_iload_n 3 dX12_counted_38 rfl rfl ?_
    refine G_aload 0 dX12_counted_39 rfl ?_
    refine G_geti (k := 10) K_13 (by decide) rfl rfl rfl gw_1407 rfl dX12_counted_41 (fun i29 => ?_)
    refine G_iadd dX12_counted_44 ?_
    refine G_istore_n (i := 2) (l2 := [(9, va_rf r28), (0, va_rf (some o)), (1, .int v1), (3, .int v3), (4, .int v4), (5, .int v5), (6, va_rf v6), (7, .int v7), (8, .int v8)]) [0, 1, 2, 4, 5, 6, 7, 8, 9] dX12_counted_45 rfl (Nat.le_of_ble_eq_true rfl) rfl (sok_a (by decide) (by decide) (sok_a (by decide) (by decide) (sok_b (by decide) rfl (sok_a (by decide) (by decide) (sok_a (by decide) (by decide) (sok_a (by decide) (by decide) (sok_a (by decide) (by decide) (sok_a (by decide) (by decide) (sok_a (by decide) (by decide) trivial))))))))) ?_
    refine G_iload_n 4 dX12_counted_46 rfl rfl ?_
    refine G_aload 1 dX12_counted_47 rfl ?_
    refine G_geti (k := 11) K_13 (by decide) rfl rfl rfl gw_1408 rfl dX12_counted_49 (fun i30 => ?_)
    refine G_iadd dX12_counted_52 ?_
    refine G_istore_n (i := 3) (l2 := [(2, .int (v2 + i29)), (9, va_rf r28), (0, va_rf (some o)), (1, .int v1), (4, .int v4), (5, .int v5), (6, va_rf v6), (7, .int v7), (8, .int v8)]) [0, 1, 2, 3, 5, 6, 7, 8, 9] dX12_counted_53 rfl (Nat.le_of_ble_eq_true rfl) rfl (sok_b (by decide) rfl (sok_a (by decide) (by decide) (sok_a (by decide) (by decide) (sok_a (by decide) (by decide) (sok_a (by decide) (by decide) (sok_a (by decide) (by decide) (sok_a (by decide) (by decide) (sok_a (by decide) (by decide) (sok_a (by decide) (by decide) trivial))))))))) ?_
    refine G_iload 5 dX12_counted_54 rfl ?_
    refine G_aload 2 dX12_counted_56 rfl ?_
    refine G_geti (k := 12) K_13 (by decide) rfl rfl rfl gw_1409 rfl dX12_counted_58 (fun i31 => ?_)
    refine G_iadd dX12_counted_61 ?_
    refine G_istore (i := 4) (l2 := [(3, .int (v3 + i30)), (2, .int (v2 + i29)), (9, va_rf r28), (0, va_rf (some o)), (1, .int v1), (5, .int v5), (6, va_rf v6), (7, .int v7), (8, .int v8)]) [0, 1, 2, 3, 4, 6, 7, 8, 9] dX12_counted_62 (Nat.le_of_ble_eq_true rfl) rfl (sok_b (by decide) rfl (sok_a (by decide) (by decide) (sok_a (by decide) (by decide) (sok_a (by decide) (by decide) (sok_a (by decide) (by decide) (sok_a (by decide) (by decide) (sok_a (by decide) (by decide) (sok_a (by decide) (by decide) (sok_a (by decide) (by decide) trivial))))))))) ?_
    refine G_iload 6 dX12_counted_64 rfl ?_
    refine G_aload 3 dX12_counted_66 rfl ?_
    refine G_geti (k := 14) K_13 (by decide) rfl rfl rfl gw_1411 rfl dX12_counted_68 (fun i32 => ?_)
    refine G_iadd dX12_counted_71 ?_
    refine G_istore (i := 5) (l2 := [(4, .int (v4 + i31)), (3, .int (v3 + i30)), (2, .int (v2 + i29)), (9, va_rf r28), (0, va_rf (some o)), (1, .int v1), (6, va_rf v6), (7, .int v7), (8, .int v8)]) [0, 1, 2, 3, 4, 5, 7, 8, 9] dX12_counted_72 (Nat.le_of_ble_eq_true rfl) rfl (sok_b (by decide) rfl (sok_a (by decide) (by decide) (sok_a (by decide) (by decide) (sok_a (by decide) (by decide) (sok_a (by decide) (by decide) (sok_a (by decide) (by decide) (sok_a (by decide) (by decide) (sok_a (by decide) (by decide) (sok_a (by decide) (by decide) trivial))))))))) ?_
    refine G_iinc (i := 8) (l2 := [(5, .int (v5 + i32)), (4, .int (v4 + i31)), (3, .int (v3 + i30)), (2, .int (v2 + i29)), (9, va_rf r28), (0, va_rf (some o)), (1, .int v1), (6, va_rf v6), (7, .int v7)]) 9 [0, 1, 2, 3, 4, 5, 6, 7, 8] dX12_counted_74 rfl rfl (Nat.le_of_ble_eq_true rfl) rfl (sok_a (by decide) (by decide) (sok_a (by decide) (by decide) (sok_a (by decide) (by decide) (sok_a (by decide) (by decide) (sok_a (by decide) (by decide) (sok_a (by decide) (by decide) (sok_a (by decide) (by decide) (sok_a (by decide) (by decide) (sok_b (by decide) rfl trivial))))))))) ?_
    refine G_goto (tgt := 24) dX12_counted_77 (by decide) ?_
    refine G_lv [6, 7, 4, 3, 2, 1, 8, 9, 0] rfl ?_
    exact ih o v1 (v2 + i29) (v3 + i30) (v4 + i31) (v5 + i32) v6 v7 (v8 + (1 : Int32)) x0

set_option maxRecDepth 100000 in
set_option maxHeartbeats 4000000 in
theorem g_X12_counted (l : Launch) (N : Nat) (z : Nat → Nat) (o : Nat) (v1 : Int32) (x0 : Hp) : G l z m_X12_counted okT enI 0 [(0, va_rf (some o)), (1, .int v1)] [] x0 (f_X12_counted N z o v1 x0) := by
  unfold f_X12_counted
  refine G_iconst (v := (0 : Int32)) dX12_counted_0 rfl ?_
  refine G_istore_n (i := 2) (l2 := [(0, va_rf (some o)), (1, .int v1)]) [0, 1] dX12_counted_1 rfl (Nat.le_of_ble_eq_true rfl) rfl (sok_a (by decide) (by decide) (sok_b (by decide) rfl trivial)) ?_
  refine G_iconst (v := (0 : Int32)) dX12_counted_2 rfl ?_
  refine G_istore_n (i := 3) (l2 := [(2, .int (0 : Int32)), (0, va_rf (some o)), (1, .int v1)]) [0, 1, 2] dX12_counted_3 rfl (Nat.le_of_ble_eq_true rfl) rfl (sok_b (by decide) rfl (sok_a (by decide) (by decide) (sok_a (by decide) (by decide) trivial))) ?_
  refine G_iconst (v := (0 : Int32)) dX12_counted_4 rfl ?_
  refine G_istore (i := 4) (l2 := [(3, .int (0 : Int32)), (2, .int (0 : Int32)), (0, va_rf (some o)), (1, .int v1)]) [0, 1, 2, 3] dX12_counted_5 (Nat.le_of_ble_eq_true rfl) rfl (sok_b (by decide) rfl (sok_a (by decide) (by decide) (sok_a (by decide) (by decide) (sok_a (by decide) (by decide) trivial)))) ?_
  refine G_iconst (v := (0 : Int32)) dX12_counted_7 rfl ?_
  refine G_istore (i := 5) (l2 := [(4, .int (0 : Int32)), (3, .int (0 : Int32)), (2, .int (0 : Int32)), (0, va_rf (some o)), (1, .int v1)]) [0, 1, 2, 3, 4] dX12_counted_8 (Nat.le_of_ble_eq_true rfl) rfl (sok_b (by decide) rfl (sok_a (by decide) (by decide) (sok_a (by decide) (by decide) (sok_a (by decide) (by decide) (sok_a (by decide) (by decide) trivial))))) ?_
  refine G_aload_n 4 dX12_counted_10 rfl rfl ?_
  refine G_getr (k := 5) K_14 (by decide) rfl rfl rfl gw_1349 rfl dX12_counted_11 (fun r33 => ?_)
  refine G_astore (i := 6) (l2 := [(5, .int (0 : Int32)), (4, .int (0 : Int32)), (3, .int (0 : Int32)), (2, .int (0 : Int32)), (0, va_rf (some o)), (1, .int v1)]) [0, 1, 2, 3, 4, 5] dX12_counted_14 (Nat.le_of_ble_eq_true rfl) rfl (sok_b (by decide) rfl (sok_a (by decide) (by decide) (sok_a (by decide) (by decide) (sok_a (by decide) (by decide) (sok_a (by decide) (by decide) (sok_a (by decide) (by decide) trivial)))))) ?_
  refine G_aload 0 dX12_counted_16 rfl ?_
  refine G_alen (t := 6) rfl (by decide) dX12_counted_18 (fun i34 => ?_)
  refine G_istore (i := 7) (l2 := [(6, va_rf r33), (5, .int (0 : Int32)), (4, .int (0 : Int32)), (3, .int (0 : Int32)), (2, .int (0 : Int32)), (0, va_rf (some o)), (1, .int v1)]) [0, 1, 2, 3, 4, 5, 6] dX12_counted_19 (Nat.le_of_ble_eq_true rfl) rfl (sok_b (by decide) (rf_cat _) (sok_a (by decide) (by decide) (sok_a (by decide) (by decide) (sok_a (by decide) (by decide) (sok_a (by decide) (by decide) (sok_a (by decide) (by decide) (sok_a (by decide) (by decide) trivial))))))) ?_
  refine G_iconst (v := (0 : Int32)) dX12_counted_21 rfl ?_
  refine G_istore (i := 8) (l2 := [(7, .int i34), (6, va_rf r33), (5, .int (0 : Int32)), (4, .int (0 : Int32)), (3, .int (0 : Int32)), (2, .int (0 : Int32)), (0, va_rf (some o)), (1, .int v1)]) [0, 1, 2, 3, 4, 5, 6, 7] dX12_counted_22 (Nat.le_of_ble_eq_true rfl) rfl (sok_b (by decide) rfl (sok_a (by decide) (by decide) (sok_a (by decide) (by decide) (sok_a (by decide) (by decide) (sok_a (by decide) (by decide) (sok_a (by decide) (by decide) (sok_a (by decide) (by decide) (sok_a (by decide) (by decide) trivial)))))))) ?_
  refine G_lv [7, 8, 6, 5, 4, 3, 2, 1, 0] rfl ?_
  exact g_X12_counted_b24 l N z N o v1 (0 : Int32) (0 : Int32) (0 : Int32) (0 : Int32) r33 i34 (0 : Int32) x0

theorem yn_X12_counted : Yn yX12_counted 1 := ⟨by decide +kernel, by decide +kernel, by decide +kernel⟩
theorem ct_X12_counted (l : Launch) (N : Nat) (z : Nat → Nat) (o : Nat) (v1 : Int32) : Ct l z yX12_counted cX12_counted 10 (some .int) 1 enI [.ref o, .int v1] (f_X12_counted N z o v1) :=
  Ct_i (fun x => G_lv0 (by simp only [lva_n, lva_i, lva_o, lva_r, lva_j]) (g_X12_counted l N z o v1 x)) (by decide +kernel) (by simp only [lgl_n, lgl_i, lgl_o, lgl_r, lgl_j]; decide)

theorem dX12_isSame_0 : decode cX12_isSame 0 = .ok (.iconst 0, 1) := by decide +kernel
theorem dX12_isSame_1 : decode cX12_isSame 1 = .ok (.istore_n 2, 1) := by decide +kernel
theorem dX12_isSame_2 : decode cX12_isSame 2 = .ok (.iload_n 2, 1) := by decide +kernel
theorem dX12_isSame_3 : decode cX12_isSame 3 = .ok (.bipush 13, 2) := by decide +kernel
theorem dX12_isSame_5 : decode cX12_isSame 5 = .ok (.if_icmp .ge 24, 3) := by decide +kernel
theorem dX12_isSame_8 : decode cX12_isSame 8 = .ok (.aload_n 1, 1) := by decide +kernel
theorem dX12_isSame_9 : decode cX12_isSame 9 = .ok (.iload_n 2, 1) := by decide +kernel
theorem dX12_isSame_10 : decode cX12_isSame 10 = .ok (.invokevirtual 200, 3) := by decide +kernel
theorem dX12_isSame_13 : decode cX12_isSame 13 = .ok (.aload_n 0, 1) := by decide +kernel
theorem dX12_isSame_14 : decode cX12_isSame 14 = .ok (.iload_n 2, 1) := by decide +kernel
theorem dX12_isSame_15 : decode cX12_isSame 15 = .ok (.invokevirtual 206, 3) := by decide +kernel
theorem dX12_isSame_18 : decode cX12_isSame 18 = .ok (.if_icmp .eq 5, 3) := by decide +kernel
theorem dX12_isSame_21 : decode cX12_isSame 21 = .ok (.iconst 0, 1) := by decide +kernel
theorem dX12_isSame_22 : decode cX12_isSame 22 = .ok (.ireturn, 1) := by decide +kernel
theorem dX12_isSame_23 : decode cX12_isSame 23 = .ok (.iinc 2 1, 3) := by decide +kernel
theorem dX12_isSame_26 : decode cX12_isSame 26 = .ok (.goto (-24), 3) := by decide +kernel
theorem dX12_isSame_29 : decode cX12_isSame 29 = .ok (.iconst 0, 1) := by decide +kernel
theorem dX12_isSame_30 : decode cX12_isSame 30 = .ok (.istore_n 2, 1) := by decide +kernel
theorem dX12_isSame_31 : decode cX12_isSame 31 = .ok (.iconst (-1), 1) := by decide +kernel
theorem dX12_isSame_32 : decode cX12_isSame 32 = .ok (.istore_n 3, 1) := by decide +kernel
theorem dX12_isSame_33 : decode cX12_isSame 33 = .ok (.aload_n 0, 1) := by decide +kernel
theorem dX12_isSame_34 : decode cX12_isSame 34 = .ok (.getfield 15, 3) := by decide +kernel
theorem dX12_isSame_37 : decode cX12_isSame 37 = .ok (.arraylength, 1) := by decide +kernel
theorem dX12_isSame_38 : decode cX12_isSame 38 = .ok (.iconst 1, 1) := by decide +kernel
theorem dX12_isSame_39 : decode cX12_isSame 39 = .ok (.isub, 1) := by decide +kernel
theorem dX12_isSame_40 : decode cX12_isSame 40 = .ok (.istore 4, 2) := by decide +kernel
theorem dX12_isSame_42 : decode cX12_isSame 42 = .ok (.iload 4, 2) := by decide +kernel
theorem dX12_isSame_44 : decode cX12_isSame 44 = .ok (.ifCond .lt 300, 3) := by decide +kernel
theorem dX12_isSame_47 : decode cX12_isSame 47 = .ok (.aload_n 0, 1) := by decide +kernel
theorem dX12_isSame_48 : decode cX12_isSame 48 = .ok (.getfield 15, 3) := by decide +kernel
theorem dX12_isSame_51 : decode cX12_isSame 51 = .ok (.iload 4, 2) := by decide +kernel
theorem dX12_isSame_53 : decode cX12_isSame 53 = .ok (.aaload, 1) := by decide +kernel
theorem dX12_isSame_54 : decode cX12_isSame 54 = .ok (.astore 5, 2) := by decide +kernel
theorem dX12_isSame_56 : decode cX12_isSame 56 = .ok (.bipush 13, 2) := by decide +kernel
theorem dX12_isSame_58 : decode cX12_isSame 58 = .ok (.newarray .int, 2) := by decide +kernel
theorem dX12_isSame_60 : decode cX12_isSame 60 = .ok (.dup, 1) := by decide +kernel
theorem dX12_isSame_61 : decode cX12_isSame 61 = .ok (.iconst 0, 1) := by decide +kernel
theorem dX12_isSame_62 : decode cX12_isSame 62 = .ok (.aload 5, 2) := by decide +kernel
theorem dX12_isSame_64 : decode cX12_isSame 64 = .ok (.getfield 46, 3) := by decide +kernel
theorem dX12_isSame_67 : decode cX12_isSame 67 = .ok (.ifnonnull 7, 3) := by decide +kernel
theorem dX12_isSame_70 : decode cX12_isSame 70 = .ok (.iconst (-1), 1) := by decide +kernel
theorem dX12_isSame_71 : decode cX12_isSame 71 = .ok (.goto 11, 3) := by decide +kernel
theorem dX12_isSame_74 : decode cX12_isSame 74 = .ok (.aload 5, 2) := by decide +kernel
theorem dX12_isSame_76 : decode cX12_isSame 76 = .ok (.getfield 46, 3) := by decide +kernel
theorem dX12_isSame_79 : decode cX12_isSame 79 = .ok (.getfield 50, 3) := by decide +kernel
theorem dX12_isSame_82 : decode cX12_isSame 82 = .ok (.iastore, 1) := by decide +kernel
theorem dX12_isSame_83 : decode cX12_isSame 83 = .ok (.dup, 1) := by decide +kernel
theorem dX12_isSame_84 : decode cX12_isSame 84 = .ok (.iconst 1, 1) := by decide +kernel
theorem dX12_isSame_85 : decode cX12_isSame 85 = .ok (.aload 5, 2) := by decide +kernel
theorem dX12_isSame_87 : decode cX12_isSame 87 = .ok (.getfield 53, 3) := by decide +kernel
theorem dX12_isSame_90 : decode cX12_isSame 90 = .ok (.iastore, 1) := by decide +kernel
theorem dX12_isSame_91 : decode cX12_isSame 91 = .ok (.dup, 1) := by decide +kernel
theorem dX12_isSame_92 : decode cX12_isSame 92 = .ok (.iconst 2, 1) := by decide +kernel
theorem dX12_isSame_93 : decode cX12_isSame 93 = .ok (.aload 5, 2) := by decide +kernel
theorem dX12_isSame_95 : decode cX12_isSame 95 = .ok (.getfield 56, 3) := by decide +kernel
theorem dX12_isSame_98 : decode cX12_isSame 98 = .ok (.iastore, 1) := by decide +kernel
theorem dX12_isSame_99 : decode cX12_isSame 99 = .ok (.dup, 1) := by decide +kernel
theorem dX12_isSame_100 : decode cX12_isSame 100 = .ok (.iconst 3, 1) := by decide +kernel
theorem dX12_isSame_101 : decode cX12_isSame 101 = .ok (.aload 5, 2) := by decide +kernel
theorem dX12_isSame_103 : decode cX12_isSame 103 = .ok (.getfield 59, 3) := by decide +kernel
theorem dX12_isSame_106 : decode cX12_isSame 106 = .ok (.iastore, 1) := by decide +kernel
theorem dX12_isSame_107 : decode cX12_isSame 107 = .ok (.dup, 1) := by decide +kernel
theorem dX12_isSame_108 : decode cX12_isSame 108 = .ok (.iconst 4, 1) := by decide +kernel
theorem dX12_isSame_109 : decode cX12_isSame 109 = .ok (.aload 5, 2) := by decide +kernel
theorem dX12_isSame_111 : decode cX12_isSame 111 = .ok (.getfield 62, 3) := by decide +kernel
theorem dX12_isSame_114 : decode cX12_isSame 114 = .ok (.iastore, 1) := by decide +kernel
theorem dX12_isSame_115 : decode cX12_isSame 115 = .ok (.dup, 1) := by decide +kernel
theorem dX12_isSame_116 : decode cX12_isSame 116 = .ok (.iconst 5, 1) := by decide +kernel
theorem dX12_isSame_117 : decode cX12_isSame 117 = .ok (.aload 5, 2) := by decide +kernel
theorem dX12_isSame_119 : decode cX12_isSame 119 = .ok (.getfield 65, 3) := by decide +kernel
theorem dX12_isSame_122 : decode cX12_isSame 122 = .ok (.iastore, 1) := by decide +kernel
theorem dX12_isSame_123 : decode cX12_isSame 123 = .ok (.dup, 1) := by decide +kernel
theorem dX12_isSame_124 : decode cX12_isSame 124 = .ok (.bipush 6, 2) := by decide +kernel
theorem dX12_isSame_126 : decode cX12_isSame 126 = .ok (.aload 5, 2) := by decide +kernel
theorem dX12_isSame_128 : decode cX12_isSame 128 = .ok (.getfield 75, 3) := by decide +kernel
theorem dX12_isSame_131 : decode cX12_isSame 131 = .ok (.iastore, 1) := by decide +kernel
theorem dX12_isSame_132 : decode cX12_isSame 132 = .ok (.dup, 1) := by decide +kernel
theorem dX12_isSame_133 : decode cX12_isSame 133 = .ok (.bipush 7, 2) := by decide +kernel
theorem dX12_isSame_135 : decode cX12_isSame 135 = .ok (.aload 5, 2) := by decide +kernel
theorem dX12_isSame_137 : decode cX12_isSame 137 = .ok (.getfield 68, 3) := by decide +kernel
theorem dX12_isSame_140 : decode cX12_isSame 140 = .ok (.iastore, 1) := by decide +kernel
theorem dX12_isSame_141 : decode cX12_isSame 141 = .ok (.dup, 1) := by decide +kernel
theorem dX12_isSame_142 : decode cX12_isSame 142 = .ok (.bipush 8, 2) := by decide +kernel
theorem dX12_isSame_144 : decode cX12_isSame 144 = .ok (.aload 5, 2) := by decide +kernel
theorem dX12_isSame_146 : decode cX12_isSame 146 = .ok (.getfield 81, 3) := by decide +kernel
theorem dX12_isSame_149 : decode cX12_isSame 149 = .ok (.iastore, 1) := by decide +kernel
theorem dX12_isSame_150 : decode cX12_isSame 150 = .ok (.dup, 1) := by decide +kernel
theorem dX12_isSame_151 : decode cX12_isSame 151 = .ok (.bipush 9, 2) := by decide +kernel
theorem dX12_isSame_153 : decode cX12_isSame 153 = .ok (.aload 5, 2) := by decide +kernel
theorem dX12_isSame_155 : decode cX12_isSame 155 = .ok (.getfield 84, 3) := by decide +kernel
theorem dX12_isSame_158 : decode cX12_isSame 158 = .ok (.iastore, 1) := by decide +kernel
theorem dX12_isSame_159 : decode cX12_isSame 159 = .ok (.dup, 1) := by decide +kernel
theorem dX12_isSame_160 : decode cX12_isSame 160 = .ok (.bipush 10, 2) := by decide +kernel
theorem dX12_isSame_162 : decode cX12_isSame 162 = .ok (.aload 5, 2) := by decide +kernel
theorem dX12_isSame_164 : decode cX12_isSame 164 = .ok (.getfield 87, 3) := by decide +kernel
theorem dX12_isSame_167 : decode cX12_isSame 167 = .ok (.iastore, 1) := by decide +kernel
theorem dX12_isSame_168 : decode cX12_isSame 168 = .ok (.dup, 1) := by decide +kernel
theorem dX12_isSame_169 : decode cX12_isSame 169 = .ok (.bipush 11, 2) := by decide +kernel
theorem dX12_isSame_171 : decode cX12_isSame 171 = .ok (.aload 5, 2) := by decide +kernel
theorem dX12_isSame_173 : decode cX12_isSame 173 = .ok (.getfield 90, 3) := by decide +kernel
theorem dX12_isSame_176 : decode cX12_isSame 176 = .ok (.iastore, 1) := by decide +kernel
theorem dX12_isSame_177 : decode cX12_isSame 177 = .ok (.dup, 1) := by decide +kernel
theorem dX12_isSame_178 : decode cX12_isSame 178 = .ok (.bipush 12, 2) := by decide +kernel
theorem dX12_isSame_180 : decode cX12_isSame 180 = .ok (.aload 5, 2) := by decide +kernel
theorem dX12_isSame_182 : decode cX12_isSame 182 = .ok (.getfield 93, 3) := by decide +kernel
theorem dX12_isSame_185 : decode cX12_isSame 185 = .ok (.iastore, 1) := by decide +kernel
theorem dX12_isSame_186 : decode cX12_isSame 186 = .ok (.astore 6, 2) := by decide +kernel
theorem dX12_isSame_188 : decode cX12_isSame 188 = .ok (.iconst 0, 1) := by decide +kernel
theorem dX12_isSame_189 : decode cX12_isSame 189 = .ok (.istore 7, 2) := by decide +kernel
theorem dX12_isSame_191 : decode cX12_isSame 191 = .ok (.iload 7, 2) := by decide +kernel
theorem dX12_isSame_193 : decode cX12_isSame 193 = .ok (.bipush 13, 2) := by decide +kernel
theorem dX12_isSame_195 : decode cX12_isSame 195 = .ok (.if_icmp .ge 27, 3) := by decide +kernel
theorem dX12_isSame_198 : decode cX12_isSame 198 = .ok (.aload_n 1, 1) := by decide +kernel
theorem dX12_isSame_199 : decode cX12_isSame 199 = .ok (.iload 4, 2) := by decide +kernel
theorem dX12_isSame_201 : decode cX12_isSame 201 = .ok (.iload 7, 2) := by decide +kernel
theorem dX12_isSame_203 : decode cX12_isSame 203 = .ok (.invokevirtual 209, 3) := by decide +kernel
theorem dX12_isSame_206 : decode cX12_isSame 206 = .ok (.aload 6, 2) := by decide +kernel
theorem dX12_isSame_208 : decode cX12_isSame 208 = .ok (.iload 7, 2) := by decide +kernel
theorem dX12_isSame_210 : decode cX12_isSame 210 = .ok (.iaload, 1) := by decide +kernel
theorem dX12_isSame_211 : decode cX12_isSame 211 = .ok (.if_icmp .eq 5, 3) := by decide +kernel
theorem dX12_isSame_214 : decode cX12_isSame 214 = .ok (.iconst 0, 1) := by decide +kernel
theorem dX12_isSame_215 : decode cX12_isSame 215 = .ok (.ireturn, 1) := by decide +kernel
theorem dX12_isSame_216 : decode cX12_isSame 216 = .ok (.iinc 7 1, 3) := by decide +kernel
theorem dX12_isSame_219 : decode cX12_isSame 219 = .ok (.goto (-28), 3) := by decide +kernel
theorem dX12_isSame_222 : decode cX12_isSame 222 = .ok (.iconst 0, 1) := by decide +kernel
theorem dX12_isSame_223 : decode cX12_isSame 223 = .ok (.istore 7, 2) := by decide +kernel
theorem dX12_isSame_225 : decode cX12_isSame 225 = .ok (.iload 7, 2) := by decide +kernel
theorem dX12_isSame_227 : decode cX12_isSame 227 = .ok (.aload 5, 2) := by decide +kernel
theorem dX12_isSame_229 : decode cX12_isSame 229 = .ok (.getfield 75, 3) := by decide +kernel
theorem dX12_isSame_232 : decode cX12_isSame 232 = .ok (.if_icmp .ge 30, 3) := by decide +kernel
theorem dX12_isSame_235 : decode cX12_isSame 235 = .ok (.aload_n 1, 1) := by decide +kernel
theorem dX12_isSame_236 : decode cX12_isSame 236 = .ok (.iload 4, 2) := by decide +kernel
theorem dX12_isSame_238 : decode cX12_isSame 238 = .ok (.iload 7, 2) := by decide +kernel
theorem dX12_isSame_240 : decode cX12_isSame 240 = .ok (.invokevirtual 212, 3) := by decide +kernel
theorem dX12_isSame_243 : decode cX12_isSame 243 = .ok (.aload 5, 2) := by decide +kernel
theorem dX12_isSame_245 : decode cX12_isSame 245 = .ok (.getfield 78, 3) := by decide +kernel
theorem dX12_isSame_248 : decode cX12_isSame 248 = .ok (.iload 7, 2) := by decide +kernel
theorem dX12_isSame_250 : decode cX12_isSame 250 = .ok (.iaload, 1) := by decide +kernel
theorem dX12_isSame_251 : decode cX12_isSame 251 = .ok (.if_icmp .eq 5, 3) := by decide +kernel
theorem dX12_isSame_254 : decode cX12_isSame 254 = .ok (.iconst 0, 1) := by decide +kernel
theorem dX12_isSame_255 : decode cX12_isSame 255 = .ok (.ireturn, 1) := by decide +kernel
theorem dX12_isSame_256 : decode cX12_isSame 256 = .ok (.iinc 7 1, 3) := by decide +kernel
theorem dX12_isSame_259 : decode cX12_isSame 259 = .ok (.goto (-34), 3) := by decide +kernel
theorem dX12_isSame_262 : decode cX12_isSame 262 = .ok (.aload 5, 2) := by decide +kernel
theorem dX12_isSame_264 : decode cX12_isSame 264 = .ok (.invokevirtual 193, 3) := by decide +kernel
theorem dX12_isSame_267 : decode cX12_isSame 267 = .ok (.astore 7, 2) := by decide +kernel
theorem dX12_isSame_269 : decode cX12_isSame 269 = .ok (.aload_n 1, 1) := by decide +kernel
theorem dX12_isSame_270 : decode cX12_isSame 270 = .ok (.iload 4, 2) := by decide +kernel
theorem dX12_isSame_272 : decode cX12_isSame 272 = .ok (.invokevirtual 215, 3) := by decide +kernel
theorem dX12_isSame_275 : decode cX12_isSame 275 = .ok (.aload 7, 2) := by decide +kernel
theorem dX12_isSame_277 : decode cX12_isSame 277 = .ok (.ifnonnull 7, 3) := by decide +kernel
theorem dX12_isSame_280 : decode cX12_isSame 280 = .ok (.iconst (-1), 1) := by decide +kernel
theorem dX12_isSame_281 : decode cX12_isSame 281 = .ok (.goto 8, 3) := by decide +kernel
theorem dX12_isSame_284 : decode cX12_isSame 284 = .ok (.aload 7, 2) := by decide +kernel
theorem dX12_isSame_286 : decode cX12_isSame 286 = .ok (.getfield 50, 3) := by decide +kernel
theorem dX12_isSame_289 : decode cX12_isSame 289 = .ok (.if_icmp .eq 5, 3) := by decide +kernel
theorem dX12_isSame_292 : decode cX12_isSame 292 = .ok (.iconst 0, 1) := by decide +kernel
theorem dX12_isSame_293 : decode cX12_isSame 293 = .ok (.ireturn, 1) := by decide +kernel
theorem dX12_isSame_294 : decode cX12_isSame 294 = .ok (.iload_n 2, 1) := by decide +kernel
theorem dX12_isSame_295 : decode cX12_isSame 295 = .ok (.aload 5, 2) := by decide +kernel
theorem dX12_isSame_297 : decode cX12_isSame 297 = .ok (.getfield 93, 3) := by decide +kernel
theorem dX12_isSame_300 : decode cX12_isSame 300 = .ok (.iadd, 1) := by decide +kernel
theorem dX12_isSame_301 : decode cX12_isSame 301 = .ok (.istore_n 2, 1) := by decide +kernel
theorem dX12_isSame_302 : decode cX12_isSame 302 = .ok (.aload 5, 2) := by decide +kernel
theorem dX12_isSame_304 : decode cX12_isSame 304 = .ok (.getfield 75, 3) := by decide +kernel
theorem dX12_isSame_307 : decode cX12_isSame 307 = .ok (.ifCond .le 31, 3) := by decide +kernel
theorem dX12_isSame_310 : decode cX12_isSame 310 = .ok (.iload_n 3, 1) := by decide +kernel
theorem dX12_isSame_311 : decode cX12_isSame 311 = .ok (.ifCond .lt 24, 3) := by decide +kernel
theorem dX12_isSame_314 : decode cX12_isSame 314 = .ok (.aload 5, 2) := by decide +kernel
theorem dX12_isSame_316 : decode cX12_isSame 316 = .ok (.getfield 78, 3) := by decide +kernel
theorem dX12_isSame_319 : decode cX12_isSame 319 = .ok (.iconst 0, 1) := by decide +kernel
theorem dX12_isSame_320 : decode cX12_isSame 320 = .ok (.iaload, 1) := by decide +kernel
theorem dX12_isSame_321 : decode cX12_isSame 321 = .ok (.aload_n 0, 1) := by decide +kernel
theorem dX12_isSame_322 : decode cX12_isSame 322 = .ok (.getfield 15, 3) := by decide +kernel
theorem dX12_isSame_325 : decode cX12_isSame 325 = .ok (.iload_n 3, 1) := by decide +kernel
theorem dX12_isSame_326 : decode cX12_isSame 326 = .ok (.aaload, 1) := by decide +kernel
theorem dX12_isSame_327 : decode cX12_isSame 327 = .ok (.getfield 78, 3) := by decide +kernel
theorem dX12_isSame_330 : decode cX12_isSame 330 = .ok (.iconst 0, 1) := by decide +kernel
theorem dX12_isSame_331 : decode cX12_isSame 331 = .ok (.iaload, 1) := by decide +kernel
theorem dX12_isSame_332 : decode cX12_isSame 332 = .ok (.if_icmp .gt 6, 3) := by decide +kernel
theorem dX12_isSame_335 : decode cX12_isSame 335 = .ok (.iload 4, 2) := by decide +kernel
theorem dX12_isSame_337 : decode cX12_isSame 337 = .ok (.istore_n 3, 1) := by decide +kernel
theorem dX12_isSame_338 : decode cX12_isSame 338 = .ok (.iinc 4 (-1), 3) := by decide +kernel
theorem dX12_isSame_341 : decode cX12_isSame 341 = .ok (.goto (-299), 3) := by decide +kernel
theorem dX12_isSame_344 : decode cX12_isSame 344 = .ok (.iconst 0, 1) := by decide +kernel
theorem dX12_isSame_345 : decode cX12_isSame 345 = .ok (.istore 4, 2) := by decide +kernel
theorem dX12_isSame_347 : decode cX12_isSame 347 = .ok (.iload 4, 2) := by decide +kernel
theorem dX12_isSame_349 : decode cX12_isSame 349 = .ok (.aload_n 0, 1) := by decide +kernel
theorem dX12_isSame_350 : decode cX12_isSame 350 = .ok (.getfield 21, 3) := by decide +kernel
theorem dX12_isSame_353 : decode cX12_isSame 353 = .ok (.arraylength, 1) := by decide +kernel
theorem dX12_isSame_354 : decode cX12_isSame 354 = .ok (.if_icmp .ge 47, 3) := by decide +kernel
theorem dX12_isSame_357 : decode cX12_isSame 357 = .ok (.iconst 0, 1) := by decide +kernel
theorem dX12_isSame_358 : decode cX12_isSame 358 = .ok (.istore 5, 2) := by decide +kernel
theorem dX12_isSame_360 : decode cX12_isSame 360 = .ok (.iload 5, 2) := by decide +kernel
theorem dX12_isSame_362 : decode cX12_isSame 362 = .ok (.iconst 5, 1) := by decide +kernel
theorem dX12_isSame_363 : decode cX12_isSame 363 = .ok (.if_icmp .ge 32, 3) := by decide +kernel
theorem dX12_isSame_366 : decode cX12_isSame 366 = .ok (.aload_n 1, 1) := by decide +kernel
theorem dX12_isSame_367 : decode cX12_isSame 367 = .ok (.iload 4, 2) := by decide +kernel
theorem dX12_isSame_369 : decode cX12_isSame 369 = .ok (.iload 5, 2) := by decide +kernel
theorem dX12_isSame_371 : decode cX12_isSame 371 = .ok (.invokevirtual 217, 3) := by decide +kernel
theorem dX12_isSame_374 : decode cX12_isSame 374 = .ok (.aload_n 0, 1) := by decide +kernel
theorem dX12_isSame_375 : decode cX12_isSame 375 = .ok (.getfield 21, 3) := by decide +kernel
theorem dX12_isSame_378 : decode cX12_isSame 378 = .ok (.iload 4, 2) := by decide +kernel
theorem dX12_isSame_380 : decode cX12_isSame 380 = .ok (.aaload, 1) := by decide +kernel
theorem dX12_isSame_381 : decode cX12_isSame 381 = .ok (.iload 5, 2) := by decide +kernel
theorem dX12_isSame_383 : decode cX12_isSame 383 = .ok (.iaload, 1) := by decide +kernel
theorem dX12_isSame_384 : decode cX12_isSame 384 = .ok (.if_icmp .eq 5, 3) := by decide +kernel
theorem dX12_isSame_387 : decode cX12_isSame 387 = .ok (.iconst 0, 1) := by decide +kernel
theorem dX12_isSame_388 : decode cX12_isSame 388 = .ok (.ireturn, 1) := by decide +kernel
theorem dX12_isSame_389 : decode cX12_isSame 389 = .ok (.iinc 5 1, 3) := by decide +kernel
theorem dX12_isSame_392 : decode cX12_isSame 392 = .ok (.goto (-32), 3) := by decide +kernel
theorem dX12_isSame_395 : decode cX12_isSame 395 = .ok (.iinc 4 1, 3) := by decide +kernel
theorem dX12_isSame_398 : decode cX12_isSame 398 = .ok (.goto (-51), 3) := by decide +kernel
theorem dX12_isSame_401 : decode cX12_isSame 401 = .ok (.aload_n 1, 1) := by decide +kernel
theorem dX12_isSame_402 : decode cX12_isSame 402 = .ok (.invokevirtual 219, 3) := by decide +kernel
theorem dX12_isSame_405 : decode cX12_isSame 405 = .ok (.iload_n 3, 1) := by decide +kernel
theorem dX12_isSame_406 : decode cX12_isSame 406 = .ok (.if_icmp .ne 38, 3) := by decide +kernel
theorem dX12_isSame_409 : decode cX12_isSame 409 = .ok (.aload_n 1, 1) := by decide +kernel
theorem dX12_isSame_410 : decode cX12_isSame 410 = .ok (.invokevirtual 222, 3) := by decide +kernel
theorem dX12_isSame_413 : decode cX12_isSame 413 = .ok (.aload_n 0, 1) := by decide +kernel
theorem dX12_isSame_414 : decode cX12_isSame 414 = .ok (.bipush 7, 2) := by decide +kernel
theorem dX12_isSame_416 : decode cX12_isSame 416 = .ok (.invokevirtual 206, 3) := by decide +kernel
theorem dX12_isSame_419 : decode cX12_isSame 419 = .ok (.ifCond .ne 7, 3) := by decide +kernel
theorem dX12_isSame_422 : decode cX12_isSame 422 = .ok (.dconst 0, 1) := by decide +kernel
theorem dX12_isSame_423 : decode cX12_isSame 423 = .ok (.goto 13, 3) := by decide +kernel
theorem dX12_isSame_426 : decode cX12_isSame 426 = .ok (.iload_n 2, 1) := by decide +kernel
theorem dX12_isSame_427 : decode cX12_isSame 427 = .ok (.i2d, 1) := by decide +kernel
theorem dX12_isSame_428 : decode cX12_isSame 428 = .ok (.aload_n 0, 1) := by decide +kernel
theorem dX12_isSame_429 : decode cX12_isSame 429 = .ok (.bipush 7, 2) := by decide +kernel
theorem dX12_isSame_431 : decode cX12_isSame 431 = .ok (.invokevirtual 206, 3) := by decide +kernel
theorem dX12_isSame_434 : decode cX12_isSame 434 = .ok (.i2d, 1) := by decide +kernel
theorem dX12_isSame_435 : decode cX12_isSame 435 = .ok (.ddiv, 1) := by decide +kernel
theorem dX12_isSame_436 : decode cX12_isSame 436 = .ok (.dcmp .l, 1) := by decide +kernel
theorem dX12_isSame_437 : decode cX12_isSame 437 = .ok (.ifCond .ne 7, 3) := by decide +kernel
theorem dX12_isSame_440 : decode cX12_isSame 440 = .ok (.iconst 1, 1) := by decide +kernel
theorem dX12_isSame_441 : decode cX12_isSame 441 = .ok (.goto 4, 3) := by decide +kernel
theorem dX12_isSame_444 : decode cX12_isSame 444 = .ok (.iconst 0, 1) := by decide +kernel
theorem dX12_isSame_445 : decode cX12_isSame 445 = .ok (.ireturn, 1) := by decide +kernel
abbrev m_X12_isSame : Mt := (cX12_isSame, RX12, "isSame", 8, .ireturn, 6)
def f_X12_isSame_b338 (N : Nat) (z : Nat → Nat) (k42 : Nat → Option Nat → Int32 → Int32 → Int32 → Hp → Option (Int32 × Hp)) (o : Nat) (v1 : Option Nat) (v2 : Int32) (v3 : Int32) (v4 : Int32) (x0 : Hp) : Option (Int32 × Hp) :=
  k42 o v1 v2 v3 (v4 + (-1 : Int32)) x0
def f_X12_isSame_b335 (N : Nat) (z : Nat → Nat) (k42 : Nat → Option Nat → Int32 → Int32 → Int32 → Hp → Option (Int32 × Hp)) (o : Nat) (v1 : Option Nat) (v2 : Int32) (v4 : Int32) (x0 : Hp) : Option (Int32 × Hp) :=
  f_X12_isSame_b338 N z k42 o v1 v2 v4 v4 x0
def f_X12_isSame_b289 (N : Nat) (z : Nat → Nat) (k42 : Nat → Option Nat → Int32 → Int32 → Int32 → Hp → Option (Int32 × Hp)) (o : Nat) (v1 : Option Nat) (v2 : Int32) (v3 : Int32) (v4 : Int32) (v5 : Option Nat) (s0 : Int32) (s1 : Int32) (x0 : Hp) : Option (Int32 × Hp) :=
  if s1 = s0 then (geti v5 x0 14 275 fun i1 =>
  geti v5 x0 14 270 fun i2 =>
  if i2 ≤ 0 then (f_X12_isSame_b338 N z k42 o v1 (v2 + i1) v3 v4 x0) else (if v3 < 0 then (f_X12_isSame_b335 N z k42 o v1 (v2 + i1) v4 x0) else (getr v5 x0 14 269 fun r3 =>
  aldi r3 x0 101 (0 : Int32) fun i4 =>
  getr (some o) x0 15 285 fun r5 =>
  aldr r5 x0 106 v3 fun r6 =>
  getr r6 x0 14 269 fun r7 =>
  aldi r7 x0 101 (0 : Int32) fun i8 =>
  if i8 < i4 then (f_X12_isSame_b338 N z k42 o v1 (v2 + i1) v3 v4 x0) else (f_X12_isSame_b335 N z k42 o v1 (v2 + i1) v4 x0)))) else (some ((0 : Int32), x0))
def f_X12_isSame_b225 (N : Nat) (z : Nat → Nat) (k42 : Nat → Option Nat → Int32 → Int32 → Int32 → Hp → Option (Int32 × Hp)) : Nat → Nat → Option Nat → Int32 → Int32 → Int32 → Option Nat → Int32 → Hp → Option (Int32 × Hp)
  | 0, _, _, _, _, _, _, _, _ => none
  | n + 1, o, v1, v2, v3, v4, v5, v7, x0 => geti v5 x0 14 270 fun i9 =>
  if i9 ≤ v7 then (obj v5 x0 14 fun q12 => bnd (f_X11_lender N z q12 x0) fun r11 x10 =>
  obj v1 x10 13 fun q15 => bnd (f_X10_lender N z q15 v4 x10) fun i14 x13 =>
  if r11 = none then (f_X12_isSame_b289 N z k42 o v1 v2 v3 v4 v5 (-1 : Int32) i14 x13) else (geti r11 x13 14 261 fun i16 =>
  f_X12_isSame_b289 N z k42 o v1 v2 v3 v4 v5 i16 i14 x13)) else (obj v1 x0 13 fun q19 => bnd (f_X10_pail N z q19 v4 v7 x0) fun i18 x17 =>
  getr v5 x17 14 269 fun r20 =>
  aldi r20 x17 101 v7 fun i21 =>
  if i18 = i21 then (f_X12_isSame_b225 N z k42 n o v1 v2 v3 v4 v5 (v7 + (1 : Int32)) x17) else (some ((0 : Int32), x17)))
def f_X12_isSame_b191 (N : Nat) (z : Nat → Nat) (k42 : Nat → Option Nat → Int32 → Int32 → Int32 → Hp → Option (Int32 × Hp)) : Nat → Nat → Option Nat → Int32 → Int32 → Int32 → Option Nat → Option Nat → Int32 → Hp → Option (Int32 × Hp)
  | 0, _, _, _, _, _, _, _, _, _ => none
  | n + 1, o, v1, v2, v3, v4, v5, v6, v7, x0 => if (13 : Int32) ≤ v7 then (f_X12_isSame_b225 N z k42 N o v1 v2 v3 v4 v5 (0 : Int32) x0) else (obj v1 x0 13 fun q24 => bnd (f_X10_lane N z q24 v4 v7 x0) fun i23 x22 =>
  aldi v6 x22 101 v7 fun i25 =>
  if i23 = i25 then (f_X12_isSame_b191 N z k42 n o v1 v2 v3 v4 v5 v6 (v7 + (1 : Int32)) x22) else (some ((0 : Int32), x22)))
def f_X12_isSame_b82 (N : Nat) (z : Nat → Nat) (k42 : Nat → Option Nat → Int32 → Int32 → Int32 → Hp → Option (Int32 × Hp)) (o : Nat) (v1 : Option Nat) (v2 : Int32) (v3 : Int32) (v4 : Int32) (v5 : Option Nat) (s0 : Int32) (s1 : Int32) (s2 : Option Nat) (s3 : Option Nat) (x0 : Hp) : Option (Int32 × Hp) :=
  asti s2 x0 101 s1 s0 fun x26 =>
  geti v5 x26 14 262 fun i27 =>
  asti s3 x26 101 (1 : Int32) i27 fun x28 =>
  geti v5 x28 14 263 fun i29 =>
  asti s3 x28 101 (2 : Int32) i29 fun x30 =>
  geti v5 x30 14 264 fun i31 =>
  asti s3 x30 101 (3 : Int32) i31 fun x32 =>
  geti v5 x32 14 265 fun i33 =>
  asti s3 x32 101 (4 : Int32) i33 fun x34 =>
  geti v5 x34 14 266 fun i35 =>
  asti s3 x34 101 (5 : Int32) i35 fun x36 =>
  geti v5 x36 14 270 fun i37 =>
  asti s3 x36 101 (6 : Int32) i37 fun x38 =>
  geti v5 x38 14 267 fun i39 =>
  asti s3 x38 101 (7 : Int32) i39 fun x40 =>
  geti v5 x40 14 271 fun i41 =>
  asti s3 x40 101 (8 : Int32) i41 fun x42 =>
  geti v5 x42 14 272 fun i43 =>
  asti s3 x42 101 (9 : Int32) i43 fun x44 =>
  geti v5 x44 14 273 fun i45 =>
  asti s3 x44 101 (10 : Int32) i45 fun x46 =>
  geti v5 x46 14 274 fun i47 =>
  asti s3 x46 101 (11 : Int32) i47 fun x48 =>
  geti v5 x48 14 275 fun i49 =>
  asti s3 x48 101 (12 : Int32) i49 fun x50 =>
  f_X12_isSame_b191 N z k42 N o v1 v2 v3 v4 v5 s3 (0 : Int32) x50
def f_X12_isSame_b360 (N : Nat) (z : Nat → Nat) (k347 : Nat → Option Nat → Int32 → Int32 → Int32 → Hp → Option (Int32 × Hp)) : Nat → Nat → Option Nat → Int32 → Int32 → Int32 → Int32 → Hp → Option (Int32 × Hp)
  | 0, _, _, _, _, _, _, _ => none
  | n + 1, o, v1, v2, v3, v4, v5, x0 => if (5 : Int32) ≤ v5 then (k347 o v1 v2 v3 (v4 + (1 : Int32)) x0) else (obj v1 x0 13 fun q53 => bnd (f_X10_folk N z q53 v4 v5 x0) fun i52 x51 =>
  getr (some o) x51 15 286 fun r54 =>
  aldr r54 x51 107 v4 fun r55 =>
  aldi r55 x51 101 v5 fun i56 =>
  if i52 = i56 then (f_X12_isSame_b360 N z k347 n o v1 v2 v3 v4 (v5 + (1 : Int32)) x51) else (some ((0 : Int32), x51)))
def f_X12_isSame_b436 (N : Nat) (z : Nat → Nat) (s0 : UInt64) (s1 : UInt64) (x0 : Hp) : Option (Int32 × Hp) :=
  if (Op.cmpValue (FP.dcmp s1 s0) .l) = 0 then (some ((1 : Int32), x0)) else (some ((0 : Int32), x0))
def f_X12_isSame_b347 (N : Nat) (z : Nat → Nat) : Nat → Nat → Option Nat → Int32 → Int32 → Int32 → Hp → Option (Int32 × Hp)
  | 0, _, _, _, _, _, _ => none
  | n + 1, o, v1, v2, v3, v4, x0 => getr (some o) x0 15 286 fun r57 =>
  alen r57 x0 107 fun i58 =>
  if i58 ≤ v4 then (obj v1 x0 13 fun q61 => bnd (f_X10_eldest N z q61 x0) fun i60 x59 =>
  if i60 = v3 then (obj v1 x59 13 fun q64 => bnd (f_X10_mean N z q64 x59) fun i63 x62 =>
  obj (some o) x62 15 fun q67 => bnd (f_X12_counted N z q67 (7 : Int32) x62) fun i66 x65 =>
  if i66 = 0 then (f_X12_isSame_b436 N z FP.dconst0 i63 x65) else (obj (some o) x65 15 fun q70 => bnd (f_X12_counted N z q70 (7 : Int32) x65) fun i69 x68 =>
  nnan (FP.ddiv (FP.i2d v2) (FP.i2d i69)) <|
  f_X12_isSame_b436 N z (FP.ddiv (FP.i2d v2) (FP.i2d i69)) i63 x68)) else (some ((0 : Int32), x59))) else (f_X12_isSame_b360 N z (f_X12_isSame_b347 N z n) N o v1 v2 v3 v4 (0 : Int32) x0)
def f_X12_isSame_b42 (N : Nat) (z : Nat → Nat) : Nat → Nat → Option Nat → Int32 → Int32 → Int32 → Hp → Option (Int32 × Hp)
  | 0, _, _, _, _, _, _ => none
  | n + 1, o, v1, v2, v3, v4, x0 => if v4 < 0 then (f_X12_isSame_b347 N z N o v1 v2 v3 (0 : Int32) x0) else (getr (some o) x0 15 285 fun r71 =>
  aldr r71 x0 106 v4 fun r72 =>
  newa x0 101 (13 : Int32) fun r73 x74 =>
  getr r72 x74 14 260 fun r75 =>
  if r75 = none then (f_X12_isSame_b82 N z (f_X12_isSame_b42 N z n) o v1 v2 v3 v4 r72 (-1 : Int32) (0 : Int32) r73 r73 x74) else (getr r72 x74 14 260 fun r76 =>
  geti r76 x74 14 261 fun i77 =>
  f_X12_isSame_b82 N z (f_X12_isSame_b42 N z n) o v1 v2 v3 v4 r72 i77 (0 : Int32) r73 r73 x74))
def f_X12_isSame_b2 (N : Nat) (z : Nat → Nat) : Nat → Nat → Option Nat → Int32 → Hp → Option (Int32 × Hp)
  | 0, _, _, _, _ => none
  | n + 1, o, v1, v2, x0 => if (13 : Int32) ≤ v2 then (getr (some o) x0 15 285 fun r78 =>
  alen r78 x0 106 fun i79 =>
  f_X12_isSame_b42 N z N o v1 (0 : Int32) (-1 : Int32) (i79 - (1 : Int32)) x0) else (obj v1 x0 13 fun q82 => bnd (f_X10_count N z q82 v2 x0) fun i81 x80 =>
  obj (some o) x80 15 fun q85 => bnd (f_X12_counted N z q85 v2 x80) fun i84 x83 =>
  if i81 = i84 then (f_X12_isSame_b2 N z n o v1 (v2 + (1 : Int32)) x83) else (some ((0 : Int32), x83)))
def f_X12_isSame (N : Nat) (z : Nat → Nat) (o : Nat) (v1 : Option Nat) (x0 : Hp) : Option (Int32 × Hp) :=
  f_X12_isSame_b2 N z N o v1 (0 : Int32) x0
set_option maxRecDepth 100000 in
set_option maxHeartbeats 4000000 in
theorem g_X12_isSame_b338 (l : Launch) (N : Nat) (z : Nat → Nat) {k42 : Nat → Option Nat → Int32 → Int32 → Int32 → Hp → Option (Int32 × Hp)} (hk42 : ∀ o v1 v2 v3 v4 x, G l z m_X12_isSame okZ enI 42 [(0, va_rf (some o)), (1, va_rf v1), (2, .int v2), (3, .int v3), (4, .int v4)] [] x (k42 o v1 v2 v3 v4 x)) (o : Nat) (v1 : Option Nat) (v2 : Int32) (v3 : Int32) (v4 : Int32) (x0 : Hp) : G l z m_X12_isSame okZ enI 338 [(0, va_rf (some o)), (1, va_rf v1), (2, .int v2), (3, .int v3), (4, .int v4)] [] x0 (f_X12_isSame_b338 N z k42 o v1 v2 v3 v4 x0) := by
  unfold f_X12_isSame_b338
  refine G_iinc (i := 4) (l2 := [(0, va_rf (some o)), (1, va_rf v1), (2, .int v2), (3, .int v3)]) 4 [0, 1, 2, 3] dX12_isSame_338 rfl rfl (Nat.le_of_ble_eq_true rfl) rfl (sok_a (by decide) (by decide) (sok_a (by decide) (by decide) (sok_a (by decide) (by decide) (sok_b (by decide) rfl trivial)))) ?_
  refine G_goto (tgt := 42) dX12_isSame_341 (by decide) ?_
  refine G_lv [1, 2, 3, 4, 0] rfl ?_
  exact hk42 o v1 v2 v3 (v4 + (-1 : Int32)) x0

set_option maxRecDepth 100000 in
set_option maxHeartbeats 4000000 in
theorem g_X12_isSame_b335 (l : Launch) (N : Nat) (z : Nat → Nat) {k42 : Nat → Option Nat → Int32 → Int32 → Int32 → Hp → Option (Int32 × Hp)} (hk42 : ∀ o v1 v2 v3 v4 x, G l z m_X12_isSame okZ enI 42 [(0, va_rf (some o)), (1, va_rf v1), (2, .int v2), (3, .int v3), (4, .int v4)] [] x (k42 o v1 v2 v3 v4 x)) (o : Nat) (v1 : Option Nat) (v2 : Int32) (v4 : Int32) (x0 : Hp) : G l z m_X12_isSame okZ enI 335 [(0, va_rf (some o)), (1, va_rf v1), (2, .int v2), (4, .int v4)] [] x0 (f_X12_isSame_b335 N z k42 o v1 v2 v4 x0) := by
  unfold f_X12_isSame_b335
  refine G_iload 3 dX12_isSame_335 rfl ?_
  refine G_istore_n (i := 3) (l2 := [(0, va_rf (some o)), (1, va_rf v1), (2, .int v2), (4, .int v4)]) [0, 1, 2, 3] dX12_isSame_337 rfl (Nat.le_of_ble_eq_true rfl) rfl (sok_a (by decide) (by decide) (sok_a (by decide) (by decide) (sok_b (by decide) rfl (sok_a (by decide) (by decide) trivial)))) ?_
  refine G_lv [1, 2, 3, 0, 4] rfl ?_
  exact g_X12_isSame_b338 l N z hk42 o v1 v2 v4 v4 x0

set_option maxRecDepth 100000 in
set_option maxHeartbeats 4000000 in
theorem g_X12_isSame_b289 (l : Launch) (N : Nat) (z : Nat → Nat) {k42 : Nat → Option Nat → Int32 → Int32 → Int32 → Hp → Option (Int32 × Hp)} (hk42 : ∀ o v1 v2 v3 v4 x, G l z m_X12_isSame okZ enI 42 [(0, va_rf (some o)), (1, va_rf v1), (2, .int v2), (3, .int v3), (4, .int v4)] [] x (k42 o v1 v2 v3 v4 x)) (o : Nat) (v1 : Option Nat) (v2 : Int32) (v3 : Int32) (v4 : Int32) (v5 : Option Nat) (s0 : Int32) (s1 : Int32) (x0 : Hp) : G l z m_X12_isSame okZ enI 289 [(0, va_rf (some o)), (1, va_rf v1), (2, .int v2), (3, .int v3), (4, .int v4), (5, va_rf v5)] [.int s0, .int s1] x0 (f_X12_isSame_b289 N z k42 o v1 v2 v3 v4 v5 s0 s1 x0) := by
  unfold f_X12_isSame_b289
  refine G_icmp_eq (tgt := 294) dX12_isSame_289 (by decide) (fun _ => ?_) (fun _ => ?_)
  · refine G_iload_n 2 dX12_isSame_294 rfl rfl ?_
    refine G_aload 5 dX12_isSame_295 rfl ?_
    refine G_geti (k := 15) K_13 (by decide) rfl rfl rfl gw_1412 rfl dX12_isSame_297 (fun i1 => ?_)
    refine G_iadd dX12_isSame_300 ?_
    refine G_istore_n (i := 2) (l2 := [(0, va_rf (some o)), (1, va_rf v1), (3, .int v3), (4, .int v4), (5, va_rf v5)]) [0, 1, 3, 4, 5] dX12_isSame_301 rfl (Nat.le_of_ble_eq_true rfl) rfl (sok_a (by decide) (by decide) (sok_b (by decide) (rf_cat _) (sok_a (by decide) (by decide) (sok_a (by decide) (by decide) (sok_a (by decide) (by decide) trivial))))) ?_
    refine G_aload 5 dX12_isSame_302 rfl ?_
    refine G_geti (k := 10) K_13 (by decide) rfl rfl rfl gw_1407 rfl dX12_isSame_304 (fun i2 => ?_)
    refine G_if_le (tgt := 338) dX12_isSame_307 (by decide) (fun _ => ?_) (fun _ => ?_)
    · refine G_lv [1, 2, 0, 3, 4] rfl ?_
      exact g_X12_isSame_b338 l N z hk42 o v1 (v2 + i1) v3 v4 x0
    · refine G_iload_n 3 dX12_isSame_310 rfl rfl ?_
      refine G_if_lt (tgt := 335) dX12_isSame_311 (by decide) (fun _ => ?_) (fun _ => ?_)
      · refine G_lv [1, 2, 0, 4] rfl ?_
        exact g_X12_isSame_b335 l N z hk42 o v1 (v2 + i1) v4 x0
      · refine G_aload 5 dX12_isSame_314 rfl ?_
        refine G_getr (k := 9) K_13 (by decide) rfl rfl rfl gw_1405 rfl dX12_isSame_316 (fun r3 => ?_)
        refine G_iconst (v := (0 : Int32)) dX12_isSame_319 rfl ?_
        refine G_iald dX12_isSame_320 (fun i4 => ?_)
        refine G_aload_n 1 dX12_isSame_321 rfl rfl ?_
        refine G_getr (k := 5) K_14 (by decide) rfl rfl rfl gw_1349 rfl dX12_isSame_322 (fun r5 => ?_)
        refine G_iload_n 3 dX12_isSame_325 rfl rfl ?_
        refine G_aald (t := 6) rfl (by decide) (by decide) dX12_isSame_326 (fun r6 => ?_)
        refine G_getr (k := 9) K_13 (by decide) rfl rfl rfl gw_1405 rfl dX12_isSame_327 (fun r7 => ?_)
        refine G_iconst (v := (0 : Int32)) dX12_isSame_330 rfl ?_
        refine G_iald dX12_isSame_331 (fun i8 => ?_)
        refine G_icmp_gt (tgt := 338) dX12_isSame_332 (by decide) (fun _ => ?_) (fun _ => ?_)
        · refine G_lv [1, 2, 0, 3, 4] rfl ?_
          exact g_X12_isSame_b338 l N z hk42 o v1 (v2 + i1) v3 v4 x0
        · refine G_lv [1, 2, 0, 4] rfl ?_
          exact g_X12_isSame_b335 l N z hk42 o v1 (v2 + i1) v4 x0
  · refine G_iconst (v := (0 : Int32)) dX12_isSame_292 rfl ?_
    exact G_ret (Or.inl rfl) dX12_isSame_293 rfl

set_option maxRecDepth 100000 in
set_option maxHeartbeats 4000000 in
theorem g_X12_isSame_b225 (l : Launch) (N : Nat) (z : Nat → Nat) {k42 : Nat → Option Nat → Int32 → Int32 → Int32 → Hp → Option (Int32 × Hp)} (hk42 : ∀ o v1 v2 v3 v4 x, G l z m_X12_isSame okZ enI 42 [(0, va_rf (some o)), (1, va_rf v1), (2, .int v2), (3, .int v3), (4, .int v4)] [] x (k42 o v1 v2 v3 v4 x)) : ∀ (n : Nat) (o : Nat) (v1 : Option Nat) (v2 : Int32) (v3 : Int32) (v4 : Int32) (v5 : Option Nat) (v7 : Int32) (x0 : Hp), G l z m_X12_isSame okZ enI 225 [(0, va_rf (some o)), (1, va_rf v1), (2, .int v2), (3, .int v3), (4, .int v4), (5, va_rf v5), (7, .int v7)] [] x0 (f_X12_isSame_b225 N z k42 n o v1 v2 v3 v4 v5 v7 x0) := by
  intro n
  induction n with
  | zero => intro o v1 v2 v3 v4 v5 v7 x0; exact G_none
  | succ n ih =>
  intro o v1 v2 v3 v4 v5 v7 x0
  rw [f_X12_isSame_b225]
  refine G_iload 6 dX12_isSame_225 rfl ?_
  refine G_aload 5 dX12_isSame_227 rfl ?_
  refine G_geti (k := 10) K_13 (by decide) rfl rfl rfl gw_1407 rfl dX12_isSame_229 (fun i9 => ?_)
  refine G_icmp_ge (tgt := 262) dX12_isSame_232 (by decide) (fun _ => ?_) (fun _ => ?_)
  · refine G_aload 5 dX12_isSame_262 rfl ?_
    refine G_callV (av := []) [] (fun q12 => ct_X11_lender l N z q12) K_13 rfl yn_X11_lender (Nat.le_of_ble_eq_true rfl) (by decide) gw_819 gw_812 gw_813 gw_55 gw_814 rfl (by decide) dX12_isSame_264 (fun r11 x10 => ?_)
    refine G_astore (i := 7) (l2 := [(0, va_rf (some o)), (1, va_rf v1), (2, .int v2), (3, .int v3), (4, .int v4), (5, va_rf v5)]) [0, 1, 2, 3, 4, 5] dX12_isSame_267 (Nat.le_of_ble_eq_true rfl) rfl (sok_a (by decide) (by decide) (sok_a (by decide) (by decide) (sok_a (by decide) (by decide) (sok_a (by decide) (by decide) (sok_a (by decide) (by decide) (sok_a (by decide) (by decide) trivial)))))) ?_
    refine G_aload_n 2 dX12_isSame_269 rfl rfl ?_
    refine G_iload 5 dX12_isSame_270 rfl ?_
    refine G_callV (av := [.int v4]) [] (fun q15 => ct_X10_lender l N z q15 v4) K_12 rfl yn_X10_lender (Nat.le_of_ble_eq_true rfl) (by decide) gw_831 gw_584 gw_585 gw_39 gw_586 rfl (by decide) dX12_isSame_272 (fun i14 x13 => ?_)
    refine G_aload 0 dX12_isSame_275 rfl ?_
    refine G_ifnonnull (tgt := 284) dX12_isSame_277 (by decide) (fun _ => ?_) (fun _ => ?_)
    · refine G_iconst (v := (-1 : Int32)) dX12_isSame_280 rfl ?_
      refine G_goto (tgt := 289) dX12_isSame_281 (by decide) ?_
      refine G_lv [1, 2, 3, 4, 5, 6] rfl ?_
      exact g_X12_isSame_b289 l N z hk42 o v1 v2 v3 v4 v5 (-1 : Int32) i14 x13
    · refine G_aload 0 dX12_isSame_284 rfl ?_
      refine G_geti (k := 1) K_13 (by decide) rfl rfl rfl gw_1386 rfl dX12_isSame_286 (fun i16 => ?_)
      refine G_lv [1, 2, 3, 4, 5, 6] rfl ?_
      exact g_X12_isSame_b289 l N z hk42 o v1 v2 v3 v4 v5 i16 i14 x13
  · refine G_aload_n 1 dX12_isSame_235 rfl rfl ?_
    refine G_iload 4 dX12_isSame_236 rfl ?_
    refine G_iload 6 dX12_isSame_238 rfl ?_
    refine G_callV (av := [.int v4, .int v7]) [] (fun q19 => ct_X10_pail l N z q19 v4 v7) K_12 rfl yn_X10_pail (Nat.le_of_ble_eq_true rfl) (by decide) gw_830 gw_571 gw_572 gw_39 gw_573 rfl (by decide) dX12_isSame_240 (fun i18 x17 => ?_)
    refine G_aload 5 dX12_isSame_243 rfl ?_
    refine G_getr (k := 9) K_13 (by decide) rfl rfl rfl gw_1405 rfl dX12_isSame_245 (fun r20 => ?_)
    refine G_iload 6 dX12_isSame_248 rfl ?_
    refine G_iald dX12_isSame_250 (fun i21 => ?_)
    refine G_icmp_eq (tgt := 256) dX12_isSame_251 (by decide) (fun _ => ?_) (fun _ => ?_)
    · refine G_iinc (i := 7) (l2 := [(0, va_rf (some o)), (1, va_rf v1), (2, .int v2), (3, .int v3), (4, .int v4), (5, va_rf v5)]) 6 [0, 1, 2, 3, 4, 5] dX12_isSame_256 rfl rfl (Nat.le_of_ble_eq_true rfl) rfl (sok_a (by decide) (by decide) (sok_a (by decide) (by decide) (sok_a (by decide) (by decide) (sok_a (by decide) (by decide) (sok_a (by decide) (by decide) (sok_a (by decide) (by decide) trivial)))))) ?_
      refine G_goto (tgt := 225) dX12_isSame_259 (by decide) ?_
      refine G_lv [1, 2, 3, 4, 5, 6, 0] rfl ?_
      exact ih o v1 v2 v3 v4 v5 (v7 + (1 : Int32)) x17
    · refine G_iconst (v := (0 : Int32)) dX12_isSame_254 rfl ?_
      exact G_ret (Or.inl rfl) dX12_isSame_255 rfl

set_option maxRecDepth 100000 in
set_option maxHeartbeats 4000000 in
theorem g_X12_isSame_b191 (l : Launch) (N : Nat) (z : Nat → Nat) {k42 : Nat → Option Nat → Int32 → Int32 → Int32 → Hp → Option (Int32 × Hp)} (hk42 : ∀ o v1 v2 v3 v4 x, G l z m_X12_isSame okZ enI 42 [(0, va_rf (some o)), (1, va_rf v1), (2, .int v2), (3, .int v3), (4, .int v4)] [] x (k42 o v1 v2 v3 v4 x)) : ∀ (n : Nat) (o : Nat) (v1 : Option Nat) (v2 : Int32) (v3 : Int32) (v4 : Int32) (v5 : Option Nat) (v6 : Option Nat) (v7 : Int32) (x0 : Hp), G l z m_X12_isSame okZ enI 191 [(0, va_rf (some o)), (1, va_rf v1), (2, .int v2), (3, .int v3), (4, .int v4), (5, va_rf v5), (6, va_rf v6), (7, .int v7)] [] x0 (f_X12_isSame_b191 N z k42 n o v1 v2 v3 v4 v5 v6 v7 x0) := by
  intro n
  induction n with
  | zero => intro o v1 v2 v3 v4 v5 v6 v7 x0; exact G_none
  | succ n ih =>
  intro o v1 v2 v3 v4 v5 v6 v7 x0
  rw [f_X12_isSame_b191]
  refine G_iload 7 dX12_isSame_191 rfl ?_
  refine G_bipush (v := (13 : Int32)) dX12_isSame_193 (by decide) ?_
  refine G_icmp_ge (tgt := 222) dX12_isSame_195 (by decide) (fun _ => ?_) (fun _ => ?_)
  · refine G_iconst (v := (0 : Int32)) dX12_isSame_222 rfl ?_
    refine G_istore (i := 7) (l2 := [(0, va_rf (some o)), (1, va_rf v1), (2, .int v2), (3, .int v3), (4, .int v4), (5, va_rf v5), (6, va_rf v6)]) [0, 1, 2, 3, 4, 5, 6] dX12_isSame_223 (Nat.le_of_ble_eq_true rfl) rfl (sok_a (by decide) (by decide) (sok_a (by decide) (by decide) (sok_a (by decide) (by decide) (sok_a (by decide) (by decide) (sok_a (by decide) (by decide) (sok_a (by decide) (by decide) (sok_b (by decide) (rf_cat _) trivial))))))) ?_
    refine G_lv [1, 2, 3, 4, 5, 6, 0] rfl ?_
    exact g_X12_isSame_b225 l N z hk42 N o v1 v2 v3 v4 v5 (0 : Int32) x0
  · refine G_aload_n 1 dX12_isSame_198 rfl rfl ?_
    refine G_iload 4 dX12_isSame_199 rfl ?_
    refine G_iload 7 dX12_isSame_201 rfl ?_
    refine G_callV (av := [.int v4, .int v7]) [] (fun q24 => ct_X10_lane l N z q24 v4 v7) K_12 rfl yn_X10_lane (Nat.le_of_ble_eq_true rfl) (by decide) gw_829 gw_561 gw_562 gw_39 gw_563 rfl (by decide) dX12_isSame_203 (fun i23 x22 => ?_)
    refine G_aload 6 dX12_isSame_206 rfl ?_
    refine G_iload 7 dX12_isSame_208 rfl ?_
    refine G_iald dX12_isSame_210 (fun i25 => ?_)
    refine G_icmp_eq (tgt := 216) dX12_isSame_211 (by decide) (fun _ => ?_) (fun _ => ?_)
    · refine G_iinc (i := 7) (l2 := [(0, va_rf (some o)), (1, va_rf v1), (2, .int v2), (3, .int v3), (4, .int v4), (5, va_rf v5), (6, va_rf v6)]) 7 [0, 1, 2, 3, 4, 5, 6] dX12_isSame_216 rfl rfl (Nat.le_of_ble_eq_true rfl) rfl (sok_a (by decide) (by decide) (sok_a (by decide) (by decide) (sok_a (by decide) (by decide) (sok_a (by decide) (by decide) (sok_a (by decide) (by decide) (sok_a (by decide) (by decide) (sok_b (by decide) (rf_cat _) trivial))))))) ?_
      refine G_goto (tgt := 191) dX12_isSame_219 (by decide) ?_
      refine G_lv [1, 2, 3, 4, 5, 6, 7, 0] rfl ?_
      exact ih o v1 v2 v3 v4 v5 v6 (v7 + (1 : Int32)) x22
    · refine G_iconst (v := (0 : Int32)) dX12_isSame_214 rfl ?_
      exact G_ret (Or.inl rfl) dX12_isSame_215 rfl

set_option maxRecDepth 100000 in
set_option maxHeartbeats 4000000 in
theorem g_X12_isSame_b82 (l : Launch) (N : Nat) (z : Nat → Nat) {k42 : Nat → Option Nat → Int32 → Int32 → Int32 → Hp → Option (Int32 × Hp)} (hk42 : ∀ o v1 v2 v3 v4 x, G l z m_X12_isSame okZ enI 42 [(0, va_rf (some o)), (1, va_rf v1), (2, .int v2), (3, .int v3), (4, .int v4)] [] x (k42 o v1 v2 v3 v4 x)) (o : Nat) (v1 : Option Nat) (v2 : Int32) (v3 : Int32) (v4 : Int32) (v5 : Option Nat) (s0 : Int32) (s1 : Int32) (s2 : Option Nat) (s3 : Option Nat) (x0 : Hp) : G l z m_X12_isSame okZ enI 82 [(0, va_rf (some o)), (1, va_rf v1), (2, .int v2), (3, .int v3), (4, .int v4), (5, va_rf v5)] [.int s0, .int s1, va_rf s2, va_rf s3] x0 (f_X12_isSame_b82 N z k42 o v1 v2 v3 v4 v5 s0 s1 s2 s3 x0) := by
  unfold f_X12_isSame_b82
  refine G_iast dX12_isSame_82 (fun x26 => ?_)
  refine G_dup dX12_isSame_83 (rf_cat _) ?_
  refine G_iconst (v := (1 : Int32)) dX12_isSame_84 rfl ?_
  refine G_aload 5 dX12_isSame_85 rfl ?_
  refine G_geti (k := 2) K_13 (by decide) rfl rfl rfl gw_1388 rfl dX12_isSame_87 (fun i27 => ?_)
  refine G_iast dX12_isSame_90 (fun x28 => ?_)
  refine G_dup dX12_isSame_91 (rf_cat _) ?_
  refine G_iconst (v := (2 : Int32)) dX12_isSame_92 rfl ?_
  refine G_aload 5 dX12_isSame_93 rfl ?_
  refine G_geti (k := 3) K_13 (by decide) rfl rfl rfl gw_1391 rfl dX12_isSame_95 (fun i29 => ?_)
  refine G_iast dX12_isSame_98 (fun x30 => ?_)
  refine G_dup dX12_isSame_99 (rf_cat _) ?_
  refine G_iconst (v := (3 : Int32)) dX12_isSame_100 rfl ?_
  refine G_aload 5 dX12_isSame_101 rfl ?_
  refine G_geti (k := 4) K_13 (by decide) rfl rfl rfl gw_1393 rfl dX12_isSame_103 (fun i31 => ?_)
  refine G_iast dX12_isSame_106 (fun x32 => ?_)
  refine G_dup dX12_isSame_107 (rf_cat _) ?_
  refine G_iconst (v := (4 : Int32)) dX12_isSame_108 rfl ?_
  refine G_aload 5 dX12_isSame_109 rfl ?_
  refine G_geti (k := 5) K_13 (by decide) rfl rfl rfl gw_1396 rfl dX12_isSame_111 (fun i33 => ?_)
  refine G_iast dX12_isSame_114 (fun x34 => ?_)
  refine G_dup dX12_isSame_115 (rf_cat _) ?_
  refine G_iconst (v := (5 : Int32)) dX12_isSame_116 rfl ?_
  refine G_aload 5 dX12_isSame_117 rfl ?_
  refine G_geti (k := 6) K_13 (by decide) rfl rfl rfl gw_1398 rfl dX12_isSame_119 (fun i35 => ?_)
  refine G_iast dX12_isSame_122 (fun x36 => ?_)
  refine G_dup dX12_isSame_123 (rf_cat _) ?_
  refine G_bipush (v := (6 : Int32)) dX12_isSame_124 (by decide) ?_
  refine G_aload 5 dX12_isSame_126 rfl ?_
  refine G_geti (k := 10) K_13 (by decide) rfl rfl rfl gw_1407 rfl dX12_isSame_128 (fun i37 => ?_)
  refine G_iast dX12_isSame_131 (fun x38 => ?_)
  refine G_dup dX12_isSame_132 (rf_cat _) ?_
  refine G_bipush (v := (7 : Int32)) dX12_isSame_133 (by decide) ?_
  refine G_aload 5 dX12_isSame_135 rfl ?_
  refine G_geti (k := 7) K_13 (by decide) rfl rfl rfl gw_1400 rfl dX12_isSame_137 (fun i39 => ?_)
  refine G_iast dX12_isSame_140 (fun x40 => ?_)
  refine G_dup dX12_isSame_141 (rf_cat _) ?_
  refine G_bipush (v := (8 : Int32)) dX12_isSame_142 (by decide) ?_
  refine G_aload 5 dX12_isSame_144 rfl ?_
  refine G_geti (k := 11) K_13 (by decide) rfl rfl rfl gw_1408 rfl dX12_isSame_146 (fun i41 => ?_)
  refine G_iast dX12_isSame_149 (fun x42 => ?_)
  refine G_dup dX12_isSame_150 (rf_cat _) ?_
  refine G_bipush (v := (9 : Int32)) dX12_isSame_151 (by decide) ?_
  refine G_aload 5 dX12_isSame_153 rfl ?_
  refine G_geti (k := 12) K_13 (by decide) rfl rfl rfl gw_1409 rfl dX12_isSame_155 (fun i43 => ?_)
  refine G_iast dX12_isSame_158 (fun x44 => ?_)
  refine G_dup dX12_isSame_159 (rf_cat _) ?_
  refine G_bipush (v := (10 : Int32)) dX12_isSame_160 (by decide) ?_
  refine G_aload 5 dX12_isSame_162 rfl ?_
  refine G_geti (k := 13) K_13 (by decide) rfl rfl rfl gw_1410 rfl dX12_isSame_164 (fun i45 => ?_)
  refine G_iast dX12_isSame_167 (fun x46 => ?_)
  refine G_dup dX12_isSame_168 (rf_cat _) ?_
  refine G_bipush (v := (11 : Int32)) dX12_isSame_169 (by decide) ?_
  refine G_aload 5 dX12_isSame_171 rfl ?_
  refine G_geti (k := 14) K_13 (by decide) rfl rfl rfl gw_1411 rfl dX12_isSame_173 (fun i47 => ?_)
  refine G_iast dX12_isSame_176 (fun x48 => ?_)
  refine G_dup dX12_isSame_177 (rf_cat _) ?_
  refine G_bipush (v := (12 : Int32)) dX12_isSame_178 (by decide) ?_
  refine G_aload 5 dX12_isSame_180 rfl ?_
  refine G_geti (k := 15) K_13 (by decide) rfl rfl rfl gw_1412 rfl dX12_isSame_182 (fun i49 => ?_)
  refine G_iast dX12_isSame_185 (fun x50 => ?_)
  refine G_astore (i := 6) (l2 := [(0, va_rf (some o)), (1, va_rf v1), (2, .int v2), (3, .int v3), (4, .int v4), (5, va_rf v5)]) [0, 1, 2, 3, 4, 5] dX12_isSame_186 (Nat.le_of_ble_eq_true rfl) rfl (sok_a (by decide) (by decide) (sok_a (by decide) (by decide) (sok_a (by decide) (by decide) (sok_a (by decide) (by decide) (sok_a (by decide) (by decide) (sok_b (by decide) (rf_cat _) trivial)))))) ?_
  refine G_iconst (v := (0 : Int32)) dX12_isSame_188 rfl ?_
  refine G_istore (i := 7) (l2 := [(6, va_rf s3), (0, va_rf (some o)), (1, va_rf v1), (2, .int v2), (3, .int v3), (4, .int v4), (5, va_rf v5)]) [0, 1, 2, 3, 4, 5, 6] dX12_isSame_189 (Nat.le_of_ble_eq_true rfl) rfl (sok_b (by decide) (rf_cat _) (sok_a (by decide) (by decide) (sok_a (by decide) (by decide) (sok_a (by decide) (by decide) (sok_a (by decide) (by decide) (sok_a (by decide) (by decide) (sok_a (by decide) (by decide) trivial))))))) ?_
  refine G_lv [2, 3, 4, 5, 6, 7, 1, 0] rfl ?_
  exact g_X12_isSame_b191 l N z hk42 N o v1 v2 v3 v4 v5 s3 (0 : Int32) x50

set_option maxRecDepth 100000 in
set_option maxHeartbeats 4000000 in
theorem g_X12_isSame_b360 (l : Launch) (N : Nat) (z : Nat → Nat) {k347 : Nat → Option Nat → Int32 → Int32 → Int32 → Hp → Option (Int32 × Hp)} (hk347 : ∀ o v1 v2 v3 v4 x, G l z m_X12_isSame okZ enI 347 [(0, va_rf (some o)), (1, va_rf v1), (2, .int v2), (3, .int v3), (4, .int v4)] [] x (k347 o v1 v2 v3 v4 x)) : ∀ (n : Nat) (o : Nat) (v1 : Option Nat) (v2 : Int32) (v3 : Int32) (v4 : Int32) (v5 : Int32) (x0 : Hp), G l z m_X12_isSame okZ enI 360 [(0, va_rf (some o)), (1, va_rf v1), (2, .int v2), (3, .int v3), (4, .int v4), (5, .int v5)] [] x0 (f_X12_isSame_b360 N z k347 n o v1 v2 v3 v4 v5 x0) := by
  intro n
  induction n with
  | zero => intro o v1 v2 v3 v4 v5 x0; exact G_none
  | succ n ih =>
  intro o v1 v2 v3 v4 v5 x0
  rw [f_X12_isSame_b360]
  refine G_iload 5 dX12_isSame_360 rfl ?_
  refine G_iconst (v := (5 : Int32)) dX12_isSame_362 rfl ?_
  refine G_icmp_ge (tgt := 395) dX12_isSame_363 (by decide) (fun _ => ?_) (fun _ => ?_)
  · refine G_iinc (i := 4) (l2 := [(0, va_rf (some o)), (1, va_rf v1), (2, .int v2), (3, .int v3), (5, .int v5)]) 4 [0, 1, 2, 3, 5] dX12_isSame_395 rfl rfl (Nat.le_of_ble_eq_true rfl) rfl (sok_a (by decide) (by decide) (sok_a (by decide) (by decide) (sok_a (by decide) (by decide) (sok_b (by decide) rfl (sok_a (by decide) (by decide) trivial))))) ?_
    refine G_goto (tgt := 347) dX12_isSame_398 (by decide) ?_
    refine G_lv [1, 2, 3, 4, 0] rfl ?_
    exact hk347 o v1 v2 v3 (v4 + (1 : Int32)) x0
  · refine G_aload_n 1 dX12_isSame_366 rfl rfl ?_
    refine G_iload 4 dX12_isSame_367 rfl ?_
    refine G_iload 5 dX12_isSame_369 rfl ?_
    refine G_callV (av := [.int v4, .int v5]) [] (fun q53 => ct_X10_folk l N z q53 v4 v5) K_12 rfl yn_X10_folk (Nat.le_of_ble_eq_true rfl) (by decide) gw_832 gw_833 gw_834 gw_39 gw_835 rfl (by decide) dX12_isSame_371 (fun i52 x51 => ?_)
    refine G_aload_n 0 dX12_isSame_374 rfl rfl ?_
    refine G_getr (k := 6) K_14 (by decide) rfl rfl rfl gw_1351 rfl dX12_isSame_375 (fun r54 => ?_)
    refine G_iload 4 dX12_isSame_378 rfl ?_
    refine G_aald (t := 7) rfl (by decide) (by decide) dX12_isSame_380 (fun r55 => ?_)
    refine G_iload 5 dX12_isSame_381 rfl ?_
    refine G_iald dX12_isSame_383 (fun i56 => ?_)
    refine G_icmp_eq (tgt := 389) dX12_isSame_384 (by decide) (fun _ => ?_) (fun _ => ?_)
    · refine G_iinc (i := 5) (l2 := [(0, va_rf (some o)), (1, va_rf v1), (2, .int v2), (3, .int v3), (4, .int v4)]) 5 [0, 1, 2, 3, 4] dX12_isSame_389 rfl rfl (Nat.le_of_ble_eq_true rfl) rfl (sok_a (by decide) (by decide) (sok_a (by decide) (by decide) (sok_a (by decide) (by decide) (sok_a (by decide) (by decide) (sok_b (by decide) rfl trivial))))) ?_
      refine G_goto (tgt := 360) dX12_isSame_392 (by decide) ?_
      refine G_lv [1, 2, 3, 4, 5, 0] rfl ?_
      exact ih o v1 v2 v3 v4 (v5 + (1 : Int32)) x51
    · refine G_iconst (v := (0 : Int32)) dX12_isSame_387 rfl ?_
      exact G_ret (Or.inl rfl) dX12_isSame_388 rfl

set_option maxRecDepth 100000 in
set_option maxHeartbeats 4000000 in
theorem g_X12_isSame_b436 (l : Launch) (N : Nat) (z : Nat → Nat) (s0 : UInt64) (s1 : UInt64) (x0 : Hp) : G l z m_X12_isSame okZ enI 436 [] [.double s0, .double s1] x0 (f_X12_isSame_b436 N z s0 s1 x0) := by
  unfold f_X12_isSame_b436
  refine G_dcmp dX12_isSame_436 ?_
  refine G_if_ne (tgt := 444) dX12_isSame_437 (by decide) (fun _ => ?_) (fun _ => ?_)
  · refine G_iconst (v := (1 : Int32)) dX12_isSame_440 rfl ?_
    refine G_goto (tgt := 445) dX12_isSame_441 (by decide) ?_
    exact G_ret (Or.inr rfl) dX12_isSame_445 rfl
  · refine G_iconst (v := (0 : Int32)) dX12_isSame_444 rfl ?_
    exact G_ret (Or.inl rfl) dX12_isSame_445 rfl

set_option maxRecDepth 100000 in
set_option maxHeartbeats 4000000 in
theorem g_X12_isSame_b347 (l : Launch) (N : Nat) (z : Nat → Nat) : ∀ (n : Nat) (o : Nat) (v1 : Option Nat) (v2 : Int32) (v3 : Int32) (v4 : Int32) (x0 : Hp), G l z m_X12_isSame okZ enI 347 [(0, va_rf (some o)), (1, va_rf v1), (2, .int v2), (3, .int v3), (4, .int v4)] [] x0 (f_X12_isSame_b347 N z n o v1 v2 v3 v4 x0) := by
  intro n
  induction n with
  | zero => intro o v1 v2 v3 v4 x0; exact G_none
  | succ n ih =>
  intro o v1 v2 v3 v4 x0
  rw [f_X12_isSame_b347]
  refine G_iload 4 dX12_isSame_347 rfl ?_
  refine G_aload_n 0 dX12_isSame_349 rfl rfl ?_
  refine G_getr (k := 6) K_14 (by decide) rfl rfl rfl gw_1351 rfl dX12_isSame_350 (fun r57 => ?_)
  refine G_alen (t := 7) rfl (by decide) dX12_isSame_353 (fun i58 => ?_)
  refine G_icmp_ge (tgt := 401) dX12_isSame_354 (by decide) (fun _ => ?_) (fun _ => ?_)
  · refine G_aload_n 1 dX12_isSame_401 rfl rfl ?_
    refine G_callV (av := []) [] (fun q61 => ct_X10_eldest l N z q61) K_12 rfl yn_X10_eldest (Nat.le_of_ble_eq_true rfl) (by decide) gw_842 gw_843 gw_844 gw_39 gw_845 rfl (by decide) dX12_isSame_402 (fun i60 x59 => ?_)
    refine G_iload_n 3 dX12_isSame_405 rfl rfl ?_
    refine G_icmp_ne (tgt := 444) dX12_isSame_406 (by decide) (fun _ => ?_) (fun _ => ?_)
    · refine G_aload_n 1 dX12_isSame_409 rfl rfl ?_
      refine G_callV (av := []) [] (fun q64 => ct_X10_mean l N z q64) K_12 rfl yn_X10_mean (Nat.le_of_ble_eq_true rfl) (by decide) gw_846 gw_847 gw_848 gw_39 gw_849 rfl (by decide) dX12_isSame_410 (fun i63 x62 => ?_)
      refine G_aload_n 0 dX12_isSame_413 rfl rfl ?_
      refine G_bipush (v := (7 : Int32)) dX12_isSame_414 (by decide) ?_
      refine G_callV (av := [.int (7 : Int32)]) [.double i63] (fun q67 => ct_X12_counted l N z q67 (7 : Int32)) K_14 rfl yn_X12_counted (Nat.le_of_ble_eq_true rfl) (by decide) gw_825 gw_826 gw_827 gw_54 gw_828 rfl (by simp only [hw_n, hw_i, hw_r, hw_j, hw_d]; decide) dX12_isSame_416 (fun i66 x65 => ?_)
      refine G_if_ne (tgt := 426) dX12_isSame_419 (by decide) (fun _ => ?_) (fun _ => ?_)
      · refine G_dconst0 dX12_isSame_422 ?_
        refine G_goto (tgt := 436) dX12_isSame_423 (by decide) ?_
        refine G_lv [] rfl ?_
        exact g_X12_isSame_b436 l N z FP.dconst0 i63 x65
      · refine G_iload_n 2 dX12_isSame_426 rfl rfl ?_
        refine G_i2d dX12_isSame_427 ?_
        refine G_aload_n 0 dX12_isSame_428 rfl rfl ?_
        refine G_bipush (v := (7 : Int32)) dX12_isSame_429 (by decide) ?_
        refine G_callV (av := [.int (7 : Int32)]) [.double (FP.i2d v2), .double i63] (fun q70 => ct_X12_counted l N z q70 (7 : Int32)) K_14 rfl yn_X12_counted (Nat.le_of_ble_eq_true rfl) (by decide) gw_825 gw_826 gw_827 gw_54 gw_828 rfl (by simp only [hw_n, hw_i, hw_r, hw_j, hw_d]; decide) dX12_isSame_431 (fun i69 x68 => ?_)
        refine G_i2d dX12_isSame_434 ?_
        refine G_ddiv dX12_isSame_435 ?_
        refine G_lv [] rfl ?_
        exact g_X12_isSame_b436 l N z (FP.ddiv (FP.i2d v2) (FP.i2d i69)) i63 x68
    · refine G_iconst (v := (0 : Int32)) dX12_isSame_444 rfl ?_
      exact G_ret (Or.inl rfl) dX12_isSame_445 rfl
  · refine G_iconst (v := (0 : Int32)) dX12_isSame_357 rfl ?_
    refine G_istore (i := 5) (l2 := [(0, va_rf (some o)), (1, va_rf v1), (2, .int v2), (3, .int v3), (4, .int v4)]) [0, 1, 2, 3, 4] dX12_isSame_358 (Nat.le_of_ble_eq_true rfl) rfl (sok_a (by decide) (by decide) (sok_a (by decide) (by decide) (sok_a (by decide) (by decide) (sok_a (by decide) (by decide) (sok_b (by decide) rfl trivial))))) ?_
    refine G_lv [1, 2, 3, 4, 5, 0] rfl ?_
    exact g_X12_isSame_b360 l N z ih N o v1 v2 v3 v4 (0 : Int32) x0

set_option maxRecDepth 100000 in
set_option maxHeartbeats 4000000 in
theorem g_X12_isSame_b42 (l : Launch) (N : Nat) (z : Nat → Nat) : ∀ (n : Nat) (o : Nat) (v1 : Option Nat) (v2 : Int32) (v3 : Int32) (v4 : Int32) (x0 : Hp), G l z m_X12_isSame okZ enI 42 [(0, va_rf (some o)), (1, va_rf v1), (2, .int v2), (3, .int v3), (4, .int v4)] [] x0 (f_X12_isSame_b42 N z n o v1 v2 v3 v4 x0) := by
  intro n
  induction n with
  | zero => intro o v1 v2 v3 v4 x0; exact G_none
  | succ n ih =>
  intro o v1 v2 v3 v4 x0
  rw [f_X12_isSame_b42]
  refine G_iload 4 dX12_isSame_42 rfl ?_
  refine G_if_lt (tgt := 344) dX12_isSame_44 (by decide) (fun _ => ?_) (fun _ => ?_)
  · refine G_iconst (v := (0 : Int32)) dX12_isSame_344 rfl ?_
    refine G_istore (i := 4) (l2 := [(0, va_rf (some o)), (1, va_rf v1), (2, .int v2), (3, .int v3)]) [0, 1, 2, 3] dX12_isSame_345 (Nat.le_of_ble_eq_true rfl) rfl (sok_a (by decide) (by decide) (sok_a (by decide) (by decide) (sok_a (by decide) (by decide) (sok_b (by decide) rfl trivial)))) ?_
    refine G_lv [1, 2, 3, 4, 0] rfl ?_
    exact g_X12_isSame_b347 l N z N o v1 v2 v3 (0 : Int32) x0
  · refine G_aload_n 0 dX12_isSame_47 rfl rfl ?_
    refine G_getr (k := 5) K_14 (by decide) rfl rfl rfl gw_1349 rfl dX12_isSame_48 (fun r71 => ?_)
    refine G_iload 4 dX12_isSame_51 rfl ?_
    refine G_aald (t := 6) rfl (by decide) (by decide) dX12_isSame_53 (fun r72 => ?_)
    refine G_astore (i := 5) (l2 := [(0, va_rf (some o)), (1, va_rf v1), (2, .int v2), (3, .int v3), (4, .int v4)]) [0, 1, 2, 3, 4] dX12_isSame_54 (Nat.le_of_ble_eq_true rfl) rfl (sok_a (by decide) (by decide) (sok_a (by decide) (by decide) (sok_a (by decide) (by decide) (sok_a (by decide) (by decide) (sok_b (by decide) rfl trivial))))) ?_
    refine G_bipush (v := (13 : Int32)) dX12_isSame_56 (by decide) ?_
    refine G_newa (t := 1) rfl (Or.inr (Or.inl ⟨rfl, rfl⟩)) gw_140 dX12_isSame_58 (fun r73 x74 => ?_)
    refine G_dup dX12_isSame_60 (rf_cat _) ?_
    refine G_iconst (v := (0 : Int32)) dX12_isSame_61 rfl ?_
    refine G_aload 0 dX12_isSame_62 rfl ?_
    refine G_getr (k := 0) K_13 (by decide) rfl rfl rfl gw_1384 rfl dX12_isSame_64 (fun r75 => ?_)
    refine G_ifnonnull (tgt := 74) dX12_isSame_67 (by decide) (fun _ => ?_) (fun _ => ?_)
    · refine G_iconst (v := (-1 : Int32)) dX12_isSame_70 rfl ?_
      refine G_goto (tgt := 82) dX12_isSame_71 (by decide) ?_
      refine G_lv [1, 2, 3, 4, 5, 0] rfl ?_
      exact g_X12_isSame_b82 l N z ih o v1 v2 v3 v4 r72 (-1 : Int32) (0 : Int32) r73 r73 x74
    · refine G_aload 0 dX12_isSame_74 rfl ?_
      refine G_getr (k := 0) K_13 (by decide) rfl rfl rfl gw_1384 rfl dX12_isSame_76 (fun r76 => ?_)
      refine G_geti (k := 1) K_13 (by decide) rfl rfl rfl gw_1386 rfl dX12_isSame_79 (fun i77 => ?_)
      refine G_lv [1, 2, 3, 4, 5, 0] rfl ?_
      exact g_X12_isSame_b82 l N z ih o v1 v2 v3 v4 r72 i77 (0 : Int32) r73 r73 x74

set_option maxRecDepth 100000 in
set_option maxHeartbeats 4000000 in
theorem g_X12_isSame_b2 (l : Launch) (N : Nat) (z : Nat → Nat) : ∀ (n : Nat) (o : Nat) (v1 : Option Nat) (v2 : Int32) (x0 : Hp), G l z m_X12_isSame okZ enI 2 [(0, va_rf (some o)), (1, va_rf v1), (2, .int v2)] [] x0 (f_X12_isSame_b2 N z n o v1 v2 x0) := by
  intro n
  induction n with
  | zero => intro o v1 v2 x0; exact G_none
  | succ n ih =>
  intro o v1 v2 x0
  rw [f_X12_isSame_b2]
  refine G_iload_n 2 dX12_isSame_2 rfl rfl ?_
  refine G_bipush (v := (13 : Int32)) dX12_isSame_3 (by decide) ?_
  refine G_icmp_ge (tgt := 29) dX12_isSame_5 (by decide) (fun _ => ?_) (fun _ => ?_)
  · refine G_iconst (v := (0 : Int32)) dX12_isSame_29 rfl ?_
    refine G_istore_n (i := 2) (l2 := [(0, va_rf (some o)), (1, va_rf v1)]) [0, 1] dX12_isSame_30 rfl (Nat.le_of_ble_eq_true rfl) rfl (sok_a (by decide) (by decide) (sok_b (by decide) (rf_cat _) trivial)) ?_
    refine G_iconst (v := (-1 : Int32)) dX12_isSame_31 rfl ?_
    refine G_istore_n (i := 3) (l2 := [(2, .int (0 : Int32)), (0, va_rf (some o)), (1, va_rf v1)]) [0, 1, 2] dX12_isSame_32 rfl (Nat.le_of_ble_eq_true rfl) rfl (sok_b (by decide) rfl (sok_a (by decide) (by decide) (sok_a (by decide) (by decide) trivial))) ?_
    refine G_aload_n 2 dX12_isSame_33 rfl rfl ?_
    refine G_getr (k := 5) K_14 (by decide) rfl rfl rfl gw_1349 rfl dX12_isSame_34 (fun r78 => ?_)
    refine G_alen (t := 6) rfl (by decide) dX12_isSame_37 (fun i79 => ?_)
    refine G_iconst (v := (1 : Int32)) dX12_isSame_38 rfl ?_
    refine G_isub dX12_isSame_39 ?_
    refine G_istore (i := 4) (l2 := [(3, .int (-1 : Int32)), (2, .int (0 : Int32)), (0, va_rf (some o)), (1, va_rf v1)]) [0, 1, 2, 3] dX12_isSame_40 (Nat.le_of_ble_eq_true rfl) rfl (sok_b (by decide) rfl (sok_a (by decide) (by decide) (sok_a (by decide) (by decide) (sok_a (by decide) (by decide) trivial)))) ?_
    refine G_lv [3, 4, 2, 1, 0] rfl ?_
    exact g_X12_isSame_b42 l N z N o v1 (0 : Int32) (-1 : Int32) (i79 - (1 : Int32)) x0
  · refine G_aload_n 1 dX12_isSame_8 rfl rfl ?_
    refine G_iload_n 2 dX12_isSame_9 rfl rfl ?_
    refine G_callV (av := [.int v2]) [] (fun q82 => ct_X10_count l N z q82 v2) K_12 rfl yn_X10_count (Nat.le_of_ble_eq_true rfl) (by decide) gw_824 gw_471 gw_472 gw_39 gw_473 rfl (by decide) dX12_isSame_10 (fun i81 x80 => ?_)
    refine G_aload_n 0 dX12_isSame_13 rfl rfl ?_
    refine G_iload_n 2 dX12_isSame_14 rfl rfl ?_
    refine G_callV (av := [.int v2]) [.int i81] (fun q85 => ct_X12_counted l N z q85 v2) K_14 rfl yn_X12_counted (Nat.le_of_ble_eq_true rfl) (by decide) gw_825 gw_826 gw_827 gw_54 gw_828 rfl (by simp only [hw_n, hw_i, hw_r, hw_j, hw_d]; decide) dX12_isSame_15 (fun i84 x83 => ?_)
    refine G_icmp_eq (tgt := 23) dX12_isSame_18 (by decide) (fun _ => ?_) (fun _ => ?_)
    · refine G_iinc (i := 2) (l2 := [(0, va_rf (some o)), (1, va_rf v1)]) 2 [0, 1] dX12_isSame_23 rfl rfl (Nat.le_of_ble_eq_true rfl) rfl (sok_a (by decide) (by decide) (sok_b (by decide) (rf_cat _) trivial)) ?_
      refine G_goto (tgt := 2) dX12_isSame_26 (by decide) ?_
      refine G_lv [1, 2, 0] rfl ?_
      exact ih o v1 (v2 + (1 : Int32)) x83
    · refine G_iconst (v := (0 : Int32)) dX12_isSame_21 rfl ?_
      exact G_ret (Or.inl rfl) dX12_isSame_22 rfl

set_option maxRecDepth 100000 in
set_option maxHeartbeats 4000000 in
theorem g_X12_isSame (l : Launch) (N : Nat) (z : Nat → Nat) (o : Nat) (v1 : Option Nat) (x0 : Hp) : G l z m_X12_isSame okZ enI 0 [(0, va_rf (some o)), (1, va_rf v1)] [] x0 (f_X12_isSame N z o v1 x0) := by
  unfold f_X12_isSame
  refine G_iconst (v := (0 : Int32)) dX12_isSame_0 rfl ?_
  refine G_istore_n (i := 2) (l2 := [(0, va_rf (some o)), (1, va_rf v1)]) [0, 1] dX12_isSame_1 rfl (Nat.le_of_ble_eq_true rfl) rfl (sok_a (by decide) (by decide) (sok_b (by decide) (rf_cat _) trivial)) ?_
  refine G_lv [1, 2, 0] rfl ?_
  exact g_X12_isSame_b2 l N z N o v1 (0 : Int32) x0

theorem yn_X12_isSame : Yn yX12_isSame 1 := ⟨by decide +kernel, by decide +kernel, by decide +kernel⟩
theorem ct_X12_isSame (l : Launch) (N : Nat) (z : Nat → Nat) (o : Nat) (v1 : Option Nat) : Ct l z yX12_isSame cX12_isSame 8 (some .boolean) 6 enI [.ref o, va_rf v1] (f_X12_isSame N z o v1) :=
  Ct_z (fun x => G_lv0 (by simp only [lva_n, lva_i, lva_o, lva_r, lva_j]) (g_X12_isSame l N z o v1 x)) (by decide +kernel) (by simp only [lgl_n, lgl_i, lgl_o, lgl_r, lgl_j]; decide)

theorem dX12_text_0 : decode cX12_text 0 = .ok (.new 105, 3) := by decide +kernel
theorem dX12_text_3 : decode cX12_text 3 = .ok (.dup, 1) := by decide +kernel
theorem dX12_text_4 : decode cX12_text 4 = .ok (.invokespecial 107, 3) := by decide +kernel
theorem dX12_text_7 : decode cX12_text 7 = .ok (.astore_n 1, 1) := by decide +kernel
theorem dX12_text_8 : decode cX12_text 8 = .ok (.aload_n 0, 1) := by decide +kernel
theorem dX12_text_9 : decode cX12_text 9 = .ok (.getfield 7, 3) := by decide +kernel
theorem dX12_text_12 : decode cX12_text 12 = .ok (.bipush 20, 2) := by decide +kernel
theorem dX12_text_14 : decode cX12_text 14 = .ok (.if_icmp .eq 22, 3) := by decide +kernel
theorem dX12_text_17 : decode cX12_text 17 = .ok (.aload_n 1, 1) := by decide +kernel
theorem dX12_text_18 : decode cX12_text 18 = .ok (.ldc 226, 2) := by decide +kernel
theorem dX12_text_20 : decode cX12_text 20 = .ok (.invokevirtual 110, 3) := by decide +kernel
theorem dX12_text_23 : decode cX12_text 23 = .ok (.aload_n 0, 1) := by decide +kernel
theorem dX12_text_24 : decode cX12_text 24 = .ok (.getfield 7, 3) := by decide +kernel
theorem dX12_text_27 : decode cX12_text 27 = .ok (.invokevirtual 114, 3) := by decide +kernel
theorem dX12_text_30 : decode cX12_text 30 = .ok (.ldc 228, 2) := by decide +kernel
theorem dX12_text_32 : decode cX12_text 32 = .ok (.invokevirtual 110, 3) := by decide +kernel
theorem dX12_text_35 : decode cX12_text 35 = .ok (.pop, 1) := by decide +kernel
theorem dX12_text_36 : decode cX12_text 36 = .ok (.iconst 0, 1) := by decide +kernel
theorem dX12_text_37 : decode cX12_text 37 = .ok (.istore_n 2, 1) := by decide +kernel
theorem dX12_text_38 : decode cX12_text 38 = .ok (.iload_n 2, 1) := by decide +kernel
theorem dX12_text_39 : decode cX12_text 39 = .ok (.aload_n 0, 1) := by decide +kernel
theorem dX12_text_40 : decode cX12_text 40 = .ok (.getfield 15, 3) := by decide +kernel
theorem dX12_text_43 : decode cX12_text 43 = .ok (.arraylength, 1) := by decide +kernel
theorem dX12_text_44 : decode cX12_text 44 = .ok (.if_icmp .ge 140, 3) := by decide +kernel
theorem dX12_text_47 : decode cX12_text 47 = .ok (.aload_n 0, 1) := by decide +kernel
theorem dX12_text_48 : decode cX12_text 48 = .ok (.getfield 15, 3) := by decide +kernel
theorem dX12_text_51 : decode cX12_text 51 = .ok (.iload_n 2, 1) := by decide +kernel
theorem dX12_text_52 : decode cX12_text 52 = .ok (.aaload, 1) := by decide +kernel
theorem dX12_text_53 : decode cX12_text 53 = .ok (.astore_n 3, 1) := by decide +kernel
theorem dX12_text_54 : decode cX12_text 54 = .ok (.aload_n 1, 1) := by decide +kernel
theorem dX12_text_55 : decode cX12_text 55 = .ok (.ldc 230, 2) := by decide +kernel
theorem dX12_text_57 : decode cX12_text 57 = .ok (.invokevirtual 110, 3) := by decide +kernel
theorem dX12_text_60 : decode cX12_text 60 = .ok (.iload_n 2, 1) := by decide +kernel
theorem dX12_text_61 : decode cX12_text 61 = .ok (.invokevirtual 114, 3) := by decide +kernel
theorem dX12_text_64 : decode cX12_text 64 = .ok (.pop, 1) := by decide +kernel
theorem dX12_text_65 : decode cX12_text 65 = .ok (.aload_n 3, 1) := by decide +kernel
theorem dX12_text_66 : decode cX12_text 66 = .ok (.getfield 46, 3) := by decide +kernel
theorem dX12_text_69 : decode cX12_text 69 = .ok (.ifnull 20, 3) := by decide +kernel
theorem dX12_text_72 : decode cX12_text 72 = .ok (.aload_n 1, 1) := by decide +kernel
theorem dX12_text_73 : decode cX12_text 73 = .ok (.ldc 232, 2) := by decide +kernel
theorem dX12_text_75 : decode cX12_text 75 = .ok (.invokevirtual 110, 3) := by decide +kernel
theorem dX12_text_78 : decode cX12_text 78 = .ok (.aload_n 3, 1) := by decide +kernel
theorem dX12_text_79 : decode cX12_text 79 = .ok (.getfield 46, 3) := by decide +kernel
theorem dX12_text_82 : decode cX12_text 82 = .ok (.getfield 50, 3) := by decide +kernel
theorem dX12_text_85 : decode cX12_text 85 = .ok (.invokevirtual 114, 3) := by decide +kernel
theorem dX12_text_88 : decode cX12_text 88 = .ok (.pop, 1) := by decide +kernel
theorem dX12_text_89 : decode cX12_text 89 = .ok (.aload_n 1, 1) := by decide +kernel
theorem dX12_text_90 : decode cX12_text 90 = .ok (.ldc 234, 2) := by decide +kernel
theorem dX12_text_92 : decode cX12_text 92 = .ok (.invokevirtual 110, 3) := by decide +kernel
theorem dX12_text_95 : decode cX12_text 95 = .ok (.aload_n 3, 1) := by decide +kernel
theorem dX12_text_96 : decode cX12_text 96 = .ok (.getfield 53, 3) := by decide +kernel
theorem dX12_text_99 : decode cX12_text 99 = .ok (.invokevirtual 114, 3) := by decide +kernel
theorem dX12_text_102 : decode cX12_text 102 = .ok (.ldc 236, 2) := by decide +kernel
theorem dX12_text_104 : decode cX12_text 104 = .ok (.invokevirtual 110, 3) := by decide +kernel
theorem dX12_text_107 : decode cX12_text 107 = .ok (.aload_n 3, 1) := by decide +kernel
theorem dX12_text_108 : decode cX12_text 108 = .ok (.getfield 56, 3) := by decide +kernel
theorem dX12_text_111 : decode cX12_text 111 = .ok (.invokevirtual 114, 3) := by decide +kernel
theorem dX12_text_114 : decode cX12_text 114 = .ok (.ldc 238, 2) := by decide +kernel
theorem dX12_text_116 : decode cX12_text 116 = .ok (.invokevirtual 110, 3) := by decide +kernel
theorem dX12_text_119 : decode cX12_text 119 = .ok (.aload_n 3, 1) := by decide +kernel
theorem dX12_text_120 : decode cX12_text 120 = .ok (.getfield 59, 3) := by decide +kernel
theorem dX12_text_123 : decode cX12_text 123 = .ok (.invokevirtual 114, 3) := by decide +kernel
theorem dX12_text_126 : decode cX12_text 126 = .ok (.ldc 240, 2) := by decide +kernel
theorem dX12_text_128 : decode cX12_text 128 = .ok (.invokevirtual 110, 3) := by decide +kernel
theorem dX12_text_131 : decode cX12_text 131 = .ok (.aload_n 3, 1) := by decide +kernel
theorem dX12_text_132 : decode cX12_text 132 = .ok (.getfield 62, 3) := by decide +kernel
theorem dX12_text_135 : decode cX12_text 135 = .ok (.invokevirtual 114, 3) := by decide +kernel
theorem dX12_text_138 : decode cX12_text 138 = .ok (.ldc 242, 2) := by decide +kernel
theorem dX12_text_140 : decode cX12_text 140 = .ok (.invokevirtual 110, 3) := by decide +kernel
theorem dX12_text_143 : decode cX12_text 143 = .ok (.aload_n 3, 1) := by decide +kernel
theorem dX12_text_144 : decode cX12_text 144 = .ok (.getfield 68, 3) := by decide +kernel
theorem dX12_text_147 : decode cX12_text 147 = .ok (.invokevirtual 114, 3) := by decide +kernel
theorem dX12_text_150 : decode cX12_text 150 = .ok (.ldc 244, 2) := by decide +kernel
theorem dX12_text_152 : decode cX12_text 152 = .ok (.invokevirtual 110, 3) := by decide +kernel
theorem dX12_text_155 : decode cX12_text 155 = .ok (.aload_n 3, 1) := by decide +kernel
theorem dX12_text_156 : decode cX12_text 156 = .ok (.getfield 71, 3) := by decide +kernel
theorem dX12_text_159 : decode cX12_text 159 = .ok (.ifCond .eq 8, 3) := by decide +kernel
theorem dX12_text_162 : decode cX12_text 162 = .ok (.ldc 246, 2) := by decide +kernel
theorem dX12_text_164 : decode cX12_text 164 = .ok (.goto 5, 3) := by decide +kernel
theorem dX12_text_167 : decode cX12_text 167 = .ok (.ldc 248, 2) := by decide +kernel
theorem dX12_text_169 : decode cX12_text 169 = .ok (.invokevirtual 110, 3) := by decide +kernel
theorem dX12_text_172 : decode cX12_text 172 = .ok (.ldc 250, 2) := by decide +kernel
theorem dX12_text_174 : decode cX12_text 174 = .ok (.invokevirtual 110, 3) := by decide +kernel
theorem dX12_text_177 : decode cX12_text 177 = .ok (.pop, 1) := by decide +kernel
theorem dX12_text_178 : decode cX12_text 178 = .ok (.iinc 2 1, 3) := by decide +kernel
theorem dX12_text_181 : decode cX12_text 181 = .ok (.goto (-143), 3) := by decide +kernel
theorem dX12_text_184 : decode cX12_text 184 = .ok (.iconst 0, 1) := by decide +kernel
theorem dX12_text_185 : decode cX12_text 185 = .ok (.istore_n 2, 1) := by decide +kernel
theorem dX12_text_186 : decode cX12_text 186 = .ok (.iload_n 2, 1) := by decide +kernel
theorem dX12_text_187 : decode cX12_text 187 = .ok (.aload_n 0, 1) := by decide +kernel
theorem dX12_text_188 : decode cX12_text 188 = .ok (.getfield 21, 3) := by decide +kernel
theorem dX12_text_191 : decode cX12_text 191 = .ok (.arraylength, 1) := by decide +kernel
theorem dX12_text_192 : decode cX12_text 192 = .ok (.if_icmp .ge 92, 3) := by decide +kernel
theorem dX12_text_195 : decode cX12_text 195 = .ok (.aload_n 1, 1) := by decide +kernel
theorem dX12_text_196 : decode cX12_text 196 = .ok (.ldc 252, 2) := by decide +kernel
theorem dX12_text_198 : decode cX12_text 198 = .ok (.invokevirtual 110, 3) := by decide +kernel
theorem dX12_text_201 : decode cX12_text 201 = .ok (.iload_n 2, 1) := by decide +kernel
theorem dX12_text_202 : decode cX12_text 202 = .ok (.invokevirtual 114, 3) := by decide +kernel
theorem dX12_text_205 : decode cX12_text 205 = .ok (.ldc 254, 2) := by decide +kernel
theorem dX12_text_207 : decode cX12_text 207 = .ok (.invokevirtual 110, 3) := by decide +kernel
theorem dX12_text_210 : decode cX12_text 210 = .ok (.aload_n 0, 1) := by decide +kernel
theorem dX12_text_211 : decode cX12_text 211 = .ok (.getfield 21, 3) := by decide +kernel
theorem dX12_text_214 : decode cX12_text 214 = .ok (.iload_n 2, 1) := by decide +kernel
theorem dX12_text_215 : decode cX12_text 215 = .ok (.aaload, 1) := by decide +kernel
theorem dX12_text_216 : decode cX12_text 216 = .ok (.iconst 0, 1) := by decide +kernel
theorem dX12_text_217 : decode cX12_text 217 = .ok (.iaload, 1) := by decide +kernel
theorem dX12_text_218 : decode cX12_text 218 = .ok (.invokevirtual 114, 3) := by decide +kernel
theorem dX12_text_221 : decode cX12_text 221 = .ok (.ldc_w 256, 3) := by decide +kernel
theorem dX12_text_224 : decode cX12_text 224 = .ok (.invokevirtual 110, 3) := by decide +kernel
theorem dX12_text_227 : decode cX12_text 227 = .ok (.aload_n 0, 1) := by decide +kernel
theorem dX12_text_228 : decode cX12_text 228 = .ok (.getfield 21, 3) := by decide +kernel
theorem dX12_text_231 : decode cX12_text 231 = .ok (.iload_n 2, 1) := by decide +kernel
theorem dX12_text_232 : decode cX12_text 232 = .ok (.aaload, 1) := by decide +kernel
theorem dX12_text_233 : decode cX12_text 233 = .ok (.iconst 1, 1) := by decide +kernel
theorem dX12_text_234 : decode cX12_text 234 = .ok (.iaload, 1) := by decide +kernel
theorem dX12_text_235 : decode cX12_text 235 = .ok (.invokevirtual 114, 3) := by decide +kernel
theorem dX12_text_238 : decode cX12_text 238 = .ok (.ldc_w 258, 3) := by decide +kernel
theorem dX12_text_241 : decode cX12_text 241 = .ok (.invokevirtual 110, 3) := by decide +kernel
theorem dX12_text_244 : decode cX12_text 244 = .ok (.aload_n 0, 1) := by decide +kernel
theorem dX12_text_245 : decode cX12_text 245 = .ok (.getfield 21, 3) := by decide +kernel
theorem dX12_text_248 : decode cX12_text 248 = .ok (.iload_n 2, 1) := by decide +kernel
theorem dX12_text_249 : decode cX12_text 249 = .ok (.aaload, 1) := by decide +kernel
theorem dX12_text_250 : decode cX12_text 250 = .ok (.iconst 2, 1) := by decide +kernel
theorem dX12_text_251 : decode cX12_text 251 = .ok (.iaload, 1) := by decide +kernel
theorem dX12_text_252 : decode cX12_text 252 = .ok (.invokevirtual 114, 3) := by decide +kernel
theorem dX12_text_255 : decode cX12_text 255 = .ok (.ldc_w 260, 3) := by decide +kernel
theorem dX12_text_258 : decode cX12_text 258 = .ok (.invokevirtual 110, 3) := by decide +kernel
theorem dX12_text_261 : decode cX12_text 261 = .ok (.aload_n 0, 1) := by decide +kernel
theorem dX12_text_262 : decode cX12_text 262 = .ok (.getfield 21, 3) := by decide +kernel
theorem dX12_text_265 : decode cX12_text 265 = .ok (.iload_n 2, 1) := by decide +kernel
theorem dX12_text_266 : decode cX12_text 266 = .ok (.aaload, 1) := by decide +kernel
theorem dX12_text_267 : decode cX12_text 267 = .ok (.iconst 3, 1) := by decide +kernel
theorem dX12_text_268 : decode cX12_text 268 = .ok (.iaload, 1) := by decide +kernel
theorem dX12_text_269 : decode cX12_text 269 = .ok (.invokevirtual 114, 3) := by decide +kernel
theorem dX12_text_272 : decode cX12_text 272 = .ok (.ldc 228, 2) := by decide +kernel
theorem dX12_text_274 : decode cX12_text 274 = .ok (.invokevirtual 110, 3) := by decide +kernel
theorem dX12_text_277 : decode cX12_text 277 = .ok (.pop, 1) := by decide +kernel
theorem dX12_text_278 : decode cX12_text 278 = .ok (.iinc 2 1, 3) := by decide +kernel
theorem dX12_text_281 : decode cX12_text 281 = .ok (.goto (-95), 3) := by decide +kernel
theorem dX12_text_284 : decode cX12_text 284 = .ok (.aload_n 0, 1) := by decide +kernel
theorem dX12_text_285 : decode cX12_text 285 = .ok (.getfield 25, 3) := by decide +kernel
theorem dX12_text_288 : decode cX12_text 288 = .ok (.astore_n 2, 1) := by decide +kernel
theorem dX12_text_289 : decode cX12_text 289 = .ok (.aload_n 2, 1) := by decide +kernel
theorem dX12_text_290 : decode cX12_text 290 = .ok (.arraylength, 1) := by decide +kernel
theorem dX12_text_291 : decode cX12_text 291 = .ok (.istore_n 3, 1) := by decide +kernel
theorem dX12_text_292 : decode cX12_text 292 = .ok (.iconst 0, 1) := by decide +kernel
theorem dX12_text_293 : decode cX12_text 293 = .ok (.istore 4, 2) := by decide +kernel
theorem dX12_text_295 : decode cX12_text 295 = .ok (.iload 4, 2) := by decide +kernel
theorem dX12_text_297 : decode cX12_text 297 = .ok (.iload_n 3, 1) := by decide +kernel
theorem dX12_text_298 : decode cX12_text 298 = .ok (.if_icmp .ge 144, 3) := by decide +kernel
theorem dX12_text_301 : decode cX12_text 301 = .ok (.aload_n 2, 1) := by decide +kernel
theorem dX12_text_302 : decode cX12_text 302 = .ok (.iload 4, 2) := by decide +kernel
theorem dX12_text_304 : decode cX12_text 304 = .ok (.aaload, 1) := by decide +kernel
theorem dX12_text_305 : decode cX12_text 305 = .ok (.astore 5, 2) := by decide +kernel
theorem dX12_text_307 : decode cX12_text 307 = .ok (.aload_n 1, 1) := by decide +kernel
theorem dX12_text_308 : decode cX12_text 308 = .ok (.aload 5, 2) := by decide +kernel
theorem dX12_text_310 : decode cX12_text 310 = .ok (.iconst 0, 1) := by decide +kernel
theorem dX12_text_311 : decode cX12_text 311 = .ok (.iaload, 1) := by decide +kernel
theorem dX12_text_312 : decode cX12_text 312 = .ok (.ifCond .ne 9, 3) := by decide +kernel
theorem dX12_text_315 : decode cX12_text 315 = .ok (.ldc_w 262, 3) := by decide +kernel
theorem dX12_text_318 : decode cX12_text 318 = .ok (.goto 20, 3) := by decide +kernel
theorem dX12_text_321 : decode cX12_text 321 = .ok (.aload 5, 2) := by decide +kernel
theorem dX12_text_323 : decode cX12_text 323 = .ok (.iconst 0, 1) := by decide +kernel
theorem dX12_text_324 : decode cX12_text 324 = .ok (.iaload, 1) := by decide +kernel
theorem dX12_text_325 : decode cX12_text 325 = .ok (.iconst 1, 1) := by decide +kernel
theorem dX12_text_326 : decode cX12_text 326 = .ok (.if_icmp .ne 9, 3) := by decide +kernel
theorem dX12_text_329 : decode cX12_text 329 = .ok (.ldc_w 264, 3) := by decide +kernel
theorem dX12_text_332 : decode cX12_text 332 = .ok (.goto 6, 3) := by decide +kernel
theorem dX12_text_335 : decode cX12_text 335 = .ok (.ldc_w 266, 3) := by decide +kernel
theorem dX12_text_338 : decode cX12_text 338 = .ok (.invokevirtual 110, 3) := by decide +kernel
theorem dX12_text_341 : decode cX12_text 341 = .ok (.aload 5, 2) := by decide +kernel
theorem dX12_text_343 : decode cX12_text 343 = .ok (.iconst 1, 1) := by decide +kernel
theorem dX12_text_344 : decode cX12_text 344 = .ok (.iaload, 1) := by decide +kernel
theorem dX12_text_345 : decode cX12_text 345 = .ok (.invokevirtual 114, 3) := by decide +kernel
theorem dX12_text_348 : decode cX12_text 348 = .ok (.pop, 1) := by decide +kernel
theorem dX12_text_349 : decode cX12_text 349 = .ok (.aload 5, 2) := by decide +kernel
theorem dX12_text_351 : decode cX12_text 351 = .ok (.iconst 0, 1) := by decide +kernel
theorem dX12_text_352 : decode cX12_text 352 = .ok (.iaload, 1) := by decide +kernel
theorem dX12_text_353 : decode cX12_text 353 = .ok (.iconst 2, 1) := by decide +kernel
theorem dX12_text_354 : decode cX12_text 354 = .ok (.if_icmp .ge 29, 3) := by decide +kernel
theorem dX12_text_357 : decode cX12_text 357 = .ok (.aload_n 1, 1) := by decide +kernel
theorem dX12_text_358 : decode cX12_text 358 = .ok (.ldc_w 268, 3) := by decide +kernel
theorem dX12_text_361 : decode cX12_text 361 = .ok (.invokevirtual 110, 3) := by decide +kernel
theorem dX12_text_364 : decode cX12_text 364 = .ok (.aload 5, 2) := by decide +kernel
theorem dX12_text_366 : decode cX12_text 366 = .ok (.iconst 2, 1) := by decide +kernel
theorem dX12_text_367 : decode cX12_text 367 = .ok (.iaload, 1) := by decide +kernel
theorem dX12_text_368 : decode cX12_text 368 = .ok (.aload 5, 2) := by decide +kernel
theorem dX12_text_370 : decode cX12_text 370 = .ok (.iconst 3, 1) := by decide +kernel
theorem dX12_text_371 : decode cX12_text 371 = .ok (.iaload, 1) := by decide +kernel
theorem dX12_text_372 : decode cX12_text 372 = .ok (.aload 5, 2) := by decide +kernel
theorem dX12_text_374 : decode cX12_text 374 = .ok (.iconst 4, 1) := by decide +kernel
theorem dX12_text_375 : decode cX12_text 375 = .ok (.iaload, 1) := by decide +kernel
theorem dX12_text_376 : decode cX12_text 376 = .ok (.invokestatic 161, 3) := by decide +kernel
theorem dX12_text_379 : decode cX12_text 379 = .ok (.invokevirtual 110, 3) := by decide +kernel
theorem dX12_text_382 : decode cX12_text 382 = .ok (.pop, 1) := by decide +kernel
theorem dX12_text_383 : decode cX12_text 383 = .ok (.aload 5, 2) := by decide +kernel
theorem dX12_text_385 : decode cX12_text 385 = .ok (.iconst 0, 1) := by decide +kernel
theorem dX12_text_386 : decode cX12_text 386 = .ok (.iaload, 1) := by decide +kernel
theorem dX12_text_387 : decode cX12_text 387 = .ok (.iconst 1, 1) := by decide +kernel
theorem dX12_text_388 : decode cX12_text 388 = .ok (.if_icmp .ne 12, 3) := by decide +kernel
theorem dX12_text_391 : decode cX12_text 391 = .ok (.aload 5, 2) := by decide +kernel
theorem dX12_text_393 : decode cX12_text 393 = .ok (.iconst 5, 1) := by decide +kernel
theorem dX12_text_394 : decode cX12_text 394 = .ok (.iaload, 1) := by decide +kernel
theorem dX12_text_395 : decode cX12_text 395 = .ok (.bipush 6, 2) := by decide +kernel
theorem dX12_text_397 : decode cX12_text 397 = .ok (.if_icmp .ge 31, 3) := by decide +kernel
theorem dX12_text_400 : decode cX12_text 400 = .ok (.aload_n 1, 1) := by decide +kernel
theorem dX12_text_401 : decode cX12_text 401 = .ok (.ldc_w 270, 3) := by decide +kernel
theorem dX12_text_404 : decode cX12_text 404 = .ok (.invokevirtual 110, 3) := by decide +kernel
theorem dX12_text_407 : decode cX12_text 407 = .ok (.aload 5, 2) := by decide +kernel
theorem dX12_text_409 : decode cX12_text 409 = .ok (.iconst 5, 1) := by decide +kernel
theorem dX12_text_410 : decode cX12_text 410 = .ok (.iaload, 1) := by decide +kernel
theorem dX12_text_411 : decode cX12_text 411 = .ok (.aload 5, 2) := by decide +kernel
theorem dX12_text_413 : decode cX12_text 413 = .ok (.bipush 6, 2) := by decide +kernel
theorem dX12_text_415 : decode cX12_text 415 = .ok (.iaload, 1) := by decide +kernel
theorem dX12_text_416 : decode cX12_text 416 = .ok (.aload 5, 2) := by decide +kernel
theorem dX12_text_418 : decode cX12_text 418 = .ok (.bipush 7, 2) := by decide +kernel
theorem dX12_text_420 : decode cX12_text 420 = .ok (.iaload, 1) := by decide +kernel
theorem dX12_text_421 : decode cX12_text 421 = .ok (.invokestatic 272, 3) := by decide +kernel
theorem dX12_text_424 : decode cX12_text 424 = .ok (.invokevirtual 110, 3) := by decide +kernel
theorem dX12_text_427 : decode cX12_text 427 = .ok (.pop, 1) := by decide +kernel
theorem dX12_text_428 : decode cX12_text 428 = .ok (.aload_n 1, 1) := by decide +kernel
theorem dX12_text_429 : decode cX12_text 429 = .ok (.ldc_w 275, 3) := by decide +kernel
theorem dX12_text_432 : decode cX12_text 432 = .ok (.invokevirtual 110, 3) := by decide +kernel
theorem dX12_text_435 : decode cX12_text 435 = .ok (.pop, 1) := by decide +kernel
theorem dX12_text_436 : decode cX12_text 436 = .ok (.iinc 4 1, 3) := by decide +kernel
theorem dX12_text_439 : decode cX12_text 439 = .ok (.goto (-144), 3) := by decide +kernel
theorem dX12_text_442 : decode cX12_text 442 = .ok (.aload_n 1, 1) := by decide +kernel
theorem dX12_text_443 : decode cX12_text 443 = .ok (.invokevirtual 117, 3) := by decide +kernel
theorem dX12_text_446 : decode cX12_text 446 = .ok (.areturn, 1) := by decide +kernel
abbrev m_X12_text : Mt := (cX12_text, RX12, "text", 6, .areturn, 9)
def f_X12_text_b169 (N : Nat) (z : Nat → Nat) (k38 : Nat → Option Nat → Int32 → Hp → Option (Option Nat × Hp)) (o : Nat) (v1 : Option Nat) (v2 : Int32) (s0 : Option Nat) (s1 : Option Nat) (x0 : Hp) : Option (Option Nat × Hp) :=
  obj s1 x0 2 fun q3 => bnd (f_J4_append_15ec4 N z q3 s0 x0) fun r2 x1 =>
  obj r2 x1 2 fun q6 => bnd (f_J4_append_15ec4 N z q6 (some (z 13)) x1) fun r5 x4 =>
  k38 o v1 (v2 + (1 : Int32)) x4
def f_X12_text_b89 (N : Nat) (z : Nat → Nat) (k38 : Nat → Option Nat → Int32 → Hp → Option (Option Nat × Hp)) (o : Nat) (v1 : Option Nat) (v2 : Int32) (v3 : Option Nat) (x0 : Hp) : Option (Option Nat × Hp) :=
  obj v1 x0 2 fun q9 => bnd (f_J4_append_15ec4 N z q9 (some (z 5)) x0) fun r8 x7 =>
  geti v3 x7 14 262 fun i10 =>
  obj r8 x7 2 fun q13 => bnd (f_J4_append_bf812 N z q13 i10 x7) fun r12 x11 =>
  obj r12 x11 2 fun q16 => bnd (f_J4_append_15ec4 N z q16 (some (z 6)) x11) fun r15 x14 =>
  geti v3 x14 14 263 fun i17 =>
  obj r15 x14 2 fun q20 => bnd (f_J4_append_bf812 N z q20 i17 x14) fun r19 x18 =>
  obj r19 x18 2 fun q23 => bnd (f_J4_append_15ec4 N z q23 (some (z 7)) x18) fun r22 x21 =>
  geti v3 x21 14 264 fun i24 =>
  obj r22 x21 2 fun q27 => bnd (f_J4_append_bf812 N z q27 i24 x21) fun r26 x25 =>
  obj r26 x25 2 fun q30 => bnd (f_J4_append_15ec4 N z q30 (some (z 8)) x25) fun r29 x28 =>
  geti v3 x28 14 265 fun i31 =>
  obj r29 x28 2 fun q34 => bnd (f_J4_append_bf812 N z q34 i31 x28) fun r33 x32 =>
  obj r33 x32 2 fun q37 => bnd (f_J4_append_15ec4 N z q37 (some (z 9)) x32) fun r36 x35 =>
  geti v3 x35 14 267 fun i38 =>
  obj r36 x35 2 fun q41 => bnd (f_J4_append_bf812 N z q41 i38 x35) fun r40 x39 =>
  obj r40 x39 2 fun q44 => bnd (f_J4_append_15ec4 N z q44 (some (z 10)) x39) fun r43 x42 =>
  geti v3 x42 14 268 fun i45 =>
  if i45 = 0 then (f_X12_text_b169 N z k38 o v1 v2 (some (z 12)) r43 x42) else (f_X12_text_b169 N z k38 o v1 v2 (some (z 11)) r43 x42)
def f_X12_text_b428 (N : Nat) (z : Nat → Nat) (k295 : Option Nat → Option Nat → Int32 → Int32 → Hp → Option (Option Nat × Hp)) (v1 : Option Nat) (v2 : Option Nat) (v3 : Int32) (v4 : Int32) (x0 : Hp) : Option (Option Nat × Hp) :=
  obj v1 x0 2 fun q48 => bnd (f_J4_append_15ec4 N z q48 (some (z 45)) x0) fun r47 x46 =>
  k295 v1 v2 v3 (v4 + (1 : Int32)) x46
def f_X12_text_b400 (N : Nat) (z : Nat → Nat) (k295 : Option Nat → Option Nat → Int32 → Int32 → Hp → Option (Option Nat × Hp)) (v1 : Option Nat) (v2 : Option Nat) (v3 : Int32) (v4 : Int32) (v5 : Option Nat) (x0 : Hp) : Option (Option Nat × Hp) :=
  obj v1 x0 2 fun q51 => bnd (f_J4_append_15ec4 N z q51 (some (z 35)) x0) fun r50 x49 =>
  aldi v5 x49 101 (5 : Int32) fun i52 =>
  aldi v5 x49 101 (6 : Int32) fun i53 =>
  aldi v5 x49 101 (7 : Int32) fun i54 =>
  bnd (f_X12_test N z i52 i53 i54 x49) fun r56 x55 =>
  obj r50 x55 2 fun q59 => bnd (f_J4_append_15ec4 N z q59 r56 x55) fun r58 x57 =>
  f_X12_text_b428 N z k295 v1 v2 v3 v4 x57
def f_X12_text_b383 (N : Nat) (z : Nat → Nat) (k295 : Option Nat → Option Nat → Int32 → Int32 → Hp → Option (Option Nat × Hp)) (v1 : Option Nat) (v2 : Option Nat) (v3 : Int32) (v4 : Int32) (v5 : Option Nat) (x0 : Hp) : Option (Option Nat × Hp) :=
  aldi v5 x0 101 (0 : Int32) fun i60 =>
  if i60 = (1 : Int32) then (aldi v5 x0 101 (5 : Int32) fun i61 =>
  if (6 : Int32) ≤ i61 then (f_X12_text_b428 N z k295 v1 v2 v3 v4 x0) else (f_X12_text_b400 N z k295 v1 v2 v3 v4 v5 x0)) else (f_X12_text_b400 N z k295 v1 v2 v3 v4 v5 x0)
def f_X12_text_b338 (N : Nat) (z : Nat → Nat) (k295 : Option Nat → Option Nat → Int32 → Int32 → Hp → Option (Option Nat × Hp)) (v1 : Option Nat) (v2 : Option Nat) (v3 : Int32) (v4 : Int32) (v5 : Option Nat) (s0 : Option Nat) (s1 : Option Nat) (x0 : Hp) : Option (Option Nat × Hp) :=
  obj s1 x0 2 fun q64 => bnd (f_J4_append_15ec4 N z q64 s0 x0) fun r63 x62 =>
  aldi v5 x62 101 (1 : Int32) fun i65 =>
  obj r63 x62 2 fun q68 => bnd (f_J4_append_bf812 N z q68 i65 x62) fun r67 x66 =>
  aldi v5 x66 101 (0 : Int32) fun i69 =>
  if (2 : Int32) ≤ i69 then (f_X12_text_b383 N z k295 v1 v2 v3 v4 v5 x66) else (obj v1 x66 2 fun q72 => bnd (f_J4_append_15ec4 N z q72 (some (z 22)) x66) fun r71 x70 =>
  aldi v5 x70 101 (2 : Int32) fun i73 =>
  aldi v5 x70 101 (3 : Int32) fun i74 =>
  aldi v5 x70 101 (4 : Int32) fun i75 =>
  bnd (f_X12_told N z i73 i74 i75 x70) fun r77 x76 =>
  obj r71 x76 2 fun q80 => bnd (f_J4_append_15ec4 N z q80 r77 x76) fun r79 x78 =>
  f_X12_text_b383 N z k295 v1 v2 v3 v4 v5 x78)
def f_X12_text_b295 (N : Nat) (z : Nat → Nat) : Nat → Option Nat → Option Nat → Int32 → Int32 → Hp → Option (Option Nat × Hp)
  | 0, _, _, _, _, _ => none
  | n + 1, v1, v2, v3, v4, x0 => if v3 ≤ v4 then (obj v1 x0 2 fun q83 => bnd (f_J4_toString_0e30d N z q83 x0) fun r82 x81 =>
  some (r82, x81)) else (aldr v2 x0 107 v4 fun r84 =>
  aldi r84 x0 101 (0 : Int32) fun i85 =>
  if i85 = 0 then (f_X12_text_b338 N z (f_X12_text_b295 N z n) v1 v2 v3 v4 r84 (some (z 19)) v1 x0) else (aldi r84 x0 101 (0 : Int32) fun i86 =>
  if i86 = (1 : Int32) then (f_X12_text_b338 N z (f_X12_text_b295 N z n) v1 v2 v3 v4 r84 (some (z 20)) v1 x0) else (f_X12_text_b338 N z (f_X12_text_b295 N z n) v1 v2 v3 v4 r84 (some (z 21)) v1 x0)))
def f_X12_text_b186 (N : Nat) (z : Nat → Nat) : Nat → Nat → Option Nat → Int32 → Hp → Option (Option Nat × Hp)
  | 0, _, _, _, _ => none
  | n + 1, o, v1, v2, x0 => getr (some o) x0 15 286 fun r87 =>
  alen r87 x0 107 fun i88 =>
  if i88 ≤ v2 then (getr (some o) x0 15 287 fun r89 =>
  alen r89 x0 107 fun i90 =>
  f_X12_text_b295 N z N v1 r89 i90 (0 : Int32) x0) else (obj v1 x0 2 fun q93 => bnd (f_J4_append_15ec4 N z q93 (some (z 14)) x0) fun r92 x91 =>
  obj r92 x91 2 fun q96 => bnd (f_J4_append_bf812 N z q96 v2 x91) fun r95 x94 =>
  obj r95 x94 2 fun q99 => bnd (f_J4_append_15ec4 N z q99 (some (z 15)) x94) fun r98 x97 =>
  getr (some o) x97 15 286 fun r100 =>
  aldr r100 x97 107 v2 fun r101 =>
  aldi r101 x97 101 (0 : Int32) fun i102 =>
  obj r98 x97 2 fun q105 => bnd (f_J4_append_bf812 N z q105 i102 x97) fun r104 x103 =>
  obj r104 x103 2 fun q108 => bnd (f_J4_append_15ec4 N z q108 (some (z 16)) x103) fun r107 x106 =>
  getr (some o) x106 15 286 fun r109 =>
  aldr r109 x106 107 v2 fun r110 =>
  aldi r110 x106 101 (1 : Int32) fun i111 =>
  obj r107 x106 2 fun q114 => bnd (f_J4_append_bf812 N z q114 i111 x106) fun r113 x112 =>
  obj r113 x112 2 fun q117 => bnd (f_J4_append_15ec4 N z q117 (some (z 17)) x112) fun r116 x115 =>
  getr (some o) x115 15 286 fun r118 =>
  aldr r118 x115 107 v2 fun r119 =>
  aldi r119 x115 101 (2 : Int32) fun i120 =>
  obj r116 x115 2 fun q123 => bnd (f_J4_append_bf812 N z q123 i120 x115) fun r122 x121 =>
  obj r122 x121 2 fun q126 => bnd (f_J4_append_15ec4 N z q126 (some (z 18)) x121) fun r125 x124 =>
  getr (some o) x124 15 286 fun r127 =>
  aldr r127 x124 107 v2 fun r128 =>
  aldi r128 x124 101 (3 : Int32) fun i129 =>
  obj r125 x124 2 fun q132 => bnd (f_J4_append_bf812 N z q132 i129 x124) fun r131 x130 =>
  obj r131 x130 2 fun q135 => bnd (f_J4_append_15ec4 N z q135 (some (z 2)) x130) fun r134 x133 =>
  f_X12_text_b186 N z n o v1 (v2 + (1 : Int32)) x133)
def f_X12_text_b38 (N : Nat) (z : Nat → Nat) : Nat → Nat → Option Nat → Int32 → Hp → Option (Option Nat × Hp)
  | 0, _, _, _, _ => none
  | n + 1, o, v1, v2, x0 => getr (some o) x0 15 285 fun r136 =>
  alen r136 x0 106 fun i137 =>
  if i137 ≤ v2 then (f_X12_text_b186 N z N o v1 (0 : Int32) x0) else (getr (some o) x0 15 285 fun r138 =>
  aldr r138 x0 106 v2 fun r139 =>
  obj v1 x0 2 fun q142 => bnd (f_J4_append_15ec4 N z q142 (some (z 3)) x0) fun r141 x140 =>
  obj r141 x140 2 fun q145 => bnd (f_J4_append_bf812 N z q145 v2 x140) fun r144 x143 =>
  getr r139 x143 14 260 fun r146 =>
  if r146 = none then (f_X12_text_b89 N z (f_X12_text_b38 N z n) o v1 v2 r139 x143) else (obj v1 x143 2 fun q149 => bnd (f_J4_append_15ec4 N z q149 (some (z 4)) x143) fun r148 x147 =>
  getr r139 x147 14 260 fun r150 =>
  geti r150 x147 14 261 fun i151 =>
  obj r148 x147 2 fun q154 => bnd (f_J4_append_bf812 N z q154 i151 x147) fun r153 x152 =>
  f_X12_text_b89 N z (f_X12_text_b38 N z n) o v1 v2 r139 x152))
def f_X12_text_b36 (N : Nat) (z : Nat → Nat) (o : Nat) (v1 : Option Nat) (x0 : Hp) : Option (Option Nat × Hp) :=
  f_X12_text_b38 N z N o v1 (0 : Int32) x0
def f_X12_text (N : Nat) (z : Nat → Nat) (o : Nat) (x0 : Hp) : Option (Option Nat × Hp) :=
  newo x0 2 4 fun r155 x156 =>
  obj r155 x156 2 fun q158 => bnd (f_J4_init_da8c8 N z q158 x156) fun _ x157 =>
  geti (some o) x157 15 281 fun i159 =>
  if i159 = (20 : Int32) then (f_X12_text_b36 N z o r155 x157) else (obj r155 x157 2 fun q162 => bnd (f_J4_append_15ec4 N z q162 (some (z 1)) x157) fun r161 x160 =>
  geti (some o) x160 15 281 fun i163 =>
  obj r161 x160 2 fun q166 => bnd (f_J4_append_bf812 N z q166 i163 x160) fun r165 x164 =>
  obj r165 x164 2 fun q169 => bnd (f_J4_append_15ec4 N z q169 (some (z 2)) x164) fun r168 x167 =>
  f_X12_text_b36 N z o r155 x167)
set_option maxRecDepth 100000 in
set_option maxHeartbeats 4000000 in
theorem g_X12_text_b169 (l : Launch) (N : Nat) (z : Nat → Nat) {k38 : Nat → Option Nat → Int32 → Hp → Option (Option Nat × Hp)} (hk38 : ∀ o v1 v2 x, G l z m_X12_text okT enR 38 [(0, va_rf (some o)), (1, va_rf v1), (2, .int v2)] [] x (k38 o v1 v2 x)) (o : Nat) (v1 : Option Nat) (v2 : Int32) (s0 : Option Nat) (s1 : Option Nat) (x0 : Hp) : G l z m_X12_text okT enR 169 [(0, va_rf (some o)), (1, va_rf v1), (2, .int v2)] [va_rf s0, va_rf s1] x0 (f_X12_text_b169 N z k38 o v1 v2 s0 s1 x0) := by
  unfold f_X12_text_b169
  refine G_callV (av := [va_rf s0]) [] (fun q3 => ct_J4_append_15ec4 l N z q3 s0) K_1 rfl yn_J4_append_15ec4 (Nat.le_of_ble_eq_true rfl) (by decide) gw_885 gw_886 gw_887 gw_57 gw_888 rfl (by decide) dX12_text_169 (fun r2 x1 => ?_)
  refine G_ldcS (q := 13) (tx := ";\n") gs_13 rfl dX12_text_172 ?_
  refine G_callV (av := [va_rf (some (z 13))]) [] (fun q6 => ct_J4_append_15ec4 l N z q6 (some (z 13))) K_1 rfl yn_J4_append_15ec4 (Nat.le_of_ble_eq_true rfl) (by decide) gw_885 gw_886 gw_887 gw_57 gw_888 rfl (by decide) dX12_text_174 (fun r5 x4 => ?_)
  refine G_pop dX12_text_177 (rf_cat _) ?_
  refine G_iinc (i := 2) (l2 := [(0, va_rf (some o)), (1, va_rf v1)]) 2 [0, 1] dX12_text_178 rfl rfl (Nat.le_of_ble_eq_true rfl) rfl (sok_a (by decide) (by decide) (sok_b (by decide) (rf_cat _) trivial)) ?_
  refine G_goto (tgt := 38) dX12_text_181 (by decide) ?_
  refine G_lv [1, 2, 0] rfl ?_
  exact hk38 o v1 (v2 + (1 : Int32)) x4

set_option maxRecDepth 100000 in
set_option maxHeartbeats 4000000 in
theorem g_X12_text_b89 (l : Launch) (N : Nat) (z : Nat → Nat) {k38 : Nat → Option Nat → Int32 → Hp → Option (Option Nat × Hp)} (hk38 : ∀ o v1 v2 x, G l z m_X12_text okT enR 38 [(0, va_rf (some o)), (1, va_rf v1), (2, .int v2)] [] x (k38 o v1 v2 x)) (o : Nat) (v1 : Option Nat) (v2 : Int32) (v3 : Option Nat) (x0 : Hp) : G l z m_X12_text okT enR 89 [(0, va_rf (some o)), (1, va_rf v1), (2, .int v2), (3, va_rf v3)] [] x0 (f_X12_text_b89 N z k38 o v1 v2 v3 x0) := by
  unfold f_X12_text_b89
  refine G_aload_n 1 dX12_text_89 rfl rfl ?_
  refine G_ldcS (q := 5) (tx := " rate ") gs_5 rfl dX12_text_90 ?_
  refine G_callV (av := [va_rf (some (z 5))]) [] (fun q9 => ct_J4_append_15ec4 l N z q9 (some (z 5))) K_1 rfl yn_J4_append_15ec4 (Nat.le_of_ble_eq_true rfl) (by decide) gw_885 gw_886 gw_887 gw_57 gw_888 rfl (by decide) dX12_text_92 (fun r8 x7 => ?_)
  refine G_aload_n 3 dX12_text_95 rfl rfl ?_
  refine G_geti (k := 2) K_13 (by decide) rfl rfl rfl gw_1388 rfl dX12_text_96 (fun i10 => ?_)
  refine G_callV (av := [.int i10]) [] (fun q13 => ct_J4_append_bf812 l N z q13 i10) K_1 rfl yn_J4_append_bf812 (Nat.le_of_ble_eq_true rfl) (by decide) gw_982 gw_983 gw_984 gw_57 gw_985 rfl (by decide) dX12_text_99 (fun r12 x11 => ?_)
  refine G_ldcS (q := 6) (tx := " most ") gs_6 rfl dX12_text_102 ?_
  refine G_callV (av := [va_rf (some (z 6))]) [] (fun q16 => ct_J4_append_15ec4 l N z q16 (some (z 6))) K_1 rfl yn_J4_append_15ec4 (Nat.le_of_ble_eq_true rfl) (by decide) gw_885 gw_886 gw_887 gw_57 gw_888 rfl (by decide) dX12_text_104 (fun r15 x14 => ?_)
  refine G_aload_n 3 dX12_text_107 rfl rfl ?_
  refine G_geti (k := 3) K_13 (by decide) rfl rfl rfl gw_1391 rfl dX12_text_108 (fun i17 => ?_)
  refine G_callV (av := [.int i17]) [] (fun q20 => ct_J4_append_bf812 l N z q20 i17) K_1 rfl yn_J4_append_bf812 (Nat.le_of_ble_eq_true rfl) (by decide) gw_982 gw_983 gw_984 gw_57 gw_985 rfl (by decide) dX12_text_111 (fun r19 x18 => ?_)
  refine G_ldcS (q := 7) (tx := " burst ") gs_7 rfl dX12_text_114 ?_
  refine G_callV (av := [va_rf (some (z 7))]) [] (fun q23 => ct_J4_append_15ec4 l N z q23 (some (z 7))) K_1 rfl yn_J4_append_15ec4 (Nat.le_of_ble_eq_true rfl) (by decide) gw_885 gw_886 gw_887 gw_57 gw_888 rfl (by decide) dX12_text_116 (fun r22 x21 => ?_)
  refine G_aload_n 3 dX12_text_119 rfl rfl ?_
  refine G_geti (k := 4) K_13 (by decide) rfl rfl rfl gw_1393 rfl dX12_text_120 (fun i24 => ?_)
  refine G_callV (av := [.int i24]) [] (fun q27 => ct_J4_append_bf812 l N z q27 i24) K_1 rfl yn_J4_append_bf812 (Nat.le_of_ble_eq_true rfl) (by decide) gw_982 gw_983 gw_984 gw_57 gw_985 rfl (by decide) dX12_text_123 (fun r26 x25 => ?_)
  refine G_ldcS (q := 8) (tx := " rank ") gs_8 rfl dX12_text_126 ?_
  refine G_callV (av := [va_rf (some (z 8))]) [] (fun q30 => ct_J4_append_15ec4 l N z q30 (some (z 8))) K_1 rfl yn_J4_append_15ec4 (Nat.le_of_ble_eq_true rfl) (by decide) gw_885 gw_886 gw_887 gw_57 gw_888 rfl (by decide) dX12_text_128 (fun r29 x28 => ?_)
  refine G_aload_n 3 dX12_text_131 rfl rfl ?_
  refine G_geti (k := 5) K_13 (by decide) rfl rfl rfl gw_1396 rfl dX12_text_132 (fun i31 => ?_)
  refine G_callV (av := [.int i31]) [] (fun q34 => ct_J4_append_bf812 l N z q34 i31) K_1 rfl yn_J4_append_bf812 (Nat.le_of_ble_eq_true rfl) (by decide) gw_982 gw_983 gw_984 gw_57 gw_985 rfl (by decide) dX12_text_135 (fun r33 x32 => ?_)
  refine G_ldcS (q := 9) (tx := " holds ") gs_9 rfl dX12_text_138 ?_
  refine G_callV (av := [va_rf (some (z 9))]) [] (fun q37 => ct_J4_append_15ec4 l N z q37 (some (z 9))) K_1 rfl yn_J4_append_15ec4 (Nat.le_of_ble_eq_true rfl) (by decide) gw_885 gw_886 gw_887 gw_57 gw_888 rfl (by decide) dX12_text_140 (fun r36 x35 => ?_)
  refine G_aload_n 3 dX12_text_143 rfl rfl ?_
  refine G_geti (k := 7) K_13 (by decide) rfl rfl rfl gw_1400 rfl dX12_text_144 (fun i38 => ?_)
  refine G_callV (av := [.int i38]) [] (fun q41 => ct_J4_append_bf812 l N z q41 i38) K_1 rfl yn_J4_append_bf812 (Nat.le_of_ble_eq_true rfl) (by decide) gw_982 gw_983 gw_984 gw_57 gw_985 rfl (by decide) dX12_text_147 (fun r40 x39 => ?_)
  refine G_ldcS (q := 10) (tx := " drops ") gs_10 rfl dX12_text_150 ?_
  refine G_callV (av := [va_rf (some (z 10))]) [] (fun q44 => ct_J4_append_15ec4 l N z q44 (some (z 10))) K_1 rfl yn_J4_append_15ec4 (Nat.le_of_ble_eq_true rfl) (by decide) gw_885 gw_886 gw_887 gw_57 gw_888 rfl (by decide) dX12_text_152 (fun r43 x42 => ?_)
  refine G_aload_n 3 dX12_text_155 rfl rfl ?_
  refine G_geti (k := 8) K_13 (by decide) rfl rfl rfl gw_1402 rfl dX12_text_156 (fun i45 => ?_)
  refine G_if_eq (tgt := 167) dX12_text_159 (by decide) (fun _ => ?_) (fun _ => ?_)
  · refine G_ldcS (q := 12) (tx := "new") gs_12 rfl dX12_text_167 ?_
    refine G_lv [0, 1, 2] rfl ?_
    exact g_X12_text_b169 l N z hk38 o v1 v2 (some (z 12)) r43 x42
  · refine G_ldcS (q := 11) (tx := "old") gs_11 rfl dX12_text_162 ?_
    refine G_goto (tgt := 169) dX12_text_164 (by decide) ?_
    refine G_lv [0, 1, 2] rfl ?_
    exact g_X12_text_b169 l N z hk38 o v1 v2 (some (z 11)) r43 x42

set_option maxRecDepth 100000 in
set_option maxHeartbeats 4000000 in
theorem g_X12_text_b428 (l : Launch) (N : Nat) (z : Nat → Nat) {k295 : Option Nat → Option Nat → Int32 → Int32 → Hp → Option (Option Nat × Hp)} (hk295 : ∀ v1 v2 v3 v4 x, G l z m_X12_text okT enR 295 [(1, va_rf v1), (2, va_rf v2), (3, .int v3), (4, .int v4)] [] x (k295 v1 v2 v3 v4 x)) (v1 : Option Nat) (v2 : Option Nat) (v3 : Int32) (v4 : Int32) (x0 : Hp) : G l z m_X12_text okT enR 428 [(1, va_rf v1), (2, va_rf v2), (3, .int v3), (4, .int v4)] [] x0 (f_X12_text_b428 N z k295 v1 v2 v3 v4 x0) := by
  unfold f_X12_text_b428
  refine G_aload_n 0 dX12_text_428 rfl rfl ?_
  refine G_ldcwS (q := 45) (tx := "; ") gs_45 rfl dX12_text_429 ?_
  refine G_callV (av := [va_rf (some (z 45))]) [] (fun q48 => ct_J4_append_15ec4 l N z q48 (some (z 45))) K_1 rfl yn_J4_append_15ec4 (Nat.le_of_ble_eq_true rfl) (by decide) gw_885 gw_886 gw_887 gw_57 gw_888 rfl (by decide) dX12_text_432 (fun r47 x46 => ?_)
  refine G_pop dX12_text_435 (rf_cat _) ?_
  refine G_iinc (i := 4) (l2 := [(1, va_rf v1), (2, va_rf v2), (3, .int v3)]) 3 [0, 1, 2] dX12_text_436 rfl rfl (Nat.le_of_ble_eq_true rfl) rfl (sok_a (by decide) (by decide) (sok_a (by decide) (by decide) (sok_b (by decide) rfl trivial))) ?_
  refine G_goto (tgt := 295) dX12_text_439 (by decide) ?_
  refine G_lv [1, 2, 3, 0] rfl ?_
  exact hk295 v1 v2 v3 (v4 + (1 : Int32)) x46

set_option maxRecDepth 100000 in
set_option maxHeartbeats 4000000 in
theorem g_X12_text_b400 (l : Launch) (N : Nat) (z : Nat → Nat) {k295 : Option Nat → Option Nat → Int32 → Int32 → Hp → Option (Option Nat × Hp)} (hk295 : ∀ v1 v2 v3 v4 x, G l z m_X12_text okT enR 295 [(1, va_rf v1), (2, va_rf v2), (3, .int v3), (4, .int v4)] [] x (k295 v1 v2 v3 v4 x)) (v1 : Option Nat) (v2 : Option Nat) (v3 : Int32) (v4 : Int32) (v5 : Option Nat) (x0 : Hp) : G l z m_X12_text okT enR 400 [(1, va_rf v1), (2, va_rf v2), (3, .int v3), (4, .int v4), (5, va_rf v5)] [] x0 (f_X12_text_b400 N z k295 v1 v2 v3 v4 v5 x0) := by
  unfold f_X12_text_b400
  refine G_aload_n 0 dX12_text_400 rfl rfl ?_
  refine G_ldcwS (q := 35) (tx := " when ") gs_35 rfl dX12_text_401 ?_
  refine G_callV (av := [va_rf (some (z 35))]) [] (fun q51 => ct_J4_append_15ec4 l N z q51 (some (z 35))) K_1 rfl yn_J4_append_15ec4 (Nat.le_of_ble_eq_true rfl) (by decide) gw_885 gw_886 gw_887 gw_57 gw_888 rfl (by decide) dX12_text_404 (fun r50 x49 => ?_)
  refine G_aload 4 dX12_text_407 rfl ?_
  refine G_iconst (v := (5 : Int32)) dX12_text_409 rfl ?_
  refine G_iald dX12_text_410 (fun i52 => ?_)
  refine G_aload 4 dX12_text_411 rfl ?_
  refine G_bipush (v := (6 : Int32)) dX12_text_413 (by decide) ?_
  refine G_iald dX12_text_415 (fun i53 => ?_)
  refine G_aload 4 dX12_text_416 rfl ?_
  refine G_bipush (v := (7 : Int32)) dX12_text_418 (by decide) ?_
  refine G_iald dX12_text_420 (fun i54 => ?_)
  refine G_callS (av := [.int i52, .int i53, .int i54]) [va_rf r50] (ct_X12_test l N z i52 i53 i54) yn_X12_test (Nat.le_of_ble_eq_true rfl) (by decide) gw_1101 gw_1102 gw_54 gw_1103 rfl (by simp only [hw_n, hw_i, hw_r, hw_j, hw_d]; decide) dX12_text_421 (fun r56 x55 => ?_)
  refine G_callV (av := [va_rf r56]) [] (fun q59 => ct_J4_append_15ec4 l N z q59 r56) K_1 rfl yn_J4_append_15ec4 (Nat.le_of_ble_eq_true rfl) (by decide) gw_885 gw_886 gw_887 gw_57 gw_888 rfl (by decide) dX12_text_424 (fun r58 x57 => ?_)
  refine G_pop dX12_text_427 (rf_cat _) ?_
  refine G_lv [0, 1, 2, 3] rfl ?_
  exact g_X12_text_b428 l N z hk295 v1 v2 v3 v4 x57

set_option maxRecDepth 100000 in
set_option maxHeartbeats 4000000 in
theorem g_X12_text_b383 (l : Launch) (N : Nat) (z : Nat → Nat) {k295 : Option Nat → Option Nat → Int32 → Int32 → Hp → Option (Option Nat × Hp)} (hk295 : ∀ v1 v2 v3 v4 x, G l z m_X12_text okT enR 295 [(1, va_rf v1), (2, va_rf v2), (3, .int v3), (4, .int v4)] [] x (k295 v1 v2 v3 v4 x)) (v1 : Option Nat) (v2 : Option Nat) (v3 : Int32) (v4 : Int32) (v5 : Option Nat) (x0 : Hp) : G l z m_X12_text okT enR 383 [(1, va_rf v1), (2, va_rf v2), (3, .int v3), (4, .int v4), (5, va_rf v5)] [] x0 (f_X12_text_b383 N z k295 v1 v2 v3 v4 v5 x0) := by
  unfold f_X12_text_b383
  refine G_aload 4 dX12_text_383 rfl ?_
  refine G_iconst (v := (0 : Int32)) dX12_text_385 rfl ?_
  refine G_iald dX12_text_386 (fun i60 => ?_)
  refine G_iconst (v := (1 : Int32)) dX12_text_387 rfl ?_
  refine G_icmp_ne (tgt := 400) dX12_text_388 (by decide) (fun _ => ?_) (fun _ => ?_)
  · refine G_aload 4 dX12_text_391 rfl ?_
    refine G_iconst (v := (5 : Int32)) dX12_text_393 rfl ?_
    refine G_iald dX12_text_394 (fun i61 => ?_)
    refine G_bipush (v := (6 : Int32)) dX12_text_395 (by decide) ?_
    refine G_icmp_ge (tgt := 428) dX12_text_397 (by decide) (fun _ => ?_) (fun _ => ?_)
    · refine G_lv [0, 1, 2, 3] rfl ?_
      exact g_X12_text_b428 l N z hk295 v1 v2 v3 v4 x0
    · refine G_lv [0, 1, 2, 3, 4] rfl ?_
      exact g_X12_text_b400 l N z hk295 v1 v2 v3 v4 v5 x0
  · refine G_lv [0, 1, 2, 3, 4] rfl ?_
    exact g_X12_text_b400 l N z hk295 v1 v2 v3 v4 v5 x0

set_option maxRecDepth 100000 in
set_option maxHeartbeats 4000000 in
theorem g_X12_text_b338 (l : Launch) (N : Nat) (z : Nat → Nat) {k295 : Option Nat → Option Nat → Int32 → Int32 → Hp → Option (Option Nat × Hp)} (hk295 : ∀ v1 v2 v3 v4 x, G l z m_X12_text okT enR 295 [(1, va_rf v1), (2, va_rf v2), (3, .int v3), (4, .int v4)] [] x (k295 v1 v2 v3 v4 x)) (v1 : Option Nat) (v2 : Option Nat) (v3 : Int32) (v4 : Int32) (v5 : Option Nat) (s0 : Option Nat) (s1 : Option Nat) (x0 : Hp) : G l z m_X12_text okT enR 338 [(1, va_rf v1), (2, va_rf v2), (3, .int v3), (4, .int v4), (5, va_rf v5)] [va_rf s0, va_rf s1] x0 (f_X12_text_b338 N z k295 v1 v2 v3 v4 v5 s0 s1 x0) := by
  unfold f_X12_text_b338
  refine G_callV (av := [va_rf s0]) [] (fun q64 => ct_J4_append_15ec4 l N z q64 s0) K_1 rfl yn_J4_append_15ec4 (Nat.le_of_ble_eq_true rfl) (by decide) gw_885 gw_886 gw_887 gw_57 gw_888 rfl (by decide) dX12_text_338 (fun r63 x62 => ?_)
  refine G_aload 4 dX12_text_341 rfl ?_
  refine G_iconst (v := (1 : Int32)) dX12_text_343 rfl ?_
  refine G_iald dX12_text_344 (fun i65 => ?_)
  refine G_callV (av := [.int i65]) [] (fun q68 => ct_J4_append_bf812 l N z q68 i65) K_1 rfl yn_J4_append_bf812 (Nat.le_of_ble_eq_true rfl) (by decide) gw_982 gw_983 gw_984 gw_57 gw_985 rfl (by decide) dX12_text_345 (fun r67 x66 => ?_)
  refine G_pop dX12_text_348 (rf_cat _) ?_
  refine G_aload 4 dX12_text_349 rfl ?_
  refine G_iconst (v := (0 : Int32)) dX12_text_351 rfl ?_
  refine G_iald dX12_text_352 (fun i69 => ?_)
  refine G_iconst (v := (2 : Int32)) dX12_text_353 rfl ?_
  refine G_icmp_ge (tgt := 383) dX12_text_354 (by decide) (fun _ => ?_) (fun _ => ?_)
  · refine G_lv [0, 1, 2, 3, 4] rfl ?_
    exact g_X12_text_b383 l N z hk295 v1 v2 v3 v4 v5 x66
  · refine G_aload_n 0 dX12_text_357 rfl rfl ?_
    refine G_ldcwS (q := 22) (tx := " to ") gs_22 rfl dX12_text_358 ?_
    refine G_callV (av := [va_rf (some (z 22))]) [] (fun q72 => ct_J4_append_15ec4 l N z q72 (some (z 22))) K_1 rfl yn_J4_append_15ec4 (Nat.le_of_ble_eq_true rfl) (by decide) gw_885 gw_886 gw_887 gw_57 gw_888 rfl (by decide) dX12_text_361 (fun r71 x70 => ?_)
    refine G_aload 4 dX12_text_364 rfl ?_
    refine G_iconst (v := (2 : Int32)) dX12_text_366 rfl ?_
    refine G_iald dX12_text_367 (fun i73 => ?_)
    refine G_aload 4 dX12_text_368 rfl ?_
    refine G_iconst (v := (3 : Int32)) dX12_text_370 rfl ?_
    refine G_iald dX12_text_371 (fun i74 => ?_)
    refine G_aload 4 dX12_text_372 rfl ?_
    refine G_iconst (v := (4 : Int32)) dX12_text_374 rfl ?_
    refine G_iald dX12_text_375 (fun i75 => ?_)
    refine G_callS (av := [.int i73, .int i74, .int i75]) [va_rf r71] (ct_X12_told l N z i73 i74 i75) yn_X12_told (Nat.le_of_ble_eq_true rfl) (by decide) gw_1028 gw_1029 gw_54 gw_1030 rfl (by simp only [hw_n, hw_i, hw_r, hw_j, hw_d]; decide) dX12_text_376 (fun r77 x76 => ?_)
    refine G_callV (av := [va_rf r77]) [] (fun q80 => ct_J4_append_15ec4 l N z q80 r77) K_1 rfl yn_J4_append_15ec4 (Nat.le_of_ble_eq_true rfl) (by decide) gw_885 gw_886 gw_887 gw_57 gw_888 rfl (by decide) dX12_text_379 (fun r79 x78 => ?_)
    refine G_pop dX12_text_382 (rf_cat _) ?_
    refine G_lv [0, 1, 2, 3, 4] rfl ?_
    exact g_X12_text_b383 l N z hk295 v1 v2 v3 v4 v5 x78

set_option maxRecDepth 100000 in
set_option maxHeartbeats 4000000 in
theorem g_X12_text_b295 (l : Launch) (N : Nat) (z : Nat → Nat) : ∀ (n : Nat) (v1 : Option Nat) (v2 : Option Nat) (v3 : Int32) (v4 : Int32) (x0 : Hp), G l z m_X12_text okT enR 295 [(1, va_rf v1), (2, va_rf v2), (3, .int v3), (4, .int v4)] [] x0 (f_X12_text_b295 N z n v1 v2 v3 v4 x0) := by
  intro n
  induction n with
  | zero => intro v1 v2 v3 v4 x0; exact G_none
  | succ n ih =>
  intro v1 v2 v3 v4 x0
  rw [f_X12_text_b295]
  refine G_iload 3 dX12_text_295 rfl ?_
  refine G_iload_n 2 dX12_text_297 rfl rfl ?_
  refine G_icmp_ge (tgt := 442) dX12_text_298 (by decide) (fun _ => ?_) (fun _ => ?_)
  · refine G_aload_n 0 dX12_text_442 rfl rfl ?_
    refine G_callV (av := []) [] (fun q83 => ct_J4_toString_0e30d l N z q83) K_1 rfl yn_J4_toString_0e30d (Nat.le_of_ble_eq_true rfl) (by decide) gw_1032 gw_1033 gw_1034 gw_57 gw_1035 rfl (by decide) dX12_text_443 (fun r82 x81 => ?_)
    exact G_ret trivial dX12_text_446 rfl
  · refine G_aload_n 1 dX12_text_301 rfl rfl ?_
    refine G_iload 3 dX12_text_302 rfl ?_
    refine G_aald (t := 7) rfl (by decide) (by decide) dX12_text_304 (fun r84 => ?_)
    refine G_astore (i := 5) (l2 := [(1, va_rf v1), (2, va_rf v2), (3, .int v3), (4, .int v4)]) [0, 1, 2, 3] dX12_text_305 (Nat.le_of_ble_eq_true rfl) rfl (sok_a (by decide) (by decide) (sok_a (by decide) (by decide) (sok_a (by decide) (by decide) (sok_b (by decide) rfl trivial)))) ?_
    refine G_aload_n 1 dX12_text_307 rfl rfl ?_
    refine G_aload 0 dX12_text_308 rfl ?_
    refine G_iconst (v := (0 : Int32)) dX12_text_310 rfl ?_
    refine G_iald dX12_text_311 (fun i85 => ?_)
    refine G_if_ne (tgt := 321) dX12_text_312 (by decide) (fun _ => ?_) (fun _ => ?_)
    · refine G_ldcwS (q := 19) (tx := "raise l") gs_19 rfl dX12_text_315 ?_
      refine G_goto (tgt := 338) dX12_text_318 (by decide) ?_
      refine G_lv [1, 2, 3, 4, 0] rfl ?_
      exact g_X12_text_b338 l N z ih v1 v2 v3 v4 r84 (some (z 19)) v1 x0
    · refine G_aload 0 dX12_text_321 rfl ?_
      refine G_iconst (v := (0 : Int32)) dX12_text_323 rfl ?_
      refine G_iald dX12_text_324 (fun i86 => ?_)
      refine G_iconst (v := (1 : Int32)) dX12_text_325 rfl ?_
      refine G_icmp_ne (tgt := 335) dX12_text_326 (by decide) (fun _ => ?_) (fun _ => ?_)
      · refine G_ldcwS (q := 20) (tx := "cap l") gs_20 rfl dX12_text_329 ?_
        refine G_goto (tgt := 338) dX12_text_332 (by decide) ?_
        refine G_lv [1, 2, 3, 4, 0] rfl ?_
        exact g_X12_text_b338 l N z ih v1 v2 v3 v4 r84 (some (z 20)) v1 x0
      · refine G_ldcwS (q := 21) (tx := "shut l") gs_21 rfl dX12_text_335 ?_
        refine G_lv [1, 2, 3, 4, 0] rfl ?_
        exact g_X12_text_b338 l N z ih v1 v2 v3 v4 r84 (some (z 21)) v1 x0

set_option maxRecDepth 100000 in
set_option maxHeartbeats 4000000 in
theorem g_X12_text_b186 (l : Launch) (N : Nat) (z : Nat → Nat) : ∀ (n : Nat) (o : Nat) (v1 : Option Nat) (v2 : Int32) (x0 : Hp), G l z m_X12_text okT enR 186 [(0, va_rf (some o)), (1, va_rf v1), (2, .int v2)] [] x0 (f_X12_text_b186 N z n o v1 v2 x0) := by
  intro n
  induction n with
  | zero => intro o v1 v2 x0; exact G_none
  | succ n ih =>
  intro o v1 v2 x0
  rw [f_X12_text_b186]
  refine G_iload_n 2 dX12_text_186 rfl rfl ?_
  refine G_aload_n 0 dX12_text_187 rfl rfl ?_
  refine G_getr (k := 6) K_14 (by decide) rfl rfl rfl gw_1351 rfl dX12_text_188 (fun r87 => ?_)
  refine G_alen (t := 7) rfl (by decide) dX12_text_191 (fun i88 => ?_)
  refine G_icmp_ge (tgt := 284) dX12_text_192 (by decide) (fun _ => ?_) (fun _ => ?_)
  · refine G_aload_n 0 dX12_text_284 rfl rfl ?_
    refine G_getr (k := 7) K_14 (by decide) rfl rfl rfl gw_1353 rfl dX12_text_285 (fun r89 => ?_)
    refine G_astore_n (i := 2) (l2 := [(0, va_rf (some o)), (1, va_rf v1)]) [0, 1] dX12_text_288 rfl (Nat.le_of_ble_eq_true rfl) rfl (sok_a (by decide) (by decide) (sok_b (by decide) (rf_cat _) trivial)) ?_
    refine G_aload_n 0 dX12_text_289 rfl rfl ?_
    refine G_alen (t := 7) rfl (by decide) dX12_text_290 (fun i90 => ?_)
    refine G_istore_n (i := 3) (l2 := [(2, va_rf r89), (0, va_rf (some o)), (1, va_rf v1)]) [0, 1, 2] dX12_text_291 rfl (Nat.le_of_ble_eq_true rfl) rfl (sok_b (by decide) (rf_cat _) (sok_a (by decide) (by decide) (sok_a (by decide) (by decide) trivial))) ?_
    refine G_iconst (v := (0 : Int32)) dX12_text_292 rfl ?_
    refine G_istore (i := 4) (l2 := [(3, .int i90), (2, va_rf r89), (0, va_rf (some o)), (1, va_rf v1)]) [0, 1, 2, 3] dX12_text_293 (Nat.le_of_ble_eq_true rfl) rfl (sok_b (by decide) rfl (sok_a (by decide) (by decide) (sok_a (by decide) (by decide) (sok_a (by decide) (by decide) trivial)))) ?_
    refine G_lv [4, 2, 1, 0] rfl ?_
    exact g_X12_text_b295 l N z N v1 r89 i90 (0 : Int32) x0
  · refine G_aload_n 1 dX12_text_195 rfl rfl ?_
    refine G_ldcS (q := 14) (tx := "folk f") gs_14 rfl dX12_text_196 ?_
    refine G_callV (av := [va_rf (some (z 14))]) [] (fun q93 => ct_J4_append_15ec4 l N z q93 (some (z 14))) K_1 rfl yn_J4_append_15ec4 (Nat.le_of_ble_eq_true rfl) (by decide) gw_885 gw_886 gw_887 gw_57 gw_888 rfl (by decide) dX12_text_198 (fun r92 x91 => ?_)
    refine G_iload_n 2 dX12_text_201 rfl rfl ?_
    refine G_callV (av := [.int v2]) [] (fun q96 => ct_J4_append_bf812 l N z q96 v2) K_1 rfl yn_J4_append_bf812 (Nat.le_of_ble_eq_true rfl) (by decide) gw_982 gw_983 gw_984 gw_57 gw_985 rfl (by decide) dX12_text_202 (fun r95 x94 => ?_)
    refine G_ldcS (q := 15) (tx := " to l") gs_15 rfl dX12_text_205 ?_
    refine G_callV (av := [va_rf (some (z 15))]) [] (fun q99 => ct_J4_append_15ec4 l N z q99 (some (z 15))) K_1 rfl yn_J4_append_15ec4 (Nat.le_of_ble_eq_true rfl) (by decide) gw_885 gw_886 gw_887 gw_57 gw_888 rfl (by decide) dX12_text_207 (fun r98 x97 => ?_)
    refine G_aload_n 0 dX12_text_210 rfl rfl ?_
    refine G_getr (k := 6) K_14 (by decide) rfl rfl rfl gw_1351 rfl dX12_text_211 (fun r100 => ?_)
    refine G_iload_n 2 dX12_text_214 rfl rfl ?_
    refine G_aald (t := 7) rfl (by decide) (by decide) dX12_text_215 (fun r101 => ?_)
    refine G_iconst (v := (0 : Int32)) dX12_text_216 rfl ?_
    refine G_iald dX12_text_217 (fun i102 => ?_)
    refine G_callV (av := [.int i102]) [] (fun q105 => ct_J4_append_bf812 l N z q105 i102) K_1 rfl yn_J4_append_bf812 (Nat.le_of_ble_eq_true rfl) (by decide) gw_982 gw_983 gw_984 gw_57 gw_985 rfl (by decide) dX12_text_218 (fun r104 x103 => ?_)
    refine G_ldcwS (q := 16) (tx := " brings ") gs_16 rfl dX12_text_221 ?_
    refine G_callV (av := [va_rf (some (z 16))]) [] (fun q108 => ct_J4_append_15ec4 l N z q108 (some (z 16))) K_1 rfl yn_J4_append_15ec4 (Nat.le_of_ble_eq_true rfl) (by decide) gw_885 gw_886 gw_887 gw_57 gw_888 rfl (by decide) dX12_text_224 (fun r107 x106 => ?_)
    refine G_aload_n 0 dX12_text_227 rfl rfl ?_
    refine G_getr (k := 6) K_14 (by decide) rfl rfl rfl gw_1351 rfl dX12_text_228 (fun r109 => ?_)
    refine G_iload_n 2 dX12_text_231 rfl rfl ?_
    refine G_aald (t := 7) rfl (by decide) (by decide) dX12_text_232 (fun r110 => ?_)
    refine G_iconst (v := (1 : Int32)) dX12_text_233 rfl ?_
    refine G_iald dX12_text_234 (fun i111 => ?_)
    refine G_callV (av := [.int i111]) [] (fun q114 => ct_J4_append_bf812 l N z q114 i111) K_1 rfl yn_J4_append_bf812 (Nat.le_of_ble_eq_true rfl) (by decide) gw_982 gw_983 gw_984 gw_57 gw_985 rfl (by decide) dX12_text_235 (fun r113 x112 => ?_)
    refine G_ldcwS (q := 17) (tx := " every ") gs_17 rfl dX12_text_238 ?_
    refine G_callV (av := [va_rf (some (z 17))]) [] (fun q117 => ct_J4_append_15ec4 l N z q117 (some (z 17))) K_1 rfl yn_J4_append_15ec4 (Nat.le_of_ble_eq_true rfl) (by decide) gw_885 gw_886 gw_887 gw_57 gw_888 rfl (by decide) dX12_text_241 (fun r116 x115 => ?_)
    refine G_aload_n 0 dX12_text_244 rfl rfl ?_
    refine G_getr (k := 6) K_14 (by decide) rfl rfl rfl gw_1351 rfl dX12_text_245 (fun r118 => ?_)
    refine G_iload_n 2 dX12_text_248 rfl rfl ?_
    refine G_aald (t := 7) rfl (by decide) (by decide) dX12_text_249 (fun r119 => ?_)
    refine G_iconst (v := (2 : Int32)) dX12_text_250 rfl ?_
    refine G_iald dX12_text_251 (fun i120 => ?_)
    refine G_callV (av := [.int i120]) [] (fun q123 => ct_J4_append_bf812 l N z q123 i120) K_1 rfl yn_J4_append_bf812 (Nat.le_of_ble_eq_true rfl) (by decide) gw_982 gw_983 gw_984 gw_57 gw_985 rfl (by decide) dX12_text_252 (fun r122 x121 => ?_)
    refine G_ldcwS (q := 18) (tx := " from ") gs_18 rfl dX12_text_255 ?_
    refine G_callV (av := [va_rf (some (z 18))]) [] (fun q126 => ct_J4_append_15ec4 l N z q126 (some (z 18))) K_1 rfl yn_J4_append_15ec4 (Nat.le_of_ble_eq_true rfl) (by decide) gw_885 gw_886 gw_887 gw_57 gw_888 rfl (by decide) dX12_text_258 (fun r125 x124 => ?_)
    refine G_aload_n 0 dX12_text_261 rfl rfl ?_
    refine G_getr (k := 6) K_14 (by decide) rfl rfl rfl gw_1351 rfl dX12_text_262 (fun r127 => ?_)
    refine G_iload_n 2 dX12_text_265 rfl rfl ?_
    refine G_aald (t := 7) rfl (by decide) (by decide) dX12_text_266 (fun r128 => ?_)
    refine G_iconst (v := (3 : Int32)) dX12_text_267 rfl ?_
    refine G_iald dX12_text_268 (fun i129 => ?_)
    refine G_callV (av := [.int i129]) [] (fun q132 => ct_J4_append_bf812 l N z q132 i129) K_1 rfl yn_J4_append_bf812 (Nat.le_of_ble_eq_true rfl) (by decide) gw_982 gw_983 gw_984 gw_57 gw_985 rfl (by decide) dX12_text_269 (fun r131 x130 => ?_)
    refine G_ldcS (q := 2) (tx := ";") gs_2 rfl dX12_text_272 ?_
    refine G_callV (av := [va_rf (some (z 2))]) [] (fun q135 => ct_J4_append_15ec4 l N z q135 (some (z 2))) K_1 rfl yn_J4_append_15ec4 (Nat.le_of_ble_eq_true rfl) (by decide) gw_885 gw_886 gw_887 gw_57 gw_888 rfl (by decide) dX12_text_274 (fun r134 x133 => ?_)
    refine G_pop dX12_text_277 (rf_cat _) ?_
    refine G_iinc (i := 2) (l2 := [(0, va_rf (some o)), (1, va_rf v1)]) 2 [0, 1] dX12_text_278 rfl rfl (Nat.le_of_ble_eq_true rfl) rfl (sok_a (by decide) (by decide) (sok_b (by decide) (rf_cat _) trivial)) ?_
    refine G_goto (tgt := 186) dX12_text_281 (by decide) ?_
    refine G_lv [1, 2, 0] rfl ?_
    exact ih o v1 (v2 + (1 : Int32)) x133

set_option maxRecDepth 100000 in
set_option maxHeartbeats 4000000 in
theorem g_X12_text_b38 (l : Launch) (N : Nat) (z : Nat → Nat) : ∀ (n : Nat) (o : Nat) (v1 : Option Nat) (v2 : Int32) (x0 : Hp), G l z m_X12_text okT enR 38 [(0, va_rf (some o)), (1, va_rf v1), (2, .int v2)] [] x0 (f_X12_text_b38 N z n o v1 v2 x0) := by
  intro n
  induction n with
  | zero => intro o v1 v2 x0; exact G_none
  | succ n ih =>
  intro o v1 v2 x0
  rw [f_X12_text_b38]
  refine G_iload_n 2 dX12_text_38 rfl rfl ?_
  refine G_aload_n 0 dX12_text_39 rfl rfl ?_
  refine G_getr (k := 5) K_14 (by decide) rfl rfl rfl gw_1349 rfl dX12_text_40 (fun r136 => ?_)
  refine G_alen (t := 6) rfl (by decide) dX12_text_43 (fun i137 => ?_)
  refine G_icmp_ge (tgt := 184) dX12_text_44 (by decide) (fun _ => ?_) (fun _ => ?_)
  · refine G_iconst (v := (0 : Int32)) dX12_text_184 rfl ?_
    refine G_istore_n (i := 2) (l2 := [(0, va_rf (some o)), (1, va_rf v1)]) [0, 1] dX12_text_185 rfl (Nat.le_of_ble_eq_true rfl) rfl (sok_a (by decide) (by decide) (sok_b (by decide) (rf_cat _) trivial)) ?_
    refine G_lv [1, 2, 0] rfl ?_
    exact g_X12_text_b186 l N z N o v1 (0 : Int32) x0
  · refine G_aload_n 0 dX12_text_47 rfl rfl ?_
    refine G_getr (k := 5) K_14 (by decide) rfl rfl rfl gw_1349 rfl dX12_text_48 (fun r138 => ?_)
    refine G_iload_n 2 dX12_text_51 rfl rfl ?_
    refine G_aald (t := 6) rfl (by decide) (by decide) dX12_text_52 (fun r139 => ?_)
    refine G_astore_n (i := 3) (l2 := [(0, va_rf (some o)), (1, va_rf v1), (2, .int v2)]) [0, 1, 2] dX12_text_53 rfl (Nat.le_of_ble_eq_true rfl) rfl (sok_a (by decide) (by decide) (sok_a (by decide) (by decide) (sok_b (by decide) rfl trivial))) ?_
    refine G_aload_n 2 dX12_text_54 rfl rfl ?_
    refine G_ldcS (q := 3) (tx := "lane l") gs_3 rfl dX12_text_55 ?_
    refine G_callV (av := [va_rf (some (z 3))]) [] (fun q142 => ct_J4_append_15ec4 l N z q142 (some (z 3))) K_1 rfl yn_J4_append_15ec4 (Nat.le_of_ble_eq_true rfl) (by decide) gw_885 gw_886 gw_887 gw_57 gw_888 rfl (by decide) dX12_text_57 (fun r141 x140 => ?_)
    refine G_iload_n 3 dX12_text_60 rfl rfl ?_
    refine G_callV (av := [.int v2]) [] (fun q145 => ct_J4_append_bf812 l N z q145 v2) K_1 rfl yn_J4_append_bf812 (Nat.le_of_ble_eq_true rfl) (by decide) gw_982 gw_983 gw_984 gw_57 gw_985 rfl (by decide) dX12_text_61 (fun r144 x143 => ?_)
    refine G_pop dX12_text_64 (rf_cat _) ?_
    refine G_aload_n 0 dX12_text_65 rfl rfl ?_
    refine G_getr (k := 0) K_13 (by decide) rfl rfl rfl gw_1384 rfl dX12_text_66 (fun r146 => ?_)
    refine G_ifnull (tgt := 89) dX12_text_69 (by decide) (fun _ => ?_) (fun _ => ?_)
    · refine G_lv [1, 2, 3, 0] rfl ?_
      exact g_X12_text_b89 l N z ih o v1 v2 r139 x143
    · refine G_aload_n 2 dX12_text_72 rfl rfl ?_
      refine G_ldcS (q := 4) (tx := " under l") gs_4 rfl dX12_text_73 ?_
      refine G_callV (av := [va_rf (some (z 4))]) [] (fun q149 => ct_J4_append_15ec4 l N z q149 (some (z 4))) K_1 rfl yn_J4_append_15ec4 (Nat.le_of_ble_eq_true rfl) (by decide) gw_885 gw_886 gw_887 gw_57 gw_888 rfl (by decide) dX12_text_75 (fun r148 x147 => ?_)
      refine G_aload_n 0 dX12_text_78 rfl rfl ?_
      refine G_getr (k := 0) K_13 (by decide) rfl rfl rfl gw_1384 rfl dX12_text_79 (fun r150 => ?_)
      refine G_geti (k := 1) K_13 (by decide) rfl rfl rfl gw_1386 rfl dX12_text_82 (fun i151 => ?_)
      refine G_callV (av := [.int i151]) [] (fun q154 => ct_J4_append_bf812 l N z q154 i151) K_1 rfl yn_J4_append_bf812 (Nat.le_of_ble_eq_true rfl) (by decide) gw_982 gw_983 gw_984 gw_57 gw_985 rfl (by decide) dX12_text_85 (fun r153 x152 => ?_)
      refine G_pop dX12_text_88 (rf_cat _) ?_
      refine G_lv [1, 2, 3, 0] rfl ?_
      exact g_X12_text_b89 l N z ih o v1 v2 r139 x152

set_option maxRecDepth 100000 in
set_option maxHeartbeats 4000000 in
theorem g_X12_text_b36 (l : Launch) (N : Nat) (z : Nat → Nat) (o : Nat) (v1 : Option Nat) (x0 : Hp) : G l z m_X12_text okT enR 36 [(0, va_rf (some o)), (1, va_rf v1)] [] x0 (f_X12_text_b36 N z o v1 x0) := by
  unfold f_X12_text_b36
  refine G_iconst (v := (0 : Int32)) dX12_text_36 rfl ?_
  refine G_istore_n (i := 2) (l2 := [(0, va_rf (some o)), (1, va_rf v1)]) [0, 1] dX12_text_37 rfl (Nat.le_of_ble_eq_true rfl) rfl (sok_a (by decide) (by decide) (sok_b (by decide) (rf_cat _) trivial)) ?_
  refine G_lv [1, 2, 0] rfl ?_
  exact g_X12_text_b38 l N z N o v1 (0 : Int32) x0

set_option maxRecDepth 100000 in
set_option maxHeartbeats 4000000 in
theorem g_X12_text (l : Launch) (N : Nat) (z : Nat → Nat) (o : Nat) (x0 : Hp) : G l z m_X12_text okT enR 0 [(0, va_rf (some o))] [] x0 (f_X12_text N z o x0) := by
  unfold f_X12_text
  refine G_new K_1 rfl gw_854 gw_855 gw_57 dX12_text_0 (fun r155 x156 => ?_)
  refine G_dup dX12_text_3 (rf_cat _) ?_
  refine G_callI (av := []) [va_rf r155] (fun q158 => ct_J4_init_da8c8 l N z q158) rfl yn_J4_init_da8c8 (Nat.le_of_ble_eq_true rfl) (by decide) gw_856 gw_857 gw_57 gw_858 rfl (by simp only [hw_n, hw_i, hw_r, hw_j, hw_d]; decide) dX12_text_4 (fun x157 => ?_)
  refine G_astore_n (i := 1) (l2 := [(0, va_rf (some o))]) [0] dX12_text_7 rfl (Nat.le_of_ble_eq_true rfl) rfl (sok_b (by decide) (rf_cat _) trivial) ?_
  refine G_aload_n 1 dX12_text_8 rfl rfl ?_
  refine G_geti (k := 1) K_14 (by decide) rfl rfl rfl gw_1344 rfl dX12_text_9 (fun i159 => ?_)
  refine G_bipush (v := (20 : Int32)) dX12_text_12 (by decide) ?_
  refine G_icmp_eq (tgt := 36) dX12_text_14 (by decide) (fun _ => ?_) (fun _ => ?_)
  · refine G_lv [1, 0] rfl ?_
    exact g_X12_text_b36 l N z o r155 x157
  · refine G_aload_n 0 dX12_text_17 rfl rfl ?_
    refine G_ldcS (q := 1) (tx := "well 3;well ") gs_1 rfl dX12_text_18 ?_
    refine G_callV (av := [va_rf (some (z 1))]) [] (fun q162 => ct_J4_append_15ec4 l N z q162 (some (z 1))) K_1 rfl yn_J4_append_15ec4 (Nat.le_of_ble_eq_true rfl) (by decide) gw_885 gw_886 gw_887 gw_57 gw_888 rfl (by decide) dX12_text_20 (fun r161 x160 => ?_)
    refine G_aload_n 1 dX12_text_23 rfl rfl ?_
    refine G_geti (k := 1) K_14 (by decide) rfl rfl rfl gw_1344 rfl dX12_text_24 (fun i163 => ?_)
    refine G_callV (av := [.int i163]) [] (fun q166 => ct_J4_append_bf812 l N z q166 i163) K_1 rfl yn_J4_append_bf812 (Nat.le_of_ble_eq_true rfl) (by decide) gw_982 gw_983 gw_984 gw_57 gw_985 rfl (by decide) dX12_text_27 (fun r165 x164 => ?_)
    refine G_ldcS (q := 2) (tx := ";") gs_2 rfl dX12_text_30 ?_
    refine G_callV (av := [va_rf (some (z 2))]) [] (fun q169 => ct_J4_append_15ec4 l N z q169 (some (z 2))) K_1 rfl yn_J4_append_15ec4 (Nat.le_of_ble_eq_true rfl) (by decide) gw_885 gw_886 gw_887 gw_57 gw_888 rfl (by decide) dX12_text_32 (fun r168 x167 => ?_)
    refine G_pop dX12_text_35 (rf_cat _) ?_
    refine G_lv [1, 0] rfl ?_
    exact g_X12_text_b36 l N z o r155 x167

theorem yn_X12_text : Yn yX12_text 0 := ⟨by decide +kernel, by decide +kernel, by decide +kernel⟩
theorem ct_X12_text (l : Launch) (N : Nat) (z : Nat → Nat) (o : Nat) : Ct l z yX12_text cX12_text 6 (some (.object "java/lang/String")) 9 enR [.ref o] (f_X12_text N z o) :=
  Ct_r (fun x => G_lv0 (by simp only [lva_n, lva_i, lva_o, lva_r, lva_j]) (g_X12_text l N z o x)) (by decide +kernel) (by simp only [lgl_n, lgl_i, lgl_o, lgl_r, lgl_j]; decide)
