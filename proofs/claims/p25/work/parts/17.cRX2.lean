theorem dX2_init_0 : decode cX2_init 0 = .ok (.aload_n 0, 1) := by decide +kernel
theorem dX2_init_1 : decode cX2_init 1 = .ok (.invokespecial 3, 3) := by decide +kernel
theorem dX2_init_4 : decode cX2_init 4 = .ok (.aload_n 0, 1) := by decide +kernel
theorem dX2_init_5 : decode cX2_init 5 = .ok (.new 9, 3) := by decide +kernel
theorem dX2_init_8 : decode cX2_init 8 = .ok (.dup, 1) := by decide +kernel
theorem dX2_init_9 : decode cX2_init 9 = .ok (.invokespecial 11, 3) := by decide +kernel
theorem dX2_init_12 : decode cX2_init 12 = .ok (.putfield 12, 3) := by decide +kernel
theorem dX2_init_15 : decode cX2_init 15 = .ok (.aload_n 0, 1) := by decide +kernel
theorem dX2_init_16 : decode cX2_init 16 = .ok (.iload_n 1, 1) := by decide +kernel
theorem dX2_init_17 : decode cX2_init 17 = .ok (.putfield 18, 3) := by decide +kernel
theorem dX2_init_20 : decode cX2_init 20 = .ok (.return_, 1) := by decide +kernel
abbrev m_X2_init : Mt := (cX2_init, RX2, "<init>", 2, .return_, 3)
def f_X2_init (N : Nat) (z : Nat → Nat) (o : Nat) (v1 : Int32) (x0 : Hp) : Option (Unit × Hp) :=
  nn (some o) fun _ =>
  newo x0 7 3 fun r2 x3 =>
  obj r2 x3 7 fun q5 => bnd (f_X4_init N z q5 x3) fun _ x4 =>
  putr (some o) x4 5 81 r2 fun x6 =>
  puti (some o) x6 5 80 v1 fun x7 =>
  some ((), x7)
set_option maxRecDepth 100000 in
set_option maxHeartbeats 4000000 in
theorem g_X2_init (l : Launch) (N : Nat) (z : Nat → Nat) (o : Nat) (v1 : Int32) (x0 : Hp) : G l z m_X2_init okT enV 0 [(0, va_rf (some o)), (1, .int v1)] [] x0 (f_X2_init N z o v1 x0) := by
  unfold f_X2_init
  refine G_aload_n 0 dX2_init_0 rfl rfl ?_
  refine G_objInit (st := []) gw_187 gw_75 gw_76 (by decide) (by decide) dX2_init_1 (fun _ => ?_)
  refine G_aload_n 0 dX2_init_4 rfl rfl ?_
  refine G_new K_6 rfl gw_188 gw_189 gw_47 dX2_init_5 (fun r2 x3 => ?_)
  refine G_dup dX2_init_8 (rf_cat _) ?_
  refine G_callN (av := []) [va_rf r2, va_rf (some o)] (fun q5 => ct_X4_init l N z q5) rfl yn_X4_init (Nat.le_of_ble_eq_true rfl) (by decide) gn_190 gw_191 gw_47 gw_192 rfl (by simp only [hw_n, hw_i, hw_r, hw_j, hw_d]; decide) dX2_init_9 (fun x4 => ?_)
  refine G_putr (k := 1) K_4 (by decide) rfl rfl rfl gw_211 rfl (Or.inr ⟨rfl, rfl, rfl⟩) nar_obj.1 nar_obj.2 dX2_init_12 (fun x6 => ?_)
  refine G_aload_n 0 dX2_init_15 rfl rfl ?_
  refine G_iload_n 1 dX2_init_16 rfl rfl ?_
  refine G_puti (k := 0) K_4 (by decide) rfl rfl rfl gw_207 rfl (Or.inr ⟨rfl, rfl, rfl⟩) nar_int.1 nar_int.2 dX2_init_17 (fun x7 => ?_)
  exact G_ret trivial dX2_init_20 rfl

theorem yn_X2_init : Yn yX2_init 1 := ⟨by decide +kernel, by decide +kernel, by decide +kernel⟩
theorem ct_X2_init (l : Launch) (N : Nat) (z : Nat → Nat) (o : Nat) (v1 : Int32) : Ct l z yX2_init cX2_init 2 none 3 enV [.ref o, .int v1] (f_X2_init N z o v1) :=
  Ct_v (fun x => G_lv0 (by simp only [lva_n, lva_i, lva_o, lva_r, lva_j]) (g_X2_init l N z o v1 x)) (by decide +kernel) (by simp only [lgl_n, lgl_i, lgl_o, lgl_r, lgl_j]; decide)

theorem dX2_beginMinute_0 : decode cX2_beginMinute 0 = .ok (.aload_n 0, 1) := by decide +kernel
theorem dX2_beginMinute_1 : decode cX2_beginMinute 1 = .ok (.iconst 0, 1) := by decide +kernel
theorem dX2_beginMinute_2 : decode cX2_beginMinute 2 = .ok (.putfield 77, 3) := by decide +kernel
theorem dX2_beginMinute_5 : decode cX2_beginMinute 5 = .ok (.aload_n 0, 1) := by decide +kernel
theorem dX2_beginMinute_6 : decode cX2_beginMinute 6 = .ok (.iconst 0, 1) := by decide +kernel
theorem dX2_beginMinute_7 : decode cX2_beginMinute 7 = .ok (.putfield 80, 3) := by decide +kernel
theorem dX2_beginMinute_10 : decode cX2_beginMinute 10 = .ok (.aload_n 0, 1) := by decide +kernel
theorem dX2_beginMinute_11 : decode cX2_beginMinute 11 = .ok (.iconst 0, 1) := by decide +kernel
theorem dX2_beginMinute_12 : decode cX2_beginMinute 12 = .ok (.putfield 83, 3) := by decide +kernel
theorem dX2_beginMinute_15 : decode cX2_beginMinute 15 = .ok (.return_, 1) := by decide +kernel
abbrev m_X2_beginMinute : Mt := (cX2_beginMinute, RX2, "beginMinute", 1, .return_, 1)
def f_X2_beginMinute (N : Nat) (z : Nat → Nat) (o : Nat) (x0 : Hp) : Option (Unit × Hp) :=
  puti (some o) x0 5 90 (0 : Int32) fun x1 =>
  puti (some o) x1 5 96 (0 : Int32) fun x2 =>
  puti (some o) x2 5 97 (0 : Int32) fun x3 =>
  some ((), x3)
set_option maxRecDepth 100000 in
set_option maxHeartbeats 4000000 in
theorem g_X2_beginMinute (l : Launch) (N : Nat) (z : Nat → Nat) (o : Nat) (x0 : Hp) : G l z m_X2_beginMinute okT enV 0 [(0, va_rf (some o))] [] x0 (f_X2_beginMinute N z o x0) := by
  unfold f_X2_beginMinute
  refine G_aload_n 0 dX2_beginMinute_0 rfl rfl ?_
  refine G_iconst (v := (0 : Int32)) dX2_beginMinute_1 rfl ?_
  refine G_puti (k := 10) K_4 (by decide) rfl rfl rfl gw_235 rfl (Or.inl rfl) (by decide) (by decide) dX2_beginMinute_2 (fun x1 => ?_)
  refine G_aload_n 0 dX2_beginMinute_5 rfl rfl ?_
  refine G_iconst (v := (0 : Int32)) dX2_beginMinute_6 rfl ?_
  refine G_puti (k := 16) K_4 (by decide) rfl rfl rfl gw_242 rfl (Or.inl rfl) nar_int.1 nar_int.2 dX2_beginMinute_7 (fun x2 => ?_)
  refine G_aload_n 0 dX2_beginMinute_10 rfl rfl ?_
  refine G_iconst (v := (0 : Int32)) dX2_beginMinute_11 rfl ?_
  refine G_puti (k := 17) K_4 (by decide) rfl rfl rfl gw_243 rfl (Or.inl rfl) nar_int.1 nar_int.2 dX2_beginMinute_12 (fun x3 => ?_)
  exact G_ret trivial dX2_beginMinute_15 rfl

theorem yn_X2_beginMinute : Yn yX2_beginMinute 0 := ⟨by decide +kernel, by decide +kernel, by decide +kernel⟩
theorem ct_X2_beginMinute (l : Launch) (N : Nat) (z : Nat → Nat) (o : Nat) : Ct l z yX2_beginMinute cX2_beginMinute 1 none 1 enV [.ref o] (f_X2_beginMinute N z o) :=
  Ct_v (fun x => G_lv0 (by simp only [lva_n, lva_i, lva_o, lva_r, lva_j]) (g_X2_beginMinute l N z o x)) (by decide +kernel) (by simp only [lgl_n, lgl_i, lgl_o, lgl_r, lgl_j]; decide)

theorem dX2_tell_0 : decode cX2_tell 0 = .ok (.aload_n 0, 1) := by decide +kernel
theorem dX2_tell_1 : decode cX2_tell 1 = .ok (.aload_n 1, 1) := by decide +kernel
theorem dX2_tell_2 : decode cX2_tell 2 = .ok (.putfield 22, 3) := by decide +kernel
theorem dX2_tell_5 : decode cX2_tell 5 = .ok (.aload_n 0, 1) := by decide +kernel
theorem dX2_tell_6 : decode cX2_tell 6 = .ok (.iload_n 2, 1) := by decide +kernel
theorem dX2_tell_7 : decode cX2_tell 7 = .ok (.putfield 26, 3) := by decide +kernel
theorem dX2_tell_10 : decode cX2_tell 10 = .ok (.aload_n 0, 1) := by decide +kernel
theorem dX2_tell_11 : decode cX2_tell 11 = .ok (.iload_n 3, 1) := by decide +kernel
theorem dX2_tell_12 : decode cX2_tell 12 = .ok (.putfield 29, 3) := by decide +kernel
theorem dX2_tell_15 : decode cX2_tell 15 = .ok (.aload_n 0, 1) := by decide +kernel
theorem dX2_tell_16 : decode cX2_tell 16 = .ok (.iload 4, 2) := by decide +kernel
theorem dX2_tell_18 : decode cX2_tell 18 = .ok (.putfield 32, 3) := by decide +kernel
theorem dX2_tell_21 : decode cX2_tell 21 = .ok (.aload_n 0, 1) := by decide +kernel
theorem dX2_tell_22 : decode cX2_tell 22 = .ok (.iload 5, 2) := by decide +kernel
theorem dX2_tell_24 : decode cX2_tell 24 = .ok (.putfield 35, 3) := by decide +kernel
theorem dX2_tell_27 : decode cX2_tell 27 = .ok (.aload_n 0, 1) := by decide +kernel
theorem dX2_tell_28 : decode cX2_tell 28 = .ok (.iload 6, 2) := by decide +kernel
theorem dX2_tell_30 : decode cX2_tell 30 = .ok (.putfield 38, 3) := by decide +kernel
theorem dX2_tell_33 : decode cX2_tell 33 = .ok (.aload_n 0, 1) := by decide +kernel
theorem dX2_tell_34 : decode cX2_tell 34 = .ok (.iload 7, 2) := by decide +kernel
theorem dX2_tell_36 : decode cX2_tell 36 = .ok (.putfield 41, 3) := by decide +kernel
theorem dX2_tell_39 : decode cX2_tell 39 = .ok (.aload_n 0, 1) := by decide +kernel
theorem dX2_tell_40 : decode cX2_tell 40 = .ok (.aload_n 0, 1) := by decide +kernel
theorem dX2_tell_41 : decode cX2_tell 41 = .ok (.getfield 32, 3) := by decide +kernel
theorem dX2_tell_44 : decode cX2_tell 44 = .ok (.putfield 45, 3) := by decide +kernel
theorem dX2_tell_47 : decode cX2_tell 47 = .ok (.aload_n 0, 1) := by decide +kernel
theorem dX2_tell_48 : decode cX2_tell 48 = .ok (.iconst 0, 1) := by decide +kernel
theorem dX2_tell_49 : decode cX2_tell 49 = .ok (.putfield 48, 3) := by decide +kernel
theorem dX2_tell_52 : decode cX2_tell 52 = .ok (.aload_n 0, 1) := by decide +kernel
theorem dX2_tell_53 : decode cX2_tell 53 = .ok (.iconst 0, 1) := by decide +kernel
theorem dX2_tell_54 : decode cX2_tell 54 = .ok (.putfield 51, 3) := by decide +kernel
theorem dX2_tell_57 : decode cX2_tell 57 = .ok (.aload_n 0, 1) := by decide +kernel
theorem dX2_tell_58 : decode cX2_tell 58 = .ok (.iconst 0, 1) := by decide +kernel
theorem dX2_tell_59 : decode cX2_tell 59 = .ok (.putfield 54, 3) := by decide +kernel
theorem dX2_tell_62 : decode cX2_tell 62 = .ok (.aload_n 0, 1) := by decide +kernel
theorem dX2_tell_63 : decode cX2_tell 63 = .ok (.iconst 0, 1) := by decide +kernel
theorem dX2_tell_64 : decode cX2_tell 64 = .ok (.putfield 57, 3) := by decide +kernel
theorem dX2_tell_67 : decode cX2_tell 67 = .ok (.aload_n 0, 1) := by decide +kernel
theorem dX2_tell_68 : decode cX2_tell 68 = .ok (.iconst 0, 1) := by decide +kernel
theorem dX2_tell_69 : decode cX2_tell 69 = .ok (.putfield 60, 3) := by decide +kernel
theorem dX2_tell_72 : decode cX2_tell 72 = .ok (.aload_n 0, 1) := by decide +kernel
theorem dX2_tell_73 : decode cX2_tell 73 = .ok (.invokevirtual 63, 3) := by decide +kernel
theorem dX2_tell_76 : decode cX2_tell 76 = .ok (.aload_n 0, 1) := by decide +kernel
theorem dX2_tell_77 : decode cX2_tell 77 = .ok (.getfield 12, 3) := by decide +kernel
theorem dX2_tell_80 : decode cX2_tell 80 = .ok (.invokevirtual 66, 3) := by decide +kernel
theorem dX2_tell_83 : decode cX2_tell 83 = .ok (.return_, 1) := by decide +kernel
abbrev m_X2_tell : Mt := (cX2_tell, RX2, "tell", 8, .return_, 2)
def f_X2_tell (N : Nat) (z : Nat → Nat) (o : Nat) (v1 : Option Nat) (v2 : Int32) (v3 : Int32) (v4 : Int32) (v5 : Int32) (v6 : Int32) (v7 : Int32) (x0 : Hp) : Option (Unit × Hp) :=
  putr (some o) x0 5 82 v1 fun x1 =>
  puti (some o) x1 5 83 v2 fun x2 =>
  puti (some o) x2 5 84 v3 fun x3 =>
  puti (some o) x3 5 91 v4 fun x4 =>
  puti (some o) x4 5 92 v5 fun x5 =>
  puti (some o) x5 5 93 v6 fun x6 =>
  bool v7 <|
  puti (some o) x6 5 94 v7 fun x7 =>
  geti (some o) x7 5 91 fun i9 =>
  puti (some o) x7 5 85 i9 fun x10 =>
  puti (some o) x10 5 86 (0 : Int32) fun x11 =>
  puti (some o) x11 5 87 (0 : Int32) fun x12 =>
  puti (some o) x12 5 95 (0 : Int32) fun x13 =>
  puti (some o) x13 5 88 (0 : Int32) fun x14 =>
  puti (some o) x14 5 89 (0 : Int32) fun x15 =>
  obj (some o) x15 5 fun q17 => bnd (f_X2_beginMinute N z q17 x15) fun _ x16 =>
  getr (some o) x16 5 81 fun r18 =>
  obj r18 x16 7 fun q20 => bnd (f_X4_clear N z q20 x16) fun _ x19 =>
  some ((), x19)
set_option maxRecDepth 100000 in
set_option maxHeartbeats 4000000 in
theorem g_X2_tell (l : Launch) (N : Nat) (z : Nat → Nat) (o : Nat) (v1 : Option Nat) (v2 : Int32) (v3 : Int32) (v4 : Int32) (v5 : Int32) (v6 : Int32) (v7 : Int32) (x0 : Hp) : G l z m_X2_tell okT enV 0 [(0, va_rf (some o)), (1, va_rf v1), (2, .int v2), (3, .int v3), (4, .int v4), (5, .int v5), (6, .int v6), (7, .int v7)] [] x0 (f_X2_tell N z o v1 v2 v3 v4 v5 v6 v7 x0) := by
  unfold f_X2_tell
  refine G_aload_n 0 dX2_tell_0 rfl rfl ?_
  refine G_aload_n 1 dX2_tell_1 rfl rfl ?_
  refine G_putr (k := 2) K_4 (by decide) rfl rfl rfl gw_214 rfl (Or.inl rfl) nar_obj.1 nar_obj.2 dX2_tell_2 (fun x1 => ?_)
  refine G_aload_n 0 dX2_tell_5 rfl rfl ?_
  refine G_iload_n 2 dX2_tell_6 rfl rfl ?_
  refine G_puti (k := 3) K_4 (by decide) rfl rfl rfl gw_217 rfl (Or.inl rfl) nar_int.1 nar_int.2 dX2_tell_7 (fun x2 => ?_)
  refine G_aload_n 0 dX2_tell_10 rfl rfl ?_
  refine G_iload_n 3 dX2_tell_11 rfl rfl ?_
  refine G_puti (k := 4) K_4 (by decide) rfl rfl rfl gw_220 rfl (Or.inl rfl) nar_int.1 nar_int.2 dX2_tell_12 (fun x3 => ?_)
  refine G_aload_n 0 dX2_tell_15 rfl rfl ?_
  refine G_iload 4 dX2_tell_16 rfl ?_
  refine G_puti (k := 11) K_4 (by decide) rfl rfl rfl gw_237 rfl (Or.inl rfl) nar_int.1 nar_int.2 dX2_tell_18 (fun x4 => ?_)
  refine G_aload_n 0 dX2_tell_21 rfl rfl ?_
  refine G_iload 5 dX2_tell_22 rfl ?_
  refine G_puti (k := 12) K_4 (by decide) rfl rfl rfl gw_238 rfl (Or.inl rfl) nar_int.1 nar_int.2 dX2_tell_24 (fun x5 => ?_)
  refine G_aload_n 0 dX2_tell_27 rfl rfl ?_
  refine G_iload 6 dX2_tell_28 rfl ?_
  refine G_puti (k := 13) K_4 (by decide) rfl rfl rfl gw_239 rfl (Or.inl rfl) nar_int.1 nar_int.2 dX2_tell_30 (fun x6 => ?_)
  refine G_aload_n 0 dX2_tell_33 rfl rfl ?_
  refine G_iload 7 dX2_tell_34 rfl ?_
  refine G_bool (fun h8 => ?_)
  refine G_puti (k := 14) K_4 (by decide) rfl rfl rfl gw_240 rfl (Or.inl rfl) (nar_bool h8).1 (nar_bool h8).2 dX2_tell_36 (fun x7 => ?_)
  refine G_aload_n 0 dX2_tell_39 rfl rfl ?_
  refine G_aload_n 0 dX2_tell_40 rfl rfl ?_
  refine G_geti (k := 11) K_4 (by decide) rfl rfl rfl gw_237 rfl dX2_tell_41 (fun i9 => ?_)
  refine G_puti (k := 5) K_4 (by decide) rfl rfl rfl gw_223 rfl (Or.inl rfl) nar_int.1 nar_int.2 dX2_tell_44 (fun x10 => ?_)
  refine G_aload_n 0 dX2_tell_47 rfl rfl ?_
  refine G_iconst (v := (0 : Int32)) dX2_tell_48 rfl ?_
  refine G_puti (k := 6) K_4 (by decide) rfl rfl rfl gw_225 rfl (Or.inl rfl) nar_int.1 nar_int.2 dX2_tell_49 (fun x11 => ?_)
  refine G_aload_n 0 dX2_tell_52 rfl rfl ?_
  refine G_iconst (v := (0 : Int32)) dX2_tell_53 rfl ?_
  refine G_puti (k := 7) K_4 (by decide) rfl rfl rfl gw_228 rfl (Or.inl rfl) nar_int.1 nar_int.2 dX2_tell_54 (fun x12 => ?_)
  refine G_aload_n 0 dX2_tell_57 rfl rfl ?_
  refine G_iconst (v := (0 : Int32)) dX2_tell_58 rfl ?_
  refine G_puti (k := 15) K_4 (by decide) rfl rfl rfl gw_241 rfl (Or.inl rfl) nar_int.1 nar_int.2 dX2_tell_59 (fun x13 => ?_)
  refine G_aload_n 0 dX2_tell_62 rfl rfl ?_
  refine G_iconst (v := (0 : Int32)) dX2_tell_63 rfl ?_
  refine G_puti (k := 8) K_4 (by decide) rfl rfl rfl gw_231 rfl (Or.inl rfl) nar_int.1 nar_int.2 dX2_tell_64 (fun x14 => ?_)
  refine G_aload_n 0 dX2_tell_67 rfl rfl ?_
  refine G_iconst (v := (0 : Int32)) dX2_tell_68 rfl ?_
  refine G_puti (k := 9) K_4 (by decide) rfl rfl rfl gw_233 rfl (Or.inl rfl) nar_int.1 nar_int.2 dX2_tell_69 (fun x15 => ?_)
  refine G_aload_n 0 dX2_tell_72 rfl rfl ?_
  refine G_callV (av := []) [] (fun q17 => ct_X2_beginMinute l N z q17) K_4 rfl yn_X2_beginMinute (Nat.le_of_ble_eq_true rfl) (by decide) gw_761 gw_732 gw_733 gw_46 gw_734 rfl (by decide) dX2_tell_73 (fun _ x16 => ?_)
  refine G_aload_n 0 dX2_tell_76 rfl rfl ?_
  refine G_getr (k := 1) K_4 (by decide) rfl rfl rfl gw_211 rfl dX2_tell_77 (fun r18 => ?_)
  refine G_callV (av := []) [] (fun q20 => ct_X4_clear l N z q20) K_6 rfl yn_X4_clear (Nat.le_of_ble_eq_true rfl) (by decide) gw_762 gw_763 gw_764 gw_47 gw_765 rfl (by decide) dX2_tell_80 (fun _ x19 => ?_)
  exact G_ret trivial dX2_tell_83 rfl

theorem yn_X2_tell : Yn yX2_tell 7 := ⟨by decide +kernel, by decide +kernel, by decide +kernel⟩
theorem ct_X2_tell (l : Launch) (N : Nat) (z : Nat → Nat) (o : Nat) (v1 : Option Nat) (v2 : Int32) (v3 : Int32) (v4 : Int32) (v5 : Int32) (v6 : Int32) (v7 : Int32) : Ct l z yX2_tell cX2_tell 8 none 2 enV [.ref o, va_rf v1, .int v2, .int v3, .int v4, .int v5, .int v6, .int v7] (f_X2_tell N z o v1 v2 v3 v4 v5 v6 v7) :=
  Ct_v (fun x => G_lv0 (by simp only [lva_n, lva_i, lva_o, lva_r, lva_j]) (g_X2_tell l N z o v1 v2 v3 v4 v5 v6 v7 x)) (by decide +kernel) (by simp only [lgl_n, lgl_i, lgl_o, lgl_r, lgl_j]; decide)

theorem dX2_copyFrom_0 : decode cX2_copyFrom 0 = .ok (.aload_n 0, 1) := by decide +kernel
theorem dX2_copyFrom_1 : decode cX2_copyFrom 1 = .ok (.aload_n 2, 1) := by decide +kernel
theorem dX2_copyFrom_2 : decode cX2_copyFrom 2 = .ok (.aload_n 1, 1) := by decide +kernel
theorem dX2_copyFrom_3 : decode cX2_copyFrom 3 = .ok (.getfield 26, 3) := by decide +kernel
theorem dX2_copyFrom_6 : decode cX2_copyFrom 6 = .ok (.aload_n 1, 1) := by decide +kernel
theorem dX2_copyFrom_7 : decode cX2_copyFrom 7 = .ok (.getfield 29, 3) := by decide +kernel
theorem dX2_copyFrom_10 : decode cX2_copyFrom 10 = .ok (.aload_n 1, 1) := by decide +kernel
theorem dX2_copyFrom_11 : decode cX2_copyFrom 11 = .ok (.getfield 32, 3) := by decide +kernel
theorem dX2_copyFrom_14 : decode cX2_copyFrom 14 = .ok (.aload_n 1, 1) := by decide +kernel
theorem dX2_copyFrom_15 : decode cX2_copyFrom 15 = .ok (.getfield 35, 3) := by decide +kernel
theorem dX2_copyFrom_18 : decode cX2_copyFrom 18 = .ok (.aload_n 1, 1) := by decide +kernel
theorem dX2_copyFrom_19 : decode cX2_copyFrom 19 = .ok (.getfield 38, 3) := by decide +kernel
theorem dX2_copyFrom_22 : decode cX2_copyFrom 22 = .ok (.aload_n 1, 1) := by decide +kernel
theorem dX2_copyFrom_23 : decode cX2_copyFrom 23 = .ok (.getfield 41, 3) := by decide +kernel
theorem dX2_copyFrom_26 : decode cX2_copyFrom 26 = .ok (.invokevirtual 69, 3) := by decide +kernel
theorem dX2_copyFrom_29 : decode cX2_copyFrom 29 = .ok (.aload_n 0, 1) := by decide +kernel
theorem dX2_copyFrom_30 : decode cX2_copyFrom 30 = .ok (.aload_n 1, 1) := by decide +kernel
theorem dX2_copyFrom_31 : decode cX2_copyFrom 31 = .ok (.getfield 45, 3) := by decide +kernel
theorem dX2_copyFrom_34 : decode cX2_copyFrom 34 = .ok (.putfield 45, 3) := by decide +kernel
theorem dX2_copyFrom_37 : decode cX2_copyFrom 37 = .ok (.aload_n 0, 1) := by decide +kernel
theorem dX2_copyFrom_38 : decode cX2_copyFrom 38 = .ok (.aload_n 1, 1) := by decide +kernel
theorem dX2_copyFrom_39 : decode cX2_copyFrom 39 = .ok (.getfield 48, 3) := by decide +kernel
theorem dX2_copyFrom_42 : decode cX2_copyFrom 42 = .ok (.putfield 48, 3) := by decide +kernel
theorem dX2_copyFrom_45 : decode cX2_copyFrom 45 = .ok (.aload_n 0, 1) := by decide +kernel
theorem dX2_copyFrom_46 : decode cX2_copyFrom 46 = .ok (.aload_n 1, 1) := by decide +kernel
theorem dX2_copyFrom_47 : decode cX2_copyFrom 47 = .ok (.getfield 51, 3) := by decide +kernel
theorem dX2_copyFrom_50 : decode cX2_copyFrom 50 = .ok (.putfield 51, 3) := by decide +kernel
theorem dX2_copyFrom_53 : decode cX2_copyFrom 53 = .ok (.aload_n 0, 1) := by decide +kernel
theorem dX2_copyFrom_54 : decode cX2_copyFrom 54 = .ok (.aload_n 1, 1) := by decide +kernel
theorem dX2_copyFrom_55 : decode cX2_copyFrom 55 = .ok (.getfield 54, 3) := by decide +kernel
theorem dX2_copyFrom_58 : decode cX2_copyFrom 58 = .ok (.putfield 54, 3) := by decide +kernel
theorem dX2_copyFrom_61 : decode cX2_copyFrom 61 = .ok (.aload_n 0, 1) := by decide +kernel
theorem dX2_copyFrom_62 : decode cX2_copyFrom 62 = .ok (.aload_n 1, 1) := by decide +kernel
theorem dX2_copyFrom_63 : decode cX2_copyFrom 63 = .ok (.getfield 57, 3) := by decide +kernel
theorem dX2_copyFrom_66 : decode cX2_copyFrom 66 = .ok (.putfield 57, 3) := by decide +kernel
theorem dX2_copyFrom_69 : decode cX2_copyFrom 69 = .ok (.aload_n 0, 1) := by decide +kernel
theorem dX2_copyFrom_70 : decode cX2_copyFrom 70 = .ok (.aload_n 1, 1) := by decide +kernel
theorem dX2_copyFrom_71 : decode cX2_copyFrom 71 = .ok (.getfield 60, 3) := by decide +kernel
theorem dX2_copyFrom_74 : decode cX2_copyFrom 74 = .ok (.putfield 60, 3) := by decide +kernel
theorem dX2_copyFrom_77 : decode cX2_copyFrom 77 = .ok (.aload_n 0, 1) := by decide +kernel
theorem dX2_copyFrom_78 : decode cX2_copyFrom 78 = .ok (.getfield 12, 3) := by decide +kernel
theorem dX2_copyFrom_81 : decode cX2_copyFrom 81 = .ok (.aload_n 1, 1) := by decide +kernel
theorem dX2_copyFrom_82 : decode cX2_copyFrom 82 = .ok (.getfield 12, 3) := by decide +kernel
theorem dX2_copyFrom_85 : decode cX2_copyFrom 85 = .ok (.invokevirtual 73, 3) := by decide +kernel
theorem dX2_copyFrom_88 : decode cX2_copyFrom 88 = .ok (.return_, 1) := by decide +kernel
abbrev m_X2_copyFrom : Mt := (cX2_copyFrom, RX2, "copyFrom", 3, .return_, 4)
def f_X2_copyFrom (N : Nat) (z : Nat → Nat) (o : Nat) (v1 : Option Nat) (v2 : Option Nat) (x0 : Hp) : Option (Unit × Hp) :=
  geti v1 x0 5 83 fun i1 =>
  geti v1 x0 5 84 fun i2 =>
  geti v1 x0 5 91 fun i3 =>
  geti v1 x0 5 92 fun i4 =>
  geti v1 x0 5 93 fun i5 =>
  geti v1 x0 5 94 fun i6 =>
  obj (some o) x0 5 fun q8 => bnd (f_X2_tell N z q8 v2 i1 i2 i3 i4 i5 i6 x0) fun _ x7 =>
  geti v1 x7 5 85 fun i9 =>
  puti (some o) x7 5 85 i9 fun x10 =>
  geti v1 x10 5 86 fun i11 =>
  puti (some o) x10 5 86 i11 fun x12 =>
  geti v1 x12 5 87 fun i13 =>
  puti (some o) x12 5 87 i13 fun x14 =>
  geti v1 x14 5 95 fun i15 =>
  puti (some o) x14 5 95 i15 fun x16 =>
  geti v1 x16 5 88 fun i17 =>
  puti (some o) x16 5 88 i17 fun x18 =>
  geti v1 x18 5 89 fun i19 =>
  puti (some o) x18 5 89 i19 fun x20 =>
  getr (some o) x20 5 81 fun r21 =>
  getr v1 x20 5 81 fun r22 =>
  obj r21 x20 7 fun q24 => bnd (f_X4_copyFrom N z q24 r22 x20) fun _ x23 =>
  some ((), x23)
set_option maxRecDepth 100000 in
set_option maxHeartbeats 4000000 in
theorem g_X2_copyFrom (l : Launch) (N : Nat) (z : Nat → Nat) (o : Nat) (v1 : Option Nat) (v2 : Option Nat) (x0 : Hp) : G l z m_X2_copyFrom okT enV 0 [(0, va_rf (some o)), (1, va_rf v1), (2, va_rf v2)] [] x0 (f_X2_copyFrom N z o v1 v2 x0) := by
  unfold f_X2_copyFrom
  refine G_aload_n 0 dX2_copyFrom_0 rfl rfl ?_
  refine G_aload_n 2 dX2_copyFrom_1 rfl rfl ?_
  refine G_aload_n 1 dX2_copyFrom_2 rfl rfl ?_
  refine G_geti (k := 3) K_4 (by decide) rfl rfl rfl gw_217 rfl dX2_copyFrom_3 (fun i1 => ?_)
  refine G_aload_n 1 dX2_copyFrom_6 rfl rfl ?_
  refine G_geti (k := 4) K_4 (by decide) rfl rfl rfl gw_220 rfl dX2_copyFrom_7 (fun i2 => ?_)
  refine G_aload_n 1 dX2_copyFrom_10 rfl rfl ?_
  refine G_geti (k := 11) K_4 (by decide) rfl rfl rfl gw_237 rfl dX2_copyFrom_11 (fun i3 => ?_)
  refine G_aload_n 1 dX2_copyFrom_14 rfl rfl ?_
  refine G_geti (k := 12) K_4 (by decide) rfl rfl rfl gw_238 rfl dX2_copyFrom_15 (fun i4 => ?_)
  refine G_aload_n 1 dX2_copyFrom_18 rfl rfl ?_
  refine G_geti (k := 13) K_4 (by decide) rfl rfl rfl gw_239 rfl dX2_copyFrom_19 (fun i5 => ?_)
  refine G_aload_n 1 dX2_copyFrom_22 rfl rfl ?_
  refine G_geti (k := 14) K_4 (by decide) rfl rfl rfl gw_240 rfl dX2_copyFrom_23 (fun i6 => ?_)
  refine G_callV (av := [va_rf v2, .int i1, .int i2, .int i3, .int i4, .int i5, .int i6]) [] (fun q8 => ct_X2_tell l N z q8 v2 i1 i2 i3 i4 i5 i6) K_4 rfl yn_X2_tell (Nat.le_of_ble_eq_true rfl) (by decide) gw_757 gw_758 gw_759 gw_46 gw_760 rfl (by decide) dX2_copyFrom_26 (fun _ x7 => ?_)
  refine G_aload_n 0 dX2_copyFrom_29 rfl rfl ?_
  refine G_aload_n 1 dX2_copyFrom_30 rfl rfl ?_
  refine G_geti (k := 5) K_4 (by decide) rfl rfl rfl gw_223 rfl dX2_copyFrom_31 (fun i9 => ?_)
  refine G_puti (k := 5) K_4 (by decide) rfl rfl rfl gw_223 rfl (Or.inl rfl) nar_int.1 nar_int.2 dX2_copyFrom_34 (fun x10 => ?_)
  refine G_aload_n 0 dX2_copyFrom_37 rfl rfl ?_
  refine G_aload_n 1 dX2_copyFrom_38 rfl rfl ?_
  refine G_geti (k := 6) K_4 (by decide) rfl rfl rfl gw_225 rfl dX2_copyFrom_39 (fun i11 => ?_)
  refine G_puti (k := 6) K_4 (by decide) rfl rfl rfl gw_225 rfl (Or.inl rfl) nar_int.1 nar_int.2 dX2_copyFrom_42 (fun x12 => ?_)
  refine G_aload_n 0 dX2_copyFrom_45 rfl rfl ?_
  refine G_aload_n 1 dX2_copyFrom_46 rfl rfl ?_
  refine G_geti (k := 7) K_4 (by decide) rfl rfl rfl gw_228 rfl dX2_copyFrom_47 (fun i13 => ?_)
  refine G_puti (k := 7) K_4 (by decide) rfl rfl rfl gw_228 rfl (Or.inl rfl) nar_int.1 nar_int.2 dX2_copyFrom_50 (fun x14 => ?_)
  refine G_aload_n 0 dX2_copyFrom_53 rfl rfl ?_
  refine G_aload_n 1 dX2_copyFrom_54 rfl rfl ?_
  refine G_geti (k := 15) K_4 (by decide) rfl rfl rfl gw_241 rfl dX2_copyFrom_55 (fun i15 => ?_)
  refine G_puti (k := 15) K_4 (by decide) rfl rfl rfl gw_241 rfl (Or.inl rfl) nar_int.1 nar_int.2 dX2_copyFrom_58 (fun x16 => ?_)
  refine G_aload_n 0 dX2_copyFrom_61 rfl rfl ?_
  refine G_aload_n 1 dX2_copyFrom_62 rfl rfl ?_
  refine G_geti (k := 8) K_4 (by decide) rfl rfl rfl gw_231 rfl dX2_copyFrom_63 (fun i17 => ?_)
  refine G_puti (k := 8) K_4 (by decide) rfl rfl rfl gw_231 rfl (Or.inl rfl) nar_int.1 nar_int.2 dX2_copyFrom_66 (fun x18 => ?_)
  refine G_aload_n 0 dX2_copyFrom_69 rfl rfl ?_
  refine G_aload_n 1 dX2_copyFrom_70 rfl rfl ?_
  refine G_geti (k := 9) K_4 (by decide) rfl rfl rfl gw_233 rfl dX2_copyFrom_71 (fun i19 => ?_)
  refine G_puti (k := 9) K_4 (by decide) rfl rfl rfl gw_233 rfl (Or.inl rfl) nar_int.1 nar_int.2 dX2_copyFrom_74 (fun x20 => ?_)
  refine G_aload_n 0 dX2_copyFrom_77 rfl rfl ?_
  refine G_getr (k := 1) K_4 (by decide) rfl rfl rfl gw_211 rfl dX2_copyFrom_78 (fun r21 => ?_)
  refine G_aload_n 1 dX2_copyFrom_81 rfl rfl ?_
  refine G_getr (k := 1) K_4 (by decide) rfl rfl rfl gw_211 rfl dX2_copyFrom_82 (fun r22 => ?_)
  refine G_callV (av := [va_rf r22]) [] (fun q24 => ct_X4_copyFrom l N z q24 r22) K_6 rfl yn_X4_copyFrom (Nat.le_of_ble_eq_true rfl) (by decide) gw_766 gw_767 gw_768 gw_47 gw_769 rfl (by decide) dX2_copyFrom_85 (fun _ x23 => ?_)
  exact G_ret trivial dX2_copyFrom_88 rfl

theorem yn_X2_copyFrom : Yn yX2_copyFrom 2 := ⟨by decide +kernel, by decide +kernel, by decide +kernel⟩
theorem ct_X2_copyFrom (l : Launch) (N : Nat) (z : Nat → Nat) (o : Nat) (v1 : Option Nat) (v2 : Option Nat) : Ct l z yX2_copyFrom cX2_copyFrom 3 none 4 enV [.ref o, va_rf v1, va_rf v2] (f_X2_copyFrom N z o v1 v2) :=
  Ct_v (fun x => G_lv0 (by simp only [lva_n, lva_i, lva_o, lva_r, lva_j]) (g_X2_copyFrom l N z o v1 v2 x)) (by decide +kernel) (by simp only [lgl_n, lgl_i, lgl_o, lgl_r, lgl_j]; decide)

theorem dX2_isFull_0 : decode cX2_isFull 0 = .ok (.aload_n 0, 1) := by decide +kernel
theorem dX2_isFull_1 : decode cX2_isFull 1 = .ok (.getfield 12, 3) := by decide +kernel
theorem dX2_isFull_4 : decode cX2_isFull 4 = .ok (.getfield 86, 3) := by decide +kernel
theorem dX2_isFull_7 : decode cX2_isFull 7 = .ok (.aload_n 0, 1) := by decide +kernel
theorem dX2_isFull_8 : decode cX2_isFull 8 = .ok (.getfield 38, 3) := by decide +kernel
theorem dX2_isFull_11 : decode cX2_isFull 11 = .ok (.if_icmp .lt 7, 3) := by decide +kernel
theorem dX2_isFull_14 : decode cX2_isFull 14 = .ok (.iconst 1, 1) := by decide +kernel
theorem dX2_isFull_15 : decode cX2_isFull 15 = .ok (.goto 4, 3) := by decide +kernel
theorem dX2_isFull_18 : decode cX2_isFull 18 = .ok (.iconst 0, 1) := by decide +kernel
theorem dX2_isFull_19 : decode cX2_isFull 19 = .ok (.ireturn, 1) := by decide +kernel
abbrev m_X2_isFull : Mt := (cX2_isFull, RX2, "isFull", 1, .ireturn, 1)
def f_X2_isFull (N : Nat) (z : Nat → Nat) (o : Nat) (x0 : Hp) : Option (Int32 × Hp) :=
  getr (some o) x0 5 81 fun r1 =>
  geti r1 x0 7 120 fun i2 =>
  geti (some o) x0 5 93 fun i3 =>
  if i2 < i3 then (some ((0 : Int32), x0)) else (some ((1 : Int32), x0))
set_option maxRecDepth 100000 in
set_option maxHeartbeats 4000000 in
theorem g_X2_isFull (l : Launch) (N : Nat) (z : Nat → Nat) (o : Nat) (x0 : Hp) : G l z m_X2_isFull okZ enI 0 [(0, va_rf (some o))] [] x0 (f_X2_isFull N z o x0) := by
  unfold f_X2_isFull
  refine G_aload_n 0 dX2_isFull_0 rfl rfl ?_
  refine G_getr (k := 1) K_4 (by decide) rfl rfl rfl gw_211 rfl dX2_isFull_1 (fun r1 => ?_)
  refine G_geti (k := 0) K_6 (by decide) rfl rfl rfl gw_195 rfl dX2_isFull_4 (fun i2 => ?_)
  refine G_aload_n 0 dX2_isFull_7 rfl rfl ?_
  refine G_geti (k := 13) K_4 (by decide) rfl rfl rfl gw_239 rfl dX2_isFull_8 (fun i3 => ?_)
  refine G_icmp_lt (tgt := 18) dX2_isFull_11 (by decide) (fun _ => ?_) (fun _ => ?_)
  · refine G_iconst (v := (0 : Int32)) dX2_isFull_18 rfl ?_
    exact G_ret (Or.inl rfl) dX2_isFull_19 rfl
  · refine G_iconst (v := (1 : Int32)) dX2_isFull_14 rfl ?_
    refine G_goto (tgt := 19) dX2_isFull_15 (by decide) ?_
    exact G_ret (Or.inr rfl) dX2_isFull_19 rfl

theorem yn_X2_isFull : Yn yX2_isFull 0 := ⟨by decide +kernel, by decide +kernel, by decide +kernel⟩
theorem ct_X2_isFull (l : Launch) (N : Nat) (z : Nat → Nat) (o : Nat) : Ct l z yX2_isFull cX2_isFull 1 (some .boolean) 1 enI [.ref o] (f_X2_isFull N z o) :=
  Ct_z (fun x => G_lv0 (by simp only [lva_n, lva_i, lva_o, lva_r, lva_j]) (g_X2_isFull l N z o x)) (by decide +kernel) (by simp only [lgl_n, lgl_i, lgl_o, lgl_r, lgl_j]; decide)

theorem dX2_takePail_0 : decode cX2_takePail 0 = .ok (.aload_n 0, 1) := by decide +kernel
theorem dX2_takePail_1 : decode cX2_takePail 1 = .ok (.invokevirtual 89, 3) := by decide +kernel
theorem dX2_takePail_4 : decode cX2_takePail 4 = .ok (.ifCond .eq 28, 3) := by decide +kernel
theorem dX2_takePail_7 : decode cX2_takePail 7 = .ok (.aload_n 0, 1) := by decide +kernel
theorem dX2_takePail_8 : decode cX2_takePail 8 = .ok (.dup, 1) := by decide +kernel
theorem dX2_takePail_9 : decode cX2_takePail 9 = .ok (.getfield 51, 3) := by decide +kernel
theorem dX2_takePail_12 : decode cX2_takePail 12 = .ok (.iconst 1, 1) := by decide +kernel
theorem dX2_takePail_13 : decode cX2_takePail 13 = .ok (.iadd, 1) := by decide +kernel
theorem dX2_takePail_14 : decode cX2_takePail 14 = .ok (.putfield 51, 3) := by decide +kernel
theorem dX2_takePail_17 : decode cX2_takePail 17 = .ok (.aload_n 0, 1) := by decide +kernel
theorem dX2_takePail_18 : decode cX2_takePail 18 = .ok (.getfield 41, 3) := by decide +kernel
theorem dX2_takePail_21 : decode cX2_takePail 21 = .ok (.ifCond .ne 4, 3) := by decide +kernel
theorem dX2_takePail_24 : decode cX2_takePail 24 = .ok (.return_, 1) := by decide +kernel
theorem dX2_takePail_25 : decode cX2_takePail 25 = .ok (.aload_n 0, 1) := by decide +kernel
theorem dX2_takePail_26 : decode cX2_takePail 26 = .ok (.getfield 12, 3) := by decide +kernel
theorem dX2_takePail_29 : decode cX2_takePail 29 = .ok (.invokevirtual 93, 3) := by decide +kernel
theorem dX2_takePail_32 : decode cX2_takePail 32 = .ok (.aload_n 0, 1) := by decide +kernel
theorem dX2_takePail_33 : decode cX2_takePail 33 = .ok (.getfield 12, 3) := by decide +kernel
theorem dX2_takePail_36 : decode cX2_takePail 36 = .ok (.iload_n 1, 1) := by decide +kernel
theorem dX2_takePail_37 : decode cX2_takePail 37 = .ok (.invokevirtual 96, 3) := by decide +kernel
theorem dX2_takePail_40 : decode cX2_takePail 40 = .ok (.return_, 1) := by decide +kernel
abbrev m_X2_takePail : Mt := (cX2_takePail, RX2, "takePail", 2, .return_, 3)
def f_X2_takePail_b32 (N : Nat) (z : Nat → Nat) (o : Nat) (v1 : Int32) (x0 : Hp) : Option (Unit × Hp) :=
  getr (some o) x0 5 81 fun r1 =>
  obj r1 x0 7 fun q3 => bnd (f_X4_add N z q3 v1 x0) fun _ x2 =>
  some ((), x2)
def f_X2_takePail (N : Nat) (z : Nat → Nat) (o : Nat) (v1 : Int32) (x0 : Hp) : Option (Unit × Hp) :=
  obj (some o) x0 5 fun q6 => bnd (f_X2_isFull N z q6 x0) fun i5 x4 =>
  if i5 = 0 then (f_X2_takePail_b32 N z o v1 x4) else (geti (some o) x4 5 87 fun i7 =>
  puti (some o) x4 5 87 (i7 + (1 : Int32)) fun x8 =>
  geti (some o) x8 5 94 fun i9 =>
  if i9 = 0 then (some ((), x8)) else (getr (some o) x8 5 81 fun r10 =>
  obj r10 x8 7 fun q12 => bnd (f_X4_dropFront N z q12 x8) fun _ x11 =>
  f_X2_takePail_b32 N z o v1 x11))
set_option maxRecDepth 100000 in
set_option maxHeartbeats 4000000 in
theorem g_X2_takePail_b32 (l : Launch) (N : Nat) (z : Nat → Nat) (o : Nat) (v1 : Int32) (x0 : Hp) : G l z m_X2_takePail okT enV 32 [(0, va_rf (some o)), (1, .int v1)] [] x0 (f_X2_takePail_b32 N z o v1 x0) := by
  unfold f_X2_takePail_b32
  refine G_aload_n 0 dX2_takePail_32 rfl rfl ?_
  refine G_getr (k := 1) K_4 (by decide) rfl rfl rfl gw_211 rfl dX2_takePail_33 (fun r1 => ?_)
  refine G_iload_n 1 dX2_takePail_36 rfl rfl ?_
  refine G_callV (av := [.int v1]) [] (fun q3 => ct_X4_add l N z q3 v1) K_6 rfl yn_X4_add (Nat.le_of_ble_eq_true rfl) (by decide) gw_696 gw_697 gw_698 gw_47 gw_699 rfl (by decide) dX2_takePail_37 (fun _ x2 => ?_)
  exact G_ret trivial dX2_takePail_40 rfl

set_option maxRecDepth 100000 in
set_option maxHeartbeats 4000000 in
theorem g_X2_takePail (l : Launch) (N : Nat) (z : Nat → Nat) (o : Nat) (v1 : Int32) (x0 : Hp) : G l z m_X2_takePail okT enV 0 [(0, va_rf (some o)), (1, .int v1)] [] x0 (f_X2_takePail N z o v1 x0) := by
  unfold f_X2_takePail
  refine G_aload_n 0 dX2_takePail_0 rfl rfl ?_
  refine G_callV (av := []) [] (fun q6 => ct_X2_isFull l N z q6) K_4 rfl yn_X2_isFull (Nat.le_of_ble_eq_true rfl) (by decide) gw_662 gw_663 gw_664 gw_46 gw_665 rfl (by decide) dX2_takePail_1 (fun i5 x4 => ?_)
  refine G_if_eq (tgt := 32) dX2_takePail_4 (by decide) (fun _ => ?_) (fun _ => ?_)
  · refine G_lv [0, 1] rfl ?_
    exact g_X2_takePail_b32 l N z o v1 x4
  · refine G_aload_n 0 dX2_takePail_7 rfl rfl ?_
    refine G_dup dX2_takePail_8 (rf_cat _) ?_
    refine G_geti (k := 7) K_4 (by decide) rfl rfl rfl gw_228 rfl dX2_takePail_9 (fun i7 => ?_)
    refine G_iconst (v := (1 : Int32)) dX2_takePail_12 rfl ?_
    refine G_iadd dX2_takePail_13 ?_
    refine G_puti (k := 7) K_4 (by decide) rfl rfl rfl gw_228 rfl (Or.inl rfl) nar_int.1 nar_int.2 dX2_takePail_14 (fun x8 => ?_)
    refine G_aload_n 0 dX2_takePail_17 rfl rfl ?_
    refine G_geti (k := 14) K_4 (by decide) rfl rfl rfl gw_240 rfl dX2_takePail_18 (fun i9 => ?_)
    refine G_if_ne (tgt := 25) dX2_takePail_21 (by decide) (fun _ => ?_) (fun _ => ?_)
    · exact G_ret trivial dX2_takePail_24 rfl
    · refine G_aload_n 0 dX2_takePail_25 rfl rfl ?_
      refine G_getr (k := 1) K_4 (by decide) rfl rfl rfl gw_211 rfl dX2_takePail_26 (fun r10 => ?_)
      refine G_callV (av := []) [] (fun q12 => ct_X4_dropFront l N z q12) K_6 rfl yn_X4_dropFront (Nat.le_of_ble_eq_true rfl) (by decide) gw_692 gw_693 gw_694 gw_47 gw_695 rfl (by decide) dX2_takePail_29 (fun _ x11 => ?_)
      refine G_lv [0, 1] rfl ?_
      exact g_X2_takePail_b32 l N z o v1 x11

theorem yn_X2_takePail : Yn yX2_takePail 1 := ⟨by decide +kernel, by decide +kernel, by decide +kernel⟩
theorem ct_X2_takePail (l : Launch) (N : Nat) (z : Nat → Nat) (o : Nat) (v1 : Int32) : Ct l z yX2_takePail cX2_takePail 2 none 3 enV [.ref o, .int v1] (f_X2_takePail N z o v1) :=
  Ct_v (fun x => G_lv0 (by simp only [lva_n, lva_i, lva_o, lva_r, lva_j]) (g_X2_takePail l N z o v1 x)) (by decide +kernel) (by simp only [lgl_n, lgl_i, lgl_o, lgl_r, lgl_j]; decide)

theorem dX2_getTokens_0 : decode cX2_getTokens 0 = .ok (.aload_n 0, 1) := by decide +kernel
theorem dX2_getTokens_1 : decode cX2_getTokens 1 = .ok (.aload_n 0, 1) := by decide +kernel
theorem dX2_getTokens_2 : decode cX2_getTokens 2 = .ok (.getfield 32, 3) := by decide +kernel
theorem dX2_getTokens_5 : decode cX2_getTokens 5 = .ok (.aload_n 0, 1) := by decide +kernel
theorem dX2_getTokens_6 : decode cX2_getTokens 6 = .ok (.getfield 45, 3) := by decide +kernel
theorem dX2_getTokens_9 : decode cX2_getTokens 9 = .ok (.iload_n 1, 1) := by decide +kernel
theorem dX2_getTokens_10 : decode cX2_getTokens 10 = .ok (.iadd, 1) := by decide +kernel
theorem dX2_getTokens_11 : decode cX2_getTokens 11 = .ok (.invokestatic 100, 3) := by decide +kernel
theorem dX2_getTokens_14 : decode cX2_getTokens 14 = .ok (.putfield 45, 3) := by decide +kernel
theorem dX2_getTokens_17 : decode cX2_getTokens 17 = .ok (.return_, 1) := by decide +kernel
abbrev m_X2_getTokens : Mt := (cX2_getTokens, RX2, "getTokens", 2, .return_, 2)
def f_X2_getTokens (N : Nat) (z : Nat → Nat) (o : Nat) (v1 : Int32) (x0 : Hp) : Option (Unit × Hp) :=
  geti (some o) x0 5 91 fun i1 =>
  geti (some o) x0 5 85 fun i2 =>
  puti (some o) x0 5 85 (if (i2 + v1) < i1 then (i2 + v1) else i1) fun x3 =>
  some ((), x3)
set_option maxRecDepth 100000 in
set_option maxHeartbeats 4000000 in
theorem g_X2_getTokens (l : Launch) (N : Nat) (z : Nat → Nat) (o : Nat) (v1 : Int32) (x0 : Hp) : G l z m_X2_getTokens okT enV 0 [(0, va_rf (some o)), (1, .int v1)] [] x0 (f_X2_getTokens N z o v1 x0) := by
  unfold f_X2_getTokens
  refine G_aload_n 0 dX2_getTokens_0 rfl rfl ?_
  refine G_aload_n 0 dX2_getTokens_1 rfl rfl ?_
  refine G_geti (k := 11) K_4 (by decide) rfl rfl rfl gw_237 rfl dX2_getTokens_2 (fun i1 => ?_)
  refine G_aload_n 0 dX2_getTokens_5 rfl rfl ?_
  refine G_geti (k := 5) K_4 (by decide) rfl rfl rfl gw_223 rfl dX2_getTokens_6 (fun i2 => ?_)
  refine G_iload_n 1 dX2_getTokens_9 rfl rfl ?_
  refine G_iadd dX2_getTokens_10 ?_
  refine G_mmin (st := [va_rf (some o)]) gw_704 gw_670 gw_59 gw_671 (by decide) (by simp only [hw_n, hw_i, hw_r, hw_j, hw_d]; decide) dX2_getTokens_11 ?_
  refine G_puti (k := 5) K_4 (by decide) rfl rfl rfl gw_223 rfl (Or.inl rfl) nar_int.1 nar_int.2 dX2_getTokens_14 (fun x3 => ?_)
  exact G_ret trivial dX2_getTokens_17 rfl

theorem yn_X2_getTokens : Yn yX2_getTokens 1 := ⟨by decide +kernel, by decide +kernel, by decide +kernel⟩
theorem ct_X2_getTokens (l : Launch) (N : Nat) (z : Nat → Nat) (o : Nat) (v1 : Int32) : Ct l z yX2_getTokens cX2_getTokens 2 none 2 enV [.ref o, .int v1] (f_X2_getTokens N z o v1) :=
  Ct_v (fun x => G_lv0 (by simp only [lva_n, lva_i, lva_o, lva_r, lva_j]) (g_X2_getTokens l N z o v1 x)) (by decide +kernel) (by simp only [lgl_n, lgl_i, lgl_o, lgl_r, lgl_j]; decide)

theorem dX2_isOrIsUnder_0 : decode cX2_isOrIsUnder 0 = .ok (.aload_n 0, 1) := by decide +kernel
theorem dX2_isOrIsUnder_1 : decode cX2_isOrIsUnder 1 = .ok (.astore_n 2, 1) := by decide +kernel
theorem dX2_isOrIsUnder_2 : decode cX2_isOrIsUnder 2 = .ok (.aload_n 2, 1) := by decide +kernel
theorem dX2_isOrIsUnder_3 : decode cX2_isOrIsUnder 3 = .ok (.ifnull 18, 3) := by decide +kernel
theorem dX2_isOrIsUnder_6 : decode cX2_isOrIsUnder 6 = .ok (.aload_n 2, 1) := by decide +kernel
theorem dX2_isOrIsUnder_7 : decode cX2_isOrIsUnder 7 = .ok (.aload_n 1, 1) := by decide +kernel
theorem dX2_isOrIsUnder_8 : decode cX2_isOrIsUnder 8 = .ok (.if_acmp .ne 5, 3) := by decide +kernel
theorem dX2_isOrIsUnder_11 : decode cX2_isOrIsUnder 11 = .ok (.iconst 1, 1) := by decide +kernel
theorem dX2_isOrIsUnder_12 : decode cX2_isOrIsUnder 12 = .ok (.ireturn, 1) := by decide +kernel
theorem dX2_isOrIsUnder_13 : decode cX2_isOrIsUnder 13 = .ok (.aload_n 2, 1) := by decide +kernel
theorem dX2_isOrIsUnder_14 : decode cX2_isOrIsUnder 14 = .ok (.getfield 22, 3) := by decide +kernel
theorem dX2_isOrIsUnder_17 : decode cX2_isOrIsUnder 17 = .ok (.astore_n 2, 1) := by decide +kernel
theorem dX2_isOrIsUnder_18 : decode cX2_isOrIsUnder 18 = .ok (.goto (-16), 3) := by decide +kernel
theorem dX2_isOrIsUnder_21 : decode cX2_isOrIsUnder 21 = .ok (.iconst 0, 1) := by decide +kernel
theorem dX2_isOrIsUnder_22 : decode cX2_isOrIsUnder 22 = .ok (.ireturn, 1) := by decide +kernel
abbrev m_X2_isOrIsUnder : Mt := (cX2_isOrIsUnder, RX2, "isOrIsUnder", 3, .ireturn, 1)
def f_X2_isOrIsUnder_b2 (N : Nat) (z : Nat → Nat) : Nat → Option Nat → Option Nat → Hp → Option (Int32 × Hp)
  | 0, _, _, _ => none
  | n + 1, v1, v2, x0 => if v2 = none then (some ((0 : Int32), x0)) else (if v2 = v1 then (some ((1 : Int32), x0)) else (getr v2 x0 5 82 fun r1 =>
  f_X2_isOrIsUnder_b2 N z n v1 r1 x0))
def f_X2_isOrIsUnder (N : Nat) (z : Nat → Nat) (o : Nat) (v1 : Option Nat) (x0 : Hp) : Option (Int32 × Hp) :=
  f_X2_isOrIsUnder_b2 N z N v1 (some o) x0
set_option maxRecDepth 100000 in
set_option maxHeartbeats 4000000 in
theorem g_X2_isOrIsUnder_b2 (l : Launch) (N : Nat) (z : Nat → Nat) : ∀ (n : Nat) (v1 : Option Nat) (v2 : Option Nat) (x0 : Hp), G l z m_X2_isOrIsUnder okZ enI 2 [(1, va_rf v1), (2, va_rf v2)] [] x0 (f_X2_isOrIsUnder_b2 N z n v1 v2 x0) := by
  intro n
  induction n with
  | zero => intro v1 v2 x0; exact G_none
  | succ n ih =>
  intro v1 v2 x0
  rw [f_X2_isOrIsUnder_b2]
  refine G_aload_n 1 dX2_isOrIsUnder_2 rfl rfl ?_
  refine G_ifnull (tgt := 21) dX2_isOrIsUnder_3 (by decide) (fun _ => ?_) (fun _ => ?_)
  · refine G_iconst (v := (0 : Int32)) dX2_isOrIsUnder_21 rfl ?_
    exact G_ret (Or.inl rfl) dX2_isOrIsUnder_22 rfl
  · refine G_aload_n 1 dX2_isOrIsUnder_6 rfl rfl ?_
    refine G_aload_n 0 dX2_isOrIsUnder_7 rfl rfl ?_
    refine G_acmp_ne (tgt := 13) dX2_isOrIsUnder_8 (by decide) (fun _ => ?_) (fun _ => ?_)
    · refine G_iconst (v := (1 : Int32)) dX2_isOrIsUnder_11 rfl ?_
      exact G_ret (Or.inr rfl) dX2_isOrIsUnder_12 rfl
    · refine G_aload_n 1 dX2_isOrIsUnder_13 rfl rfl ?_
      refine G_getr (k := 2) K_4 (by decide) rfl rfl rfl gw_214 rfl dX2_isOrIsUnder_14 (fun r1 => ?_)
      refine G_astore_n (i := 2) (l2 := [(1, va_rf v1)]) [0] dX2_isOrIsUnder_17 rfl (Nat.le_of_ble_eq_true rfl) rfl (sok_b (by decide) (rf_cat _) trivial) ?_
      refine G_goto (tgt := 2) dX2_isOrIsUnder_18 (by decide) ?_
      refine G_lv [1, 0] rfl ?_
      exact ih v1 r1 x0

set_option maxRecDepth 100000 in
set_option maxHeartbeats 4000000 in
theorem g_X2_isOrIsUnder (l : Launch) (N : Nat) (z : Nat → Nat) (o : Nat) (v1 : Option Nat) (x0 : Hp) : G l z m_X2_isOrIsUnder okZ enI 0 [(0, va_rf (some o)), (1, va_rf v1)] [] x0 (f_X2_isOrIsUnder N z o v1 x0) := by
  unfold f_X2_isOrIsUnder
  refine G_aload_n 0 dX2_isOrIsUnder_0 rfl rfl ?_
  refine G_astore_n (i := 2) (l2 := [(0, va_rf (some o)), (1, va_rf v1)]) [0, 1] dX2_isOrIsUnder_1 rfl (Nat.le_of_ble_eq_true rfl) rfl (sok_a (by decide) (by decide) (sok_b (by decide) (rf_cat _) trivial)) ?_
  refine G_lv [2, 0] rfl ?_
  exact g_X2_isOrIsUnder_b2 l N z N v1 (some o) x0

theorem yn_X2_isOrIsUnder : Yn yX2_isOrIsUnder 1 := ⟨by decide +kernel, by decide +kernel, by decide +kernel⟩
theorem ct_X2_isOrIsUnder (l : Launch) (N : Nat) (z : Nat → Nat) (o : Nat) (v1 : Option Nat) : Ct l z yX2_isOrIsUnder cX2_isOrIsUnder 3 (some .boolean) 1 enI [.ref o, va_rf v1] (f_X2_isOrIsUnder N z o v1) :=
  Ct_z (fun x => G_lv0 (by simp only [lva_n, lva_i, lva_o, lva_r, lva_j]) (g_X2_isOrIsUnder l N z o v1 x)) (by decide +kernel) (by simp only [lgl_n, lgl_i, lgl_o, lgl_r, lgl_j]; decide)

theorem dX2_whoLends_0 : decode cX2_whoLends 0 = .ok (.aload_n 0, 1) := by decide +kernel
theorem dX2_whoLends_1 : decode cX2_whoLends 1 = .ok (.astore_n 1, 1) := by decide +kernel
theorem dX2_whoLends_2 : decode cX2_whoLends 2 = .ok (.aload_n 1, 1) := by decide +kernel
theorem dX2_whoLends_3 : decode cX2_whoLends 3 = .ok (.ifnull 27, 3) := by decide +kernel
theorem dX2_whoLends_6 : decode cX2_whoLends 6 = .ok (.aload_n 1, 1) := by decide +kernel
theorem dX2_whoLends_7 : decode cX2_whoLends 7 = .ok (.getfield 45, 3) := by decide +kernel
theorem dX2_whoLends_10 : decode cX2_whoLends 10 = .ok (.ifCond .le 12, 3) := by decide +kernel
theorem dX2_whoLends_13 : decode cX2_whoLends 13 = .ok (.aload_n 1, 1) := by decide +kernel
theorem dX2_whoLends_14 : decode cX2_whoLends 14 = .ok (.getfield 77, 3) := by decide +kernel
theorem dX2_whoLends_17 : decode cX2_whoLends 17 = .ok (.ifCond .ne 5, 3) := by decide +kernel
theorem dX2_whoLends_20 : decode cX2_whoLends 20 = .ok (.aload_n 1, 1) := by decide +kernel
theorem dX2_whoLends_21 : decode cX2_whoLends 21 = .ok (.areturn, 1) := by decide +kernel
theorem dX2_whoLends_22 : decode cX2_whoLends 22 = .ok (.aload_n 1, 1) := by decide +kernel
theorem dX2_whoLends_23 : decode cX2_whoLends 23 = .ok (.getfield 22, 3) := by decide +kernel
theorem dX2_whoLends_26 : decode cX2_whoLends 26 = .ok (.astore_n 1, 1) := by decide +kernel
theorem dX2_whoLends_27 : decode cX2_whoLends 27 = .ok (.goto (-25), 3) := by decide +kernel
theorem dX2_whoLends_30 : decode cX2_whoLends 30 = .ok (.aconst_null, 1) := by decide +kernel
theorem dX2_whoLends_31 : decode cX2_whoLends 31 = .ok (.areturn, 1) := by decide +kernel
abbrev m_X2_whoLends : Mt := (cX2_whoLends, RX2, "whoLends", 2, .areturn, 1)
def f_X2_whoLends_b22 (N : Nat) (z : Nat → Nat) (k2 : Option Nat → Hp → Option (Option Nat × Hp)) (v1 : Option Nat) (x0 : Hp) : Option (Option Nat × Hp) :=
  getr v1 x0 5 82 fun r1 =>
  k2 r1 x0
def f_X2_whoLends_b2 (N : Nat) (z : Nat → Nat) : Nat → Option Nat → Hp → Option (Option Nat × Hp)
  | 0, _, _ => none
  | n + 1, v1, x0 => if v1 = none then (some (none, x0)) else (geti v1 x0 5 85 fun i2 =>
  if i2 ≤ 0 then (f_X2_whoLends_b22 N z (f_X2_whoLends_b2 N z n) v1 x0) else (geti v1 x0 5 90 fun i3 =>
  if i3 = 0 then (some (v1, x0)) else (f_X2_whoLends_b22 N z (f_X2_whoLends_b2 N z n) v1 x0)))
def f_X2_whoLends (N : Nat) (z : Nat → Nat) (o : Nat) (x0 : Hp) : Option (Option Nat × Hp) :=
  f_X2_whoLends_b2 N z N (some o) x0
set_option maxRecDepth 100000 in
set_option maxHeartbeats 4000000 in
theorem g_X2_whoLends_b22 (l : Launch) (N : Nat) (z : Nat → Nat) {k2 : Option Nat → Hp → Option (Option Nat × Hp)} (hk2 : ∀ v1 x, G l z m_X2_whoLends okT enR 2 [(1, va_rf v1)] [] x (k2 v1 x)) (v1 : Option Nat) (x0 : Hp) : G l z m_X2_whoLends okT enR 22 [(1, va_rf v1)] [] x0 (f_X2_whoLends_b22 N z k2 v1 x0) := by
  unfold f_X2_whoLends_b22
  refine G_aload_n 0 dX2_whoLends_22 rfl rfl ?_
  refine G_getr (k := 2) K_4 (by decide) rfl rfl rfl gw_214 rfl dX2_whoLends_23 (fun r1 => ?_)
  refine G_astore_n (i := 1) (l2 := []) [] dX2_whoLends_26 rfl (Nat.le_of_ble_eq_true rfl) rfl trivial ?_
  refine G_goto (tgt := 2) dX2_whoLends_27 (by decide) ?_
  refine G_lv [0] rfl ?_
  exact hk2 r1 x0

set_option maxRecDepth 100000 in
set_option maxHeartbeats 4000000 in
theorem g_X2_whoLends_b2 (l : Launch) (N : Nat) (z : Nat → Nat) : ∀ (n : Nat) (v1 : Option Nat) (x0 : Hp), G l z m_X2_whoLends okT enR 2 [(1, va_rf v1)] [] x0 (f_X2_whoLends_b2 N z n v1 x0) := by
  intro n
  induction n with
  | zero => intro v1 x0; exact G_none
  | succ n ih =>
  intro v1 x0
  rw [f_X2_whoLends_b2]
  refine G_aload_n 0 dX2_whoLends_2 rfl rfl ?_
  refine G_ifnull (tgt := 30) dX2_whoLends_3 (by decide) (fun _ => ?_) (fun _ => ?_)
  · refine G_null dX2_whoLends_30 ?_
    exact G_ret trivial dX2_whoLends_31 rfl
  · refine G_aload_n 0 dX2_whoLends_6 rfl rfl ?_
    refine G_geti (k := 5) K_4 (by decide) rfl rfl rfl gw_223 rfl dX2_whoLends_7 (fun i2 => ?_)
    refine G_if_le (tgt := 22) dX2_whoLends_10 (by decide) (fun _ => ?_) (fun _ => ?_)
    · refine G_lv [0] rfl ?_
      exact g_X2_whoLends_b22 l N z ih v1 x0
    · refine G_aload_n 0 dX2_whoLends_13 rfl rfl ?_
      refine G_geti (k := 10) K_4 (by decide) rfl rfl rfl gw_235 rfl dX2_whoLends_14 (fun i3 => ?_)
      refine G_if_ne (tgt := 22) dX2_whoLends_17 (by decide) (fun _ => ?_) (fun _ => ?_)
      · refine G_aload_n 0 dX2_whoLends_20 rfl rfl ?_
        exact G_ret trivial dX2_whoLends_21 rfl
      · refine G_lv [0] rfl ?_
        exact g_X2_whoLends_b22 l N z ih v1 x0

set_option maxRecDepth 100000 in
set_option maxHeartbeats 4000000 in
theorem g_X2_whoLends (l : Launch) (N : Nat) (z : Nat → Nat) (o : Nat) (x0 : Hp) : G l z m_X2_whoLends okT enR 0 [(0, va_rf (some o))] [] x0 (f_X2_whoLends N z o x0) := by
  unfold f_X2_whoLends
  refine G_aload_n 0 dX2_whoLends_0 rfl rfl ?_
  refine G_astore_n (i := 1) (l2 := [(0, va_rf (some o))]) [0] dX2_whoLends_1 rfl (Nat.le_of_ble_eq_true rfl) rfl (sok_b (by decide) (rf_cat _) trivial) ?_
  refine G_lv [0] rfl ?_
  exact g_X2_whoLends_b2 l N z N (some o) x0

theorem yn_X2_whoLends : Yn yX2_whoLends 0 := ⟨by decide +kernel, by decide +kernel, by decide +kernel⟩
theorem ct_X2_whoLends (l : Launch) (N : Nat) (z : Nat → Nat) (o : Nat) : Ct l z yX2_whoLends cX2_whoLends 2 (some (.object "BucketBrigade$Lane")) 1 enR [.ref o] (f_X2_whoLends N z o) :=
  Ct_r (fun x => G_lv0 (by simp only [lva_n, lva_i, lva_o, lva_r, lva_j]) (g_X2_whoLends l N z o x)) (by decide +kernel) (by simp only [lgl_n, lgl_i, lgl_o, lgl_r, lgl_j]; decide)

theorem dX2_isLetSend_0 : decode cX2_isLetSend 0 = .ok (.aload_n 0, 1) := by decide +kernel
theorem dX2_isLetSend_1 : decode cX2_isLetSend 1 = .ok (.astore_n 1, 1) := by decide +kernel
theorem dX2_isLetSend_2 : decode cX2_isLetSend 2 = .ok (.aload_n 1, 1) := by decide +kernel
theorem dX2_isLetSend_3 : decode cX2_isLetSend 3 = .ok (.ifnull 24, 3) := by decide +kernel
theorem dX2_isLetSend_6 : decode cX2_isLetSend 6 = .ok (.aload_n 1, 1) := by decide +kernel
theorem dX2_isLetSend_7 : decode cX2_isLetSend 7 = .ok (.getfield 83, 3) := by decide +kernel
theorem dX2_isLetSend_10 : decode cX2_isLetSend 10 = .ok (.aload_n 1, 1) := by decide +kernel
theorem dX2_isLetSend_11 : decode cX2_isLetSend 11 = .ok (.getfield 29, 3) := by decide +kernel
theorem dX2_isLetSend_14 : decode cX2_isLetSend 14 = .ok (.if_icmp .lt 5, 3) := by decide +kernel
theorem dX2_isLetSend_17 : decode cX2_isLetSend 17 = .ok (.iconst 0, 1) := by decide +kernel
theorem dX2_isLetSend_18 : decode cX2_isLetSend 18 = .ok (.ireturn, 1) := by decide +kernel
theorem dX2_isLetSend_19 : decode cX2_isLetSend 19 = .ok (.aload_n 1, 1) := by decide +kernel
theorem dX2_isLetSend_20 : decode cX2_isLetSend 20 = .ok (.getfield 22, 3) := by decide +kernel
theorem dX2_isLetSend_23 : decode cX2_isLetSend 23 = .ok (.astore_n 1, 1) := by decide +kernel
theorem dX2_isLetSend_24 : decode cX2_isLetSend 24 = .ok (.goto (-22), 3) := by decide +kernel
theorem dX2_isLetSend_27 : decode cX2_isLetSend 27 = .ok (.iconst 1, 1) := by decide +kernel
theorem dX2_isLetSend_28 : decode cX2_isLetSend 28 = .ok (.ireturn, 1) := by decide +kernel
abbrev m_X2_isLetSend : Mt := (cX2_isLetSend, RX2, "isLetSend", 2, .ireturn, 1)
def f_X2_isLetSend_b2 (N : Nat) (z : Nat → Nat) : Nat → Option Nat → Hp → Option (Int32 × Hp)
  | 0, _, _ => none
  | n + 1, v1, x0 => if v1 = none then (some ((1 : Int32), x0)) else (geti v1 x0 5 97 fun i1 =>
  geti v1 x0 5 84 fun i2 =>
  if i1 < i2 then (getr v1 x0 5 82 fun r3 =>
  f_X2_isLetSend_b2 N z n r3 x0) else (some ((0 : Int32), x0)))
def f_X2_isLetSend (N : Nat) (z : Nat → Nat) (o : Nat) (x0 : Hp) : Option (Int32 × Hp) :=
  f_X2_isLetSend_b2 N z N (some o) x0
set_option maxRecDepth 100000 in
set_option maxHeartbeats 4000000 in
theorem g_X2_isLetSend_b2 (l : Launch) (N : Nat) (z : Nat → Nat) : ∀ (n : Nat) (v1 : Option Nat) (x0 : Hp), G l z m_X2_isLetSend okZ enI 2 [(1, va_rf v1)] [] x0 (f_X2_isLetSend_b2 N z n v1 x0) := by
  intro n
  induction n with
  | zero => intro v1 x0; exact G_none
  | succ n ih =>
  intro v1 x0
  rw [f_X2_isLetSend_b2]
  refine G_aload_n 0 dX2_isLetSend_2 rfl rfl ?_
  refine G_ifnull (tgt := 27) dX2_isLetSend_3 (by decide) (fun _ => ?_) (fun _ => ?_)
  · refine G_iconst (v := (1 : Int32)) dX2_isLetSend_27 rfl ?_
    exact G_ret (Or.inr rfl) dX2_isLetSend_28 rfl
  · refine G_aload_n 0 dX2_isLetSend_6 rfl rfl ?_
    refine G_geti (k := 17) K_4 (by decide) rfl rfl rfl gw_243 rfl dX2_isLetSend_7 (fun i1 => ?_)
    refine G_aload_n 0 dX2_isLetSend_10 rfl rfl ?_
    refine G_geti (k := 4) K_4 (by decide) rfl rfl rfl gw_220 rfl dX2_isLetSend_11 (fun i2 => ?_)
    refine G_icmp_lt (tgt := 19) dX2_isLetSend_14 (by decide) (fun _ => ?_) (fun _ => ?_)
    · refine G_aload_n 0 dX2_isLetSend_19 rfl rfl ?_
      refine G_getr (k := 2) K_4 (by decide) rfl rfl rfl gw_214 rfl dX2_isLetSend_20 (fun r3 => ?_)
      refine G_astore_n (i := 1) (l2 := []) [] dX2_isLetSend_23 rfl (Nat.le_of_ble_eq_true rfl) rfl trivial ?_
      refine G_goto (tgt := 2) dX2_isLetSend_24 (by decide) ?_
      refine G_lv [0] rfl ?_
      exact ih r3 x0
    · refine G_iconst (v := (0 : Int32)) dX2_isLetSend_17 rfl ?_
      exact G_ret (Or.inl rfl) dX2_isLetSend_18 rfl

set_option maxRecDepth 100000 in
set_option maxHeartbeats 4000000 in
theorem g_X2_isLetSend (l : Launch) (N : Nat) (z : Nat → Nat) (o : Nat) (x0 : Hp) : G l z m_X2_isLetSend okZ enI 0 [(0, va_rf (some o))] [] x0 (f_X2_isLetSend N z o x0) := by
  unfold f_X2_isLetSend
  refine G_aload_n 0 dX2_isLetSend_0 rfl rfl ?_
  refine G_astore_n (i := 1) (l2 := [(0, va_rf (some o))]) [0] dX2_isLetSend_1 rfl (Nat.le_of_ble_eq_true rfl) rfl (sok_b (by decide) (rf_cat _) trivial) ?_
  refine G_lv [0] rfl ?_
  exact g_X2_isLetSend_b2 l N z N (some o) x0

theorem yn_X2_isLetSend : Yn yX2_isLetSend 0 := ⟨by decide +kernel, by decide +kernel, by decide +kernel⟩
theorem ct_X2_isLetSend (l : Launch) (N : Nat) (z : Nat → Nat) (o : Nat) : Ct l z yX2_isLetSend cX2_isLetSend 2 (some .boolean) 1 enI [.ref o] (f_X2_isLetSend N z o) :=
  Ct_z (fun x => G_lv0 (by simp only [lva_n, lva_i, lva_o, lva_r, lva_j]) (g_X2_isLetSend l N z o x)) (by decide +kernel) (by simp only [lgl_n, lgl_i, lgl_o, lgl_r, lgl_j]; decide)

theorem dX2_canSend_0 : decode cX2_canSend 0 = .ok (.aload_n 0, 1) := by decide +kernel
theorem dX2_canSend_1 : decode cX2_canSend 1 = .ok (.getfield 12, 3) := by decide +kernel
theorem dX2_canSend_4 : decode cX2_canSend 4 = .ok (.getfield 86, 3) := by decide +kernel
theorem dX2_canSend_7 : decode cX2_canSend 7 = .ok (.ifCond .le 28, 3) := by decide +kernel
theorem dX2_canSend_10 : decode cX2_canSend 10 = .ok (.aload_n 0, 1) := by decide +kernel
theorem dX2_canSend_11 : decode cX2_canSend 11 = .ok (.getfield 77, 3) := by decide +kernel
theorem dX2_canSend_14 : decode cX2_canSend 14 = .ok (.ifCond .ne 21, 3) := by decide +kernel
theorem dX2_canSend_17 : decode cX2_canSend 17 = .ok (.aload_n 0, 1) := by decide +kernel
theorem dX2_canSend_18 : decode cX2_canSend 18 = .ok (.invokevirtual 106, 3) := by decide +kernel
theorem dX2_canSend_21 : decode cX2_canSend 21 = .ok (.ifCond .eq 14, 3) := by decide +kernel
theorem dX2_canSend_24 : decode cX2_canSend 24 = .ok (.aload_n 0, 1) := by decide +kernel
theorem dX2_canSend_25 : decode cX2_canSend 25 = .ok (.invokevirtual 109, 3) := by decide +kernel
theorem dX2_canSend_28 : decode cX2_canSend 28 = .ok (.ifnull 7, 3) := by decide +kernel
theorem dX2_canSend_31 : decode cX2_canSend 31 = .ok (.iconst 1, 1) := by decide +kernel
theorem dX2_canSend_32 : decode cX2_canSend 32 = .ok (.goto 4, 3) := by decide +kernel
theorem dX2_canSend_35 : decode cX2_canSend 35 = .ok (.iconst 0, 1) := by decide +kernel
theorem dX2_canSend_36 : decode cX2_canSend 36 = .ok (.ireturn, 1) := by decide +kernel
abbrev m_X2_canSend : Mt := (cX2_canSend, RX2, "canSend", 1, .ireturn, 2)
def f_X2_canSend (N : Nat) (z : Nat → Nat) (o : Nat) (x0 : Hp) : Option (Int32 × Hp) :=
  getr (some o) x0 5 81 fun r1 =>
  geti r1 x0 7 120 fun i2 =>
  if i2 ≤ 0 then (some ((0 : Int32), x0)) else (geti (some o) x0 5 90 fun i3 =>
  if i3 = 0 then (obj (some o) x0 5 fun q6 => bnd (f_X2_isLetSend N z q6 x0) fun i5 x4 =>
  if i5 = 0 then (some ((0 : Int32), x4)) else (obj (some o) x4 5 fun q9 => bnd (f_X2_whoLends N z q9 x4) fun r8 x7 =>
  if r8 = none then (some ((0 : Int32), x7)) else (some ((1 : Int32), x7)))) else (some ((0 : Int32), x0)))
set_option maxRecDepth 100000 in
set_option maxHeartbeats 4000000 in
theorem g_X2_canSend (l : Launch) (N : Nat) (z : Nat → Nat) (o : Nat) (x0 : Hp) : G l z m_X2_canSend okZ enI 0 [(0, va_rf (some o))] [] x0 (f_X2_canSend N z o x0) := by
  unfold f_X2_canSend
  refine G_aload_n 0 dX2_canSend_0 rfl rfl ?_
  refine G_getr (k := 1) K_4 (by decide) rfl rfl rfl gw_211 rfl dX2_canSend_1 (fun r1 => ?_)
  refine G_geti (k := 0) K_6 (by decide) rfl rfl rfl gw_195 rfl dX2_canSend_4 (fun i2 => ?_)
  refine G_if_le (tgt := 35) dX2_canSend_7 (by decide) (fun _ => ?_) (fun _ => ?_)
  · refine G_iconst (v := (0 : Int32)) dX2_canSend_35 rfl ?_
    exact G_ret (Or.inl rfl) dX2_canSend_36 rfl
  · refine G_aload_n 0 dX2_canSend_10 rfl rfl ?_
    refine G_geti (k := 10) K_4 (by decide) rfl rfl rfl gw_235 rfl dX2_canSend_11 (fun i3 => ?_)
    refine G_if_ne (tgt := 35) dX2_canSend_14 (by decide) (fun _ => ?_) (fun _ => ?_)
    · refine G_aload_n 0 dX2_canSend_17 rfl rfl ?_
      refine G_callV (av := []) [] (fun q6 => ct_X2_isLetSend l N z q6) K_4 rfl yn_X2_isLetSend (Nat.le_of_ble_eq_true rfl) (by decide) gw_717 gw_719 gw_s10 gw_46 gw_720 rfl (by decide) dX2_canSend_18 (fun i5 x4 => ?_)
      refine G_if_eq (tgt := 35) dX2_canSend_21 (by decide) (fun _ => ?_) (fun _ => ?_)
      · refine G_iconst (v := (0 : Int32)) dX2_canSend_35 rfl ?_
        exact G_ret (Or.inl rfl) dX2_canSend_36 rfl
      · refine G_aload_n 0 dX2_canSend_24 rfl rfl ?_
        refine G_callV (av := []) [] (fun q9 => ct_X2_whoLends l N z q9) K_4 rfl yn_X2_whoLends (Nat.le_of_ble_eq_true rfl) (by decide) gw_721 gw_589 gw_590 gw_46 gw_591 rfl (by decide) dX2_canSend_25 (fun r8 x7 => ?_)
        refine G_ifnull (tgt := 35) dX2_canSend_28 (by decide) (fun _ => ?_) (fun _ => ?_)
        · refine G_iconst (v := (0 : Int32)) dX2_canSend_35 rfl ?_
          exact G_ret (Or.inl rfl) dX2_canSend_36 rfl
        · refine G_iconst (v := (1 : Int32)) dX2_canSend_31 rfl ?_
          refine G_goto (tgt := 36) dX2_canSend_32 (by decide) ?_
          exact G_ret (Or.inr rfl) dX2_canSend_36 rfl
    · refine G_iconst (v := (0 : Int32)) dX2_canSend_35 rfl ?_
      exact G_ret (Or.inl rfl) dX2_canSend_36 rfl

theorem yn_X2_canSend : Yn yX2_canSend 0 := ⟨by decide +kernel, by decide +kernel, by decide +kernel⟩
theorem ct_X2_canSend (l : Launch) (N : Nat) (z : Nat → Nat) (o : Nat) : Ct l z yX2_canSend cX2_canSend 1 (some .boolean) 2 enI [.ref o] (f_X2_canSend N z o) :=
  Ct_z (fun x => G_lv0 (by simp only [lva_n, lva_i, lva_o, lva_r, lva_j]) (g_X2_canSend l N z o x)) (by decide +kernel) (by simp only [lgl_n, lgl_i, lgl_o, lgl_r, lgl_j]; decide)

theorem dX2_goesAheadOf_0 : decode cX2_goesAheadOf 0 = .ok (.aload_n 0, 1) := by decide +kernel
theorem dX2_goesAheadOf_1 : decode cX2_goesAheadOf 1 = .ok (.getfield 45, 3) := by decide +kernel
theorem dX2_goesAheadOf_4 : decode cX2_goesAheadOf 4 = .ok (.ifCond .le 7, 3) := by decide +kernel
theorem dX2_goesAheadOf_7 : decode cX2_goesAheadOf 7 = .ok (.iconst 1, 1) := by decide +kernel
theorem dX2_goesAheadOf_8 : decode cX2_goesAheadOf 8 = .ok (.goto 4, 3) := by decide +kernel
theorem dX2_goesAheadOf_11 : decode cX2_goesAheadOf 11 = .ok (.iconst 0, 1) := by decide +kernel
theorem dX2_goesAheadOf_12 : decode cX2_goesAheadOf 12 = .ok (.istore_n 2, 1) := by decide +kernel
theorem dX2_goesAheadOf_13 : decode cX2_goesAheadOf 13 = .ok (.iload_n 2, 1) := by decide +kernel
theorem dX2_goesAheadOf_14 : decode cX2_goesAheadOf 14 = .ok (.aload_n 1, 1) := by decide +kernel
theorem dX2_goesAheadOf_15 : decode cX2_goesAheadOf 15 = .ok (.getfield 45, 3) := by decide +kernel
theorem dX2_goesAheadOf_18 : decode cX2_goesAheadOf 18 = .ok (.ifCond .le 7, 3) := by decide +kernel
theorem dX2_goesAheadOf_21 : decode cX2_goesAheadOf 21 = .ok (.iconst 1, 1) := by decide +kernel
theorem dX2_goesAheadOf_22 : decode cX2_goesAheadOf 22 = .ok (.goto 4, 3) := by decide +kernel
theorem dX2_goesAheadOf_25 : decode cX2_goesAheadOf 25 = .ok (.iconst 0, 1) := by decide +kernel
theorem dX2_goesAheadOf_26 : decode cX2_goesAheadOf 26 = .ok (.if_icmp .eq 5, 3) := by decide +kernel
theorem dX2_goesAheadOf_29 : decode cX2_goesAheadOf 29 = .ok (.iload_n 2, 1) := by decide +kernel
theorem dX2_goesAheadOf_30 : decode cX2_goesAheadOf 30 = .ok (.ireturn, 1) := by decide +kernel
theorem dX2_goesAheadOf_31 : decode cX2_goesAheadOf 31 = .ok (.aload_n 0, 1) := by decide +kernel
theorem dX2_goesAheadOf_32 : decode cX2_goesAheadOf 32 = .ok (.getfield 35, 3) := by decide +kernel
theorem dX2_goesAheadOf_35 : decode cX2_goesAheadOf 35 = .ok (.aload_n 1, 1) := by decide +kernel
theorem dX2_goesAheadOf_36 : decode cX2_goesAheadOf 36 = .ok (.getfield 35, 3) := by decide +kernel
theorem dX2_goesAheadOf_39 : decode cX2_goesAheadOf 39 = .ok (.if_icmp .eq 20, 3) := by decide +kernel
theorem dX2_goesAheadOf_42 : decode cX2_goesAheadOf 42 = .ok (.aload_n 0, 1) := by decide +kernel
theorem dX2_goesAheadOf_43 : decode cX2_goesAheadOf 43 = .ok (.getfield 35, 3) := by decide +kernel
theorem dX2_goesAheadOf_46 : decode cX2_goesAheadOf 46 = .ok (.aload_n 1, 1) := by decide +kernel
theorem dX2_goesAheadOf_47 : decode cX2_goesAheadOf 47 = .ok (.getfield 35, 3) := by decide +kernel
theorem dX2_goesAheadOf_50 : decode cX2_goesAheadOf 50 = .ok (.if_icmp .ge 7, 3) := by decide +kernel
theorem dX2_goesAheadOf_53 : decode cX2_goesAheadOf 53 = .ok (.iconst 1, 1) := by decide +kernel
theorem dX2_goesAheadOf_54 : decode cX2_goesAheadOf 54 = .ok (.goto 4, 3) := by decide +kernel
theorem dX2_goesAheadOf_57 : decode cX2_goesAheadOf 57 = .ok (.iconst 0, 1) := by decide +kernel
theorem dX2_goesAheadOf_58 : decode cX2_goesAheadOf 58 = .ok (.ireturn, 1) := by decide +kernel
theorem dX2_goesAheadOf_59 : decode cX2_goesAheadOf 59 = .ok (.aload_n 0, 1) := by decide +kernel
theorem dX2_goesAheadOf_60 : decode cX2_goesAheadOf 60 = .ok (.getfield 80, 3) := by decide +kernel
theorem dX2_goesAheadOf_63 : decode cX2_goesAheadOf 63 = .ok (.aload_n 1, 1) := by decide +kernel
theorem dX2_goesAheadOf_64 : decode cX2_goesAheadOf 64 = .ok (.getfield 80, 3) := by decide +kernel
theorem dX2_goesAheadOf_67 : decode cX2_goesAheadOf 67 = .ok (.if_icmp .ge 7, 3) := by decide +kernel
theorem dX2_goesAheadOf_70 : decode cX2_goesAheadOf 70 = .ok (.iconst 1, 1) := by decide +kernel
theorem dX2_goesAheadOf_71 : decode cX2_goesAheadOf 71 = .ok (.goto 4, 3) := by decide +kernel
theorem dX2_goesAheadOf_74 : decode cX2_goesAheadOf 74 = .ok (.iconst 0, 1) := by decide +kernel
theorem dX2_goesAheadOf_75 : decode cX2_goesAheadOf 75 = .ok (.ireturn, 1) := by decide +kernel
abbrev m_X2_goesAheadOf : Mt := (cX2_goesAheadOf, RX2, "goesAheadOf", 3, .ireturn, 1)
def f_X2_goesAheadOf_b26 (N : Nat) (z : Nat → Nat) (o : Nat) (v1 : Option Nat) (v2 : Int32) (s0 : Int32) (s1 : Int32) (x0 : Hp) : Option (Int32 × Hp) :=
  if s1 = s0 then (geti (some o) x0 5 92 fun i1 =>
  geti v1 x0 5 92 fun i2 =>
  if i1 = i2 then (geti (some o) x0 5 96 fun i3 =>
  geti v1 x0 5 96 fun i4 =>
  if i4 ≤ i3 then (some ((0 : Int32), x0)) else (some ((1 : Int32), x0))) else (geti (some o) x0 5 92 fun i5 =>
  geti v1 x0 5 92 fun i6 =>
  if i6 ≤ i5 then (some ((0 : Int32), x0)) else (some ((1 : Int32), x0)))) else (bool v2 (some (v2, x0)))
def f_X2_goesAheadOf_b12 (N : Nat) (z : Nat → Nat) (o : Nat) (v1 : Option Nat) (s0 : Int32) (x0 : Hp) : Option (Int32 × Hp) :=
  geti v1 x0 5 85 fun i7 =>
  if i7 ≤ 0 then (f_X2_goesAheadOf_b26 N z o v1 s0 (0 : Int32) s0 x0) else (f_X2_goesAheadOf_b26 N z o v1 s0 (1 : Int32) s0 x0)
def f_X2_goesAheadOf (N : Nat) (z : Nat → Nat) (o : Nat) (v1 : Option Nat) (x0 : Hp) : Option (Int32 × Hp) :=
  geti (some o) x0 5 85 fun i8 =>
  if i8 ≤ 0 then (f_X2_goesAheadOf_b12 N z o v1 (0 : Int32) x0) else (f_X2_goesAheadOf_b12 N z o v1 (1 : Int32) x0)
set_option maxRecDepth 100000 in
set_option maxHeartbeats 4000000 in
theorem g_X2_goesAheadOf_b26 (l : Launch) (N : Nat) (z : Nat → Nat) (o : Nat) (v1 : Option Nat) (v2 : Int32) (s0 : Int32) (s1 : Int32) (x0 : Hp) : G l z m_X2_goesAheadOf okZ enI 26 [(0, va_rf (some o)), (1, va_rf v1), (2, .int v2)] [.int s0, .int s1] x0 (f_X2_goesAheadOf_b26 N z o v1 v2 s0 s1 x0) := by
  unfold f_X2_goesAheadOf_b26
  refine G_icmp_eq (tgt := 31) dX2_goesAheadOf_26 (by decide) (fun _ => ?_) (fun _ => ?_)
  · refine G_aload_n 0 dX2_goesAheadOf_31 rfl rfl ?_
    refine G_geti (k := 12) K_4 (by decide) rfl rfl rfl gw_238 rfl dX2_goesAheadOf_32 (fun i1 => ?_)
    refine G_aload_n 1 dX2_goesAheadOf_35 rfl rfl ?_
    refine G_geti (k := 12) K_4 (by decide) rfl rfl rfl gw_238 rfl dX2_goesAheadOf_36 (fun i2 => ?_)
    refine G_icmp_eq (tgt := 59) dX2_goesAheadOf_39 (by decide) (fun _ => ?_) (fun _ => ?_)
    · refine G_aload_n 0 dX2_goesAheadOf_59 rfl rfl ?_
      refine G_geti (k := 16) K_4 (by decide) rfl rfl rfl gw_242 rfl dX2_goesAheadOf_60 (fun i3 => ?_)
      refine G_aload_n 1 dX2_goesAheadOf_63 rfl rfl ?_
      refine G_geti (k := 16) K_4 (by decide) rfl rfl rfl gw_242 rfl dX2_goesAheadOf_64 (fun i4 => ?_)
      refine G_icmp_ge (tgt := 74) dX2_goesAheadOf_67 (by decide) (fun _ => ?_) (fun _ => ?_)
      · refine G_iconst (v := (0 : Int32)) dX2_goesAheadOf_74 rfl ?_
        exact G_ret (Or.inl rfl) dX2_goesAheadOf_75 rfl
      · refine G_iconst (v := (1 : Int32)) dX2_goesAheadOf_70 rfl ?_
        refine G_goto (tgt := 75) dX2_goesAheadOf_71 (by decide) ?_
        exact G_ret (Or.inr rfl) dX2_goesAheadOf_75 rfl
    · refine G_aload_n 0 dX2_goesAheadOf_42 rfl rfl ?_
      refine G_geti (k := 12) K_4 (by decide) rfl rfl rfl gw_238 rfl dX2_goesAheadOf_43 (fun i5 => ?_)
      refine G_aload_n 1 dX2_goesAheadOf_46 rfl rfl ?_
      refine G_geti (k := 12) K_4 (by decide) rfl rfl rfl gw_238 rfl dX2_goesAheadOf_47 (fun i6 => ?_)
      refine G_icmp_ge (tgt := 57) dX2_goesAheadOf_50 (by decide) (fun _ => ?_) (fun _ => ?_)
      · refine G_iconst (v := (0 : Int32)) dX2_goesAheadOf_57 rfl ?_
        exact G_ret (Or.inl rfl) dX2_goesAheadOf_58 rfl
      · refine G_iconst (v := (1 : Int32)) dX2_goesAheadOf_53 rfl ?_
        refine G_goto (tgt := 58) dX2_goesAheadOf_54 (by decide) ?_
        exact G_ret (Or.inr rfl) dX2_goesAheadOf_58 rfl
  · refine G_iload_n 2 dX2_goesAheadOf_29 rfl rfl ?_
    exact G_bool (fun h => G_ret h dX2_goesAheadOf_30 rfl)

set_option maxRecDepth 100000 in
set_option maxHeartbeats 4000000 in
theorem g_X2_goesAheadOf_b12 (l : Launch) (N : Nat) (z : Nat → Nat) (o : Nat) (v1 : Option Nat) (s0 : Int32) (x0 : Hp) : G l z m_X2_goesAheadOf okZ enI 12 [(0, va_rf (some o)), (1, va_rf v1)] [.int s0] x0 (f_X2_goesAheadOf_b12 N z o v1 s0 x0) := by
  unfold f_X2_goesAheadOf_b12
  refine G_istore_n (i := 2) (l2 := [(0, va_rf (some o)), (1, va_rf v1)]) [0, 1] dX2_goesAheadOf_12 rfl (Nat.le_of_ble_eq_true rfl) rfl (sok_a (by decide) (by decide) (sok_b (by decide) (rf_cat _) trivial)) ?_
  refine G_iload_n 0 dX2_goesAheadOf_13 rfl rfl ?_
  refine G_aload_n 2 dX2_goesAheadOf_14 rfl rfl ?_
  refine G_geti (k := 5) K_4 (by decide) rfl rfl rfl gw_223 rfl dX2_goesAheadOf_15 (fun i7 => ?_)
  refine G_if_le (tgt := 25) dX2_goesAheadOf_18 (by decide) (fun _ => ?_) (fun _ => ?_)
  · refine G_iconst (v := (0 : Int32)) dX2_goesAheadOf_25 rfl ?_
    refine G_lv [1, 2, 0] rfl ?_
    exact g_X2_goesAheadOf_b26 l N z o v1 s0 (0 : Int32) s0 x0
  · refine G_iconst (v := (1 : Int32)) dX2_goesAheadOf_21 rfl ?_
    refine G_goto (tgt := 26) dX2_goesAheadOf_22 (by decide) ?_
    refine G_lv [1, 2, 0] rfl ?_
    exact g_X2_goesAheadOf_b26 l N z o v1 s0 (1 : Int32) s0 x0

set_option maxRecDepth 100000 in
set_option maxHeartbeats 4000000 in
theorem g_X2_goesAheadOf (l : Launch) (N : Nat) (z : Nat → Nat) (o : Nat) (v1 : Option Nat) (x0 : Hp) : G l z m_X2_goesAheadOf okZ enI 0 [(0, va_rf (some o)), (1, va_rf v1)] [] x0 (f_X2_goesAheadOf N z o v1 x0) := by
  unfold f_X2_goesAheadOf
  refine G_aload_n 0 dX2_goesAheadOf_0 rfl rfl ?_
  refine G_geti (k := 5) K_4 (by decide) rfl rfl rfl gw_223 rfl dX2_goesAheadOf_1 (fun i8 => ?_)
  refine G_if_le (tgt := 11) dX2_goesAheadOf_4 (by decide) (fun _ => ?_) (fun _ => ?_)
  · refine G_iconst (v := (0 : Int32)) dX2_goesAheadOf_11 rfl ?_
    refine G_lv [0, 1] rfl ?_
    exact g_X2_goesAheadOf_b12 l N z o v1 (0 : Int32) x0
  · refine G_iconst (v := (1 : Int32)) dX2_goesAheadOf_7 rfl ?_
    refine G_goto (tgt := 12) dX2_goesAheadOf_8 (by decide) ?_
    refine G_lv [0, 1] rfl ?_
    exact g_X2_goesAheadOf_b12 l N z o v1 (1 : Int32) x0

theorem yn_X2_goesAheadOf : Yn yX2_goesAheadOf 1 := ⟨by decide +kernel, by decide +kernel, by decide +kernel⟩
theorem ct_X2_goesAheadOf (l : Launch) (N : Nat) (z : Nat → Nat) (o : Nat) (v1 : Option Nat) : Ct l z yX2_goesAheadOf cX2_goesAheadOf 3 (some .boolean) 1 enI [.ref o, va_rf v1] (f_X2_goesAheadOf N z o v1) :=
  Ct_z (fun x => G_lv0 (by simp only [lva_n, lva_i, lva_o, lva_r, lva_j]) (g_X2_goesAheadOf l N z o v1 x)) (by decide +kernel) (by simp only [lgl_n, lgl_i, lgl_o, lgl_r, lgl_j]; decide)

theorem dX2_sendPail_0 : decode cX2_sendPail 0 = .ok (.aload_n 0, 1) := by decide +kernel
theorem dX2_sendPail_1 : decode cX2_sendPail 1 = .ok (.invokevirtual 109, 3) := by decide +kernel
theorem dX2_sendPail_4 : decode cX2_sendPail 4 = .ok (.astore_n 2, 1) := by decide +kernel
theorem dX2_sendPail_5 : decode cX2_sendPail 5 = .ok (.aload_n 2, 1) := by decide +kernel
theorem dX2_sendPail_6 : decode cX2_sendPail 6 = .ok (.ifnonnull 4, 3) := by decide +kernel
theorem dX2_sendPail_9 : decode cX2_sendPail 9 = .ok (.return_, 1) := by decide +kernel
theorem dX2_sendPail_10 : decode cX2_sendPail 10 = .ok (.aload_n 0, 1) := by decide +kernel
theorem dX2_sendPail_11 : decode cX2_sendPail 11 = .ok (.dup, 1) := by decide +kernel
theorem dX2_sendPail_12 : decode cX2_sendPail 12 = .ok (.getfield 60, 3) := by decide +kernel
theorem dX2_sendPail_15 : decode cX2_sendPail 15 = .ok (.iload_n 1, 1) := by decide +kernel
theorem dX2_sendPail_16 : decode cX2_sendPail 16 = .ok (.aload_n 0, 1) := by decide +kernel
theorem dX2_sendPail_17 : decode cX2_sendPail 17 = .ok (.getfield 12, 3) := by decide +kernel
theorem dX2_sendPail_20 : decode cX2_sendPail 20 = .ok (.iconst 0, 1) := by decide +kernel
theorem dX2_sendPail_21 : decode cX2_sendPail 21 = .ok (.invokevirtual 113, 3) := by decide +kernel
theorem dX2_sendPail_24 : decode cX2_sendPail 24 = .ok (.isub, 1) := by decide +kernel
theorem dX2_sendPail_25 : decode cX2_sendPail 25 = .ok (.iadd, 1) := by decide +kernel
theorem dX2_sendPail_26 : decode cX2_sendPail 26 = .ok (.putfield 60, 3) := by decide +kernel
theorem dX2_sendPail_29 : decode cX2_sendPail 29 = .ok (.aload_n 0, 1) := by decide +kernel
theorem dX2_sendPail_30 : decode cX2_sendPail 30 = .ok (.getfield 12, 3) := by decide +kernel
theorem dX2_sendPail_33 : decode cX2_sendPail 33 = .ok (.invokevirtual 93, 3) := by decide +kernel
theorem dX2_sendPail_36 : decode cX2_sendPail 36 = .ok (.aload_n 2, 1) := by decide +kernel
theorem dX2_sendPail_37 : decode cX2_sendPail 37 = .ok (.dup, 1) := by decide +kernel
theorem dX2_sendPail_38 : decode cX2_sendPail 38 = .ok (.getfield 45, 3) := by decide +kernel
theorem dX2_sendPail_41 : decode cX2_sendPail 41 = .ok (.iconst 1, 1) := by decide +kernel
theorem dX2_sendPail_42 : decode cX2_sendPail 42 = .ok (.isub, 1) := by decide +kernel
theorem dX2_sendPail_43 : decode cX2_sendPail 43 = .ok (.putfield 45, 3) := by decide +kernel
theorem dX2_sendPail_46 : decode cX2_sendPail 46 = .ok (.aload_n 2, 1) := by decide +kernel
theorem dX2_sendPail_47 : decode cX2_sendPail 47 = .ok (.aload_n 0, 1) := by decide +kernel
theorem dX2_sendPail_48 : decode cX2_sendPail 48 = .ok (.if_acmp .eq 23, 3) := by decide +kernel
theorem dX2_sendPail_51 : decode cX2_sendPail 51 = .ok (.aload_n 0, 1) := by decide +kernel
theorem dX2_sendPail_52 : decode cX2_sendPail 52 = .ok (.dup, 1) := by decide +kernel
theorem dX2_sendPail_53 : decode cX2_sendPail 53 = .ok (.getfield 57, 3) := by decide +kernel
theorem dX2_sendPail_56 : decode cX2_sendPail 56 = .ok (.iconst 1, 1) := by decide +kernel
theorem dX2_sendPail_57 : decode cX2_sendPail 57 = .ok (.iadd, 1) := by decide +kernel
theorem dX2_sendPail_58 : decode cX2_sendPail 58 = .ok (.putfield 57, 3) := by decide +kernel
theorem dX2_sendPail_61 : decode cX2_sendPail 61 = .ok (.aload_n 2, 1) := by decide +kernel
theorem dX2_sendPail_62 : decode cX2_sendPail 62 = .ok (.dup, 1) := by decide +kernel
theorem dX2_sendPail_63 : decode cX2_sendPail 63 = .ok (.getfield 54, 3) := by decide +kernel
theorem dX2_sendPail_66 : decode cX2_sendPail 66 = .ok (.iconst 1, 1) := by decide +kernel
theorem dX2_sendPail_67 : decode cX2_sendPail 67 = .ok (.iadd, 1) := by decide +kernel
theorem dX2_sendPail_68 : decode cX2_sendPail 68 = .ok (.putfield 54, 3) := by decide +kernel
theorem dX2_sendPail_71 : decode cX2_sendPail 71 = .ok (.aload_n 0, 1) := by decide +kernel
theorem dX2_sendPail_72 : decode cX2_sendPail 72 = .ok (.dup, 1) := by decide +kernel
theorem dX2_sendPail_73 : decode cX2_sendPail 73 = .ok (.getfield 48, 3) := by decide +kernel
theorem dX2_sendPail_76 : decode cX2_sendPail 76 = .ok (.iconst 1, 1) := by decide +kernel
theorem dX2_sendPail_77 : decode cX2_sendPail 77 = .ok (.iadd, 1) := by decide +kernel
theorem dX2_sendPail_78 : decode cX2_sendPail 78 = .ok (.putfield 48, 3) := by decide +kernel
theorem dX2_sendPail_81 : decode cX2_sendPail 81 = .ok (.aload_n 0, 1) := by decide +kernel
theorem dX2_sendPail_82 : decode cX2_sendPail 82 = .ok (.dup, 1) := by decide +kernel
theorem dX2_sendPail_83 : decode cX2_sendPail 83 = .ok (.getfield 80, 3) := by decide +kernel
theorem dX2_sendPail_86 : decode cX2_sendPail 86 = .ok (.iconst 1, 1) := by decide +kernel
theorem dX2_sendPail_87 : decode cX2_sendPail 87 = .ok (.iadd, 1) := by decide +kernel
theorem dX2_sendPail_88 : decode cX2_sendPail 88 = .ok (.putfield 80, 3) := by decide +kernel
theorem dX2_sendPail_91 : decode cX2_sendPail 91 = .ok (.aload_n 0, 1) := by decide +kernel
theorem dX2_sendPail_92 : decode cX2_sendPail 92 = .ok (.astore_n 3, 1) := by decide +kernel
theorem dX2_sendPail_93 : decode cX2_sendPail 93 = .ok (.aload_n 3, 1) := by decide +kernel
theorem dX2_sendPail_94 : decode cX2_sendPail 94 = .ok (.ifnull 21, 3) := by decide +kernel
theorem dX2_sendPail_97 : decode cX2_sendPail 97 = .ok (.aload_n 3, 1) := by decide +kernel
theorem dX2_sendPail_98 : decode cX2_sendPail 98 = .ok (.dup, 1) := by decide +kernel
theorem dX2_sendPail_99 : decode cX2_sendPail 99 = .ok (.getfield 83, 3) := by decide +kernel
theorem dX2_sendPail_102 : decode cX2_sendPail 102 = .ok (.iconst 1, 1) := by decide +kernel
theorem dX2_sendPail_103 : decode cX2_sendPail 103 = .ok (.iadd, 1) := by decide +kernel
theorem dX2_sendPail_104 : decode cX2_sendPail 104 = .ok (.putfield 83, 3) := by decide +kernel
theorem dX2_sendPail_107 : decode cX2_sendPail 107 = .ok (.aload_n 3, 1) := by decide +kernel
theorem dX2_sendPail_108 : decode cX2_sendPail 108 = .ok (.getfield 22, 3) := by decide +kernel
theorem dX2_sendPail_111 : decode cX2_sendPail 111 = .ok (.astore_n 3, 1) := by decide +kernel
theorem dX2_sendPail_112 : decode cX2_sendPail 112 = .ok (.goto (-19), 3) := by decide +kernel
theorem dX2_sendPail_115 : decode cX2_sendPail 115 = .ok (.return_, 1) := by decide +kernel
abbrev m_X2_sendPail : Mt := (cX2_sendPail, RX2, "sendPail", 4, .return_, 3)
def f_X2_sendPail_b93 (N : Nat) (z : Nat → Nat) : Nat → Option Nat → Hp → Option (Unit × Hp)
  | 0, _, _ => none
  | n + 1, v3, x0 => if v3 = none then (some ((), x0)) else (geti v3 x0 5 97 fun i1 =>
  puti v3 x0 5 97 (i1 + (1 : Int32)) fun x2 =>
  getr v3 x2 5 82 fun r3 =>
  f_X2_sendPail_b93 N z n r3 x2)
def f_X2_sendPail_b71 (N : Nat) (z : Nat → Nat) (o : Nat) (x0 : Hp) : Option (Unit × Hp) :=
  geti (some o) x0 5 86 fun i4 =>
  puti (some o) x0 5 86 (i4 + (1 : Int32)) fun x5 =>
  geti (some o) x5 5 96 fun i6 =>
  puti (some o) x5 5 96 (i6 + (1 : Int32)) fun x7 =>
  f_X2_sendPail_b93 N z N (some o) x7
def f_X2_sendPail (N : Nat) (z : Nat → Nat) (o : Nat) (v1 : Int32) (x0 : Hp) : Option (Unit × Hp) :=
  obj (some o) x0 5 fun q10 => bnd (f_X2_whoLends N z q10 x0) fun r9 x8 =>
  if r9 = none then (some ((), x8)) else (geti (some o) x8 5 89 fun i11 =>
  getr (some o) x8 5 81 fun r12 =>
  obj r12 x8 7 fun q15 => bnd (f_X4_at N z q15 (0 : Int32) x8) fun i14 x13 =>
  puti (some o) x13 5 89 (i11 + (v1 - i14)) fun x16 =>
  getr (some o) x16 5 81 fun r17 =>
  obj r17 x16 7 fun q19 => bnd (f_X4_dropFront N z q19 x16) fun _ x18 =>
  geti r9 x18 5 85 fun i20 =>
  puti r9 x18 5 85 (i20 - (1 : Int32)) fun x21 =>
  if r9 = (some o) then (f_X2_sendPail_b71 N z o x21) else (geti (some o) x21 5 88 fun i22 =>
  puti (some o) x21 5 88 (i22 + (1 : Int32)) fun x23 =>
  geti r9 x23 5 95 fun i24 =>
  puti r9 x23 5 95 (i24 + (1 : Int32)) fun x25 =>
  f_X2_sendPail_b71 N z o x25))
set_option maxRecDepth 100000 in
set_option maxHeartbeats 4000000 in
theorem g_X2_sendPail_b93 (l : Launch) (N : Nat) (z : Nat → Nat) : ∀ (n : Nat) (v3 : Option Nat) (x0 : Hp), G l z m_X2_sendPail okT enV 93 [(3, va_rf v3)] [] x0 (f_X2_sendPail_b93 N z n v3 x0) := by
  intro n
  induction n with
  | zero => intro v3 x0; exact G_none
  | succ n ih =>
  intro v3 x0
  rw [f_X2_sendPail_b93]
  refine G_aload_n 0 dX2_sendPail_93 rfl rfl ?_
  refine G_ifnull (tgt := 115) dX2_sendPail_94 (by decide) (fun _ => ?_) (fun _ => ?_)
  · exact G_ret trivial dX2_sendPail_115 rfl
  · refine G_aload_n 0 dX2_sendPail_97 rfl rfl ?_
    refine G_dup dX2_sendPail_98 (rf_cat _) ?_
    refine G_geti (k := 17) K_4 (by decide) rfl rfl rfl gw_243 rfl dX2_sendPail_99 (fun i1 => ?_)
    refine G_iconst (v := (1 : Int32)) dX2_sendPail_102 rfl ?_
    refine G_iadd dX2_sendPail_103 ?_
    refine G_puti (k := 17) K_4 (by decide) rfl rfl rfl gw_243 rfl (Or.inl rfl) nar_int.1 nar_int.2 dX2_sendPail_104 (fun x2 => ?_)
    refine G_aload_n 0 dX2_sendPail_107 rfl rfl ?_
    refine G_getr (k := 2) K_4 (by decide) rfl rfl rfl gw_214 rfl dX2_sendPail_108 (fun r3 => ?_)
    refine G_astore_n (i := 3) (l2 := []) [] dX2_sendPail_111 rfl (Nat.le_of_ble_eq_true rfl) rfl trivial ?_
    refine G_goto (tgt := 93) dX2_sendPail_112 (by decide) ?_
    refine G_lv [0] rfl ?_
    exact ih r3 x2

set_option maxRecDepth 100000 in
set_option maxHeartbeats 4000000 in
theorem g_X2_sendPail_b71 (l : Launch) (N : Nat) (z : Nat → Nat) (o : Nat) (x0 : Hp) : G l z m_X2_sendPail okT enV 71 [(0, va_rf (some o))] [] x0 (f_X2_sendPail_b71 N z o x0) := by
  unfold f_X2_sendPail_b71
  refine G_aload_n 0 dX2_sendPail_71 rfl rfl ?_
  refine G_dup dX2_sendPail_72 (rf_cat _) ?_
  refine G_geti (k := 6) K_4 (by decide) rfl rfl rfl gw_225 rfl dX2_sendPail_73 (fun i4 => ?_)
  refine G_iconst (v := (1 : Int32)) dX2_sendPail_76 rfl ?_
  refine G_iadd dX2_sendPail_77 ?_
  refine G_puti (k := 6) K_4 (by decide) rfl rfl rfl gw_225 rfl (Or.inl rfl) nar_int.1 nar_int.2 dX2_sendPail_78 (fun x5 => ?_)
  refine G_aload_n 0 dX2_sendPail_81 rfl rfl ?_
  refine G_dup dX2_sendPail_82 (rf_cat _) ?_
  refine G_geti (k := 16) K_4 (by decide) rfl rfl rfl gw_242 rfl dX2_sendPail_83 (fun i6 => ?_)
  refine G_iconst (v := (1 : Int32)) dX2_sendPail_86 rfl ?_
  refine G_iadd dX2_sendPail_87 ?_
  refine G_puti (k := 16) K_4 (by decide) rfl rfl rfl gw_242 rfl (Or.inl rfl) nar_int.1 nar_int.2 dX2_sendPail_88 (fun x7 => ?_)
  refine G_aload_n 0 dX2_sendPail_91 rfl rfl ?_
  refine G_astore_n (i := 3) (l2 := [(0, va_rf (some o))]) [0] dX2_sendPail_92 rfl (Nat.le_of_ble_eq_true rfl) rfl (sok_a (by decide) (by decide) trivial) ?_
  refine G_lv [0] rfl ?_
  exact g_X2_sendPail_b93 l N z N (some o) x7

set_option maxRecDepth 100000 in
set_option maxHeartbeats 4000000 in
theorem g_X2_sendPail (l : Launch) (N : Nat) (z : Nat → Nat) (o : Nat) (v1 : Int32) (x0 : Hp) : G l z m_X2_sendPail okT enV 0 [(0, va_rf (some o)), (1, .int v1)] [] x0 (f_X2_sendPail N z o v1 x0) := by
  unfold f_X2_sendPail
  refine G_aload_n 0 dX2_sendPail_0 rfl rfl ?_
  refine G_callV (av := []) [] (fun q10 => ct_X2_whoLends l N z q10) K_4 rfl yn_X2_whoLends (Nat.le_of_ble_eq_true rfl) (by decide) gw_721 gw_589 gw_590 gw_46 gw_591 rfl (by decide) dX2_sendPail_1 (fun r9 x8 => ?_)
  refine G_astore_n (i := 2) (l2 := [(0, va_rf (some o)), (1, .int v1)]) [0, 1] dX2_sendPail_4 rfl (Nat.le_of_ble_eq_true rfl) rfl (sok_a (by decide) (by decide) (sok_b (by decide) rfl trivial)) ?_
  refine G_aload_n 0 dX2_sendPail_5 rfl rfl ?_
  refine G_ifnonnull (tgt := 10) dX2_sendPail_6 (by decide) (fun _ => ?_) (fun _ => ?_)
  · exact G_ret trivial dX2_sendPail_9 rfl
  · refine G_aload_n 1 dX2_sendPail_10 rfl rfl ?_
    refine G_dup dX2_sendPail_11 (rf_cat _) ?_
    refine G_geti (k := 9) K_4 (by decide) rfl rfl rfl gw_233 rfl dX2_sendPail_12 (fun i11 => ?_)
    refine G_iload_n 2 dX2_sendPail_15 rfl rfl ?_
    refine G_aload_n 1 dX2_sendPail_16 rfl rfl ?_
    refine G_getr (k := 1) K_4 (by decide) rfl rfl rfl gw_211 rfl dX2_sendPail_17 (fun r12 => ?_)
    refine G_iconst (v := (0 : Int32)) dX2_sendPail_20 rfl ?_
    refine G_callV (av := [.int (0 : Int32)]) [.int v1, .int i11, va_rf (some o)] (fun q15 => ct_X4_at l N z q15 (0 : Int32)) K_6 rfl yn_X4_at (Nat.le_of_ble_eq_true rfl) (by decide) gw_730 gw_576 gw_577 gw_47 gw_578 rfl (by simp only [hw_n, hw_i, hw_r, hw_j, hw_d]; decide) dX2_sendPail_21 (fun i14 x13 => ?_)
    refine G_isub dX2_sendPail_24 ?_
    refine G_iadd dX2_sendPail_25 ?_
    refine G_puti (k := 9) K_4 (by decide) rfl rfl rfl gw_233 rfl (Or.inl rfl) nar_int.1 nar_int.2 dX2_sendPail_26 (fun x16 => ?_)
    refine G_aload_n 1 dX2_sendPail_29 rfl rfl ?_
    refine G_getr (k := 1) K_4 (by decide) rfl rfl rfl gw_211 rfl dX2_sendPail_30 (fun r17 => ?_)
    refine G_callV (av := []) [] (fun q19 => ct_X4_dropFront l N z q19) K_6 rfl yn_X4_dropFront (Nat.le_of_ble_eq_true rfl) (by decide) gw_692 gw_693 gw_694 gw_47 gw_695 rfl (by decide) dX2_sendPail_33 (fun _ x18 => ?_)
    refine G_aload_n 0 dX2_sendPail_36 rfl rfl ?_
    refine G_dup dX2_sendPail_37 (rf_cat _) ?_
    refine G_geti (k := 5) K_4 (by decide) rfl rfl rfl gw_223 rfl dX2_sendPail_38 (fun i20 => ?_)
    refine G_iconst (v := (1 : Int32)) dX2_sendPail_41 rfl ?_
    refine G_isub dX2_sendPail_42 ?_
    refine G_puti (k := 5) K_4 (by decide) rfl rfl rfl gw_223 rfl (Or.inl rfl) nar_int.1 nar_int.2 dX2_sendPail_43 (fun x21 => ?_)
    refine G_aload_n 0 dX2_sendPail_46 rfl rfl ?_
    refine G_aload_n 1 dX2_sendPail_47 rfl rfl ?_
    refine G_acmp_eq (tgt := 71) dX2_sendPail_48 (by decide) (fun _ => ?_) (fun _ => ?_)
    · refine G_lv [1] rfl ?_
      exact g_X2_sendPail_b71 l N z o x21
    · refine G_aload_n 1 dX2_sendPail_51 rfl rfl ?_
      refine G_dup dX2_sendPail_52 (rf_cat _) ?_
      refine G_geti (k := 8) K_4 (by decide) rfl rfl rfl gw_231 rfl dX2_sendPail_53 (fun i22 => ?_)
      refine G_iconst (v := (1 : Int32)) dX2_sendPail_56 rfl ?_
      refine G_iadd dX2_sendPail_57 ?_
      refine G_puti (k := 8) K_4 (by decide) rfl rfl rfl gw_231 rfl (Or.inl rfl) nar_int.1 nar_int.2 dX2_sendPail_58 (fun x23 => ?_)
      refine G_aload_n 0 dX2_sendPail_61 rfl rfl ?_
      refine G_dup dX2_sendPail_62 (rf_cat _) ?_
      refine G_geti (k := 15) K_4 (by decide) rfl rfl rfl gw_241 rfl dX2_sendPail_63 (fun i24 => ?_)
      refine G_iconst (v := (1 : Int32)) dX2_sendPail_66 rfl ?_
      refine G_iadd dX2_sendPail_67 ?_
      refine G_puti (k := 15) K_4 (by decide) rfl rfl rfl gw_241 rfl (Or.inl rfl) nar_int.1 nar_int.2 dX2_sendPail_68 (fun x25 => ?_)
      refine G_lv [1] rfl ?_
      exact g_X2_sendPail_b71 l N z o x25

theorem yn_X2_sendPail : Yn yX2_sendPail 1 := ⟨by decide +kernel, by decide +kernel, by decide +kernel⟩
theorem ct_X2_sendPail (l : Launch) (N : Nat) (z : Nat → Nat) (o : Nat) (v1 : Int32) : Ct l z yX2_sendPail cX2_sendPail 4 none 3 enV [.ref o, .int v1] (f_X2_sendPail N z o v1) :=
  Ct_v (fun x => G_lv0 (by simp only [lva_n, lva_i, lva_o, lva_r, lva_j]) (g_X2_sendPail l N z o v1 x)) (by decide +kernel) (by simp only [lgl_n, lgl_i, lgl_o, lgl_r, lgl_j]; decide)

theorem dX2_fact_0 : decode cX2_fact 0 = .ok (.iload_n 1, 1) := by decide +kernel
theorem dX2_fact_1 : decode cX2_fact 1 = .ok (.tableswitch 140 0 11 #[63, 82, 87, 92, 97, 102, 107, 115, 120, 125, 130, 135], 63) := by decide +kernel
theorem dX2_fact_64 : decode cX2_fact 64 = .ok (.aload_n 0, 1) := by decide +kernel
theorem dX2_fact_65 : decode cX2_fact 65 = .ok (.getfield 22, 3) := by decide +kernel
theorem dX2_fact_68 : decode cX2_fact 68 = .ok (.ifnonnull 7, 3) := by decide +kernel
theorem dX2_fact_71 : decode cX2_fact 71 = .ok (.iconst (-1), 1) := by decide +kernel
theorem dX2_fact_72 : decode cX2_fact 72 = .ok (.goto 10, 3) := by decide +kernel
theorem dX2_fact_75 : decode cX2_fact 75 = .ok (.aload_n 0, 1) := by decide +kernel
theorem dX2_fact_76 : decode cX2_fact 76 = .ok (.getfield 22, 3) := by decide +kernel
theorem dX2_fact_79 : decode cX2_fact 79 = .ok (.getfield 18, 3) := by decide +kernel
theorem dX2_fact_82 : decode cX2_fact 82 = .ok (.ireturn, 1) := by decide +kernel
theorem dX2_fact_83 : decode cX2_fact 83 = .ok (.aload_n 0, 1) := by decide +kernel
theorem dX2_fact_84 : decode cX2_fact 84 = .ok (.getfield 26, 3) := by decide +kernel
theorem dX2_fact_87 : decode cX2_fact 87 = .ok (.ireturn, 1) := by decide +kernel
theorem dX2_fact_88 : decode cX2_fact 88 = .ok (.aload_n 0, 1) := by decide +kernel
theorem dX2_fact_89 : decode cX2_fact 89 = .ok (.getfield 29, 3) := by decide +kernel
theorem dX2_fact_92 : decode cX2_fact 92 = .ok (.ireturn, 1) := by decide +kernel
theorem dX2_fact_93 : decode cX2_fact 93 = .ok (.aload_n 0, 1) := by decide +kernel
theorem dX2_fact_94 : decode cX2_fact 94 = .ok (.getfield 32, 3) := by decide +kernel
theorem dX2_fact_97 : decode cX2_fact 97 = .ok (.ireturn, 1) := by decide +kernel
theorem dX2_fact_98 : decode cX2_fact 98 = .ok (.aload_n 0, 1) := by decide +kernel
theorem dX2_fact_99 : decode cX2_fact 99 = .ok (.getfield 35, 3) := by decide +kernel
theorem dX2_fact_102 : decode cX2_fact 102 = .ok (.ireturn, 1) := by decide +kernel
theorem dX2_fact_103 : decode cX2_fact 103 = .ok (.aload_n 0, 1) := by decide +kernel
theorem dX2_fact_104 : decode cX2_fact 104 = .ok (.getfield 45, 3) := by decide +kernel
theorem dX2_fact_107 : decode cX2_fact 107 = .ok (.ireturn, 1) := by decide +kernel
theorem dX2_fact_108 : decode cX2_fact 108 = .ok (.aload_n 0, 1) := by decide +kernel
theorem dX2_fact_109 : decode cX2_fact 109 = .ok (.getfield 12, 3) := by decide +kernel
theorem dX2_fact_112 : decode cX2_fact 112 = .ok (.getfield 86, 3) := by decide +kernel
theorem dX2_fact_115 : decode cX2_fact 115 = .ok (.ireturn, 1) := by decide +kernel
theorem dX2_fact_116 : decode cX2_fact 116 = .ok (.aload_n 0, 1) := by decide +kernel
theorem dX2_fact_117 : decode cX2_fact 117 = .ok (.getfield 38, 3) := by decide +kernel
theorem dX2_fact_120 : decode cX2_fact 120 = .ok (.ireturn, 1) := by decide +kernel
theorem dX2_fact_121 : decode cX2_fact 121 = .ok (.aload_n 0, 1) := by decide +kernel
theorem dX2_fact_122 : decode cX2_fact 122 = .ok (.getfield 48, 3) := by decide +kernel
theorem dX2_fact_125 : decode cX2_fact 125 = .ok (.ireturn, 1) := by decide +kernel
theorem dX2_fact_126 : decode cX2_fact 126 = .ok (.aload_n 0, 1) := by decide +kernel
theorem dX2_fact_127 : decode cX2_fact 127 = .ok (.getfield 51, 3) := by decide +kernel
theorem dX2_fact_130 : decode cX2_fact 130 = .ok (.ireturn, 1) := by decide +kernel
theorem dX2_fact_131 : decode cX2_fact 131 = .ok (.aload_n 0, 1) := by decide +kernel
theorem dX2_fact_132 : decode cX2_fact 132 = .ok (.getfield 54, 3) := by decide +kernel
theorem dX2_fact_135 : decode cX2_fact 135 = .ok (.ireturn, 1) := by decide +kernel
theorem dX2_fact_136 : decode cX2_fact 136 = .ok (.aload_n 0, 1) := by decide +kernel
theorem dX2_fact_137 : decode cX2_fact 137 = .ok (.getfield 57, 3) := by decide +kernel
theorem dX2_fact_140 : decode cX2_fact 140 = .ok (.ireturn, 1) := by decide +kernel
theorem dX2_fact_141 : decode cX2_fact 141 = .ok (.aload_n 0, 1) := by decide +kernel
theorem dX2_fact_142 : decode cX2_fact 142 = .ok (.getfield 60, 3) := by decide +kernel
theorem dX2_fact_145 : decode cX2_fact 145 = .ok (.ireturn, 1) := by decide +kernel
abbrev m_X2_fact : Mt := (cX2_fact, RX2, "fact", 2, .ireturn, 1)
def f_X2_fact (N : Nat) (z : Nat → Nat) (o : Nat) (v1 : Int32) (x0 : Hp) : Option (Int32 × Hp) :=
  if v1 = (0 : Int32) then (getr (some o) x0 5 82 fun r2 =>
  if r2 = none then (some ((-1 : Int32), x0)) else (getr (some o) x0 5 82 fun r3 =>
  geti r3 x0 5 80 fun i4 =>
  some (i4, x0))) else (if v1 = (1 : Int32) then (geti (some o) x0 5 83 fun i6 =>
  some (i6, x0)) else (if v1 = (2 : Int32) then (geti (some o) x0 5 84 fun i8 =>
  some (i8, x0)) else (if v1 = (3 : Int32) then (geti (some o) x0 5 91 fun i10 =>
  some (i10, x0)) else (if v1 = (4 : Int32) then (geti (some o) x0 5 92 fun i12 =>
  some (i12, x0)) else (if v1 = (5 : Int32) then (geti (some o) x0 5 85 fun i14 =>
  some (i14, x0)) else (if v1 = (6 : Int32) then (getr (some o) x0 5 81 fun r16 =>
  geti r16 x0 7 120 fun i17 =>
  some (i17, x0)) else (if v1 = (7 : Int32) then (geti (some o) x0 5 93 fun i19 =>
  some (i19, x0)) else (if v1 = (8 : Int32) then (geti (some o) x0 5 86 fun i21 =>
  some (i21, x0)) else (if v1 = (9 : Int32) then (geti (some o) x0 5 87 fun i23 =>
  some (i23, x0)) else (if v1 = (10 : Int32) then (geti (some o) x0 5 95 fun i25 =>
  some (i25, x0)) else (if v1 = (11 : Int32) then (geti (some o) x0 5 88 fun i27 =>
  some (i27, x0)) else (geti (some o) x0 5 89 fun i28 =>
  some (i28, x0)))))))))))))
set_option maxRecDepth 100000 in
set_option maxHeartbeats 4000000 in
theorem g_X2_fact (l : Launch) (N : Nat) (z : Nat → Nat) (o : Nat) (v1 : Int32) (x0 : Hp) : G l z m_X2_fact okT enI 0 [(0, va_rf (some o)), (1, .int v1)] [] x0 (f_X2_fact N z o v1 x0) := by
  unfold f_X2_fact
  refine G_iload_n 1 dX2_fact_0 rfl rfl ?_
  refine G_if (fun hs1 => ?_) (fun hs1 => ?_)
  · refine G_tableIn (tgt := 64) dX2_fact_1 (by rw [hs1]; decide) (by rw [hs1]; decide) (by rw [hs1]; rfl) (by decide) ?_
    refine G_aload_n 0 dX2_fact_64 rfl rfl ?_
    refine G_getr (k := 2) K_4 (by decide) rfl rfl rfl gw_214 rfl dX2_fact_65 (fun r2 => ?_)
    refine G_ifnonnull (tgt := 75) dX2_fact_68 (by decide) (fun _ => ?_) (fun _ => ?_)
    · refine G_iconst (v := (-1 : Int32)) dX2_fact_71 rfl ?_
      refine G_goto (tgt := 82) dX2_fact_72 (by decide) ?_
      exact G_ret trivial dX2_fact_82 rfl
    · refine G_aload_n 0 dX2_fact_75 rfl rfl ?_
      refine G_getr (k := 2) K_4 (by decide) rfl rfl rfl gw_214 rfl dX2_fact_76 (fun r3 => ?_)
      refine G_geti (k := 0) K_4 (by decide) rfl rfl rfl gw_207 rfl dX2_fact_79 (fun i4 => ?_)
      exact G_ret trivial dX2_fact_82 rfl
  refine G_if (fun hs5 => ?_) (fun hs5 => ?_)
  · refine G_tableIn (tgt := 83) dX2_fact_1 (by rw [hs5]; decide) (by rw [hs5]; decide) (by rw [hs5]; rfl) (by decide) ?_
    refine G_aload_n 0 dX2_fact_83 rfl rfl ?_
    refine G_geti (k := 3) K_4 (by decide) rfl rfl rfl gw_217 rfl dX2_fact_84 (fun i6 => ?_)
    exact G_ret trivial dX2_fact_87 rfl
  refine G_if (fun hs7 => ?_) (fun hs7 => ?_)
  · refine G_tableIn (tgt := 88) dX2_fact_1 (by rw [hs7]; decide) (by rw [hs7]; decide) (by rw [hs7]; rfl) (by decide) ?_
    refine G_aload_n 0 dX2_fact_88 rfl rfl ?_
    refine G_geti (k := 4) K_4 (by decide) rfl rfl rfl gw_220 rfl dX2_fact_89 (fun i8 => ?_)
    exact G_ret trivial dX2_fact_92 rfl
  refine G_if (fun hs9 => ?_) (fun hs9 => ?_)
  · refine G_tableIn (tgt := 93) dX2_fact_1 (by rw [hs9]; decide) (by rw [hs9]; decide) (by rw [hs9]; rfl) (by decide) ?_
    refine G_aload_n 0 dX2_fact_93 rfl rfl ?_
    refine G_geti (k := 11) K_4 (by decide) rfl rfl rfl gw_237 rfl dX2_fact_94 (fun i10 => ?_)
    exact G_ret trivial dX2_fact_97 rfl
  refine G_if (fun hs11 => ?_) (fun hs11 => ?_)
  · refine G_tableIn (tgt := 98) dX2_fact_1 (by rw [hs11]; decide) (by rw [hs11]; decide) (by rw [hs11]; rfl) (by decide) ?_
    refine G_aload_n 0 dX2_fact_98 rfl rfl ?_
    refine G_geti (k := 12) K_4 (by decide) rfl rfl rfl gw_238 rfl dX2_fact_99 (fun i12 => ?_)
    exact G_ret trivial dX2_fact_102 rfl
  refine G_if (fun hs13 => ?_) (fun hs13 => ?_)
  · refine G_tableIn (tgt := 103) dX2_fact_1 (by rw [hs13]; decide) (by rw [hs13]; decide) (by rw [hs13]; rfl) (by decide) ?_
    refine G_aload_n 0 dX2_fact_103 rfl rfl ?_
    refine G_geti (k := 5) K_4 (by decide) rfl rfl rfl gw_223 rfl dX2_fact_104 (fun i14 => ?_)
    exact G_ret trivial dX2_fact_107 rfl
  refine G_if (fun hs15 => ?_) (fun hs15 => ?_)
  · refine G_tableIn (tgt := 108) dX2_fact_1 (by rw [hs15]; decide) (by rw [hs15]; decide) (by rw [hs15]; rfl) (by decide) ?_
    refine G_aload_n 0 dX2_fact_108 rfl rfl ?_
    refine G_getr (k := 1) K_4 (by decide) rfl rfl rfl gw_211 rfl dX2_fact_109 (fun r16 => ?_)
    refine G_geti (k := 0) K_6 (by decide) rfl rfl rfl gw_195 rfl dX2_fact_112 (fun i17 => ?_)
    exact G_ret trivial dX2_fact_115 rfl
  refine G_if (fun hs18 => ?_) (fun hs18 => ?_)
  · refine G_tableIn (tgt := 116) dX2_fact_1 (by rw [hs18]; decide) (by rw [hs18]; decide) (by rw [hs18]; rfl) (by decide) ?_
    refine G_aload_n 0 dX2_fact_116 rfl rfl ?_
    refine G_geti (k := 13) K_4 (by decide) rfl rfl rfl gw_239 rfl dX2_fact_117 (fun i19 => ?_)
    exact G_ret trivial dX2_fact_120 rfl
  refine G_if (fun hs20 => ?_) (fun hs20 => ?_)
  · refine G_tableIn (tgt := 121) dX2_fact_1 (by rw [hs20]; decide) (by rw [hs20]; decide) (by rw [hs20]; rfl) (by decide) ?_
    refine G_aload_n 0 dX2_fact_121 rfl rfl ?_
    refine G_geti (k := 6) K_4 (by decide) rfl rfl rfl gw_225 rfl dX2_fact_122 (fun i21 => ?_)
    exact G_ret trivial dX2_fact_125 rfl
  refine G_if (fun hs22 => ?_) (fun hs22 => ?_)
  · refine G_tableIn (tgt := 126) dX2_fact_1 (by rw [hs22]; decide) (by rw [hs22]; decide) (by rw [hs22]; rfl) (by decide) ?_
    refine G_aload_n 0 dX2_fact_126 rfl rfl ?_
    refine G_geti (k := 7) K_4 (by decide) rfl rfl rfl gw_228 rfl dX2_fact_127 (fun i23 => ?_)
    exact G_ret trivial dX2_fact_130 rfl
  refine G_if (fun hs24 => ?_) (fun hs24 => ?_)
  · refine G_tableIn (tgt := 131) dX2_fact_1 (by rw [hs24]; decide) (by rw [hs24]; decide) (by rw [hs24]; rfl) (by decide) ?_
    refine G_aload_n 0 dX2_fact_131 rfl rfl ?_
    refine G_geti (k := 15) K_4 (by decide) rfl rfl rfl gw_241 rfl dX2_fact_132 (fun i25 => ?_)
    exact G_ret trivial dX2_fact_135 rfl
  refine G_if (fun hs26 => ?_) (fun hs26 => ?_)
  · refine G_tableIn (tgt := 136) dX2_fact_1 (by rw [hs26]; decide) (by rw [hs26]; decide) (by rw [hs26]; rfl) (by decide) ?_
    refine G_aload_n 0 dX2_fact_136 rfl rfl ?_
    refine G_geti (k := 8) K_4 (by decide) rfl rfl rfl gw_231 rfl dX2_fact_137 (fun i27 => ?_)
    exact G_ret trivial dX2_fact_140 rfl
  refine G_tableOut (tgt := 141) dX2_fact_1 (by have q0 := i32_ne hs1; rw [show (0 : Int32).toInt = 0 from by decide] at q0; have q1 := i32_ne hs5; rw [show (1 : Int32).toInt = 1 from by decide] at q1; have q2 := i32_ne hs7; rw [show (2 : Int32).toInt = 2 from by decide] at q2; have q3 := i32_ne hs9; rw [show (3 : Int32).toInt = 3 from by decide] at q3; have q4 := i32_ne hs11; rw [show (4 : Int32).toInt = 4 from by decide] at q4; have q5 := i32_ne hs13; rw [show (5 : Int32).toInt = 5 from by decide] at q5; have q6 := i32_ne hs15; rw [show (6 : Int32).toInt = 6 from by decide] at q6; have q7 := i32_ne hs18; rw [show (7 : Int32).toInt = 7 from by decide] at q7; have q8 := i32_ne hs20; rw [show (8 : Int32).toInt = 8 from by decide] at q8; have q9 := i32_ne hs22; rw [show (9 : Int32).toInt = 9 from by decide] at q9; have q10 := i32_ne hs24; rw [show (10 : Int32).toInt = 10 from by decide] at q10; have q11 := i32_ne hs26; rw [show (11 : Int32).toInt = 11 from by decide] at q11; omega) (by decide) ?_
  refine G_aload_n 0 dX2_fact_141 rfl rfl ?_
  refine G_geti (k := 9) K_4 (by decide) rfl rfl rfl gw_233 rfl dX2_fact_142 (fun i28 => ?_)
  exact G_ret trivial dX2_fact_145 rfl

theorem yn_X2_fact : Yn yX2_fact 1 := ⟨by decide +kernel, by decide +kernel, by decide +kernel⟩
theorem ct_X2_fact (l : Launch) (N : Nat) (z : Nat → Nat) (o : Nat) (v1 : Int32) : Ct l z yX2_fact cX2_fact 2 (some .int) 1 enI [.ref o, .int v1] (f_X2_fact N z o v1) :=
  Ct_i (fun x => G_lv0 (by simp only [lva_n, lva_i, lva_o, lva_r, lva_j]) (g_X2_fact l N z o v1 x)) (by decide +kernel) (by simp only [lgl_n, lgl_i, lgl_o, lgl_r, lgl_j]; decide)

theorem dX2_known_0 : decode cX2_known 0 = .ok (.iload_n 1, 1) := by decide +kernel
theorem dX2_known_1 : decode cX2_known 1 = .ok (.tableswitch 80 22 27 #[39, 44, 52, 57, 62, 67], 39) := by decide +kernel
theorem dX2_known_40 : decode cX2_known 40 = .ok (.aload_n 0, 1) := by decide +kernel
theorem dX2_known_41 : decode cX2_known 41 = .ok (.getfield 45, 3) := by decide +kernel
theorem dX2_known_44 : decode cX2_known 44 = .ok (.ireturn, 1) := by decide +kernel
theorem dX2_known_45 : decode cX2_known 45 = .ok (.aload_n 0, 1) := by decide +kernel
theorem dX2_known_46 : decode cX2_known 46 = .ok (.getfield 12, 3) := by decide +kernel
theorem dX2_known_49 : decode cX2_known 49 = .ok (.getfield 86, 3) := by decide +kernel
theorem dX2_known_52 : decode cX2_known 52 = .ok (.ireturn, 1) := by decide +kernel
theorem dX2_known_53 : decode cX2_known 53 = .ok (.aload_n 0, 1) := by decide +kernel
theorem dX2_known_54 : decode cX2_known 54 = .ok (.getfield 48, 3) := by decide +kernel
theorem dX2_known_57 : decode cX2_known 57 = .ok (.ireturn, 1) := by decide +kernel
theorem dX2_known_58 : decode cX2_known 58 = .ok (.aload_n 0, 1) := by decide +kernel
theorem dX2_known_59 : decode cX2_known 59 = .ok (.getfield 51, 3) := by decide +kernel
theorem dX2_known_62 : decode cX2_known 62 = .ok (.ireturn, 1) := by decide +kernel
theorem dX2_known_63 : decode cX2_known 63 = .ok (.aload_n 0, 1) := by decide +kernel
theorem dX2_known_64 : decode cX2_known 64 = .ok (.getfield 54, 3) := by decide +kernel
theorem dX2_known_67 : decode cX2_known 67 = .ok (.ireturn, 1) := by decide +kernel
theorem dX2_known_68 : decode cX2_known 68 = .ok (.aload_n 0, 1) := by decide +kernel
theorem dX2_known_69 : decode cX2_known 69 = .ok (.invokevirtual 89, 3) := by decide +kernel
theorem dX2_known_72 : decode cX2_known 72 = .ok (.ifCond .eq 7, 3) := by decide +kernel
theorem dX2_known_75 : decode cX2_known 75 = .ok (.iconst 1, 1) := by decide +kernel
theorem dX2_known_76 : decode cX2_known 76 = .ok (.goto 4, 3) := by decide +kernel
theorem dX2_known_79 : decode cX2_known 79 = .ok (.iconst 0, 1) := by decide +kernel
theorem dX2_known_80 : decode cX2_known 80 = .ok (.ireturn, 1) := by decide +kernel
theorem dX2_known_81 : decode cX2_known 81 = .ok (.aload_n 0, 1) := by decide +kernel
theorem dX2_known_82 : decode cX2_known 82 = .ok (.getfield 45, 3) := by decide +kernel
theorem dX2_known_85 : decode cX2_known 85 = .ok (.ifCond .ne 7, 3) := by decide +kernel
theorem dX2_known_88 : decode cX2_known 88 = .ok (.iconst 1, 1) := by decide +kernel
theorem dX2_known_89 : decode cX2_known 89 = .ok (.goto 4, 3) := by decide +kernel
theorem dX2_known_92 : decode cX2_known 92 = .ok (.iconst 0, 1) := by decide +kernel
theorem dX2_known_93 : decode cX2_known 93 = .ok (.ireturn, 1) := by decide +kernel
abbrev m_X2_known : Mt := (cX2_known, RX2, "known", 2, .ireturn, 2)
def f_X2_known (N : Nat) (z : Nat → Nat) (o : Nat) (v1 : Int32) (x0 : Hp) : Option (Int32 × Hp) :=
  if v1 = (22 : Int32) then (geti (some o) x0 5 85 fun i2 =>
  some (i2, x0)) else (if v1 = (23 : Int32) then (getr (some o) x0 5 81 fun r4 =>
  geti r4 x0 7 120 fun i5 =>
  some (i5, x0)) else (if v1 = (24 : Int32) then (geti (some o) x0 5 86 fun i7 =>
  some (i7, x0)) else (if v1 = (25 : Int32) then (geti (some o) x0 5 87 fun i9 =>
  some (i9, x0)) else (if v1 = (26 : Int32) then (geti (some o) x0 5 95 fun i11 =>
  some (i11, x0)) else (if v1 = (27 : Int32) then (obj (some o) x0 5 fun q15 => bnd (f_X2_isFull N z q15 x0) fun i14 x13 =>
  if i14 = 0 then (some ((0 : Int32), x13)) else (some ((1 : Int32), x13))) else (geti (some o) x0 5 85 fun i16 =>
  if i16 = 0 then (some ((1 : Int32), x0)) else (some ((0 : Int32), x0))))))))
set_option maxRecDepth 100000 in
set_option maxHeartbeats 4000000 in
theorem g_X2_known (l : Launch) (N : Nat) (z : Nat → Nat) (o : Nat) (v1 : Int32) (x0 : Hp) : G l z m_X2_known okT enI 0 [(0, va_rf (some o)), (1, .int v1)] [] x0 (f_X2_known N z o v1 x0) := by
  unfold f_X2_known
  refine G_iload_n 1 dX2_known_0 rfl rfl ?_
  refine G_if (fun hs1 => ?_) (fun hs1 => ?_)
  · refine G_tableIn (tgt := 40) dX2_known_1 (by rw [hs1]; decide) (by rw [hs1]; decide) (by rw [hs1]; rfl) (by decide) ?_
    refine G_aload_n 0 dX2_known_40 rfl rfl ?_
    refine G_geti (k := 5) K_4 (by decide) rfl rfl rfl gw_223 rfl dX2_known_41 (fun i2 => ?_)
    exact G_ret trivial dX2_known_44 rfl
  refine G_if (fun hs3 => ?_) (fun hs3 => ?_)
  · refine G_tableIn (tgt := 45) dX2_known_1 (by rw [hs3]; decide) (by rw [hs3]; decide) (by rw [hs3]; rfl) (by decide) ?_
    refine G_aload_n 0 dX2_known_45 rfl rfl ?_
    refine G_getr (k := 1) K_4 (by decide) rfl rfl rfl gw_211 rfl dX2_known_46 (fun r4 => ?_)
    refine G_geti (k := 0) K_6 (by decide) rfl rfl rfl gw_195 rfl dX2_known_49 (fun i5 => ?_)
    exact G_ret trivial dX2_known_52 rfl
  refine G_if (fun hs6 => ?_) (fun hs6 => ?_)
  · refine G_tableIn (tgt := 53) dX2_known_1 (by rw [hs6]; decide) (by rw [hs6]; decide) (by rw [hs6]; rfl) (by decide) ?_
    refine G_aload_n 0 dX2_known_53 rfl rfl ?_
    refine G_geti (k := 6) K_4 (by decide) rfl rfl rfl gw_225 rfl dX2_known_54 (fun i7 => ?_)
    exact G_ret trivial dX2_known_57 rfl
  refine G_if (fun hs8 => ?_) (fun hs8 => ?_)
  · refine G_tableIn (tgt := 58) dX2_known_1 (by rw [hs8]; decide) (by rw [hs8]; decide) (by rw [hs8]; rfl) (by decide) ?_
    refine G_aload_n 0 dX2_known_58 rfl rfl ?_
    refine G_geti (k := 7) K_4 (by decide) rfl rfl rfl gw_228 rfl dX2_known_59 (fun i9 => ?_)
    exact G_ret trivial dX2_known_62 rfl
  refine G_if (fun hs10 => ?_) (fun hs10 => ?_)
  · refine G_tableIn (tgt := 63) dX2_known_1 (by rw [hs10]; decide) (by rw [hs10]; decide) (by rw [hs10]; rfl) (by decide) ?_
    refine G_aload_n 0 dX2_known_63 rfl rfl ?_
    refine G_geti (k := 15) K_4 (by decide) rfl rfl rfl gw_241 rfl dX2_known_64 (fun i11 => ?_)
    exact G_ret trivial dX2_known_67 rfl
  refine G_if (fun hs12 => ?_) (fun hs12 => ?_)
  · refine G_tableIn (tgt := 68) dX2_known_1 (by rw [hs12]; decide) (by rw [hs12]; decide) (by rw [hs12]; rfl) (by decide) ?_
    refine G_aload_n 0 dX2_known_68 rfl rfl ?_
    refine G_callV (av := []) [] (fun q15 => ct_X2_isFull l N z q15) K_4 rfl yn_X2_isFull (Nat.le_of_ble_eq_true rfl) (by decide) gw_662 gw_663 gw_664 gw_46 gw_665 rfl (by decide) dX2_known_69 (fun i14 x13 => ?_)
    refine G_if_eq (tgt := 79) dX2_known_72 (by decide) (fun _ => ?_) (fun _ => ?_)
    · refine G_iconst (v := (0 : Int32)) dX2_known_79 rfl ?_
      exact G_ret trivial dX2_known_80 rfl
    · refine G_iconst (v := (1 : Int32)) dX2_known_75 rfl ?_
      refine G_goto (tgt := 80) dX2_known_76 (by decide) ?_
      exact G_ret trivial dX2_known_80 rfl
  refine G_tableOut (tgt := 81) dX2_known_1 (by have q0 := i32_ne hs1; rw [show (22 : Int32).toInt = 22 from by decide] at q0; have q1 := i32_ne hs3; rw [show (23 : Int32).toInt = 23 from by decide] at q1; have q2 := i32_ne hs6; rw [show (24 : Int32).toInt = 24 from by decide] at q2; have q3 := i32_ne hs8; rw [show (25 : Int32).toInt = 25 from by decide] at q3; have q4 := i32_ne hs10; rw [show (26 : Int32).toInt = 26 from by decide] at q4; have q5 := i32_ne hs12; rw [show (27 : Int32).toInt = 27 from by decide] at q5; omega) (by decide) ?_
  refine G_aload_n 0 dX2_known_81 rfl rfl ?_
  refine G_geti (k := 5) K_4 (by decide) rfl rfl rfl gw_223 rfl dX2_known_82 (fun i16 => ?_)
  refine G_if_ne (tgt := 92) dX2_known_85 (by decide) (fun _ => ?_) (fun _ => ?_)
  · refine G_iconst (v := (1 : Int32)) dX2_known_88 rfl ?_
    refine G_goto (tgt := 93) dX2_known_89 (by decide) ?_
    exact G_ret trivial dX2_known_93 rfl
  · refine G_iconst (v := (0 : Int32)) dX2_known_92 rfl ?_
    exact G_ret trivial dX2_known_93 rfl

theorem yn_X2_known : Yn yX2_known 1 := ⟨by decide +kernel, by decide +kernel, by decide +kernel⟩
theorem ct_X2_known (l : Launch) (N : Nat) (z : Nat → Nat) (o : Nat) (v1 : Int32) : Ct l z yX2_known cX2_known 2 (some .int) 2 enI [.ref o, .int v1] (f_X2_known N z o v1) :=
  Ct_i (fun x => G_lv0 (by simp only [lva_n, lva_i, lva_o, lva_r, lva_j]) (g_X2_known l N z o v1 x)) (by decide +kernel) (by simp only [lgl_n, lgl_i, lgl_o, lgl_r, lgl_j]; decide)
