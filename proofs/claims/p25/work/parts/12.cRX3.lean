theorem dX3_init_0 : decode cX3_init 0 = .ok (.aload_n 0, 1) := by decide +kernel
theorem dX3_init_1 : decode cX3_init 1 = .ok (.invokespecial 1, 3) := by decide +kernel
theorem dX3_init_4 : decode cX3_init 4 = .ok (.return_, 1) := by decide +kernel
abbrev m_X3_init : Mt := (cX3_init, RX3, "<init>", 1, .return_, 2)
def f_X3_init (N : Nat) (z : Nat → Nat) (o : Nat) (x0 : Hp) : Option (Unit × Hp) :=
  nn (some o) fun _ =>
  some ((), x0)
set_option maxRecDepth 100000 in
set_option maxHeartbeats 4000000 in
theorem g_X3_init (l : Launch) (N : Nat) (z : Nat → Nat) (o : Nat) (x0 : Hp) : G l z m_X3_init okT enV 0 [(0, va_rf (some o))] [] x0 (f_X3_init N z o x0) := by
  unfold f_X3_init
  refine G_aload_n 0 dX3_init_0 rfl rfl ?_
  refine G_objInit (st := []) gw_113 gw_75 gw_76 (by decide) (by decide) dX3_init_1 (fun _ => ?_)
  exact G_ret trivial dX3_init_4 rfl

theorem yn_X3_init : Yn yX3_init 0 := ⟨by decide +kernel, by decide +kernel, by decide +kernel⟩
theorem ct_X3_init (l : Launch) (N : Nat) (z : Nat → Nat) (o : Nat) : Ct l z yX3_init cX3_init 1 none 2 enV [.ref o] (f_X3_init N z o) :=
  Ct_v (fun x => G_lv0 (by simp only [lva_n, lva_i, lva_o, lva_r, lva_j]) (g_X3_init l N z o x)) (by decide +kernel) (by simp only [lgl_n, lgl_i, lgl_o, lgl_r, lgl_j]; decide)

theorem dX3_tell_0 : decode cX3_tell 0 = .ok (.aload_n 0, 1) := by decide +kernel
theorem dX3_tell_1 : decode cX3_tell 1 = .ok (.iload_n 1, 1) := by decide +kernel
theorem dX3_tell_2 : decode cX3_tell 2 = .ok (.putfield 7, 3) := by decide +kernel
theorem dX3_tell_5 : decode cX3_tell 5 = .ok (.aload_n 0, 1) := by decide +kernel
theorem dX3_tell_6 : decode cX3_tell 6 = .ok (.iload_n 2, 1) := by decide +kernel
theorem dX3_tell_7 : decode cX3_tell 7 = .ok (.putfield 13, 3) := by decide +kernel
theorem dX3_tell_10 : decode cX3_tell 10 = .ok (.aload_n 0, 1) := by decide +kernel
theorem dX3_tell_11 : decode cX3_tell 11 = .ok (.iload_n 3, 1) := by decide +kernel
theorem dX3_tell_12 : decode cX3_tell 12 = .ok (.putfield 16, 3) := by decide +kernel
theorem dX3_tell_15 : decode cX3_tell 15 = .ok (.aload_n 0, 1) := by decide +kernel
theorem dX3_tell_16 : decode cX3_tell 16 = .ok (.iload 4, 2) := by decide +kernel
theorem dX3_tell_18 : decode cX3_tell 18 = .ok (.putfield 19, 3) := by decide +kernel
theorem dX3_tell_21 : decode cX3_tell 21 = .ok (.aload_n 0, 1) := by decide +kernel
theorem dX3_tell_22 : decode cX3_tell 22 = .ok (.iload 5, 2) := by decide +kernel
theorem dX3_tell_24 : decode cX3_tell 24 = .ok (.putfield 22, 3) := by decide +kernel
theorem dX3_tell_27 : decode cX3_tell 27 = .ok (.return_, 1) := by decide +kernel
abbrev m_X3_tell : Mt := (cX3_tell, RX3, "tell", 6, .return_, 1)
def f_X3_tell (N : Nat) (z : Nat → Nat) (o : Nat) (v1 : Int32) (v2 : Int32) (v3 : Int32) (v4 : Int32) (v5 : Int32) (x0 : Hp) : Option (Unit × Hp) :=
  puti (some o) x0 6 100 v1 fun x1 =>
  puti (some o) x1 6 101 v2 fun x2 =>
  puti (some o) x2 6 102 v3 fun x3 =>
  puti (some o) x3 6 103 v4 fun x4 =>
  puti (some o) x4 6 104 v5 fun x5 =>
  some ((), x5)
set_option maxRecDepth 100000 in
set_option maxHeartbeats 4000000 in
theorem g_X3_tell (l : Launch) (N : Nat) (z : Nat → Nat) (o : Nat) (v1 : Int32) (v2 : Int32) (v3 : Int32) (v4 : Int32) (v5 : Int32) (x0 : Hp) : G l z m_X3_tell okT enV 0 [(0, va_rf (some o)), (1, .int v1), (2, .int v2), (3, .int v3), (4, .int v4), (5, .int v5)] [] x0 (f_X3_tell N z o v1 v2 v3 v4 v5 x0) := by
  unfold f_X3_tell
  refine G_aload_n 0 dX3_tell_0 rfl rfl ?_
  refine G_iload_n 1 dX3_tell_1 rfl rfl ?_
  refine G_puti (k := 0) K_5 (by decide) rfl rfl rfl gw_114 rfl (Or.inl rfl) nar_int.1 nar_int.2 dX3_tell_2 (fun x1 => ?_)
  refine G_aload_n 0 dX3_tell_5 rfl rfl ?_
  refine G_iload_n 2 dX3_tell_6 rfl rfl ?_
  refine G_puti (k := 1) K_5 (by decide) rfl rfl rfl gw_117 rfl (Or.inl rfl) nar_int.1 nar_int.2 dX3_tell_7 (fun x2 => ?_)
  refine G_aload_n 0 dX3_tell_10 rfl rfl ?_
  refine G_iload_n 3 dX3_tell_11 rfl rfl ?_
  refine G_puti (k := 2) K_5 (by decide) rfl rfl rfl gw_120 rfl (Or.inl rfl) nar_int.1 nar_int.2 dX3_tell_12 (fun x3 => ?_)
  refine G_aload_n 0 dX3_tell_15 rfl rfl ?_
  refine G_iload 4 dX3_tell_16 rfl ?_
  refine G_puti (k := 3) K_5 (by decide) rfl rfl rfl gw_123 rfl (Or.inl rfl) nar_int.1 nar_int.2 dX3_tell_18 (fun x4 => ?_)
  refine G_aload_n 0 dX3_tell_21 rfl rfl ?_
  refine G_iload 5 dX3_tell_22 rfl ?_
  refine G_puti (k := 4) K_5 (by decide) rfl rfl rfl gw_126 rfl (Or.inl rfl) nar_int.1 nar_int.2 dX3_tell_24 (fun x5 => ?_)
  exact G_ret trivial dX3_tell_27 rfl

theorem yn_X3_tell : Yn yX3_tell 5 := ⟨by decide +kernel, by decide +kernel, by decide +kernel⟩
theorem ct_X3_tell (l : Launch) (N : Nat) (z : Nat → Nat) (o : Nat) (v1 : Int32) (v2 : Int32) (v3 : Int32) (v4 : Int32) (v5 : Int32) : Ct l z yX3_tell cX3_tell 6 none 1 enV [.ref o, .int v1, .int v2, .int v3, .int v4, .int v5] (f_X3_tell N z o v1 v2 v3 v4 v5) :=
  Ct_v (fun x => G_lv0 (by simp only [lva_n, lva_i, lva_o, lva_r, lva_j]) (g_X3_tell l N z o v1 v2 v3 v4 v5 x)) (by decide +kernel) (by simp only [lgl_n, lgl_i, lgl_o, lgl_r, lgl_j]; decide)
