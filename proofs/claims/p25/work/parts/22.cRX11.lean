theorem dX11_init_0 : decode cX11_init 0 = .ok (.aload_n 0, 1) := by decide +kernel
theorem dX11_init_1 : decode cX11_init 1 = .ok (.invokespecial 1, 3) := by decide +kernel
theorem dX11_init_4 : decode cX11_init 4 = .ok (.aload_n 0, 1) := by decide +kernel
theorem dX11_init_5 : decode cX11_init 5 = .ok (.bipush 60, 2) := by decide +kernel
theorem dX11_init_7 : decode cX11_init 7 = .ok (.newarray .int, 2) := by decide +kernel
theorem dX11_init_9 : decode cX11_init 9 = .ok (.putfield 7, 3) := by decide +kernel
theorem dX11_init_12 : decode cX11_init 12 = .ok (.return_, 1) := by decide +kernel
abbrev m_X11_init : Mt := (cX11_init, RX11, "<init>", 1, .return_, 2)
def f_X11_init (N : Nat) (z : Nat → Nat) (o : Nat) (x0 : Hp) : Option (Unit × Hp) :=
  nn (some o) fun _ =>
  newa x0 101 (60 : Int32) fun r2 x3 =>
  putr (some o) x3 14 269 r2 fun x4 =>
  some ((), x4)
set_option maxRecDepth 100000 in
set_option maxHeartbeats 4000000 in
theorem g_X11_init (l : Launch) (N : Nat) (z : Nat → Nat) (o : Nat) (x0 : Hp) : G l z m_X11_init okT enV 0 [(0, va_rf (some o))] [] x0 (f_X11_init N z o x0) := by
  unfold f_X11_init
  refine G_aload_n 0 dX11_init_0 rfl rfl ?_
  refine G_objInit (st := []) gw_1381 gw_75 gw_76 (by decide) (by decide) dX11_init_1 (fun _ => ?_)
  refine G_aload_n 0 dX11_init_4 rfl rfl ?_
  refine G_bipush (v := (60 : Int32)) dX11_init_5 (by decide) ?_
  refine G_newa (t := 1) rfl (Or.inr (Or.inl ⟨rfl, rfl⟩)) gw_140 dX11_init_7 (fun r2 x3 => ?_)
  refine G_putr (k := 9) K_13 (by decide) rfl rfl rfl gw_1404 rfl (Or.inr ⟨rfl, rfl, rfl⟩) nar_arr.1 nar_arr.2 dX11_init_9 (fun x4 => ?_)
  exact G_ret trivial dX11_init_12 rfl

theorem yn_X11_init : Yn yX11_init 0 := ⟨by decide +kernel, by decide +kernel, by decide +kernel⟩
theorem ct_X11_init (l : Launch) (N : Nat) (z : Nat → Nat) (o : Nat) : Ct l z yX11_init cX11_init 1 none 2 enV [.ref o] (f_X11_init N z o) :=
  Ct_v (fun x => G_lv0 (by simp only [lva_n, lva_i, lva_o, lva_r, lva_j]) (g_X11_init l N z o x)) (by decide +kernel) (by simp only [lgl_n, lgl_i, lgl_o, lgl_r, lgl_j]; decide)

theorem dX11_lender_0 : decode cX11_lender 0 = .ok (.aload_n 0, 1) := by decide +kernel
theorem dX11_lender_1 : decode cX11_lender 1 = .ok (.astore_n 1, 1) := by decide +kernel
theorem dX11_lender_2 : decode cX11_lender 2 = .ok (.aload_n 1, 1) := by decide +kernel
theorem dX11_lender_3 : decode cX11_lender 3 = .ok (.ifnull 26, 3) := by decide +kernel
theorem dX11_lender_6 : decode cX11_lender 6 = .ok (.aload_n 1, 1) := by decide +kernel
theorem dX11_lender_7 : decode cX11_lender 7 = .ok (.getfield 35, 3) := by decide +kernel
theorem dX11_lender_10 : decode cX11_lender 10 = .ok (.iconst 1, 1) := by decide +kernel
theorem dX11_lender_11 : decode cX11_lender 11 = .ok (.if_icmp .lt 10, 3) := by decide +kernel
theorem dX11_lender_14 : decode cX11_lender 14 = .ok (.aload_n 1, 1) := by decide +kernel
theorem dX11_lender_15 : decode cX11_lender 15 = .ok (.getfield 27, 3) := by decide +kernel
theorem dX11_lender_18 : decode cX11_lender 18 = .ok (.ifCond .eq 11, 3) := by decide +kernel
theorem dX11_lender_21 : decode cX11_lender 21 = .ok (.aload_n 1, 1) := by decide +kernel
theorem dX11_lender_22 : decode cX11_lender 22 = .ok (.getfield 20, 3) := by decide +kernel
theorem dX11_lender_25 : decode cX11_lender 25 = .ok (.astore_n 1, 1) := by decide +kernel
theorem dX11_lender_26 : decode cX11_lender 26 = .ok (.goto (-24), 3) := by decide +kernel
theorem dX11_lender_29 : decode cX11_lender 29 = .ok (.aload_n 1, 1) := by decide +kernel
theorem dX11_lender_30 : decode cX11_lender 30 = .ok (.areturn, 1) := by decide +kernel
abbrev m_X11_lender : Mt := (cX11_lender, RX11, "lender", 2, .areturn, 1)
def f_X11_lender_b21 (N : Nat) (z : Nat → Nat) (k2 : Option Nat → Hp → Option (Option Nat × Hp)) (v1 : Option Nat) (x0 : Hp) : Option (Option Nat × Hp) :=
  getr v1 x0 14 260 fun r1 =>
  k2 r1 x0
def f_X11_lender_b2 (N : Nat) (z : Nat → Nat) : Nat → Option Nat → Hp → Option (Option Nat × Hp)
  | 0, _, _ => none
  | n + 1, v1, x0 => if v1 = none then (some (v1, x0)) else (geti v1 x0 14 266 fun i2 =>
  if i2 < (1 : Int32) then (f_X11_lender_b21 N z (f_X11_lender_b2 N z n) v1 x0) else (geti v1 x0 14 276 fun i3 =>
  if i3 = 0 then (some (v1, x0)) else (f_X11_lender_b21 N z (f_X11_lender_b2 N z n) v1 x0)))
def f_X11_lender (N : Nat) (z : Nat → Nat) (o : Nat) (x0 : Hp) : Option (Option Nat × Hp) :=
  f_X11_lender_b2 N z N (some o) x0
set_option maxRecDepth 100000 in
set_option maxHeartbeats 4000000 in
theorem g_X11_lender_b21 (l : Launch) (N : Nat) (z : Nat → Nat) {k2 : Option Nat → Hp → Option (Option Nat × Hp)} (hk2 : ∀ v1 x, G l z m_X11_lender okT enR 2 [(1, va_rf v1)] [] x (k2 v1 x)) (v1 : Option Nat) (x0 : Hp) : G l z m_X11_lender okT enR 21 [(1, va_rf v1)] [] x0 (f_X11_lender_b21 N z k2 v1 x0) := by
  unfold f_X11_lender_b21
  refine G_aload_n 0 dX11_lender_21 rfl rfl ?_
  refine G_getr (k := 0) K_13 (by decide) rfl rfl rfl gw_1382 rfl dX11_lender_22 (fun r1 => ?_)
  refine G_astore_n (i := 1) (l2 := []) [] dX11_lender_25 rfl (Nat.le_of_ble_eq_true rfl) rfl trivial ?_
  refine G_goto (tgt := 2) dX11_lender_26 (by decide) ?_
  refine G_lv [0] rfl ?_
  exact hk2 r1 x0

set_option maxRecDepth 100000 in
set_option maxHeartbeats 4000000 in
theorem g_X11_lender_b2 (l : Launch) (N : Nat) (z : Nat → Nat) : ∀ (n : Nat) (v1 : Option Nat) (x0 : Hp), G l z m_X11_lender okT enR 2 [(1, va_rf v1)] [] x0 (f_X11_lender_b2 N z n v1 x0) := by
  intro n
  induction n with
  | zero => intro v1 x0; exact G_none
  | succ n ih =>
  intro v1 x0
  rw [f_X11_lender_b2]
  refine G_aload_n 0 dX11_lender_2 rfl rfl ?_
  refine G_ifnull (tgt := 29) dX11_lender_3 (by decide) (fun _ => ?_) (fun _ => ?_)
  · refine G_aload_n 0 dX11_lender_29 rfl rfl ?_
    exact G_ret trivial dX11_lender_30 rfl
  · refine G_aload_n 0 dX11_lender_6 rfl rfl ?_
    refine G_geti (k := 6) K_13 (by decide) rfl rfl rfl gw_1397 rfl dX11_lender_7 (fun i2 => ?_)
    refine G_iconst (v := (1 : Int32)) dX11_lender_10 rfl ?_
    refine G_icmp_lt (tgt := 21) dX11_lender_11 (by decide) (fun _ => ?_) (fun _ => ?_)
    · refine G_lv [0] rfl ?_
      exact g_X11_lender_b21 l N z ih v1 x0
    · refine G_aload_n 0 dX11_lender_14 rfl rfl ?_
      refine G_geti (k := 16) K_13 (by decide) rfl rfl rfl gw_1413 rfl dX11_lender_15 (fun i3 => ?_)
      refine G_if_eq (tgt := 29) dX11_lender_18 (by decide) (fun _ => ?_) (fun _ => ?_)
      · refine G_aload_n 0 dX11_lender_29 rfl rfl ?_
        exact G_ret trivial dX11_lender_30 rfl
      · refine G_lv [0] rfl ?_
        exact g_X11_lender_b21 l N z ih v1 x0

set_option maxRecDepth 100000 in
set_option maxHeartbeats 4000000 in
theorem g_X11_lender (l : Launch) (N : Nat) (z : Nat → Nat) (o : Nat) (x0 : Hp) : G l z m_X11_lender okT enR 0 [(0, va_rf (some o))] [] x0 (f_X11_lender N z o x0) := by
  unfold f_X11_lender
  refine G_aload_n 0 dX11_lender_0 rfl rfl ?_
  refine G_astore_n (i := 1) (l2 := [(0, va_rf (some o))]) [0] dX11_lender_1 rfl (Nat.le_of_ble_eq_true rfl) rfl (sok_b (by decide) (rf_cat _) trivial) ?_
  refine G_lv [0] rfl ?_
  exact g_X11_lender_b2 l N z N (some o) x0

theorem yn_X11_lender : Yn yX11_lender 0 := ⟨by decide +kernel, by decide +kernel, by decide +kernel⟩
theorem ct_X11_lender (l : Launch) (N : Nat) (z : Nat → Nat) (o : Nat) : Ct l z yX11_lender cX11_lender 2 (some (.object "BucketBrigadeLaw$Lane")) 1 enR [.ref o] (f_X11_lender N z o) :=
  Ct_r (fun x => G_lv0 (by simp only [lva_n, lva_i, lva_o, lva_r, lva_j]) (g_X11_lender l N z o x)) (by decide +kernel) (by simp only [lgl_n, lgl_i, lgl_o, lgl_r, lgl_j]; decide)

theorem dX11_can_0 : decode cX11_can 0 = .ok (.aload_n 0, 1) := by decide +kernel
theorem dX11_can_1 : decode cX11_can 1 = .ok (.astore_n 1, 1) := by decide +kernel
theorem dX11_can_2 : decode cX11_can 2 = .ok (.aload_n 1, 1) := by decide +kernel
theorem dX11_can_3 : decode cX11_can 3 = .ok (.ifnull 24, 3) := by decide +kernel
theorem dX11_can_6 : decode cX11_can 6 = .ok (.aload_n 1, 1) := by decide +kernel
theorem dX11_can_7 : decode cX11_can 7 = .ok (.getfield 13, 3) := by decide +kernel
theorem dX11_can_10 : decode cX11_can 10 = .ok (.aload_n 1, 1) := by decide +kernel
theorem dX11_can_11 : decode cX11_can 11 = .ok (.getfield 17, 3) := by decide +kernel
theorem dX11_can_14 : decode cX11_can 14 = .ok (.if_icmp .lt 5, 3) := by decide +kernel
theorem dX11_can_17 : decode cX11_can 17 = .ok (.iconst 0, 1) := by decide +kernel
theorem dX11_can_18 : decode cX11_can 18 = .ok (.ireturn, 1) := by decide +kernel
theorem dX11_can_19 : decode cX11_can 19 = .ok (.aload_n 1, 1) := by decide +kernel
theorem dX11_can_20 : decode cX11_can 20 = .ok (.getfield 20, 3) := by decide +kernel
theorem dX11_can_23 : decode cX11_can 23 = .ok (.astore_n 1, 1) := by decide +kernel
theorem dX11_can_24 : decode cX11_can 24 = .ok (.goto (-22), 3) := by decide +kernel
theorem dX11_can_27 : decode cX11_can 27 = .ok (.aload_n 0, 1) := by decide +kernel
theorem dX11_can_28 : decode cX11_can 28 = .ok (.getfield 24, 3) := by decide +kernel
theorem dX11_can_31 : decode cX11_can 31 = .ok (.ifCond .le 21, 3) := by decide +kernel
theorem dX11_can_34 : decode cX11_can 34 = .ok (.aload_n 0, 1) := by decide +kernel
theorem dX11_can_35 : decode cX11_can 35 = .ok (.getfield 27, 3) := by decide +kernel
theorem dX11_can_38 : decode cX11_can 38 = .ok (.ifCond .ne 14, 3) := by decide +kernel
theorem dX11_can_41 : decode cX11_can 41 = .ok (.aload_n 0, 1) := by decide +kernel
theorem dX11_can_42 : decode cX11_can 42 = .ok (.invokevirtual 31, 3) := by decide +kernel
theorem dX11_can_45 : decode cX11_can 45 = .ok (.ifnull 7, 3) := by decide +kernel
theorem dX11_can_48 : decode cX11_can 48 = .ok (.iconst 1, 1) := by decide +kernel
theorem dX11_can_49 : decode cX11_can 49 = .ok (.goto 4, 3) := by decide +kernel
theorem dX11_can_52 : decode cX11_can 52 = .ok (.iconst 0, 1) := by decide +kernel
theorem dX11_can_53 : decode cX11_can 53 = .ok (.ireturn, 1) := by decide +kernel
abbrev m_X11_can : Mt := (cX11_can, RX11, "can", 2, .ireturn, 2)
def f_X11_can_b2 (N : Nat) (z : Nat → Nat) : Nat → Nat → Option Nat → Hp → Option (Int32 × Hp)
  | 0, _, _, _ => none
  | n + 1, o, v1, x0 => if v1 = none then (geti (some o) x0 14 270 fun i1 =>
  if i1 ≤ 0 then (some ((0 : Int32), x0)) else (geti (some o) x0 14 276 fun i2 =>
  if i2 = 0 then (obj (some o) x0 14 fun q5 => bnd (f_X11_lender N z q5 x0) fun r4 x3 =>
  if r4 = none then (some ((0 : Int32), x3)) else (some ((1 : Int32), x3))) else (some ((0 : Int32), x0)))) else (geti v1 x0 14 278 fun i6 =>
  geti v1 x0 14 263 fun i7 =>
  if i6 < i7 then (getr v1 x0 14 260 fun r8 =>
  f_X11_can_b2 N z n o r8 x0) else (some ((0 : Int32), x0)))
def f_X11_can (N : Nat) (z : Nat → Nat) (o : Nat) (x0 : Hp) : Option (Int32 × Hp) :=
  f_X11_can_b2 N z N o (some o) x0
set_option maxRecDepth 100000 in
set_option maxHeartbeats 4000000 in
theorem g_X11_can_b2 (l : Launch) (N : Nat) (z : Nat → Nat) : ∀ (n : Nat) (o : Nat) (v1 : Option Nat) (x0 : Hp), G l z m_X11_can okZ enI 2 [(0, va_rf (some o)), (1, va_rf v1)] [] x0 (f_X11_can_b2 N z n o v1 x0) := by
  intro n
  induction n with
  | zero => intro o v1 x0; exact G_none
  | succ n ih =>
  intro o v1 x0
  rw [f_X11_can_b2]
  refine G_aload_n 1 dX11_can_2 rfl rfl ?_
  refine G_ifnull (tgt := 27) dX11_can_3 (by decide) (fun _ => ?_) (fun _ => ?_)
  · refine G_aload_n 0 dX11_can_27 rfl rfl ?_
    refine G_geti (k := 10) K_13 (by decide) rfl rfl rfl gw_1406 rfl dX11_can_28 (fun i1 => ?_)
    refine G_if_le (tgt := 52) dX11_can_31 (by decide) (fun _ => ?_) (fun _ => ?_)
    · refine G_iconst (v := (0 : Int32)) dX11_can_52 rfl ?_
      exact G_ret (Or.inl rfl) dX11_can_53 rfl
    · refine G_aload_n 0 dX11_can_34 rfl rfl ?_
      refine G_geti (k := 16) K_13 (by decide) rfl rfl rfl gw_1413 rfl dX11_can_35 (fun i2 => ?_)
      refine G_if_ne (tgt := 52) dX11_can_38 (by decide) (fun _ => ?_) (fun _ => ?_)
      · refine G_aload_n 0 dX11_can_41 rfl rfl ?_
        refine G_callV (av := []) [] (fun q5 => ct_X11_lender l N z q5) K_13 rfl yn_X11_lender (Nat.le_of_ble_eq_true rfl) (by decide) gw_811 gw_812 gw_813 gw_55 gw_814 rfl (by decide) dX11_can_42 (fun r4 x3 => ?_)
        refine G_ifnull (tgt := 52) dX11_can_45 (by decide) (fun _ => ?_) (fun _ => ?_)
        · refine G_iconst (v := (0 : Int32)) dX11_can_52 rfl ?_
          exact G_ret (Or.inl rfl) dX11_can_53 rfl
        · refine G_iconst (v := (1 : Int32)) dX11_can_48 rfl ?_
          refine G_goto (tgt := 53) dX11_can_49 (by decide) ?_
          exact G_ret (Or.inr rfl) dX11_can_53 rfl
      · refine G_iconst (v := (0 : Int32)) dX11_can_52 rfl ?_
        exact G_ret (Or.inl rfl) dX11_can_53 rfl
  · refine G_aload_n 1 dX11_can_6 rfl rfl ?_
    refine G_geti (k := 18) K_13 (by decide) rfl rfl rfl gw_1417 rfl dX11_can_7 (fun i6 => ?_)
    refine G_aload_n 1 dX11_can_10 rfl rfl ?_
    refine G_geti (k := 3) K_13 (by decide) rfl rfl rfl gw_1389 rfl dX11_can_11 (fun i7 => ?_)
    refine G_icmp_lt (tgt := 19) dX11_can_14 (by decide) (fun _ => ?_) (fun _ => ?_)
    · refine G_aload_n 1 dX11_can_19 rfl rfl ?_
      refine G_getr (k := 0) K_13 (by decide) rfl rfl rfl gw_1382 rfl dX11_can_20 (fun r8 => ?_)
      refine G_astore_n (i := 1) (l2 := [(0, va_rf (some o))]) [0] dX11_can_23 rfl (Nat.le_of_ble_eq_true rfl) rfl (sok_b (by decide) (rf_cat _) trivial) ?_
      refine G_goto (tgt := 2) dX11_can_24 (by decide) ?_
      refine G_lv [1, 0] rfl ?_
      exact ih o r8 x0
    · refine G_iconst (v := (0 : Int32)) dX11_can_17 rfl ?_
      exact G_ret (Or.inl rfl) dX11_can_18 rfl

set_option maxRecDepth 100000 in
set_option maxHeartbeats 4000000 in
theorem g_X11_can (l : Launch) (N : Nat) (z : Nat → Nat) (o : Nat) (x0 : Hp) : G l z m_X11_can okZ enI 0 [(0, va_rf (some o))] [] x0 (f_X11_can N z o x0) := by
  unfold f_X11_can
  refine G_aload_n 0 dX11_can_0 rfl rfl ?_
  refine G_astore_n (i := 1) (l2 := [(0, va_rf (some o))]) [0] dX11_can_1 rfl (Nat.le_of_ble_eq_true rfl) rfl (sok_b (by decide) (rf_cat _) trivial) ?_
  refine G_lv [1, 0] rfl ?_
  exact g_X11_can_b2 l N z N o (some o) x0

theorem yn_X11_can : Yn yX11_can 0 := ⟨by decide +kernel, by decide +kernel, by decide +kernel⟩
theorem ct_X11_can (l : Launch) (N : Nat) (z : Nat → Nat) (o : Nat) : Ct l z yX11_can cX11_can 2 (some .boolean) 2 enI [.ref o] (f_X11_can N z o) :=
  Ct_z (fun x => G_lv0 (by simp only [lva_n, lva_i, lva_o, lva_r, lva_j]) (g_X11_can l N z o x)) (by decide +kernel) (by simp only [lgl_n, lgl_i, lgl_o, lgl_r, lgl_j]; decide)

theorem dX11_order_0 : decode cX11_order 0 = .ok (.aload_n 0, 1) := by decide +kernel
theorem dX11_order_1 : decode cX11_order 1 = .ok (.invokevirtual 31, 3) := by decide +kernel
theorem dX11_order_4 : decode cX11_order 4 = .ok (.aload_n 0, 1) := by decide +kernel
theorem dX11_order_5 : decode cX11_order 5 = .ok (.if_acmp .ne 7, 3) := by decide +kernel
theorem dX11_order_8 : decode cX11_order 8 = .ok (.iconst 0, 1) := by decide +kernel
theorem dX11_order_9 : decode cX11_order 9 = .ok (.goto 4, 3) := by decide +kernel
theorem dX11_order_12 : decode cX11_order 12 = .ok (.iconst 1, 1) := by decide +kernel
theorem dX11_order_13 : decode cX11_order 13 = .ok (.bipush 10, 2) := by decide +kernel
theorem dX11_order_15 : decode cX11_order 15 = .ok (.imul, 1) := by decide +kernel
theorem dX11_order_16 : decode cX11_order 16 = .ok (.aload_n 0, 1) := by decide +kernel
theorem dX11_order_17 : decode cX11_order 17 = .ok (.getfield 38, 3) := by decide +kernel
theorem dX11_order_20 : decode cX11_order 20 = .ok (.iadd, 1) := by decide +kernel
theorem dX11_order_21 : decode cX11_order 21 = .ok (.sipush 1000, 3) := by decide +kernel
theorem dX11_order_24 : decode cX11_order 24 = .ok (.imul, 1) := by decide +kernel
theorem dX11_order_25 : decode cX11_order 25 = .ok (.aload_n 0, 1) := by decide +kernel
theorem dX11_order_26 : decode cX11_order 26 = .ok (.getfield 41, 3) := by decide +kernel
theorem dX11_order_29 : decode cX11_order 29 = .ok (.iadd, 1) := by decide +kernel
theorem dX11_order_30 : decode cX11_order 30 = .ok (.ireturn, 1) := by decide +kernel
abbrev m_X11_order : Mt := (cX11_order, RX11, "order", 1, .ireturn, 2)
def f_X11_order_b13 (N : Nat) (z : Nat → Nat) (o : Nat) (s0 : Int32) (x0 : Hp) : Option (Int32 × Hp) :=
  geti (some o) x0 14 265 fun i1 =>
  geti (some o) x0 14 277 fun i2 =>
  some ((((s0 * (10 : Int32)) + i1) * (1000 : Int32)) + i2, x0)
def f_X11_order (N : Nat) (z : Nat → Nat) (o : Nat) (x0 : Hp) : Option (Int32 × Hp) :=
  obj (some o) x0 14 fun q5 => bnd (f_X11_lender N z q5 x0) fun r4 x3 =>
  if r4 = (some o) then (f_X11_order_b13 N z o (0 : Int32) x3) else (f_X11_order_b13 N z o (1 : Int32) x3)
set_option maxRecDepth 100000 in
set_option maxHeartbeats 4000000 in
theorem g_X11_order_b13 (l : Launch) (N : Nat) (z : Nat → Nat) (o : Nat) (s0 : Int32) (x0 : Hp) : G l z m_X11_order okT enI 13 [(0, va_rf (some o))] [.int s0] x0 (f_X11_order_b13 N z o s0 x0) := by
  unfold f_X11_order_b13
  refine G_bipush (v := (10 : Int32)) dX11_order_13 (by decide) ?_
  refine G_imul dX11_order_15 ?_
  refine G_aload_n 0 dX11_order_16 rfl rfl ?_
  refine G_geti (k := 5) K_13 (by decide) rfl rfl rfl gw_1394 rfl dX11_order_17 (fun i1 => ?_)
  refine G_iadd dX11_order_20 ?_
  refine G_sipush (v := (1000 : Int32)) dX11_order_21 (by decide) ?_
  refine G_imul dX11_order_24 ?_
  refine G_aload_n 0 dX11_order_25 rfl rfl ?_
  refine G_geti (k := 17) K_13 (by decide) rfl rfl rfl gw_1415 rfl dX11_order_26 (fun i2 => ?_)
  refine G_iadd dX11_order_29 ?_
  exact G_ret trivial dX11_order_30 rfl

set_option maxRecDepth 100000 in
set_option maxHeartbeats 4000000 in
theorem g_X11_order (l : Launch) (N : Nat) (z : Nat → Nat) (o : Nat) (x0 : Hp) : G l z m_X11_order okT enI 0 [(0, va_rf (some o))] [] x0 (f_X11_order N z o x0) := by
  unfold f_X11_order
  refine G_aload_n 0 dX11_order_0 rfl rfl ?_
  refine G_callV (av := []) [] (fun q5 => ct_X11_lender l N z q5) K_13 rfl yn_X11_lender (Nat.le_of_ble_eq_true rfl) (by decide) gw_811 gw_812 gw_813 gw_55 gw_814 rfl (by decide) dX11_order_1 (fun r4 x3 => ?_)
  refine G_aload_n 0 dX11_order_4 rfl rfl ?_
  refine G_acmp_ne (tgt := 12) dX11_order_5 (by decide) (fun _ => ?_) (fun _ => ?_)
  · refine G_iconst (v := (0 : Int32)) dX11_order_8 rfl ?_
    refine G_goto (tgt := 13) dX11_order_9 (by decide) ?_
    refine G_lv [0] rfl ?_
    exact g_X11_order_b13 l N z o (0 : Int32) x3
  · refine G_iconst (v := (1 : Int32)) dX11_order_12 rfl ?_
    refine G_lv [0] rfl ?_
    exact g_X11_order_b13 l N z o (1 : Int32) x3

theorem yn_X11_order : Yn yX11_order 0 := ⟨by decide +kernel, by decide +kernel, by decide +kernel⟩
theorem ct_X11_order (l : Launch) (N : Nat) (z : Nat → Nat) (o : Nat) : Ct l z yX11_order cX11_order 1 (some .int) 2 enI [.ref o] (f_X11_order N z o) :=
  Ct_i (fun x => G_lv0 (by simp only [lva_n, lva_i, lva_o, lva_r, lva_j]) (g_X11_order l N z o x)) (by decide +kernel) (by simp only [lgl_n, lgl_i, lgl_o, lgl_r, lgl_j]; decide)

theorem dX11_pop_0 : decode cX11_pop 0 = .ok (.aload_n 0, 1) := by decide +kernel
theorem dX11_pop_1 : decode cX11_pop 1 = .ok (.dup, 1) := by decide +kernel
theorem dX11_pop_2 : decode cX11_pop 2 = .ok (.getfield 24, 3) := by decide +kernel
theorem dX11_pop_5 : decode cX11_pop 5 = .ok (.iconst 1, 1) := by decide +kernel
theorem dX11_pop_6 : decode cX11_pop 6 = .ok (.isub, 1) := by decide +kernel
theorem dX11_pop_7 : decode cX11_pop 7 = .ok (.putfield 24, 3) := by decide +kernel
theorem dX11_pop_10 : decode cX11_pop 10 = .ok (.iconst 0, 1) := by decide +kernel
theorem dX11_pop_11 : decode cX11_pop 11 = .ok (.istore_n 1, 1) := by decide +kernel
theorem dX11_pop_12 : decode cX11_pop 12 = .ok (.iload_n 1, 1) := by decide +kernel
theorem dX11_pop_13 : decode cX11_pop 13 = .ok (.aload_n 0, 1) := by decide +kernel
theorem dX11_pop_14 : decode cX11_pop 14 = .ok (.getfield 24, 3) := by decide +kernel
theorem dX11_pop_17 : decode cX11_pop 17 = .ok (.if_icmp .ge 23, 3) := by decide +kernel
theorem dX11_pop_20 : decode cX11_pop 20 = .ok (.aload_n 0, 1) := by decide +kernel
theorem dX11_pop_21 : decode cX11_pop 21 = .ok (.getfield 7, 3) := by decide +kernel
theorem dX11_pop_24 : decode cX11_pop 24 = .ok (.iload_n 1, 1) := by decide +kernel
theorem dX11_pop_25 : decode cX11_pop 25 = .ok (.aload_n 0, 1) := by decide +kernel
theorem dX11_pop_26 : decode cX11_pop 26 = .ok (.getfield 7, 3) := by decide +kernel
theorem dX11_pop_29 : decode cX11_pop 29 = .ok (.iload_n 1, 1) := by decide +kernel
theorem dX11_pop_30 : decode cX11_pop 30 = .ok (.iconst 1, 1) := by decide +kernel
theorem dX11_pop_31 : decode cX11_pop 31 = .ok (.iadd, 1) := by decide +kernel
theorem dX11_pop_32 : decode cX11_pop 32 = .ok (.iaload, 1) := by decide +kernel
theorem dX11_pop_33 : decode cX11_pop 33 = .ok (.iastore, 1) := by decide +kernel
theorem dX11_pop_34 : decode cX11_pop 34 = .ok (.iinc 1 1, 3) := by decide +kernel
theorem dX11_pop_37 : decode cX11_pop 37 = .ok (.goto (-25), 3) := by decide +kernel
theorem dX11_pop_40 : decode cX11_pop 40 = .ok (.return_, 1) := by decide +kernel
abbrev m_X11_pop : Mt := (cX11_pop, RX11, "pop", 2, .return_, 1)
def f_X11_pop_b12 (N : Nat) (z : Nat → Nat) : Nat → Nat → Int32 → Hp → Option (Unit × Hp)
  | 0, _, _, _ => none
  | n + 1, o, v1, x0 => geti (some o) x0 14 270 fun i1 =>
  if i1 ≤ v1 then (some ((), x0)) else (getr (some o) x0 14 269 fun r2 =>
  getr (some o) x0 14 269 fun r3 =>
  aldi r3 x0 101 (v1 + (1 : Int32)) fun i4 =>
  asti r2 x0 101 v1 i4 fun x5 =>
  f_X11_pop_b12 N z n o (v1 + (1 : Int32)) x5)
def f_X11_pop (N : Nat) (z : Nat → Nat) (o : Nat) (x0 : Hp) : Option (Unit × Hp) :=
  geti (some o) x0 14 270 fun i6 =>
  puti (some o) x0 14 270 (i6 - (1 : Int32)) fun x7 =>
  f_X11_pop_b12 N z N o (0 : Int32) x7
set_option maxRecDepth 100000 in
set_option maxHeartbeats 4000000 in
theorem g_X11_pop_b12 (l : Launch) (N : Nat) (z : Nat → Nat) : ∀ (n : Nat) (o : Nat) (v1 : Int32) (x0 : Hp), G l z m_X11_pop okT enV 12 [(0, va_rf (some o)), (1, .int v1)] [] x0 (f_X11_pop_b12 N z n o v1 x0) := by
  intro n
  induction n with
  | zero => intro o v1 x0; exact G_none
  | succ n ih =>
  intro o v1 x0
  rw [f_X11_pop_b12]
  refine G_iload_n 1 dX11_pop_12 rfl rfl ?_
  refine G_aload_n 0 dX11_pop_13 rfl rfl ?_
  refine G_geti (k := 10) K_13 (by decide) rfl rfl rfl gw_1406 rfl dX11_pop_14 (fun i1 => ?_)
  refine G_icmp_ge (tgt := 40) dX11_pop_17 (by decide) (fun _ => ?_) (fun _ => ?_)
  · exact G_ret trivial dX11_pop_40 rfl
  · refine G_aload_n 0 dX11_pop_20 rfl rfl ?_
    refine G_getr (k := 9) K_13 (by decide) rfl rfl rfl gw_1404 rfl dX11_pop_21 (fun r2 => ?_)
    refine G_iload_n 1 dX11_pop_24 rfl rfl ?_
    refine G_aload_n 0 dX11_pop_25 rfl rfl ?_
    refine G_getr (k := 9) K_13 (by decide) rfl rfl rfl gw_1404 rfl dX11_pop_26 (fun r3 => ?_)
    refine G_iload_n 1 dX11_pop_29 rfl rfl ?_
    refine G_iconst (v := (1 : Int32)) dX11_pop_30 rfl ?_
    refine G_iadd dX11_pop_31 ?_
    refine G_iald dX11_pop_32 (fun i4 => ?_)
    refine G_iast dX11_pop_33 (fun x5 => ?_)
    refine G_iinc (i := 1) (l2 := [(0, va_rf (some o))]) 1 [0] dX11_pop_34 rfl rfl (Nat.le_of_ble_eq_true rfl) rfl (sok_b (by decide) (rf_cat _) trivial) ?_
    refine G_goto (tgt := 12) dX11_pop_37 (by decide) ?_
    refine G_lv [1, 0] rfl ?_
    exact ih o (v1 + (1 : Int32)) x5

set_option maxRecDepth 100000 in
set_option maxHeartbeats 4000000 in
theorem g_X11_pop (l : Launch) (N : Nat) (z : Nat → Nat) (o : Nat) (x0 : Hp) : G l z m_X11_pop okT enV 0 [(0, va_rf (some o))] [] x0 (f_X11_pop N z o x0) := by
  unfold f_X11_pop
  refine G_aload_n 0 dX11_pop_0 rfl rfl ?_
  refine G_dup dX11_pop_1 (rf_cat _) ?_
  refine G_geti (k := 10) K_13 (by decide) rfl rfl rfl gw_1406 rfl dX11_pop_2 (fun i6 => ?_)
  refine G_iconst (v := (1 : Int32)) dX11_pop_5 rfl ?_
  refine G_isub dX11_pop_6 ?_
  refine G_puti (k := 10) K_13 (by decide) rfl rfl rfl gw_1406 rfl (Or.inl rfl) nar_int.1 nar_int.2 dX11_pop_7 (fun x7 => ?_)
  refine G_iconst (v := (0 : Int32)) dX11_pop_10 rfl ?_
  refine G_istore_n (i := 1) (l2 := [(0, va_rf (some o))]) [0] dX11_pop_11 rfl (Nat.le_of_ble_eq_true rfl) rfl (sok_b (by decide) (rf_cat _) trivial) ?_
  refine G_lv [1, 0] rfl ?_
  exact g_X11_pop_b12 l N z N o (0 : Int32) x7

theorem yn_X11_pop : Yn yX11_pop 0 := ⟨by decide +kernel, by decide +kernel, by decide +kernel⟩
theorem ct_X11_pop (l : Launch) (N : Nat) (z : Nat → Nat) (o : Nat) : Ct l z yX11_pop cX11_pop 2 none 1 enV [.ref o] (f_X11_pop N z o) :=
  Ct_v (fun x => G_lv0 (by simp only [lva_n, lva_i, lva_o, lva_r, lva_j]) (g_X11_pop l N z o x)) (by decide +kernel) (by simp only [lgl_n, lgl_i, lgl_o, lgl_r, lgl_j]; decide)
