theorem dX8_init_0 : decode cX8_init 0 = .ok (.aload_n 0, 1) := by decide +kernel
theorem dX8_init_1 : decode cX8_init 1 = .ok (.invokespecial 3, 3) := by decide +kernel
theorem dX8_init_4 : decode cX8_init 4 = .ok (.aload_n 0, 1) := by decide +kernel
theorem dX8_init_5 : decode cX8_init 5 = .ok (.sipush 2000, 3) := by decide +kernel
theorem dX8_init_8 : decode cX8_init 8 = .ok (.newarray .byte, 2) := by decide +kernel
theorem dX8_init_10 : decode cX8_init 10 = .ok (.putfield 9, 3) := by decide +kernel
theorem dX8_init_13 : decode cX8_init 13 = .ok (.return_, 1) := by decide +kernel
abbrev m_X8_init : Mt := (cX8_init, RX8, "<init>", 1, .return_, 2)
def f_X8_init (N : Nat) (z : Nat → Nat) (o : Nat) (x0 : Hp) : Option (Unit × Hp) :=
  nn (some o) fun _ =>
  newa x0 100 (2000 : Int32) fun r2 x3 =>
  putr (some o) x3 11 200 r2 fun x4 =>
  some ((), x4)
set_option maxRecDepth 100000 in
set_option maxHeartbeats 4000000 in
theorem g_X8_init (l : Launch) (N : Nat) (z : Nat → Nat) (o : Nat) (x0 : Hp) : G l z m_X8_init okT enV 0 [(0, va_rf (some o))] [] x0 (f_X8_init N z o x0) := by
  unfold f_X8_init
  refine G_aload_n 0 dX8_init_0 rfl rfl ?_
  refine G_objInit (st := []) gw_82 gw_75 gw_76 (by decide) (by decide) dX8_init_1 (fun _ => ?_)
  refine G_aload_n 0 dX8_init_4 rfl rfl ?_
  refine G_sipush (v := (2000 : Int32)) dX8_init_5 (by decide) ?_
  refine G_newa (t := 0) rfl (Or.inl ⟨rfl, rfl⟩) gw_92 dX8_init_8 (fun r2 x3 => ?_)
  refine G_putr (k := 0) K_10 (by decide) rfl rfl rfl gw_83 rfl (Or.inr ⟨rfl, rfl, rfl⟩) nar_arr.1 nar_arr.2 dX8_init_10 (fun x4 => ?_)
  exact G_ret trivial dX8_init_13 rfl

theorem yn_X8_init : Yn yX8_init 0 := ⟨by decide +kernel, by decide +kernel, by decide +kernel⟩
theorem ct_X8_init (l : Launch) (N : Nat) (z : Nat → Nat) (o : Nat) : Ct l z yX8_init cX8_init 1 none 2 enV [.ref o] (f_X8_init N z o) :=
  Ct_v (fun x => G_lv0 (by simp only [lva_n, lva_i, lva_o, lva_r, lva_j]) (g_X8_init l N z o x)) (by decide +kernel) (by simp only [lgl_n, lgl_i, lgl_o, lgl_r, lgl_j]; decide)

theorem dX8_append_0 : decode cX8_append 0 = .ok (.bipush 24, 2) := by decide +kernel
theorem dX8_append_2 : decode cX8_append 2 = .ok (.istore_n 2, 1) := by decide +kernel
theorem dX8_append_3 : decode cX8_append 3 = .ok (.iload_n 2, 1) := by decide +kernel
theorem dX8_append_4 : decode cX8_append 4 = .ok (.ifCond .lt 51, 3) := by decide +kernel
theorem dX8_append_7 : decode cX8_append 7 = .ok (.aload_n 0, 1) := by decide +kernel
theorem dX8_append_8 : decode cX8_append 8 = .ok (.getfield 15, 3) := by decide +kernel
theorem dX8_append_11 : decode cX8_append 11 = .ok (.ifCond .lt 38, 3) := by decide +kernel
theorem dX8_append_14 : decode cX8_append 14 = .ok (.aload_n 0, 1) := by decide +kernel
theorem dX8_append_15 : decode cX8_append 15 = .ok (.getfield 15, 3) := by decide +kernel
theorem dX8_append_18 : decode cX8_append 18 = .ok (.aload_n 0, 1) := by decide +kernel
theorem dX8_append_19 : decode cX8_append 19 = .ok (.getfield 9, 3) := by decide +kernel
theorem dX8_append_22 : decode cX8_append 22 = .ok (.arraylength, 1) := by decide +kernel
theorem dX8_append_23 : decode cX8_append 23 = .ok (.if_icmp .ge 26, 3) := by decide +kernel
theorem dX8_append_26 : decode cX8_append 26 = .ok (.aload_n 0, 1) := by decide +kernel
theorem dX8_append_27 : decode cX8_append 27 = .ok (.getfield 9, 3) := by decide +kernel
theorem dX8_append_30 : decode cX8_append 30 = .ok (.aload_n 0, 1) := by decide +kernel
theorem dX8_append_31 : decode cX8_append 31 = .ok (.getfield 15, 3) := by decide +kernel
theorem dX8_append_34 : decode cX8_append 34 = .ok (.iload_n 1, 1) := by decide +kernel
theorem dX8_append_35 : decode cX8_append 35 = .ok (.iload_n 2, 1) := by decide +kernel
theorem dX8_append_36 : decode cX8_append 36 = .ok (.ishr, 1) := by decide +kernel
theorem dX8_append_37 : decode cX8_append 37 = .ok (.i2b, 1) := by decide +kernel
theorem dX8_append_38 : decode cX8_append 38 = .ok (.bastore, 1) := by decide +kernel
theorem dX8_append_39 : decode cX8_append 39 = .ok (.aload_n 0, 1) := by decide +kernel
theorem dX8_append_40 : decode cX8_append 40 = .ok (.dup, 1) := by decide +kernel
theorem dX8_append_41 : decode cX8_append 41 = .ok (.getfield 15, 3) := by decide +kernel
theorem dX8_append_44 : decode cX8_append 44 = .ok (.iconst 1, 1) := by decide +kernel
theorem dX8_append_45 : decode cX8_append 45 = .ok (.iadd, 1) := by decide +kernel
theorem dX8_append_46 : decode cX8_append 46 = .ok (.putfield 15, 3) := by decide +kernel
theorem dX8_append_49 : decode cX8_append 49 = .ok (.iinc 2 (-8), 3) := by decide +kernel
theorem dX8_append_52 : decode cX8_append 52 = .ok (.goto (-49), 3) := by decide +kernel
theorem dX8_append_55 : decode cX8_append 55 = .ok (.return_, 1) := by decide +kernel
abbrev m_X8_append : Mt := (cX8_append, RX8, "append", 3, .return_, 1)
def f_X8_append_b49 (N : Nat) (z : Nat → Nat) (k3 : Nat → Int32 → Int32 → Hp → Option (Unit × Hp)) (o : Nat) (v1 : Int32) (v2 : Int32) (x0 : Hp) : Option (Unit × Hp) :=
  k3 o v1 (v2 + (-8 : Int32)) x0
def f_X8_append_b3 (N : Nat) (z : Nat → Nat) : Nat → Nat → Int32 → Int32 → Hp → Option (Unit × Hp)
  | 0, _, _, _, _ => none
  | n + 1, o, v1, v2, x0 => if v2 < 0 then (some ((), x0)) else (geti (some o) x0 11 201 fun i1 =>
  if i1 < 0 then (f_X8_append_b49 N z (f_X8_append_b3 N z n) o v1 v2 x0) else (geti (some o) x0 11 201 fun i2 =>
  getr (some o) x0 11 200 fun r3 =>
  alen r3 x0 100 fun i4 =>
  if i4 ≤ i2 then (f_X8_append_b49 N z (f_X8_append_b3 N z n) o v1 v2 x0) else (getr (some o) x0 11 200 fun r5 =>
  geti (some o) x0 11 201 fun i6 =>
  asti r5 x0 100 i6 ((v1 >>> (v2 &&& 31)).toInt8.toInt32).toInt8.toInt32 fun x7 =>
  geti (some o) x7 11 201 fun i8 =>
  puti (some o) x7 11 201 (i8 + (1 : Int32)) fun x9 =>
  f_X8_append_b49 N z (f_X8_append_b3 N z n) o v1 v2 x9)))
def f_X8_append (N : Nat) (z : Nat → Nat) (o : Nat) (v1 : Int32) (x0 : Hp) : Option (Unit × Hp) :=
  f_X8_append_b3 N z N o v1 (24 : Int32) x0
set_option maxRecDepth 100000 in
set_option maxHeartbeats 4000000 in
theorem g_X8_append_b49 (l : Launch) (N : Nat) (z : Nat → Nat) {k3 : Nat → Int32 → Int32 → Hp → Option (Unit × Hp)} (hk3 : ∀ o v1 v2 x, G l z m_X8_append okT enV 3 [(0, va_rf (some o)), (1, .int v1), (2, .int v2)] [] x (k3 o v1 v2 x)) (o : Nat) (v1 : Int32) (v2 : Int32) (x0 : Hp) : G l z m_X8_append okT enV 49 [(0, va_rf (some o)), (1, .int v1), (2, .int v2)] [] x0 (f_X8_append_b49 N z k3 o v1 v2 x0) := by
  unfold f_X8_append_b49
  refine G_iinc (i := 2) (l2 := [(0, va_rf (some o)), (1, .int v1)]) 2 [0, 1] dX8_append_49 rfl rfl (Nat.le_of_ble_eq_true rfl) rfl (sok_a (by decide) (by decide) (sok_b (by decide) rfl trivial)) ?_
  refine G_goto (tgt := 3) dX8_append_52 (by decide) ?_
  refine G_lv [1, 2, 0] rfl ?_
  exact hk3 o v1 (v2 + (-8 : Int32)) x0

set_option maxRecDepth 100000 in
set_option maxHeartbeats 4000000 in
theorem g_X8_append_b3 (l : Launch) (N : Nat) (z : Nat → Nat) : ∀ (n : Nat) (o : Nat) (v1 : Int32) (v2 : Int32) (x0 : Hp), G l z m_X8_append okT enV 3 [(0, va_rf (some o)), (1, .int v1), (2, .int v2)] [] x0 (f_X8_append_b3 N z n o v1 v2 x0) := by
  intro n
  induction n with
  | zero => intro o v1 v2 x0; exact G_none
  | succ n ih =>
  intro o v1 v2 x0
  rw [f_X8_append_b3]
  refine G_iload_n 2 dX8_append_3 rfl rfl ?_
  refine G_if_lt (tgt := 55) dX8_append_4 (by decide) (fun _ => ?_) (fun _ => ?_)
  · exact G_ret trivial dX8_append_55 rfl
  · refine G_aload_n 0 dX8_append_7 rfl rfl ?_
    refine G_geti (k := 1) K_10 (by decide) rfl rfl rfl gw_85 rfl dX8_append_8 (fun i1 => ?_)
    refine G_if_lt (tgt := 49) dX8_append_11 (by decide) (fun _ => ?_) (fun _ => ?_)
    · refine G_lv [0, 1, 2] rfl ?_
      exact g_X8_append_b49 l N z ih o v1 v2 x0
    · refine G_aload_n 0 dX8_append_14 rfl rfl ?_
      refine G_geti (k := 1) K_10 (by decide) rfl rfl rfl gw_85 rfl dX8_append_15 (fun i2 => ?_)
      refine G_aload_n 0 dX8_append_18 rfl rfl ?_
      refine G_getr (k := 0) K_10 (by decide) rfl rfl rfl gw_83 rfl dX8_append_19 (fun r3 => ?_)
      refine G_alen (t := 0) rfl (by decide) dX8_append_22 (fun i4 => ?_)
      refine G_icmp_ge (tgt := 49) dX8_append_23 (by decide) (fun _ => ?_) (fun _ => ?_)
      · refine G_lv [0, 1, 2] rfl ?_
        exact g_X8_append_b49 l N z ih o v1 v2 x0
      · refine G_aload_n 0 dX8_append_26 rfl rfl ?_
        refine G_getr (k := 0) K_10 (by decide) rfl rfl rfl gw_83 rfl dX8_append_27 (fun r5 => ?_)
        refine G_aload_n 0 dX8_append_30 rfl rfl ?_
        refine G_geti (k := 1) K_10 (by decide) rfl rfl rfl gw_85 rfl dX8_append_31 (fun i6 => ?_)
        refine G_iload_n 1 dX8_append_34 rfl rfl ?_
        refine G_iload_n 2 dX8_append_35 rfl rfl ?_
        refine G_ishr dX8_append_36 ?_
        refine G_i2b dX8_append_37 ?_
        refine G_bast dX8_append_38 (fun x7 => ?_)
        refine G_aload_n 0 dX8_append_39 rfl rfl ?_
        refine G_dup dX8_append_40 (rf_cat _) ?_
        refine G_geti (k := 1) K_10 (by decide) rfl rfl rfl gw_85 rfl dX8_append_41 (fun i8 => ?_)
        refine G_iconst (v := (1 : Int32)) dX8_append_44 rfl ?_
        refine G_iadd dX8_append_45 ?_
        refine G_puti (k := 1) K_10 (by decide) rfl rfl rfl gw_85 rfl (Or.inl rfl) nar_int.1 nar_int.2 dX8_append_46 (fun x9 => ?_)
        refine G_lv [0, 1, 2] rfl ?_
        exact g_X8_append_b49 l N z ih o v1 v2 x9

set_option maxRecDepth 100000 in
set_option maxHeartbeats 4000000 in
theorem g_X8_append (l : Launch) (N : Nat) (z : Nat → Nat) (o : Nat) (v1 : Int32) (x0 : Hp) : G l z m_X8_append okT enV 0 [(0, va_rf (some o)), (1, .int v1)] [] x0 (f_X8_append N z o v1 x0) := by
  unfold f_X8_append
  refine G_bipush (v := (24 : Int32)) dX8_append_0 (by decide) ?_
  refine G_istore_n (i := 2) (l2 := [(0, va_rf (some o)), (1, .int v1)]) [0, 1] dX8_append_2 rfl (Nat.le_of_ble_eq_true rfl) rfl (sok_a (by decide) (by decide) (sok_b (by decide) rfl trivial)) ?_
  refine G_lv [1, 2, 0] rfl ?_
  exact g_X8_append_b3 l N z N o v1 (24 : Int32) x0

theorem yn_X8_append : Yn yX8_append 1 := ⟨by decide +kernel, by decide +kernel, by decide +kernel⟩
theorem ct_X8_append (l : Launch) (N : Nat) (z : Nat → Nat) (o : Nat) (v1 : Int32) : Ct l z yX8_append cX8_append 3 none 1 enV [.ref o, .int v1] (f_X8_append N z o v1) :=
  Ct_v (fun x => G_lv0 (by simp only [lva_n, lva_i, lva_o, lva_r, lva_j]) (g_X8_append l N z o v1 x)) (by decide +kernel) (by simp only [lgl_n, lgl_i, lgl_o, lgl_r, lgl_j]; decide)

theorem dX8_at_0 : decode cX8_at 0 = .ok (.iload_n 1, 1) := by decide +kernel
theorem dX8_at_1 : decode cX8_at 1 = .ok (.ifCond .lt 24, 3) := by decide +kernel
theorem dX8_at_4 : decode cX8_at 4 = .ok (.iload_n 1, 1) := by decide +kernel
theorem dX8_at_5 : decode cX8_at 5 = .ok (.aload_n 0, 1) := by decide +kernel
theorem dX8_at_6 : decode cX8_at 6 = .ok (.getfield 15, 3) := by decide +kernel
theorem dX8_at_9 : decode cX8_at 9 = .ok (.if_icmp .ge 16, 3) := by decide +kernel
theorem dX8_at_12 : decode cX8_at 12 = .ok (.iload_n 1, 1) := by decide +kernel
theorem dX8_at_13 : decode cX8_at 13 = .ok (.aload_n 0, 1) := by decide +kernel
theorem dX8_at_14 : decode cX8_at 14 = .ok (.getfield 9, 3) := by decide +kernel
theorem dX8_at_17 : decode cX8_at 17 = .ok (.arraylength, 1) := by decide +kernel
theorem dX8_at_18 : decode cX8_at 18 = .ok (.if_icmp .ge 7, 3) := by decide +kernel
theorem dX8_at_21 : decode cX8_at 21 = .ok (.iconst 1, 1) := by decide +kernel
theorem dX8_at_22 : decode cX8_at 22 = .ok (.goto 4, 3) := by decide +kernel
theorem dX8_at_25 : decode cX8_at 25 = .ok (.iconst 0, 1) := by decide +kernel
theorem dX8_at_26 : decode cX8_at 26 = .ok (.istore_n 2, 1) := by decide +kernel
theorem dX8_at_27 : decode cX8_at 27 = .ok (.iload_n 2, 1) := by decide +kernel
theorem dX8_at_28 : decode cX8_at 28 = .ok (.ifCond .eq 16, 3) := by decide +kernel
theorem dX8_at_31 : decode cX8_at 31 = .ok (.aload_n 0, 1) := by decide +kernel
theorem dX8_at_32 : decode cX8_at 32 = .ok (.getfield 9, 3) := by decide +kernel
theorem dX8_at_35 : decode cX8_at 35 = .ok (.iload_n 1, 1) := by decide +kernel
theorem dX8_at_36 : decode cX8_at 36 = .ok (.baload, 1) := by decide +kernel
theorem dX8_at_37 : decode cX8_at 37 = .ok (.sipush 255, 3) := by decide +kernel
theorem dX8_at_40 : decode cX8_at 40 = .ok (.iand, 1) := by decide +kernel
theorem dX8_at_41 : decode cX8_at 41 = .ok (.goto 4, 3) := by decide +kernel
theorem dX8_at_44 : decode cX8_at 44 = .ok (.iconst (-1), 1) := by decide +kernel
theorem dX8_at_45 : decode cX8_at 45 = .ok (.ireturn, 1) := by decide +kernel
abbrev m_X8_at : Mt := (cX8_at, RX8, "at", 3, .ireturn, 1)
def f_X8_at_b26 (N : Nat) (z : Nat → Nat) (o : Nat) (v1 : Int32) (s0 : Int32) (x0 : Hp) : Option (Int32 × Hp) :=
  if s0 = 0 then (some ((-1 : Int32), x0)) else (getr (some o) x0 11 200 fun r1 =>
  aldi r1 x0 100 v1 fun i2 =>
  some (i2 &&& (255 : Int32), x0))
def f_X8_at_b25 (N : Nat) (z : Nat → Nat) (o : Nat) (v1 : Int32) (x0 : Hp) : Option (Int32 × Hp) :=
  f_X8_at_b26 N z o v1 (0 : Int32) x0
def f_X8_at (N : Nat) (z : Nat → Nat) (o : Nat) (v1 : Int32) (x0 : Hp) : Option (Int32 × Hp) :=
  if v1 < 0 then (f_X8_at_b25 N z o v1 x0) else (geti (some o) x0 11 201 fun i3 =>
  if i3 ≤ v1 then (f_X8_at_b25 N z o v1 x0) else (getr (some o) x0 11 200 fun r4 =>
  alen r4 x0 100 fun i5 =>
  if i5 ≤ v1 then (f_X8_at_b25 N z o v1 x0) else (f_X8_at_b26 N z o v1 (1 : Int32) x0)))
set_option maxRecDepth 100000 in
set_option maxHeartbeats 4000000 in
theorem g_X8_at_b26 (l : Launch) (N : Nat) (z : Nat → Nat) (o : Nat) (v1 : Int32) (s0 : Int32) (x0 : Hp) : G l z m_X8_at okT enI 26 [(0, va_rf (some o)), (1, .int v1)] [.int s0] x0 (f_X8_at_b26 N z o v1 s0 x0) := by
  unfold f_X8_at_b26
  refine G_istore_n (i := 2) (l2 := [(0, va_rf (some o)), (1, .int v1)]) [0, 1] dX8_at_26 rfl (Nat.le_of_ble_eq_true rfl) rfl (sok_a (by decide) (by decide) (sok_b (by decide) rfl trivial)) ?_
  refine G_iload_n 0 dX8_at_27 rfl rfl ?_
  refine G_if_eq (tgt := 44) dX8_at_28 (by decide) (fun _ => ?_) (fun _ => ?_)
  · refine G_iconst (v := (-1 : Int32)) dX8_at_44 rfl ?_
    exact G_ret trivial dX8_at_45 rfl
  · refine G_aload_n 1 dX8_at_31 rfl rfl ?_
    refine G_getr (k := 0) K_10 (by decide) rfl rfl rfl gw_83 rfl dX8_at_32 (fun r1 => ?_)
    refine G_iload_n 2 dX8_at_35 rfl rfl ?_
    refine G_bald dX8_at_36 (fun i2 => ?_)
    refine G_sipush (v := (255 : Int32)) dX8_at_37 (by decide) ?_
    refine G_iand dX8_at_40 ?_
    refine G_goto (tgt := 45) dX8_at_41 (by decide) ?_
    exact G_ret trivial dX8_at_45 rfl

set_option maxRecDepth 100000 in
set_option maxHeartbeats 4000000 in
theorem g_X8_at_b25 (l : Launch) (N : Nat) (z : Nat → Nat) (o : Nat) (v1 : Int32) (x0 : Hp) : G l z m_X8_at okT enI 25 [(0, va_rf (some o)), (1, .int v1)] [] x0 (f_X8_at_b25 N z o v1 x0) := by
  unfold f_X8_at_b25
  refine G_iconst (v := (0 : Int32)) dX8_at_25 rfl ?_
  refine G_lv [0, 1] rfl ?_
  exact g_X8_at_b26 l N z o v1 (0 : Int32) x0

set_option maxRecDepth 100000 in
set_option maxHeartbeats 4000000 in
theorem g_X8_at (l : Launch) (N : Nat) (z : Nat → Nat) (o : Nat) (v1 : Int32) (x0 : Hp) : G l z m_X8_at okT enI 0 [(0, va_rf (some o)), (1, .int v1)] [] x0 (f_X8_at N z o v1 x0) := by
  unfold f_X8_at
  refine G_iload_n 1 dX8_at_0 rfl rfl ?_
  refine G_if_lt (tgt := 25) dX8_at_1 (by decide) (fun _ => ?_) (fun _ => ?_)
  · refine G_lv [0, 1] rfl ?_
    exact g_X8_at_b25 l N z o v1 x0
  · refine G_iload_n 1 dX8_at_4 rfl rfl ?_
    refine G_aload_n 0 dX8_at_5 rfl rfl ?_
    refine G_geti (k := 1) K_10 (by decide) rfl rfl rfl gw_85 rfl dX8_at_6 (fun i3 => ?_)
    refine G_icmp_ge (tgt := 25) dX8_at_9 (by decide) (fun _ => ?_) (fun _ => ?_)
    · refine G_lv [0, 1] rfl ?_
      exact g_X8_at_b25 l N z o v1 x0
    · refine G_iload_n 1 dX8_at_12 rfl rfl ?_
      refine G_aload_n 0 dX8_at_13 rfl rfl ?_
      refine G_getr (k := 0) K_10 (by decide) rfl rfl rfl gw_83 rfl dX8_at_14 (fun r4 => ?_)
      refine G_alen (t := 0) rfl (by decide) dX8_at_17 (fun i5 => ?_)
      refine G_icmp_ge (tgt := 25) dX8_at_18 (by decide) (fun _ => ?_) (fun _ => ?_)
      · refine G_lv [0, 1] rfl ?_
        exact g_X8_at_b25 l N z o v1 x0
      · refine G_iconst (v := (1 : Int32)) dX8_at_21 rfl ?_
        refine G_goto (tgt := 26) dX8_at_22 (by decide) ?_
        refine G_lv [0, 1] rfl ?_
        exact g_X8_at_b26 l N z o v1 (1 : Int32) x0

theorem yn_X8_at : Yn yX8_at 1 := ⟨by decide +kernel, by decide +kernel, by decide +kernel⟩
theorem ct_X8_at (l : Launch) (N : Nat) (z : Nat → Nat) (o : Nat) (v1 : Int32) : Ct l z yX8_at cX8_at 3 (some .int) 1 enI [.ref o, .int v1] (f_X8_at N z o v1) :=
  Ct_i (fun x => G_lv0 (by simp only [lva_n, lva_i, lva_o, lva_r, lva_j]) (g_X8_at l N z o v1 x)) (by decide +kernel) (by simp only [lgl_n, lgl_i, lgl_o, lgl_r, lgl_j]; decide)
