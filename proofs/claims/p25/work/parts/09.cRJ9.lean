theorem dJ9_max_7cf53_0 : decode cJ9_max_7cf53 0 = .ok (.iload_n 0, 1) := by decide +kernel
theorem dJ9_max_7cf53_1 : decode cJ9_max_7cf53 1 = .ok (.iload_n 1, 1) := by decide +kernel
theorem dJ9_max_7cf53_2 : decode cJ9_max_7cf53 2 = .ok (.if_icmp .lt 7, 3) := by decide +kernel
theorem dJ9_max_7cf53_5 : decode cJ9_max_7cf53 5 = .ok (.iload_n 0, 1) := by decide +kernel
theorem dJ9_max_7cf53_6 : decode cJ9_max_7cf53 6 = .ok (.goto 4, 3) := by decide +kernel
theorem dJ9_max_7cf53_9 : decode cJ9_max_7cf53 9 = .ok (.iload_n 1, 1) := by decide +kernel
theorem dJ9_max_7cf53_10 : decode cJ9_max_7cf53 10 = .ok (.ireturn, 1) := by decide +kernel
abbrev m_J9_max_7cf53 : Mt := (cJ9_max_7cf53, RJ9, "max", 2, .ireturn, 1)
def f_J9_max_7cf53 (N : Nat) (z : Nat → Nat) (v0 : Int32) (v1 : Int32) (x0 : Hp) : Option (Int32 × Hp) :=
  if v0 < v1 then (some (v1, x0)) else (some (v0, x0))
set_option maxRecDepth 100000 in
set_option maxHeartbeats 4000000 in
theorem g_J9_max_7cf53 (l : Launch) (N : Nat) (z : Nat → Nat) (v0 : Int32) (v1 : Int32) (x0 : Hp) : G l z m_J9_max_7cf53 okT enI 0 [(0, .int v0), (1, .int v1)] [] x0 (f_J9_max_7cf53 N z v0 v1 x0) := by
  unfold f_J9_max_7cf53
  refine G_iload_n 0 dJ9_max_7cf53_0 rfl rfl ?_
  refine G_iload_n 1 dJ9_max_7cf53_1 rfl rfl ?_
  refine G_icmp_lt (tgt := 9) dJ9_max_7cf53_2 (by decide) (fun _ => ?_) (fun _ => ?_)
  · refine G_iload_n 1 dJ9_max_7cf53_9 rfl rfl ?_
    exact G_ret trivial dJ9_max_7cf53_10 rfl
  · refine G_iload_n 0 dJ9_max_7cf53_5 rfl rfl ?_
    refine G_goto (tgt := 10) dJ9_max_7cf53_6 (by decide) ?_
    exact G_ret trivial dJ9_max_7cf53_10 rfl

theorem yn_J9_max_7cf53 : Yn yJ9_max_7cf53 2 := ⟨by decide +kernel, by decide +kernel, by decide +kernel⟩
theorem ct_J9_max_7cf53 (l : Launch) (N : Nat) (z : Nat → Nat) (v0 : Int32) (v1 : Int32) : Ct l z yJ9_max_7cf53 cJ9_max_7cf53 2 (some .int) 1 enI [.int v0, .int v1] (f_J9_max_7cf53 N z v0 v1) :=
  Ct_i (fun x => G_lv0 (by simp [lv_args, rf_cat, Value.category, va_rf]) (g_J9_max_7cf53 l N z v0 v1 x)) (by decide +kernel) (by simp [lg_sl, rf_cat, Value.category])

theorem dJ9_min_7cf53_0 : decode cJ9_min_7cf53 0 = .ok (.iload_n 0, 1) := by decide +kernel
theorem dJ9_min_7cf53_1 : decode cJ9_min_7cf53 1 = .ok (.iload_n 1, 1) := by decide +kernel
theorem dJ9_min_7cf53_2 : decode cJ9_min_7cf53 2 = .ok (.if_icmp .gt 7, 3) := by decide +kernel
theorem dJ9_min_7cf53_5 : decode cJ9_min_7cf53 5 = .ok (.iload_n 0, 1) := by decide +kernel
theorem dJ9_min_7cf53_6 : decode cJ9_min_7cf53 6 = .ok (.goto 4, 3) := by decide +kernel
theorem dJ9_min_7cf53_9 : decode cJ9_min_7cf53 9 = .ok (.iload_n 1, 1) := by decide +kernel
theorem dJ9_min_7cf53_10 : decode cJ9_min_7cf53 10 = .ok (.ireturn, 1) := by decide +kernel
abbrev m_J9_min_7cf53 : Mt := (cJ9_min_7cf53, RJ9, "min", 2, .ireturn, 1)
def f_J9_min_7cf53 (N : Nat) (z : Nat → Nat) (v0 : Int32) (v1 : Int32) (x0 : Hp) : Option (Int32 × Hp) :=
  if v1 < v0 then (some (v1, x0)) else (some (v0, x0))
set_option maxRecDepth 100000 in
set_option maxHeartbeats 4000000 in
theorem g_J9_min_7cf53 (l : Launch) (N : Nat) (z : Nat → Nat) (v0 : Int32) (v1 : Int32) (x0 : Hp) : G l z m_J9_min_7cf53 okT enI 0 [(0, .int v0), (1, .int v1)] [] x0 (f_J9_min_7cf53 N z v0 v1 x0) := by
  unfold f_J9_min_7cf53
  refine G_iload_n 0 dJ9_min_7cf53_0 rfl rfl ?_
  refine G_iload_n 1 dJ9_min_7cf53_1 rfl rfl ?_
  refine G_icmp_gt (tgt := 9) dJ9_min_7cf53_2 (by decide) (fun _ => ?_) (fun _ => ?_)
  · refine G_iload_n 1 dJ9_min_7cf53_9 rfl rfl ?_
    exact G_ret trivial dJ9_min_7cf53_10 rfl
  · refine G_iload_n 0 dJ9_min_7cf53_5 rfl rfl ?_
    refine G_goto (tgt := 10) dJ9_min_7cf53_6 (by decide) ?_
    exact G_ret trivial dJ9_min_7cf53_10 rfl

theorem yn_J9_min_7cf53 : Yn yJ9_min_7cf53 2 := ⟨by decide +kernel, by decide +kernel, by decide +kernel⟩
theorem ct_J9_min_7cf53 (l : Launch) (N : Nat) (z : Nat → Nat) (v0 : Int32) (v1 : Int32) : Ct l z yJ9_min_7cf53 cJ9_min_7cf53 2 (some .int) 1 enI [.int v0, .int v1] (f_J9_min_7cf53 N z v0 v1) :=
  Ct_i (fun x => G_lv0 (by simp [lv_args, rf_cat, Value.category, va_rf]) (g_J9_min_7cf53 l N z v0 v1 x)) (by decide +kernel) (by simp [lg_sl, rf_cat, Value.category])
