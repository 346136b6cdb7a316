theorem dL_below_0 : decode cL_below 0 = .ok (.iload_n 0, 1) := by decide +kernel
theorem dL_below_1 : decode cL_below 1 = .ok (.ldc 7, 2) := by decide +kernel
theorem dL_below_3 : decode cL_below 3 = .ok (.iand, 1) := by decide +kernel
theorem dL_below_4 : decode cL_below 4 = .ok (.iload_n 1, 1) := by decide +kernel
theorem dL_below_5 : decode cL_below 5 = .ok (.irem, 1) := by decide +kernel
theorem dL_below_6 : decode cL_below 6 = .ok (.ireturn, 1) := by decide +kernel
abbrev m_L_below : Mt := (cL_below, RL, "below", 2, .ireturn, 1)
def f_L_below (N : Nat) (z : Nat → Nat) (v0 : Int32) (v1 : Int32) (x0 : Hp) : Option (Int32 × Hp) :=
  nz v1 <|
  some ((v0 &&& (2147483647 : Int32)) - (v0 &&& (2147483647 : Int32)) / v1 * v1, x0)
set_option maxRecDepth 100000 in
set_option maxHeartbeats 4000000 in
theorem g_L_below (l : Launch) (N : Nat) (z : Nat → Nat) (v0 : Int32) (v1 : Int32) (x0 : Hp) : G l z m_L_below okT enI 0 [(0, .int v0), (1, .int v1)] [] x0 (f_L_below N z v0 v1 x0) := by
  unfold f_L_below
  refine G_iload_n 0 dL_below_0 rfl rfl ?_
  refine G_ldc (v := (2147483647 : Int32)) gw_1375 dL_below_1 ?_
  refine G_iand dL_below_3 ?_
  refine G_iload_n 1 dL_below_4 rfl rfl ?_
  refine G_irem dL_below_5 ?_
  exact G_ret trivial dL_below_6 rfl

theorem yn_L_below : Yn yL_below 2 := ⟨by decide +kernel, by decide +kernel, by decide +kernel⟩
theorem ct_L_below (l : Launch) (N : Nat) (z : Nat → Nat) (v0 : Int32) (v1 : Int32) : Ct l z yL_below cL_below 2 (some .int) 1 enI [.int v0, .int v1] (f_L_below N z v0 v1) :=
  Ct_i (fun x => G_lv0 (by simp only [lva_n, lva_i, lva_o, lva_r, lva_j]) (g_L_below l N z v0 v1 x)) (by decide +kernel) (by simp only [lgl_n, lgl_i, lgl_o, lgl_r, lgl_j]; decide)

theorem dL_cell_0 : decode cL_cell 0 = .ok (.iload_n 1, 1) := by decide +kernel
theorem dL_cell_1 : decode cL_cell 1 = .ok (.aload_n 0, 1) := by decide +kernel
theorem dL_cell_2 : decode cL_cell 2 = .ok (.arraylength, 1) := by decide +kernel
theorem dL_cell_3 : decode cL_cell 3 = .ok (.if_icmp .ge 9, 3) := by decide +kernel
theorem dL_cell_6 : decode cL_cell 6 = .ok (.aload_n 0, 1) := by decide +kernel
theorem dL_cell_7 : decode cL_cell 7 = .ok (.iload_n 1, 1) := by decide +kernel
theorem dL_cell_8 : decode cL_cell 8 = .ok (.iaload, 1) := by decide +kernel
theorem dL_cell_9 : decode cL_cell 9 = .ok (.goto 9, 3) := by decide +kernel
theorem dL_cell_12 : decode cL_cell 12 = .ok (.ldc 8, 2) := by decide +kernel
theorem dL_cell_14 : decode cL_cell 14 = .ok (.iload_n 1, 1) := by decide +kernel
theorem dL_cell_15 : decode cL_cell 15 = .ok (.iconst 3, 1) := by decide +kernel
theorem dL_cell_16 : decode cL_cell 16 = .ok (.iadd, 1) := by decide +kernel
theorem dL_cell_17 : decode cL_cell 17 = .ok (.imul, 1) := by decide +kernel
theorem dL_cell_18 : decode cL_cell 18 = .ok (.ireturn, 1) := by decide +kernel
abbrev m_L_cell : Mt := (cL_cell, RL, "cell", 2, .ireturn, 1)
def f_L_cell (N : Nat) (z : Nat → Nat) (v0 : Option Nat) (v1 : Int32) (x0 : Hp) : Option (Int32 × Hp) :=
  alen v0 x0 301 fun i1 =>
  if i1 ≤ v1 then (some ((790386105 : Int32) * (v1 + (3 : Int32)), x0)) else (aldi v0 x0 301 v1 fun i2 =>
  some (i2, x0))
set_option maxRecDepth 100000 in
set_option maxHeartbeats 4000000 in
theorem g_L_cell (l : Launch) (N : Nat) (z : Nat → Nat) (v0 : Option Nat) (v1 : Int32) (x0 : Hp) : G l z m_L_cell okT enI 0 [(0, va_rf v0), (1, .int v1)] [] x0 (f_L_cell N z v0 v1 x0) := by
  unfold f_L_cell
  refine G_iload_n 1 dL_cell_0 rfl rfl ?_
  refine G_aload_n 0 dL_cell_1 rfl rfl ?_
  refine G_alenO dL_cell_2 (fun i1 => ?_)
  refine G_icmp_ge (tgt := 12) dL_cell_3 (by decide) (fun _ => ?_) (fun _ => ?_)
  · refine G_ldc (v := (790386105 : Int32)) gw_1117 dL_cell_12 ?_
    refine G_iload_n 1 dL_cell_14 rfl rfl ?_
    refine G_iconst (v := (3 : Int32)) dL_cell_15 rfl ?_
    refine G_iadd dL_cell_16 ?_
    refine G_imul dL_cell_17 ?_
    exact G_ret trivial dL_cell_18 rfl
  · refine G_aload_n 0 dL_cell_6 rfl rfl ?_
    refine G_iload_n 1 dL_cell_7 rfl rfl ?_
    refine G_ialdO dL_cell_8 (fun i2 => ?_)
    refine G_goto (tgt := 18) dL_cell_9 (by decide) ?_
    exact G_ret trivial dL_cell_18 rfl

theorem yn_L_cell : Yn yL_cell 2 := ⟨by decide +kernel, by decide +kernel, by decide +kernel⟩
theorem ct_L_cell (l : Launch) (N : Nat) (z : Nat → Nat) (v0 : Option Nat) (v1 : Int32) : Ct l z yL_cell cL_cell 2 (some .int) 1 enI [va_rf v0, .int v1] (f_L_cell N z v0 v1) :=
  Ct_i (fun x => G_lv0 (by simp only [lva_n, lva_i, lva_o, lva_r, lva_j]) (g_L_cell l N z v0 v1 x)) (by decide +kernel) (by simp only [lgl_n, lgl_i, lgl_o, lgl_r, lgl_j]; decide)

theorem dL_say_0 : decode cL_say 0 = .ok (.aload_n 1, 1) := by decide +kernel
theorem dL_say_1 : decode cL_say 1 = .ok (.invokevirtual 9, 3) := by decide +kernel
theorem dL_say_4 : decode cL_say 4 = .ok (.istore_n 2, 1) := by decide +kernel
theorem dL_say_5 : decode cL_say 5 = .ok (.iconst 0, 1) := by decide +kernel
theorem dL_say_6 : decode cL_say 6 = .ok (.istore_n 3, 1) := by decide +kernel
theorem dL_say_7 : decode cL_say 7 = .ok (.iload_n 3, 1) := by decide +kernel
theorem dL_say_8 : decode cL_say 8 = .ok (.iload_n 2, 1) := by decide +kernel
theorem dL_say_9 : decode cL_say 9 = .ok (.if_icmp .ge 93, 3) := by decide +kernel
theorem dL_say_12 : decode cL_say 12 = .ok (.iconst 5, 1) := by decide +kernel
theorem dL_say_13 : decode cL_say 13 = .ok (.newarray .int, 2) := by decide +kernel
theorem dL_say_15 : decode cL_say 15 = .ok (.astore 4, 2) := by decide +kernel
theorem dL_say_17 : decode cL_say 17 = .ok (.iconst 0, 1) := by decide +kernel
theorem dL_say_18 : decode cL_say 18 = .ok (.istore 5, 2) := by decide +kernel
theorem dL_say_20 : decode cL_say 20 = .ok (.iload 5, 2) := by decide +kernel
theorem dL_say_22 : decode cL_say 22 = .ok (.bipush 20, 2) := by decide +kernel
theorem dL_say_24 : decode cL_say 24 = .ok (.if_icmp .ge 47, 3) := by decide +kernel
theorem dL_say_27 : decode cL_say 27 = .ok (.aload 4, 2) := by decide +kernel
theorem dL_say_29 : decode cL_say 29 = .ok (.iload 5, 2) := by decide +kernel
theorem dL_say_31 : decode cL_say 31 = .ok (.iconst 4, 1) := by decide +kernel
theorem dL_say_32 : decode cL_say 32 = .ok (.idiv, 1) := by decide +kernel
theorem dL_say_33 : decode cL_say 33 = .ok (.aload 4, 2) := by decide +kernel
theorem dL_say_35 : decode cL_say 35 = .ok (.iload 5, 2) := by decide +kernel
theorem dL_say_37 : decode cL_say 37 = .ok (.iconst 4, 1) := by decide +kernel
theorem dL_say_38 : decode cL_say 38 = .ok (.idiv, 1) := by decide +kernel
theorem dL_say_39 : decode cL_say 39 = .ok (.iaload, 1) := by decide +kernel
theorem dL_say_40 : decode cL_say 40 = .ok (.bipush 8, 2) := by decide +kernel
theorem dL_say_42 : decode cL_say 42 = .ok (.ishl, 1) := by decide +kernel
theorem dL_say_43 : decode cL_say 43 = .ok (.iload_n 3, 1) := by decide +kernel
theorem dL_say_44 : decode cL_say 44 = .ok (.iload 5, 2) := by decide +kernel
theorem dL_say_46 : decode cL_say 46 = .ok (.iadd, 1) := by decide +kernel
theorem dL_say_47 : decode cL_say 47 = .ok (.iload_n 2, 1) := by decide +kernel
theorem dL_say_48 : decode cL_say 48 = .ok (.if_icmp .ge 14, 3) := by decide +kernel
theorem dL_say_51 : decode cL_say 51 = .ok (.aload_n 1, 1) := by decide +kernel
theorem dL_say_52 : decode cL_say 52 = .ok (.iload_n 3, 1) := by decide +kernel
theorem dL_say_53 : decode cL_say 53 = .ok (.iload 5, 2) := by decide +kernel
theorem dL_say_55 : decode cL_say 55 = .ok (.iadd, 1) := by decide +kernel
theorem dL_say_56 : decode cL_say 56 = .ok (.invokevirtual 15, 3) := by decide +kernel
theorem dL_say_59 : decode cL_say 59 = .ok (.goto 4, 3) := by decide +kernel
theorem dL_say_62 : decode cL_say 62 = .ok (.iconst 0, 1) := by decide +kernel
theorem dL_say_63 : decode cL_say 63 = .ok (.ior, 1) := by decide +kernel
theorem dL_say_64 : decode cL_say 64 = .ok (.iastore, 1) := by decide +kernel
theorem dL_say_65 : decode cL_say 65 = .ok (.iinc 5 1, 3) := by decide +kernel
theorem dL_say_68 : decode cL_say 68 = .ok (.goto (-48), 3) := by decide +kernel
theorem dL_say_71 : decode cL_say 71 = .ok (.aload_n 0, 1) := by decide +kernel
theorem dL_say_72 : decode cL_say 72 = .ok (.aload 4, 2) := by decide +kernel
theorem dL_say_74 : decode cL_say 74 = .ok (.iconst 0, 1) := by decide +kernel
theorem dL_say_75 : decode cL_say 75 = .ok (.iaload, 1) := by decide +kernel
theorem dL_say_76 : decode cL_say 76 = .ok (.aload 4, 2) := by decide +kernel
theorem dL_say_78 : decode cL_say 78 = .ok (.iconst 1, 1) := by decide +kernel
theorem dL_say_79 : decode cL_say 79 = .ok (.iaload, 1) := by decide +kernel
theorem dL_say_80 : decode cL_say 80 = .ok (.aload 4, 2) := by decide +kernel
theorem dL_say_82 : decode cL_say 82 = .ok (.iconst 2, 1) := by decide +kernel
theorem dL_say_83 : decode cL_say 83 = .ok (.iaload, 1) := by decide +kernel
theorem dL_say_84 : decode cL_say 84 = .ok (.aload 4, 2) := by decide +kernel
theorem dL_say_86 : decode cL_say 86 = .ok (.iconst 3, 1) := by decide +kernel
theorem dL_say_87 : decode cL_say 87 = .ok (.iaload, 1) := by decide +kernel
theorem dL_say_88 : decode cL_say 88 = .ok (.aload 4, 2) := by decide +kernel
theorem dL_say_90 : decode cL_say 90 = .ok (.iconst 4, 1) := by decide +kernel
theorem dL_say_91 : decode cL_say 91 = .ok (.iaload, 1) := by decide +kernel
theorem dL_say_92 : decode cL_say 92 = .ok (.invokevirtual 19, 3) := by decide +kernel
theorem dL_say_95 : decode cL_say 95 = .ok (.pop, 1) := by decide +kernel
theorem dL_say_96 : decode cL_say 96 = .ok (.iinc 3 20, 3) := by decide +kernel
theorem dL_say_99 : decode cL_say 99 = .ok (.goto (-92), 3) := by decide +kernel
theorem dL_say_102 : decode cL_say 102 = .ok (.iload_n 2, 1) := by decide +kernel
theorem dL_say_103 : decode cL_say 103 = .ok (.ifCond .le 9, 3) := by decide +kernel
theorem dL_say_106 : decode cL_say 106 = .ok (.aload_n 0, 1) := by decide +kernel
theorem dL_say_107 : decode cL_say 107 = .ok (.iload_n 2, 1) := by decide +kernel
theorem dL_say_108 : decode cL_say 108 = .ok (.invokevirtual 25, 3) := by decide +kernel
theorem dL_say_111 : decode cL_say 111 = .ok (.pop, 1) := by decide +kernel
theorem dL_say_112 : decode cL_say 112 = .ok (.aload_n 0, 1) := by decide +kernel
theorem dL_say_113 : decode cL_say 113 = .ok (.invokevirtual 29, 3) := by decide +kernel
theorem dL_say_116 : decode cL_say 116 = .ok (.ireturn, 1) := by decide +kernel
abbrev m_L_say : Mt := (cL_say, RL, "say", 6, .ireturn, 31)
def f_L_say_b63 (N : Nat) (z : Nat → Nat) (k7 : Option Nat → Option Nat → Int32 → Int32 → Hp → Option (Int32 × Hp)) (k20 : Option Nat → Option Nat → Int32 → Int32 → Option Nat → Int32 → Hp → Option (Int32 × Hp)) (v0 : Option Nat) (v1 : Option Nat) (v2 : Int32) (v3 : Int32) (v4 : Option Nat) (v5 : Int32) (s0 : Int32) (s1 : Int32) (s2 : Int32) (s3 : Option Nat) (x0 : Hp) : Option (Int32 × Hp) :=
  asti s3 x0 101 s2 (s1 ||| s0) fun x1 =>
  k20 v0 v1 v2 v3 v4 (v5 + (1 : Int32)) x1
def f_L_say_b20 (N : Nat) (z : Nat → Nat) (k7 : Option Nat → Option Nat → Int32 → Int32 → Hp → Option (Int32 × Hp)) : Nat → Option Nat → Option Nat → Int32 → Int32 → Option Nat → Int32 → Hp → Option (Int32 × Hp)
  | 0, _, _, _, _, _, _, _ => none
  | n + 1, v0, v1, v2, v3, v4, v5, x0 => if (20 : Int32) ≤ v5 then (aldi v4 x0 101 (0 : Int32) fun i2 =>
  aldi v4 x0 101 (1 : Int32) fun i3 =>
  aldi v4 x0 101 (2 : Int32) fun i4 =>
  aldi v4 x0 101 (3 : Int32) fun i5 =>
  aldi v4 x0 101 (4 : Int32) fun i6 =>
  obj v0 x0 13 fun q9 => bnd (f_X10_feed N z q9 i2 i3 i4 i5 i6 x0) fun i8 x7 =>
  k7 v0 v1 v2 (v3 + (20 : Int32)) x7) else (nz (4 : Int32) <|
  nz (4 : Int32) <|
  aldi v4 x0 101 (v5 / (4 : Int32)) fun i10 =>
  if v2 ≤ (v3 + v5) then (f_L_say_b63 N z k7 (f_L_say_b20 N z k7 n) v0 v1 v2 v3 v4 v5 (0 : Int32) (i10 <<< ((8 : Int32) &&& 31)) (v5 / (4 : Int32)) v4 x0) else (objS v1 x0 fun q13 => bnd (f_J0_charAt_5068e N z q13 (v3 + v5) x0) fun i12 x11 =>
  f_L_say_b63 N z k7 (f_L_say_b20 N z k7 n) v0 v1 v2 v3 v4 v5 i12 (i10 <<< ((8 : Int32) &&& 31)) (v5 / (4 : Int32)) v4 x11))
def f_L_say_b112 (N : Nat) (z : Nat → Nat) (v0 : Option Nat) (x0 : Hp) : Option (Int32 × Hp) :=
  obj v0 x0 13 fun q16 => bnd (f_X10_teach N z q16 x0) fun i15 x14 =>
  some (i15, x14)
def f_L_say_b7 (N : Nat) (z : Nat → Nat) : Nat → Option Nat → Option Nat → Int32 → Int32 → Hp → Option (Int32 × Hp)
  | 0, _, _, _, _, _ => none
  | n + 1, v0, v1, v2, v3, x0 => if v2 ≤ v3 then (if v2 ≤ 0 then (f_L_say_b112 N z v0 x0) else (obj v0 x0 13 fun q19 => bnd (f_X10_trim N z q19 v2 x0) fun i18 x17 =>
  f_L_say_b112 N z v0 x17)) else (newa x0 101 (5 : Int32) fun r20 x21 =>
  f_L_say_b20 N z (f_L_say_b7 N z n) N v0 v1 v2 v3 r20 (0 : Int32) x21)
def f_L_say (N : Nat) (z : Nat → Nat) (v0 : Option Nat) (v1 : Option Nat) (x0 : Hp) : Option (Int32 × Hp) :=
  objS v1 x0 fun q24 => bnd (f_J0_length_8abf5 N z q24 x0) fun i23 x22 =>
  f_L_say_b7 N z N v0 v1 i23 (0 : Int32) x22
set_option maxRecDepth 100000 in
set_option maxHeartbeats 4000000 in
theorem g_L_say_b63 (l : Launch) (N : Nat) (z : Nat → Nat) {k7 : Option Nat → Option Nat → Int32 → Int32 → Hp → Option (Int32 × Hp)} (hk7 : ∀ v0 v1 v2 v3 x, G l z m_L_say okT enI 7 [(0, va_rf v0), (1, va_rf v1), (2, .int v2), (3, .int v3)] [] x (k7 v0 v1 v2 v3 x)) {k20 : Option Nat → Option Nat → Int32 → Int32 → Option Nat → Int32 → Hp → Option (Int32 × Hp)} (hk20 : ∀ v0 v1 v2 v3 v4 v5 x, G l z m_L_say okT enI 20 [(0, va_rf v0), (1, va_rf v1), (2, .int v2), (3, .int v3), (4, va_rf v4), (5, .int v5)] [] x (k20 v0 v1 v2 v3 v4 v5 x)) (v0 : Option Nat) (v1 : Option Nat) (v2 : Int32) (v3 : Int32) (v4 : Option Nat) (v5 : Int32) (s0 : Int32) (s1 : Int32) (s2 : Int32) (s3 : Option Nat) (x0 : Hp) : G l z m_L_say okT enI 63 [(0, va_rf v0), (1, va_rf v1), (2, .int v2), (3, .int v3), (4, va_rf v4), (5, .int v5)] [.int s0, .int s1, .int s2, va_rf s3] x0 (f_L_say_b63 N z k7 k20 v0 v1 v2 v3 v4 v5 s0 s1 s2 s3 x0) := by
  unfold f_L_say_b63
  refine G_ior dL_say_63 ?_
  refine G_iast dL_say_64 (fun x1 => ?_)
  refine G_iinc (i := 5) (l2 := [(0, va_rf v0), (1, va_rf v1), (2, .int v2), (3, .int v3), (4, va_rf v4)]) 5 [0, 1, 2, 3, 4] dL_say_65 rfl rfl (Nat.le_of_ble_eq_true rfl) rfl (sok_a (by decide) (by decide) (sok_a (by decide) (by decide) (sok_a (by decide) (by decide) (sok_a (by decide) (by decide) (sok_b (by decide) (rf_cat _) trivial))))) ?_
  refine G_goto (tgt := 20) dL_say_68 (by decide) ?_
  refine G_lv [1, 2, 3, 4, 5, 0] rfl ?_
  exact hk20 v0 v1 v2 v3 v4 (v5 + (1 : Int32)) x1

set_option maxRecDepth 100000 in
set_option maxHeartbeats 4000000 in
theorem g_L_say_b20 (l : Launch) (N : Nat) (z : Nat → Nat) {k7 : Option Nat → Option Nat → Int32 → Int32 → Hp → Option (Int32 × Hp)} (hk7 : ∀ v0 v1 v2 v3 x, G l z m_L_say okT enI 7 [(0, va_rf v0), (1, va_rf v1), (2, .int v2), (3, .int v3)] [] x (k7 v0 v1 v2 v3 x)) : ∀ (n : Nat) (v0 : Option Nat) (v1 : Option Nat) (v2 : Int32) (v3 : Int32) (v4 : Option Nat) (v5 : Int32) (x0 : Hp), G l z m_L_say okT enI 20 [(0, va_rf v0), (1, va_rf v1), (2, .int v2), (3, .int v3), (4, va_rf v4), (5, .int v5)] [] x0 (f_L_say_b20 N z k7 n v0 v1 v2 v3 v4 v5 x0) := by
  intro n
  induction n with
  | zero => intro v0 v1 v2 v3 v4 v5 x0; exact G_none
  | succ n ih =>
  intro v0 v1 v2 v3 v4 v5 x0
  rw [f_L_say_b20]
  refine G_iload 5 dL_say_20 rfl ?_
  refine G_bipush (v := (20 : Int32)) dL_say_22 (by decide) ?_
  refine G_icmp_ge (tgt := 71) dL_say_24 (by decide) (fun _ => ?_) (fun _ => ?_)
  · refine G_aload_n 0 dL_say_71 rfl rfl ?_
    refine G_aload 4 dL_say_72 rfl ?_
    refine G_iconst (v := (0 : Int32)) dL_say_74 rfl ?_
    refine G_iald dL_say_75 (fun i2 => ?_)
    refine G_aload 4 dL_say_76 rfl ?_
    refine G_iconst (v := (1 : Int32)) dL_say_78 rfl ?_
    refine G_iald dL_say_79 (fun i3 => ?_)
    refine G_aload 4 dL_say_80 rfl ?_
    refine G_iconst (v := (2 : Int32)) dL_say_82 rfl ?_
    refine G_iald dL_say_83 (fun i4 => ?_)
    refine G_aload 4 dL_say_84 rfl ?_
    refine G_iconst (v := (3 : Int32)) dL_say_86 rfl ?_
    refine G_iald dL_say_87 (fun i5 => ?_)
    refine G_aload 4 dL_say_88 rfl ?_
    refine G_iconst (v := (4 : Int32)) dL_say_90 rfl ?_
    refine G_iald dL_say_91 (fun i6 => ?_)
    refine G_callV (av := [.int i2, .int i3, .int i4, .int i5, .int i6]) [] (fun q9 => ct_X10_feed l N z q9 i2 i3 i4 i5 i6) K_12 rfl yn_X10_feed (Nat.le_of_ble_eq_true rfl) (by decide) gw_1123 gw_1124 gw_1125 gw_39 gw_1126 rfl (by decide) dL_say_92 (fun i8 x7 => ?_)
    refine G_pop dL_say_95 rfl ?_
    refine G_iinc (i := 3) (l2 := [(0, va_rf v0), (1, va_rf v1), (2, .int v2), (4, va_rf v4), (5, .int v5)]) 3 [0, 1, 2, 4, 5] dL_say_96 rfl rfl (Nat.le_of_ble_eq_true rfl) rfl (sok_a (by decide) (by decide) (sok_a (by decide) (by decide) (sok_b (by decide) rfl (sok_a (by decide) (by decide) (sok_a (by decide) (by decide) trivial))))) ?_
    refine G_goto (tgt := 7) dL_say_99 (by decide) ?_
    refine G_lv [1, 2, 3, 0] rfl ?_
    exact hk7 v0 v1 v2 (v3 + (20 : Int32)) x7
  · refine G_aload 4 dL_say_27 rfl ?_
    refine G_iload 5 dL_say_29 rfl ?_
    refine G_iconst (v := (4 : Int32)) dL_say_31 rfl ?_
    refine G_idiv dL_say_32 ?_
    refine G_aload 4 dL_say_33 rfl ?_
    refine G_iload 5 dL_say_35 rfl ?_
    refine G_iconst (v := (4 : Int32)) dL_say_37 rfl ?_
    refine G_idiv dL_say_38 ?_
    refine G_iald dL_say_39 (fun i10 => ?_)
    refine G_bipush (v := (8 : Int32)) dL_say_40 (by decide) ?_
    refine G_ishl dL_say_42 ?_
    refine G_iload_n 3 dL_say_43 rfl rfl ?_
    refine G_iload 5 dL_say_44 rfl ?_
    refine G_iadd dL_say_46 ?_
    refine G_iload_n 2 dL_say_47 rfl rfl ?_
    refine G_icmp_ge (tgt := 62) dL_say_48 (by decide) (fun _ => ?_) (fun _ => ?_)
    · refine G_iconst (v := (0 : Int32)) dL_say_62 rfl ?_
      refine G_lv [0, 1, 2, 3, 4, 5] rfl ?_
      exact g_L_say_b63 l N z hk7 ih v0 v1 v2 v3 v4 v5 (0 : Int32) (i10 <<< ((8 : Int32) &&& 31)) (v5 / (4 : Int32)) v4 x0
    · refine G_aload_n 1 dL_say_51 rfl rfl ?_
      refine G_iload_n 3 dL_say_52 rfl rfl ?_
      refine G_iload 5 dL_say_53 rfl ?_
      refine G_iadd dL_say_55 ?_
      refine G_callVS (av := [.int (v3 + v5)]) [.int (i10 <<< ((8 : Int32) &&& 31)), .int (v5 / (4 : Int32)), va_rf v4] (fun q13 => ct_J0_charAt_5068e l N z q13 (v3 + v5)) K_0 yn_J0_charAt_5068e (Nat.le_of_ble_eq_true rfl) (by decide) gw_1122 gw_365 gw_366 gw_50 gw_367 rfl (by simp only [hw_n, hw_i, hw_r, hw_j, hw_d]; decide) dL_say_56 (fun i12 x11 => ?_)
      refine G_goto (tgt := 63) dL_say_59 (by decide) ?_
      refine G_lv [0, 1, 2, 3, 4, 5] rfl ?_
      exact g_L_say_b63 l N z hk7 ih v0 v1 v2 v3 v4 v5 i12 (i10 <<< ((8 : Int32) &&& 31)) (v5 / (4 : Int32)) v4 x11

set_option maxRecDepth 100000 in
set_option maxHeartbeats 4000000 in
theorem g_L_say_b112 (l : Launch) (N : Nat) (z : Nat → Nat) (v0 : Option Nat) (x0 : Hp) : G l z m_L_say okT enI 112 [(0, va_rf v0)] [] x0 (f_L_say_b112 N z v0 x0) := by
  unfold f_L_say_b112
  refine G_aload_n 0 dL_say_112 rfl rfl ?_
  refine G_callV (av := []) [] (fun q16 => ct_X10_teach l N z q16) K_12 rfl yn_X10_teach (Nat.le_of_ble_eq_true rfl) (by decide) gw_1152 gw_1153 gw_1154 gw_39 gw_1155 rfl (by decide) dL_say_113 (fun i15 x14 => ?_)
  exact G_ret trivial dL_say_116 rfl

set_option maxRecDepth 100000 in
set_option maxHeartbeats 4000000 in
theorem g_L_say_b7 (l : Launch) (N : Nat) (z : Nat → Nat) : ∀ (n : Nat) (v0 : Option Nat) (v1 : Option Nat) (v2 : Int32) (v3 : Int32) (x0 : Hp), G l z m_L_say okT enI 7 [(0, va_rf v0), (1, va_rf v1), (2, .int v2), (3, .int v3)] [] x0 (f_L_say_b7 N z n v0 v1 v2 v3 x0) := by
  intro n
  induction n with
  | zero => intro v0 v1 v2 v3 x0; exact G_none
  | succ n ih =>
  intro v0 v1 v2 v3 x0
  rw [f_L_say_b7]
  refine G_iload_n 3 dL_say_7 rfl rfl ?_
  refine G_iload_n 2 dL_say_8 rfl rfl ?_
  refine G_icmp_ge (tgt := 102) dL_say_9 (by decide) (fun _ => ?_) (fun _ => ?_)
  · refine G_iload_n 2 dL_say_102 rfl rfl ?_
    refine G_if_le (tgt := 112) dL_say_103 (by decide) (fun _ => ?_) (fun _ => ?_)
    · refine G_lv [0] rfl ?_
      exact g_L_say_b112 l N z v0 x0
    · refine G_aload_n 0 dL_say_106 rfl rfl ?_
      refine G_iload_n 2 dL_say_107 rfl rfl ?_
      refine G_callV (av := [.int v2]) [] (fun q19 => ct_X10_trim l N z q19 v2) K_12 rfl yn_X10_trim (Nat.le_of_ble_eq_true rfl) (by decide) gw_1147 gw_1148 gw_1149 gw_39 gw_1150 rfl (by decide) dL_say_108 (fun i18 x17 => ?_)
      refine G_pop dL_say_111 rfl ?_
      refine G_lv [0] rfl ?_
      exact g_L_say_b112 l N z v0 x17
  · refine G_iconst (v := (5 : Int32)) dL_say_12 rfl ?_
    refine G_newa (t := 1) rfl (Or.inr (Or.inl ⟨rfl, rfl⟩)) gw_140 dL_say_13 (fun r20 x21 => ?_)
    refine G_astore (i := 4) (l2 := [(0, va_rf v0), (1, va_rf v1), (2, .int v2), (3, .int v3)]) [0, 1, 2, 3] dL_say_15 (Nat.le_of_ble_eq_true rfl) rfl (sok_a (by decide) (by decide) (sok_a (by decide) (by decide) (sok_a (by decide) (by decide) (sok_b (by decide) rfl trivial)))) ?_
    refine G_iconst (v := (0 : Int32)) dL_say_17 rfl ?_
    refine G_istore (i := 5) (l2 := [(4, va_rf r20), (0, va_rf v0), (1, va_rf v1), (2, .int v2), (3, .int v3)]) [0, 1, 2, 3, 4] dL_say_18 (Nat.le_of_ble_eq_true rfl) rfl (sok_b (by decide) (rf_cat _) (sok_a (by decide) (by decide) (sok_a (by decide) (by decide) (sok_a (by decide) (by decide) (sok_a (by decide) (by decide) trivial))))) ?_
    refine G_lv [2, 3, 4, 5, 1, 0] rfl ?_
    exact g_L_say_b20 l N z ih N v0 v1 v2 v3 r20 (0 : Int32) x21

set_option maxRecDepth 100000 in
set_option maxHeartbeats 4000000 in
theorem g_L_say (l : Launch) (N : Nat) (z : Nat → Nat) (v0 : Option Nat) (v1 : Option Nat) (x0 : Hp) : G l z m_L_say okT enI 0 [(0, va_rf v0), (1, va_rf v1)] [] x0 (f_L_say N z v0 v1 x0) := by
  unfold f_L_say
  refine G_aload_n 1 dL_say_0 rfl rfl ?_
  refine G_callVS (av := []) [] (fun q24 => ct_J0_length_8abf5 l N z q24) K_0 yn_J0_length_8abf5 (Nat.le_of_ble_eq_true rfl) (by decide) gw_1121 gw_355 gw_356 gw_50 gw_357 rfl (by decide) dL_say_1 (fun i23 x22 => ?_)
  refine G_istore_n (i := 2) (l2 := [(0, va_rf v0), (1, va_rf v1)]) [0, 1] dL_say_4 rfl (Nat.le_of_ble_eq_true rfl) rfl (sok_a (by decide) (by decide) (sok_b (by decide) (rf_cat _) trivial)) ?_
  refine G_iconst (v := (0 : Int32)) dL_say_5 rfl ?_
  refine G_istore_n (i := 3) (l2 := [(2, .int i23), (0, va_rf v0), (1, va_rf v1)]) [0, 1, 2] dL_say_6 rfl (Nat.le_of_ble_eq_true rfl) rfl (sok_b (by decide) rfl (sok_a (by decide) (by decide) (sok_a (by decide) (by decide) trivial))) ?_
  refine G_lv [2, 3, 1, 0] rfl ?_
  exact g_L_say_b7 l N z N v0 v1 i23 (0 : Int32) x22

theorem yn_L_say : Yn yL_say 2 := ⟨by decide +kernel, by decide +kernel, by decide +kernel⟩
theorem ct_L_say (l : Launch) (N : Nat) (z : Nat → Nat) (v0 : Option Nat) (v1 : Option Nat) : Ct l z yL_say cL_say 6 (some .int) 31 enI [va_rf v0, va_rf v1] (f_L_say N z v0 v1) :=
  Ct_i (fun x => G_lv0 (by simp only [lva_n, lva_i, lva_o, lva_r, lva_j]) (g_L_say l N z v0 v1 x)) (by decide +kernel) (by simp only [lgl_n, lgl_i, lgl_o, lgl_r, lgl_j]; decide)

theorem dL_chosen_0 : decode cL_chosen 0 = .ok (.new 32, 3) := by decide +kernel
theorem dL_chosen_3 : decode cL_chosen 3 = .ok (.dup, 1) := by decide +kernel
theorem dL_chosen_4 : decode cL_chosen 4 = .ok (.invokespecial 34, 3) := by decide +kernel
theorem dL_chosen_7 : decode cL_chosen 7 = .ok (.astore_n 1, 1) := by decide +kernel
theorem dL_chosen_8 : decode cL_chosen 8 = .ok (.aload_n 0, 1) := by decide +kernel
theorem dL_chosen_9 : decode cL_chosen 9 = .ok (.iconst 0, 1) := by decide +kernel
theorem dL_chosen_10 : decode cL_chosen 10 = .ok (.invokestatic 35, 3) := by decide +kernel
theorem dL_chosen_13 : decode cL_chosen 13 = .ok (.iconst 3, 1) := by decide +kernel
theorem dL_chosen_14 : decode cL_chosen 14 = .ok (.invokestatic 41, 3) := by decide +kernel
theorem dL_chosen_17 : decode cL_chosen 17 = .ok (.ifCond .le 19, 3) := by decide +kernel
theorem dL_chosen_20 : decode cL_chosen 20 = .ok (.aload_n 1, 1) := by decide +kernel
theorem dL_chosen_21 : decode cL_chosen 21 = .ok (.aload_n 0, 1) := by decide +kernel
theorem dL_chosen_22 : decode cL_chosen 22 = .ok (.iconst 0, 1) := by decide +kernel
theorem dL_chosen_23 : decode cL_chosen 23 = .ok (.invokestatic 35, 3) := by decide +kernel
theorem dL_chosen_26 : decode cL_chosen 26 = .ok (.iconst 2, 1) := by decide +kernel
theorem dL_chosen_27 : decode cL_chosen 27 = .ok (.ishr, 1) := by decide +kernel
theorem dL_chosen_28 : decode cL_chosen 28 = .ok (.bipush 31, 2) := by decide +kernel
theorem dL_chosen_30 : decode cL_chosen 30 = .ok (.invokestatic 41, 3) := by decide +kernel
theorem dL_chosen_33 : decode cL_chosen 33 = .ok (.putfield 45, 3) := by decide +kernel
theorem dL_chosen_36 : decode cL_chosen 36 = .ok (.iconst 1, 1) := by decide +kernel
theorem dL_chosen_37 : decode cL_chosen 37 = .ok (.aload_n 0, 1) := by decide +kernel
theorem dL_chosen_38 : decode cL_chosen 38 = .ok (.iconst 1, 1) := by decide +kernel
theorem dL_chosen_39 : decode cL_chosen 39 = .ok (.invokestatic 35, 3) := by decide +kernel
theorem dL_chosen_42 : decode cL_chosen 42 = .ok (.iconst 5, 1) := by decide +kernel
theorem dL_chosen_43 : decode cL_chosen 43 = .ok (.invokestatic 41, 3) := by decide +kernel
theorem dL_chosen_46 : decode cL_chosen 46 = .ok (.iadd, 1) := by decide +kernel
theorem dL_chosen_47 : decode cL_chosen 47 = .ok (.istore_n 2, 1) := by decide +kernel
theorem dL_chosen_48 : decode cL_chosen 48 = .ok (.aload_n 1, 1) := by decide +kernel
theorem dL_chosen_49 : decode cL_chosen 49 = .ok (.iload_n 2, 1) := by decide +kernel
theorem dL_chosen_50 : decode cL_chosen 50 = .ok (.anewarray 49, 3) := by decide +kernel
theorem dL_chosen_53 : decode cL_chosen 53 = .ok (.putfield 51, 3) := by decide +kernel
theorem dL_chosen_56 : decode cL_chosen 56 = .ok (.iconst 0, 1) := by decide +kernel
theorem dL_chosen_57 : decode cL_chosen 57 = .ok (.istore_n 3, 1) := by decide +kernel
theorem dL_chosen_58 : decode cL_chosen 58 = .ok (.iload_n 3, 1) := by decide +kernel
theorem dL_chosen_59 : decode cL_chosen 59 = .ok (.iload_n 2, 1) := by decide +kernel
theorem dL_chosen_60 : decode cL_chosen 60 = .ok (.if_icmp .ge 230, 3) := by decide +kernel
theorem dL_chosen_63 : decode cL_chosen 63 = .ok (.aload_n 0, 1) := by decide +kernel
theorem dL_chosen_64 : decode cL_chosen 64 = .ok (.iconst 2, 1) := by decide +kernel
theorem dL_chosen_65 : decode cL_chosen 65 = .ok (.iload_n 3, 1) := by decide +kernel
theorem dL_chosen_66 : decode cL_chosen 66 = .ok (.iadd, 1) := by decide +kernel
theorem dL_chosen_67 : decode cL_chosen 67 = .ok (.invokestatic 35, 3) := by decide +kernel
theorem dL_chosen_70 : decode cL_chosen 70 = .ok (.bipush 127, 2) := by decide +kernel
theorem dL_chosen_72 : decode cL_chosen 72 = .ok (.iload_n 3, 1) := by decide +kernel
theorem dL_chosen_73 : decode cL_chosen 73 = .ok (.imul, 1) := by decide +kernel
theorem dL_chosen_74 : decode cL_chosen 74 = .ok (.iadd, 1) := by decide +kernel
theorem dL_chosen_75 : decode cL_chosen 75 = .ok (.istore 4, 2) := by decide +kernel
theorem dL_chosen_77 : decode cL_chosen 77 = .ok (.new 49, 3) := by decide +kernel
theorem dL_chosen_80 : decode cL_chosen 80 = .ok (.dup, 1) := by decide +kernel
theorem dL_chosen_81 : decode cL_chosen 81 = .ok (.invokespecial 55, 3) := by decide +kernel
theorem dL_chosen_84 : decode cL_chosen 84 = .ok (.astore 5, 2) := by decide +kernel
theorem dL_chosen_86 : decode cL_chosen 86 = .ok (.aload 5, 2) := by decide +kernel
theorem dL_chosen_88 : decode cL_chosen 88 = .ok (.iload_n 3, 1) := by decide +kernel
theorem dL_chosen_89 : decode cL_chosen 89 = .ok (.putfield 56, 3) := by decide +kernel
theorem dL_chosen_92 : decode cL_chosen 92 = .ok (.aload 5, 2) := by decide +kernel
theorem dL_chosen_94 : decode cL_chosen 94 = .ok (.iload_n 3, 1) := by decide +kernel
theorem dL_chosen_95 : decode cL_chosen 95 = .ok (.ifCond .eq 12, 3) := by decide +kernel
theorem dL_chosen_98 : decode cL_chosen 98 = .ok (.iload 4, 2) := by decide +kernel
theorem dL_chosen_100 : decode cL_chosen 100 = .ok (.iconst 3, 1) := by decide +kernel
theorem dL_chosen_101 : decode cL_chosen 101 = .ok (.invokestatic 41, 3) := by decide +kernel
theorem dL_chosen_104 : decode cL_chosen 104 = .ok (.ifCond .ne 7, 3) := by decide +kernel
theorem dL_chosen_107 : decode cL_chosen 107 = .ok (.aconst_null, 1) := by decide +kernel
theorem dL_chosen_108 : decode cL_chosen 108 = .ok (.goto 16, 3) := by decide +kernel
theorem dL_chosen_111 : decode cL_chosen 111 = .ok (.aload_n 1, 1) := by decide +kernel
theorem dL_chosen_112 : decode cL_chosen 112 = .ok (.getfield 51, 3) := by decide +kernel
theorem dL_chosen_115 : decode cL_chosen 115 = .ok (.iload 4, 2) := by decide +kernel
theorem dL_chosen_117 : decode cL_chosen 117 = .ok (.iconst 1, 1) := by decide +kernel
theorem dL_chosen_118 : decode cL_chosen 118 = .ok (.ishr, 1) := by decide +kernel
theorem dL_chosen_119 : decode cL_chosen 119 = .ok (.iload_n 3, 1) := by decide +kernel
theorem dL_chosen_120 : decode cL_chosen 120 = .ok (.invokestatic 41, 3) := by decide +kernel
theorem dL_chosen_123 : decode cL_chosen 123 = .ok (.aaload, 1) := by decide +kernel
theorem dL_chosen_124 : decode cL_chosen 124 = .ok (.putfield 59, 3) := by decide +kernel
theorem dL_chosen_127 : decode cL_chosen 127 = .ok (.aload 5, 2) := by decide +kernel
theorem dL_chosen_129 : decode cL_chosen 129 = .ok (.iload 4, 2) := by decide +kernel
theorem dL_chosen_131 : decode cL_chosen 131 = .ok (.iconst 2, 1) := by decide +kernel
theorem dL_chosen_132 : decode cL_chosen 132 = .ok (.ishr, 1) := by decide +kernel
theorem dL_chosen_133 : decode cL_chosen 133 = .ok (.iload 4, 2) := by decide +kernel
theorem dL_chosen_135 : decode cL_chosen 135 = .ok (.iconst 2, 1) := by decide +kernel
theorem dL_chosen_136 : decode cL_chosen 136 = .ok (.invokestatic 41, 3) := by decide +kernel
theorem dL_chosen_139 : decode cL_chosen 139 = .ok (.ifCond .ne 8, 3) := by decide +kernel
theorem dL_chosen_142 : decode cL_chosen 142 = .ok (.bipush 31, 2) := by decide +kernel
theorem dL_chosen_144 : decode cL_chosen 144 = .ok (.goto 4, 3) := by decide +kernel
theorem dL_chosen_147 : decode cL_chosen 147 = .ok (.iconst 5, 1) := by decide +kernel
theorem dL_chosen_148 : decode cL_chosen 148 = .ok (.invokestatic 41, 3) := by decide +kernel
theorem dL_chosen_151 : decode cL_chosen 151 = .ok (.putfield 63, 3) := by decide +kernel
theorem dL_chosen_154 : decode cL_chosen 154 = .ok (.aload 5, 2) := by decide +kernel
theorem dL_chosen_156 : decode cL_chosen 156 = .ok (.iload 4, 2) := by decide +kernel
theorem dL_chosen_158 : decode cL_chosen 158 = .ok (.iconst 3, 1) := by decide +kernel
theorem dL_chosen_159 : decode cL_chosen 159 = .ok (.ishr, 1) := by decide +kernel
theorem dL_chosen_160 : decode cL_chosen 160 = .ok (.bipush 31, 2) := by decide +kernel
theorem dL_chosen_162 : decode cL_chosen 162 = .ok (.invokestatic 41, 3) := by decide +kernel
theorem dL_chosen_165 : decode cL_chosen 165 = .ok (.putfield 66, 3) := by decide +kernel
theorem dL_chosen_168 : decode cL_chosen 168 = .ok (.aload 5, 2) := by decide +kernel
theorem dL_chosen_170 : decode cL_chosen 170 = .ok (.iload 4, 2) := by decide +kernel
theorem dL_chosen_172 : decode cL_chosen 172 = .ok (.iconst 4, 1) := by decide +kernel
theorem dL_chosen_173 : decode cL_chosen 173 = .ok (.ishr, 1) := by decide +kernel
theorem dL_chosen_174 : decode cL_chosen 174 = .ok (.iload 4, 2) := by decide +kernel
theorem dL_chosen_176 : decode cL_chosen 176 = .ok (.iconst 1, 1) := by decide +kernel
theorem dL_chosen_177 : decode cL_chosen 177 = .ok (.ishr, 1) := by decide +kernel
theorem dL_chosen_178 : decode cL_chosen 178 = .ok (.iconst 2, 1) := by decide +kernel
theorem dL_chosen_179 : decode cL_chosen 179 = .ok (.invokestatic 41, 3) := by decide +kernel
theorem dL_chosen_182 : decode cL_chosen 182 = .ok (.ifCond .ne 8, 3) := by decide +kernel
theorem dL_chosen_185 : decode cL_chosen 185 = .ok (.bipush 100, 2) := by decide +kernel
theorem dL_chosen_187 : decode cL_chosen 187 = .ok (.goto 5, 3) := by decide +kernel
theorem dL_chosen_190 : decode cL_chosen 190 = .ok (.bipush 9, 2) := by decide +kernel
theorem dL_chosen_192 : decode cL_chosen 192 = .ok (.invokestatic 41, 3) := by decide +kernel
theorem dL_chosen_195 : decode cL_chosen 195 = .ok (.putfield 69, 3) := by decide +kernel
theorem dL_chosen_198 : decode cL_chosen 198 = .ok (.aload 5, 2) := by decide +kernel
theorem dL_chosen_200 : decode cL_chosen 200 = .ok (.iload 4, 2) := by decide +kernel
theorem dL_chosen_202 : decode cL_chosen 202 = .ok (.iconst 5, 1) := by decide +kernel
theorem dL_chosen_203 : decode cL_chosen 203 = .ok (.ishr, 1) := by decide +kernel
theorem dL_chosen_204 : decode cL_chosen 204 = .ok (.iconst 4, 1) := by decide +kernel
theorem dL_chosen_205 : decode cL_chosen 205 = .ok (.invokestatic 41, 3) := by decide +kernel
theorem dL_chosen_208 : decode cL_chosen 208 = .ok (.putfield 72, 3) := by decide +kernel
theorem dL_chosen_211 : decode cL_chosen 211 = .ok (.aload 5, 2) := by decide +kernel
theorem dL_chosen_213 : decode cL_chosen 213 = .ok (.iconst 1, 1) := by decide +kernel
theorem dL_chosen_214 : decode cL_chosen 214 = .ok (.iload 4, 2) := by decide +kernel
theorem dL_chosen_216 : decode cL_chosen 216 = .ok (.bipush 6, 2) := by decide +kernel
theorem dL_chosen_218 : decode cL_chosen 218 = .ok (.ishr, 1) := by decide +kernel
theorem dL_chosen_219 : decode cL_chosen 219 = .ok (.iload 4, 2) := by decide +kernel
theorem dL_chosen_221 : decode cL_chosen 221 = .ok (.iconst 2, 1) := by decide +kernel
theorem dL_chosen_222 : decode cL_chosen 222 = .ok (.ishr, 1) := by decide +kernel
theorem dL_chosen_223 : decode cL_chosen 223 = .ok (.iconst 2, 1) := by decide +kernel
theorem dL_chosen_224 : decode cL_chosen 224 = .ok (.invokestatic 41, 3) := by decide +kernel
theorem dL_chosen_227 : decode cL_chosen 227 = .ok (.ifCond .ne 8, 3) := by decide +kernel
theorem dL_chosen_230 : decode cL_chosen 230 = .ok (.bipush 60, 2) := by decide +kernel
theorem dL_chosen_232 : decode cL_chosen 232 = .ok (.goto 5, 3) := by decide +kernel
theorem dL_chosen_235 : decode cL_chosen 235 = .ok (.bipush 9, 2) := by decide +kernel
theorem dL_chosen_237 : decode cL_chosen 237 = .ok (.invokestatic 41, 3) := by decide +kernel
theorem dL_chosen_240 : decode cL_chosen 240 = .ok (.iadd, 1) := by decide +kernel
theorem dL_chosen_241 : decode cL_chosen 241 = .ok (.putfield 75, 3) := by decide +kernel
theorem dL_chosen_244 : decode cL_chosen 244 = .ok (.aload 5, 2) := by decide +kernel
theorem dL_chosen_246 : decode cL_chosen 246 = .ok (.iload 4, 2) := by decide +kernel
theorem dL_chosen_248 : decode cL_chosen 248 = .ok (.bipush 7, 2) := by decide +kernel
theorem dL_chosen_250 : decode cL_chosen 250 = .ok (.ishr, 1) := by decide +kernel
theorem dL_chosen_251 : decode cL_chosen 251 = .ok (.iconst 2, 1) := by decide +kernel
theorem dL_chosen_252 : decode cL_chosen 252 = .ok (.invokestatic 41, 3) := by decide +kernel
theorem dL_chosen_255 : decode cL_chosen 255 = .ok (.ifCond .ne 7, 3) := by decide +kernel
theorem dL_chosen_258 : decode cL_chosen 258 = .ok (.iconst 1, 1) := by decide +kernel
theorem dL_chosen_259 : decode cL_chosen 259 = .ok (.goto 4, 3) := by decide +kernel
theorem dL_chosen_262 : decode cL_chosen 262 = .ok (.iconst 0, 1) := by decide +kernel
theorem dL_chosen_263 : decode cL_chosen 263 = .ok (.putfield 78, 3) := by decide +kernel
theorem dL_chosen_266 : decode cL_chosen 266 = .ok (.aload 5, 2) := by decide +kernel
theorem dL_chosen_268 : decode cL_chosen 268 = .ok (.aload 5, 2) := by decide +kernel
theorem dL_chosen_270 : decode cL_chosen 270 = .ok (.getfield 69, 3) := by decide +kernel
theorem dL_chosen_273 : decode cL_chosen 273 = .ok (.putfield 82, 3) := by decide +kernel
theorem dL_chosen_276 : decode cL_chosen 276 = .ok (.aload_n 1, 1) := by decide +kernel
theorem dL_chosen_277 : decode cL_chosen 277 = .ok (.getfield 51, 3) := by decide +kernel
theorem dL_chosen_280 : decode cL_chosen 280 = .ok (.iload_n 3, 1) := by decide +kernel
theorem dL_chosen_281 : decode cL_chosen 281 = .ok (.aload 5, 2) := by decide +kernel
theorem dL_chosen_283 : decode cL_chosen 283 = .ok (.aastore, 1) := by decide +kernel
theorem dL_chosen_284 : decode cL_chosen 284 = .ok (.iinc 3 1, 3) := by decide +kernel
theorem dL_chosen_287 : decode cL_chosen 287 = .ok (.goto (-229), 3) := by decide +kernel
theorem dL_chosen_290 : decode cL_chosen 290 = .ok (.iconst 1, 1) := by decide +kernel
theorem dL_chosen_291 : decode cL_chosen 291 = .ok (.aload_n 0, 1) := by decide +kernel
theorem dL_chosen_292 : decode cL_chosen 292 = .ok (.bipush 8, 2) := by decide +kernel
theorem dL_chosen_294 : decode cL_chosen 294 = .ok (.invokestatic 35, 3) := by decide +kernel
theorem dL_chosen_297 : decode cL_chosen 297 = .ok (.bipush 6, 2) := by decide +kernel
theorem dL_chosen_299 : decode cL_chosen 299 = .ok (.invokestatic 41, 3) := by decide +kernel
theorem dL_chosen_302 : decode cL_chosen 302 = .ok (.iadd, 1) := by decide +kernel
theorem dL_chosen_303 : decode cL_chosen 303 = .ok (.istore_n 3, 1) := by decide +kernel
theorem dL_chosen_304 : decode cL_chosen 304 = .ok (.aload_n 1, 1) := by decide +kernel
theorem dL_chosen_305 : decode cL_chosen 305 = .ok (.iload_n 3, 1) := by decide +kernel
theorem dL_chosen_306 : decode cL_chosen 306 = .ok (.anewarray 85, 3) := by decide +kernel
theorem dL_chosen_309 : decode cL_chosen 309 = .ok (.putfield 87, 3) := by decide +kernel
theorem dL_chosen_312 : decode cL_chosen 312 = .ok (.iconst 0, 1) := by decide +kernel
theorem dL_chosen_313 : decode cL_chosen 313 = .ok (.istore 4, 2) := by decide +kernel
theorem dL_chosen_315 : decode cL_chosen 315 = .ok (.iload 4, 2) := by decide +kernel
theorem dL_chosen_317 : decode cL_chosen 317 = .ok (.iload_n 3, 1) := by decide +kernel
theorem dL_chosen_318 : decode cL_chosen 318 = .ok (.if_icmp .ge 131, 3) := by decide +kernel
theorem dL_chosen_321 : decode cL_chosen 321 = .ok (.aload_n 0, 1) := by decide +kernel
theorem dL_chosen_322 : decode cL_chosen 322 = .ok (.bipush 9, 2) := by decide +kernel
theorem dL_chosen_324 : decode cL_chosen 324 = .ok (.iload 4, 2) := by decide +kernel
theorem dL_chosen_326 : decode cL_chosen 326 = .ok (.iadd, 1) := by decide +kernel
theorem dL_chosen_327 : decode cL_chosen 327 = .ok (.invokestatic 35, 3) := by decide +kernel
theorem dL_chosen_330 : decode cL_chosen 330 = .ok (.sipush 131, 3) := by decide +kernel
theorem dL_chosen_333 : decode cL_chosen 333 = .ok (.iload 4, 2) := by decide +kernel
theorem dL_chosen_335 : decode cL_chosen 335 = .ok (.imul, 1) := by decide +kernel
theorem dL_chosen_336 : decode cL_chosen 336 = .ok (.iadd, 1) := by decide +kernel
theorem dL_chosen_337 : decode cL_chosen 337 = .ok (.istore 5, 2) := by decide +kernel
theorem dL_chosen_339 : decode cL_chosen 339 = .ok (.aload_n 1, 1) := by decide +kernel
theorem dL_chosen_340 : decode cL_chosen 340 = .ok (.getfield 87, 3) := by decide +kernel
theorem dL_chosen_343 : decode cL_chosen 343 = .ok (.iload 4, 2) := by decide +kernel
theorem dL_chosen_345 : decode cL_chosen 345 = .ok (.iconst 5, 1) := by decide +kernel
theorem dL_chosen_346 : decode cL_chosen 346 = .ok (.newarray .int, 2) := by decide +kernel
theorem dL_chosen_348 : decode cL_chosen 348 = .ok (.dup, 1) := by decide +kernel
theorem dL_chosen_349 : decode cL_chosen 349 = .ok (.iconst 0, 1) := by decide +kernel
theorem dL_chosen_350 : decode cL_chosen 350 = .ok (.iload 5, 2) := by decide +kernel
theorem dL_chosen_352 : decode cL_chosen 352 = .ok (.iload_n 2, 1) := by decide +kernel
theorem dL_chosen_353 : decode cL_chosen 353 = .ok (.invokestatic 41, 3) := by decide +kernel
theorem dL_chosen_356 : decode cL_chosen 356 = .ok (.iastore, 1) := by decide +kernel
theorem dL_chosen_357 : decode cL_chosen 357 = .ok (.dup, 1) := by decide +kernel
theorem dL_chosen_358 : decode cL_chosen 358 = .ok (.iconst 1, 1) := by decide +kernel
theorem dL_chosen_359 : decode cL_chosen 359 = .ok (.iconst 1, 1) := by decide +kernel
theorem dL_chosen_360 : decode cL_chosen 360 = .ok (.iload 5, 2) := by decide +kernel
theorem dL_chosen_362 : decode cL_chosen 362 = .ok (.iconst 2, 1) := by decide +kernel
theorem dL_chosen_363 : decode cL_chosen 363 = .ok (.ishr, 1) := by decide +kernel
theorem dL_chosen_364 : decode cL_chosen 364 = .ok (.iload 5, 2) := by decide +kernel
theorem dL_chosen_366 : decode cL_chosen 366 = .ok (.iconst 2, 1) := by decide +kernel
theorem dL_chosen_367 : decode cL_chosen 367 = .ok (.invokestatic 41, 3) := by decide +kernel
theorem dL_chosen_370 : decode cL_chosen 370 = .ok (.ifCond .ne 8, 3) := by decide +kernel
theorem dL_chosen_373 : decode cL_chosen 373 = .ok (.bipush 30, 2) := by decide +kernel
theorem dL_chosen_375 : decode cL_chosen 375 = .ok (.goto 5, 3) := by decide +kernel
theorem dL_chosen_378 : decode cL_chosen 378 = .ok (.bipush 6, 2) := by decide +kernel
theorem dL_chosen_380 : decode cL_chosen 380 = .ok (.invokestatic 41, 3) := by decide +kernel
theorem dL_chosen_383 : decode cL_chosen 383 = .ok (.iadd, 1) := by decide +kernel
theorem dL_chosen_384 : decode cL_chosen 384 = .ok (.iastore, 1) := by decide +kernel
theorem dL_chosen_385 : decode cL_chosen 385 = .ok (.dup, 1) := by decide +kernel
theorem dL_chosen_386 : decode cL_chosen 386 = .ok (.iconst 2, 1) := by decide +kernel
theorem dL_chosen_387 : decode cL_chosen 387 = .ok (.iconst 1, 1) := by decide +kernel
theorem dL_chosen_388 : decode cL_chosen 388 = .ok (.iload 5, 2) := by decide +kernel
theorem dL_chosen_390 : decode cL_chosen 390 = .ok (.iconst 3, 1) := by decide +kernel
theorem dL_chosen_391 : decode cL_chosen 391 = .ok (.ishr, 1) := by decide +kernel
theorem dL_chosen_392 : decode cL_chosen 392 = .ok (.iload 5, 2) := by decide +kernel
theorem dL_chosen_394 : decode cL_chosen 394 = .ok (.iconst 3, 1) := by decide +kernel
theorem dL_chosen_395 : decode cL_chosen 395 = .ok (.invokestatic 41, 3) := by decide +kernel
theorem dL_chosen_398 : decode cL_chosen 398 = .ok (.ifCond .ne 8, 3) := by decide +kernel
theorem dL_chosen_401 : decode cL_chosen 401 = .ok (.bipush 30, 2) := by decide +kernel
theorem dL_chosen_403 : decode cL_chosen 403 = .ok (.goto 4, 3) := by decide +kernel
theorem dL_chosen_406 : decode cL_chosen 406 = .ok (.iconst 4, 1) := by decide +kernel
theorem dL_chosen_407 : decode cL_chosen 407 = .ok (.invokestatic 41, 3) := by decide +kernel
theorem dL_chosen_410 : decode cL_chosen 410 = .ok (.iadd, 1) := by decide +kernel
theorem dL_chosen_411 : decode cL_chosen 411 = .ok (.iastore, 1) := by decide +kernel
theorem dL_chosen_412 : decode cL_chosen 412 = .ok (.dup, 1) := by decide +kernel
theorem dL_chosen_413 : decode cL_chosen 413 = .ok (.iconst 3, 1) := by decide +kernel
theorem dL_chosen_414 : decode cL_chosen 414 = .ok (.iload 5, 2) := by decide +kernel
theorem dL_chosen_416 : decode cL_chosen 416 = .ok (.iconst 4, 1) := by decide +kernel
theorem dL_chosen_417 : decode cL_chosen 417 = .ok (.ishr, 1) := by decide +kernel
theorem dL_chosen_418 : decode cL_chosen 418 = .ok (.iload 5, 2) := by decide +kernel
theorem dL_chosen_420 : decode cL_chosen 420 = .ok (.iconst 3, 1) := by decide +kernel
theorem dL_chosen_421 : decode cL_chosen 421 = .ok (.invokestatic 41, 3) := by decide +kernel
theorem dL_chosen_424 : decode cL_chosen 424 = .ok (.ifCond .ne 8, 3) := by decide +kernel
theorem dL_chosen_427 : decode cL_chosen 427 = .ok (.bipush 100, 2) := by decide +kernel
theorem dL_chosen_429 : decode cL_chosen 429 = .ok (.goto 5, 3) := by decide +kernel
theorem dL_chosen_432 : decode cL_chosen 432 = .ok (.bipush 6, 2) := by decide +kernel
theorem dL_chosen_434 : decode cL_chosen 434 = .ok (.invokestatic 41, 3) := by decide +kernel
theorem dL_chosen_437 : decode cL_chosen 437 = .ok (.iastore, 1) := by decide +kernel
theorem dL_chosen_438 : decode cL_chosen 438 = .ok (.dup, 1) := by decide +kernel
theorem dL_chosen_439 : decode cL_chosen 439 = .ok (.iconst 4, 1) := by decide +kernel
theorem dL_chosen_440 : decode cL_chosen 440 = .ok (.iconst 0, 1) := by decide +kernel
theorem dL_chosen_441 : decode cL_chosen 441 = .ok (.iastore, 1) := by decide +kernel
theorem dL_chosen_442 : decode cL_chosen 442 = .ok (.aastore, 1) := by decide +kernel
theorem dL_chosen_443 : decode cL_chosen 443 = .ok (.iinc 4 1, 3) := by decide +kernel
theorem dL_chosen_446 : decode cL_chosen 446 = .ok (.goto (-131), 3) := by decide +kernel
theorem dL_chosen_449 : decode cL_chosen 449 = .ok (.aload_n 0, 1) := by decide +kernel
theorem dL_chosen_450 : decode cL_chosen 450 = .ok (.bipush 15, 2) := by decide +kernel
theorem dL_chosen_452 : decode cL_chosen 452 = .ok (.invokestatic 35, 3) := by decide +kernel
theorem dL_chosen_455 : decode cL_chosen 455 = .ok (.bipush 7, 2) := by decide +kernel
theorem dL_chosen_457 : decode cL_chosen 457 = .ok (.invokestatic 41, 3) := by decide +kernel
theorem dL_chosen_460 : decode cL_chosen 460 = .ok (.istore 4, 2) := by decide +kernel
theorem dL_chosen_462 : decode cL_chosen 462 = .ok (.aload_n 1, 1) := by decide +kernel
theorem dL_chosen_463 : decode cL_chosen 463 = .ok (.iload 4, 2) := by decide +kernel
theorem dL_chosen_465 : decode cL_chosen 465 = .ok (.anewarray 85, 3) := by decide +kernel
theorem dL_chosen_468 : decode cL_chosen 468 = .ok (.putfield 91, 3) := by decide +kernel
theorem dL_chosen_471 : decode cL_chosen 471 = .ok (.iconst 0, 1) := by decide +kernel
theorem dL_chosen_472 : decode cL_chosen 472 = .ok (.istore 5, 2) := by decide +kernel
theorem dL_chosen_474 : decode cL_chosen 474 = .ok (.iload 5, 2) := by decide +kernel
theorem dL_chosen_476 : decode cL_chosen 476 = .ok (.iload 4, 2) := by decide +kernel
theorem dL_chosen_478 : decode cL_chosen 478 = .ok (.if_icmp .ge 131, 3) := by decide +kernel
theorem dL_chosen_481 : decode cL_chosen 481 = .ok (.aload_n 0, 1) := by decide +kernel
theorem dL_chosen_482 : decode cL_chosen 482 = .ok (.iconst 3, 1) := by decide +kernel
theorem dL_chosen_483 : decode cL_chosen 483 = .ok (.iload 5, 2) := by decide +kernel
theorem dL_chosen_485 : decode cL_chosen 485 = .ok (.iadd, 1) := by decide +kernel
theorem dL_chosen_486 : decode cL_chosen 486 = .ok (.invokestatic 35, 3) := by decide +kernel
theorem dL_chosen_489 : decode cL_chosen 489 = .ok (.sipush 137, 3) := by decide +kernel
theorem dL_chosen_492 : decode cL_chosen 492 = .ok (.iload 5, 2) := by decide +kernel
theorem dL_chosen_494 : decode cL_chosen 494 = .ok (.imul, 1) := by decide +kernel
theorem dL_chosen_495 : decode cL_chosen 495 = .ok (.iadd, 1) := by decide +kernel
theorem dL_chosen_496 : decode cL_chosen 496 = .ok (.istore 6, 2) := by decide +kernel
theorem dL_chosen_498 : decode cL_chosen 498 = .ok (.aload_n 1, 1) := by decide +kernel
theorem dL_chosen_499 : decode cL_chosen 499 = .ok (.getfield 91, 3) := by decide +kernel
theorem dL_chosen_502 : decode cL_chosen 502 = .ok (.iload 5, 2) := by decide +kernel
theorem dL_chosen_504 : decode cL_chosen 504 = .ok (.bipush 8, 2) := by decide +kernel
theorem dL_chosen_506 : decode cL_chosen 506 = .ok (.newarray .int, 2) := by decide +kernel
theorem dL_chosen_508 : decode cL_chosen 508 = .ok (.dup, 1) := by decide +kernel
theorem dL_chosen_509 : decode cL_chosen 509 = .ok (.iconst 0, 1) := by decide +kernel
theorem dL_chosen_510 : decode cL_chosen 510 = .ok (.iload 6, 2) := by decide +kernel
theorem dL_chosen_512 : decode cL_chosen 512 = .ok (.iconst 3, 1) := by decide +kernel
theorem dL_chosen_513 : decode cL_chosen 513 = .ok (.invokestatic 41, 3) := by decide +kernel
theorem dL_chosen_516 : decode cL_chosen 516 = .ok (.iastore, 1) := by decide +kernel
theorem dL_chosen_517 : decode cL_chosen 517 = .ok (.dup, 1) := by decide +kernel
theorem dL_chosen_518 : decode cL_chosen 518 = .ok (.iconst 1, 1) := by decide +kernel
theorem dL_chosen_519 : decode cL_chosen 519 = .ok (.iload 6, 2) := by decide +kernel
theorem dL_chosen_521 : decode cL_chosen 521 = .ok (.iconst 1, 1) := by decide +kernel
theorem dL_chosen_522 : decode cL_chosen 522 = .ok (.ishr, 1) := by decide +kernel
theorem dL_chosen_523 : decode cL_chosen 523 = .ok (.iload_n 2, 1) := by decide +kernel
theorem dL_chosen_524 : decode cL_chosen 524 = .ok (.invokestatic 41, 3) := by decide +kernel
theorem dL_chosen_527 : decode cL_chosen 527 = .ok (.iastore, 1) := by decide +kernel
theorem dL_chosen_528 : decode cL_chosen 528 = .ok (.dup, 1) := by decide +kernel
theorem dL_chosen_529 : decode cL_chosen 529 = .ok (.iconst 2, 1) := by decide +kernel
theorem dL_chosen_530 : decode cL_chosen 530 = .ok (.iload 6, 2) := by decide +kernel
theorem dL_chosen_532 : decode cL_chosen 532 = .ok (.iconst 2, 1) := by decide +kernel
theorem dL_chosen_533 : decode cL_chosen 533 = .ok (.ishr, 1) := by decide +kernel
theorem dL_chosen_534 : decode cL_chosen 534 = .ok (.bipush 7, 2) := by decide +kernel
theorem dL_chosen_536 : decode cL_chosen 536 = .ok (.invokestatic 41, 3) := by decide +kernel
theorem dL_chosen_539 : decode cL_chosen 539 = .ok (.iastore, 1) := by decide +kernel
theorem dL_chosen_540 : decode cL_chosen 540 = .ok (.dup, 1) := by decide +kernel
theorem dL_chosen_541 : decode cL_chosen 541 = .ok (.iconst 3, 1) := by decide +kernel
theorem dL_chosen_542 : decode cL_chosen 542 = .ok (.iload 6, 2) := by decide +kernel
theorem dL_chosen_544 : decode cL_chosen 544 = .ok (.iconst 3, 1) := by decide +kernel
theorem dL_chosen_545 : decode cL_chosen 545 = .ok (.ishr, 1) := by decide +kernel
theorem dL_chosen_546 : decode cL_chosen 546 = .ok (.iload_n 2, 1) := by decide +kernel
theorem dL_chosen_547 : decode cL_chosen 547 = .ok (.invokestatic 41, 3) := by decide +kernel
theorem dL_chosen_550 : decode cL_chosen 550 = .ok (.iastore, 1) := by decide +kernel
theorem dL_chosen_551 : decode cL_chosen 551 = .ok (.dup, 1) := by decide +kernel
theorem dL_chosen_552 : decode cL_chosen 552 = .ok (.iconst 4, 1) := by decide +kernel
theorem dL_chosen_553 : decode cL_chosen 553 = .ok (.iload 6, 2) := by decide +kernel
theorem dL_chosen_555 : decode cL_chosen 555 = .ok (.iconst 4, 1) := by decide +kernel
theorem dL_chosen_556 : decode cL_chosen 556 = .ok (.ishr, 1) := by decide +kernel
theorem dL_chosen_557 : decode cL_chosen 557 = .ok (.bipush 31, 2) := by decide +kernel
theorem dL_chosen_559 : decode cL_chosen 559 = .ok (.invokestatic 41, 3) := by decide +kernel
theorem dL_chosen_562 : decode cL_chosen 562 = .ok (.iastore, 1) := by decide +kernel
theorem dL_chosen_563 : decode cL_chosen 563 = .ok (.dup, 1) := by decide +kernel
theorem dL_chosen_564 : decode cL_chosen 564 = .ok (.iconst 5, 1) := by decide +kernel
theorem dL_chosen_565 : decode cL_chosen 565 = .ok (.iload 6, 2) := by decide +kernel
theorem dL_chosen_567 : decode cL_chosen 567 = .ok (.iconst 5, 1) := by decide +kernel
theorem dL_chosen_568 : decode cL_chosen 568 = .ok (.ishr, 1) := by decide +kernel
theorem dL_chosen_569 : decode cL_chosen 569 = .ok (.bipush 7, 2) := by decide +kernel
theorem dL_chosen_571 : decode cL_chosen 571 = .ok (.invokestatic 41, 3) := by decide +kernel
theorem dL_chosen_574 : decode cL_chosen 574 = .ok (.iastore, 1) := by decide +kernel
theorem dL_chosen_575 : decode cL_chosen 575 = .ok (.dup, 1) := by decide +kernel
theorem dL_chosen_576 : decode cL_chosen 576 = .ok (.bipush 6, 2) := by decide +kernel
theorem dL_chosen_578 : decode cL_chosen 578 = .ok (.iload 6, 2) := by decide +kernel
theorem dL_chosen_580 : decode cL_chosen 580 = .ok (.bipush 6, 2) := by decide +kernel
theorem dL_chosen_582 : decode cL_chosen 582 = .ok (.ishr, 1) := by decide +kernel
theorem dL_chosen_583 : decode cL_chosen 583 = .ok (.iload_n 2, 1) := by decide +kernel
theorem dL_chosen_584 : decode cL_chosen 584 = .ok (.invokestatic 41, 3) := by decide +kernel
theorem dL_chosen_587 : decode cL_chosen 587 = .ok (.iastore, 1) := by decide +kernel
theorem dL_chosen_588 : decode cL_chosen 588 = .ok (.dup, 1) := by decide +kernel
theorem dL_chosen_589 : decode cL_chosen 589 = .ok (.bipush 7, 2) := by decide +kernel
theorem dL_chosen_591 : decode cL_chosen 591 = .ok (.iload 6, 2) := by decide +kernel
theorem dL_chosen_593 : decode cL_chosen 593 = .ok (.bipush 7, 2) := by decide +kernel
theorem dL_chosen_595 : decode cL_chosen 595 = .ok (.ishr, 1) := by decide +kernel
theorem dL_chosen_596 : decode cL_chosen 596 = .ok (.bipush 25, 2) := by decide +kernel
theorem dL_chosen_598 : decode cL_chosen 598 = .ok (.invokestatic 41, 3) := by decide +kernel
theorem dL_chosen_601 : decode cL_chosen 601 = .ok (.iastore, 1) := by decide +kernel
theorem dL_chosen_602 : decode cL_chosen 602 = .ok (.aastore, 1) := by decide +kernel
theorem dL_chosen_603 : decode cL_chosen 603 = .ok (.iinc 5 1, 3) := by decide +kernel
theorem dL_chosen_606 : decode cL_chosen 606 = .ok (.goto (-132), 3) := by decide +kernel
theorem dL_chosen_609 : decode cL_chosen 609 = .ok (.aload_n 1, 1) := by decide +kernel
theorem dL_chosen_610 : decode cL_chosen 610 = .ok (.areturn, 1) := by decide +kernel
abbrev m_L_chosen : Mt := (cL_chosen, RL, "chosen", 7, .areturn, 3)
def f_L_chosen_b263 (N : Nat) (z : Nat → Nat) (k58 : Option Nat → Option Nat → Int32 → Int32 → Hp → Option (Option Nat × Hp)) (v0 : Option Nat) (v1 : Option Nat) (v2 : Int32) (v3 : Int32) (v5 : Option Nat) (s0 : Int32) (s1 : Option Nat) (x0 : Hp) : Option (Option Nat × Hp) :=
  bool s0 <|
  puti s1 x0 14 268 s0 fun x1 =>
  geti v5 x1 14 264 fun i3 =>
  puti v5 x1 14 266 i3 fun x4 =>
  getr v1 x4 15 285 fun r5 =>
  astr r5 x4 106 14 v3 v5 fun x6 =>
  k58 v0 v1 v2 (v3 + (1 : Int32)) x6
def f_L_chosen_b237 (N : Nat) (z : Nat → Nat) (k58 : Option Nat → Option Nat → Int32 → Int32 → Hp → Option (Option Nat × Hp)) (v0 : Option Nat) (v1 : Option Nat) (v2 : Int32) (v3 : Int32) (v4 : Int32) (v5 : Option Nat) (s0 : Int32) (s1 : Int32) (s2 : Int32) (s3 : Option Nat) (x0 : Hp) : Option (Option Nat × Hp) :=
  bnd (f_L_below N z s1 s0 x0) fun i8 x7 =>
  puti s3 x7 14 267 (s2 + i8) fun x9 =>
  bnd (f_L_below N z (v4 >>> ((7 : Int32) &&& 31)) (2 : Int32) x9) fun i11 x10 =>
  if i11 = 0 then (f_L_chosen_b263 N z k58 v0 v1 v2 v3 v5 (1 : Int32) v5 x10) else (f_L_chosen_b263 N z k58 v0 v1 v2 v3 v5 (0 : Int32) v5 x10)
def f_L_chosen_b192 (N : Nat) (z : Nat → Nat) (k58 : Option Nat → Option Nat → Int32 → Int32 → Hp → Option (Option Nat × Hp)) (v0 : Option Nat) (v1 : Option Nat) (v2 : Int32) (v3 : Int32) (v4 : Int32) (v5 : Option Nat) (s0 : Int32) (s1 : Int32) (s2 : Option Nat) (x0 : Hp) : Option (Option Nat × Hp) :=
  bnd (f_L_below N z s1 s0 x0) fun i13 x12 =>
  puti s2 x12 14 264 i13 fun x14 =>
  bnd (f_L_below N z (v4 >>> ((5 : Int32) &&& 31)) (4 : Int32) x14) fun i16 x15 =>
  puti v5 x15 14 265 i16 fun x17 =>
  bnd (f_L_below N z (v4 >>> ((2 : Int32) &&& 31)) (2 : Int32) x17) fun i19 x18 =>
  if i19 = 0 then (f_L_chosen_b237 N z k58 v0 v1 v2 v3 v4 v5 (60 : Int32) (v4 >>> ((6 : Int32) &&& 31)) (1 : Int32) v5 x18) else (f_L_chosen_b237 N z k58 v0 v1 v2 v3 v4 v5 (9 : Int32) (v4 >>> ((6 : Int32) &&& 31)) (1 : Int32) v5 x18)
def f_L_chosen_b148 (N : Nat) (z : Nat → Nat) (k58 : Option Nat → Option Nat → Int32 → Int32 → Hp → Option (Option Nat × Hp)) (v0 : Option Nat) (v1 : Option Nat) (v2 : Int32) (v3 : Int32) (v4 : Int32) (v5 : Option Nat) (s0 : Int32) (s1 : Int32) (s2 : Option Nat) (x0 : Hp) : Option (Option Nat × Hp) :=
  bnd (f_L_below N z s1 s0 x0) fun i21 x20 =>
  puti s2 x20 14 262 i21 fun x22 =>
  bnd (f_L_below N z (v4 >>> ((3 : Int32) &&& 31)) (31 : Int32) x22) fun i24 x23 =>
  puti v5 x23 14 263 i24 fun x25 =>
  bnd (f_L_below N z (v4 >>> ((1 : Int32) &&& 31)) (2 : Int32) x25) fun i27 x26 =>
  if i27 = 0 then (f_L_chosen_b192 N z k58 v0 v1 v2 v3 v4 v5 (100 : Int32) (v4 >>> ((4 : Int32) &&& 31)) v5 x26) else (f_L_chosen_b192 N z k58 v0 v1 v2 v3 v4 v5 (9 : Int32) (v4 >>> ((4 : Int32) &&& 31)) v5 x26)
def f_L_chosen_b124 (N : Nat) (z : Nat → Nat) (k58 : Option Nat → Option Nat → Int32 → Int32 → Hp → Option (Option Nat × Hp)) (v0 : Option Nat) (v1 : Option Nat) (v2 : Int32) (v3 : Int32) (v4 : Int32) (v5 : Option Nat) (s0 : Option Nat) (s1 : Option Nat) (x0 : Hp) : Option (Option Nat × Hp) :=
  putr s1 x0 14 260 s0 fun x28 =>
  bnd (f_L_below N z v4 (2 : Int32) x28) fun i30 x29 =>
  if i30 = 0 then (f_L_chosen_b148 N z k58 v0 v1 v2 v3 v4 v5 (31 : Int32) (v4 >>> ((2 : Int32) &&& 31)) v5 x29) else (f_L_chosen_b148 N z k58 v0 v1 v2 v3 v4 v5 (5 : Int32) (v4 >>> ((2 : Int32) &&& 31)) v5 x29)
def f_L_chosen_b107 (N : Nat) (z : Nat → Nat) (k58 : Option Nat → Option Nat → Int32 → Int32 → Hp → Option (Option Nat × Hp)) (v0 : Option Nat) (v1 : Option Nat) (v2 : Int32) (v3 : Int32) (v4 : Int32) (v5 : Option Nat) (s0 : Option Nat) (x0 : Hp) : Option (Option Nat × Hp) :=
  f_L_chosen_b124 N z k58 v0 v1 v2 v3 v4 v5 none s0 x0
def f_L_chosen_b434 (N : Nat) (z : Nat → Nat) (k315 : Option Nat → Option Nat → Int32 → Int32 → Int32 → Hp → Option (Option Nat × Hp)) (v0 : Option Nat) (v1 : Option Nat) (v2 : Int32) (v3 : Int32) (v4 : Int32) (s0 : Int32) (s1 : Int32) (s2 : Int32) (s3 : Option Nat) (s4 : Option Nat) (s5 : Int32) (s6 : Option Nat) (x0 : Hp) : Option (Option Nat × Hp) :=
  bnd (f_L_below N z s1 s0 x0) fun i32 x31 =>
  asti s3 x31 101 s2 i32 fun x33 =>
  asti s4 x33 101 (4 : Int32) (0 : Int32) fun x34 =>
  nn s4 fun _ => astr s6 x34 107 101 s5 s4 fun x35 =>
  k315 v0 v1 v2 v3 (v4 + (1 : Int32)) x35
def f_L_chosen_b407 (N : Nat) (z : Nat → Nat) (k315 : Option Nat → Option Nat → Int32 → Int32 → Int32 → Hp → Option (Option Nat × Hp)) (v0 : Option Nat) (v1 : Option Nat) (v2 : Int32) (v3 : Int32) (v4 : Int32) (v5 : Int32) (s0 : Int32) (s1 : Int32) (s2 : Int32) (s3 : Int32) (s4 : Option Nat) (s5 : Option Nat) (s6 : Int32) (s7 : Option Nat) (x0 : Hp) : Option (Option Nat × Hp) :=
  bnd (f_L_below N z s1 s0 x0) fun i37 x36 =>
  asti s4 x36 101 s3 (s2 + i37) fun x38 =>
  bnd (f_L_below N z v5 (3 : Int32) x38) fun i40 x39 =>
  if i40 = 0 then (f_L_chosen_b434 N z k315 v0 v1 v2 v3 v4 (100 : Int32) (v5 >>> ((4 : Int32) &&& 31)) (3 : Int32) s5 s5 s6 s7 x39) else (f_L_chosen_b434 N z k315 v0 v1 v2 v3 v4 (6 : Int32) (v5 >>> ((4 : Int32) &&& 31)) (3 : Int32) s5 s5 s6 s7 x39)
def f_L_chosen_b380 (N : Nat) (z : Nat → Nat) (k315 : Option Nat → Option Nat → Int32 → Int32 → Int32 → Hp → Option (Option Nat × Hp)) (v0 : Option Nat) (v1 : Option Nat) (v2 : Int32) (v3 : Int32) (v4 : Int32) (v5 : Int32) (s0 : Int32) (s1 : Int32) (s2 : Int32) (s3 : Int32) (s4 : Option Nat) (s5 : Option Nat) (s6 : Int32) (s7 : Option Nat) (x0 : Hp) : Option (Option Nat × Hp) :=
  bnd (f_L_below N z s1 s0 x0) fun i42 x41 =>
  asti s4 x41 101 s3 (s2 + i42) fun x43 =>
  bnd (f_L_below N z v5 (3 : Int32) x43) fun i45 x44 =>
  if i45 = 0 then (f_L_chosen_b407 N z k315 v0 v1 v2 v3 v4 v5 (30 : Int32) (v5 >>> ((3 : Int32) &&& 31)) (1 : Int32) (2 : Int32) s5 s5 s6 s7 x44) else (f_L_chosen_b407 N z k315 v0 v1 v2 v3 v4 v5 (4 : Int32) (v5 >>> ((3 : Int32) &&& 31)) (1 : Int32) (2 : Int32) s5 s5 s6 s7 x44)
def f_L_chosen_b474 (N : Nat) (z : Nat → Nat) : Nat → Option Nat → Option Nat → Int32 → Int32 → Int32 → Hp → Option (Option Nat × Hp)
  | 0, _, _, _, _, _, _ => none
  | n + 1, v0, v1, v2, v4, v5, x0 => if v4 ≤ v5 then (some (v1, x0)) else (bnd (f_L_cell N z v0 ((3 : Int32) + v5) x0) fun i47 x46 =>
  getr v1 x46 15 287 fun r48 =>
  newa x46 101 (8 : Int32) fun r49 x50 =>
  bnd (f_L_below N z (i47 + ((137 : Int32) * v5)) (3 : Int32) x50) fun i52 x51 =>
  asti r49 x51 101 (0 : Int32) i52 fun x53 =>
  bnd (f_L_below N z ((i47 + ((137 : Int32) * v5)) >>> ((1 : Int32) &&& 31)) v2 x53) fun i55 x54 =>
  asti r49 x54 101 (1 : Int32) i55 fun x56 =>
  bnd (f_L_below N z ((i47 + ((137 : Int32) * v5)) >>> ((2 : Int32) &&& 31)) (7 : Int32) x56) fun i58 x57 =>
  asti r49 x57 101 (2 : Int32) i58 fun x59 =>
  bnd (f_L_below N z ((i47 + ((137 : Int32) * v5)) >>> ((3 : Int32) &&& 31)) v2 x59) fun i61 x60 =>
  asti r49 x60 101 (3 : Int32) i61 fun x62 =>
  bnd (f_L_below N z ((i47 + ((137 : Int32) * v5)) >>> ((4 : Int32) &&& 31)) (31 : Int32) x62) fun i64 x63 =>
  asti r49 x63 101 (4 : Int32) i64 fun x65 =>
  bnd (f_L_below N z ((i47 + ((137 : Int32) * v5)) >>> ((5 : Int32) &&& 31)) (7 : Int32) x65) fun i67 x66 =>
  asti r49 x66 101 (5 : Int32) i67 fun x68 =>
  bnd (f_L_below N z ((i47 + ((137 : Int32) * v5)) >>> ((6 : Int32) &&& 31)) v2 x68) fun i70 x69 =>
  asti r49 x69 101 (6 : Int32) i70 fun x71 =>
  bnd (f_L_below N z ((i47 + ((137 : Int32) * v5)) >>> ((7 : Int32) &&& 31)) (25 : Int32) x71) fun i73 x72 =>
  asti r49 x72 101 (7 : Int32) i73 fun x74 =>
  nn r49 fun _ => astr r48 x74 107 101 v5 r49 fun x75 =>
  f_L_chosen_b474 N z n v0 v1 v2 v4 (v5 + (1 : Int32)) x75)
def f_L_chosen_b315 (N : Nat) (z : Nat → Nat) : Nat → Option Nat → Option Nat → Int32 → Int32 → Int32 → Hp → Option (Option Nat × Hp)
  | 0, _, _, _, _, _, _ => none
  | n + 1, v0, v1, v2, v3, v4, x0 => if v3 ≤ v4 then (bnd (f_L_cell N z v0 (15 : Int32) x0) fun i77 x76 =>
  bnd (f_L_below N z i77 (7 : Int32) x76) fun i79 x78 =>
  newa x78 107 i79 fun r80 x81 =>
  putr v1 x81 15 287 r80 fun x82 =>
  f_L_chosen_b474 N z N v0 v1 v2 i79 (0 : Int32) x82) else (bnd (f_L_cell N z v0 ((9 : Int32) + v4) x0) fun i84 x83 =>
  getr v1 x83 15 286 fun r85 =>
  newa x83 101 (5 : Int32) fun r86 x87 =>
  bnd (f_L_below N z (i84 + ((131 : Int32) * v4)) v2 x87) fun i89 x88 =>
  asti r86 x88 101 (0 : Int32) i89 fun x90 =>
  bnd (f_L_below N z (i84 + ((131 : Int32) * v4)) (2 : Int32) x90) fun i92 x91 =>
  if i92 = 0 then (f_L_chosen_b380 N z (f_L_chosen_b315 N z n) v0 v1 v2 v3 v4 (i84 + ((131 : Int32) * v4)) (30 : Int32) ((i84 + ((131 : Int32) * v4)) >>> ((2 : Int32) &&& 31)) (1 : Int32) (1 : Int32) r86 r86 v4 r85 x91) else (f_L_chosen_b380 N z (f_L_chosen_b315 N z n) v0 v1 v2 v3 v4 (i84 + ((131 : Int32) * v4)) (6 : Int32) ((i84 + ((131 : Int32) * v4)) >>> ((2 : Int32) &&& 31)) (1 : Int32) (1 : Int32) r86 r86 v4 r85 x91))
def f_L_chosen_b58 (N : Nat) (z : Nat → Nat) : Nat → Option Nat → Option Nat → Int32 → Int32 → Hp → Option (Option Nat × Hp)
  | 0, _, _, _, _, _ => none
  | n + 1, v0, v1, v2, v3, x0 => if v2 ≤ v3 then (bnd (f_L_cell N z v0 (8 : Int32) x0) fun i94 x93 =>
  bnd (f_L_below N z i94 (6 : Int32) x93) fun i96 x95 =>
  newa x95 107 ((1 : Int32) + i96) fun r97 x98 =>
  putr v1 x98 15 286 r97 fun x99 =>
  f_L_chosen_b315 N z N v0 v1 v2 ((1 : Int32) + i96) (0 : Int32) x99) else (bnd (f_L_cell N z v0 ((2 : Int32) + v3) x0) fun i101 x100 =>
  newo x100 14 19 fun r102 x103 =>
  obj r102 x103 14 fun q105 => bnd (f_X11_init N z q105 x103) fun _ x104 =>
  puti r102 x104 14 261 v3 fun x106 =>
  if v3 = 0 then (f_L_chosen_b107 N z (f_L_chosen_b58 N z n) v0 v1 v2 v3 (i101 + ((127 : Int32) * v3)) r102 r102 x106) else (bnd (f_L_below N z (i101 + ((127 : Int32) * v3)) (3 : Int32) x106) fun i108 x107 =>
  if i108 = 0 then (f_L_chosen_b107 N z (f_L_chosen_b58 N z n) v0 v1 v2 v3 (i101 + ((127 : Int32) * v3)) r102 r102 x107) else (getr v1 x107 15 285 fun r109 =>
  bnd (f_L_below N z ((i101 + ((127 : Int32) * v3)) >>> ((1 : Int32) &&& 31)) v3 x107) fun i111 x110 =>
  aldr r109 x110 106 i111 fun r112 =>
  f_L_chosen_b124 N z (f_L_chosen_b58 N z n) v0 v1 v2 v3 (i101 + ((127 : Int32) * v3)) r102 r112 r102 x110)))
def f_L_chosen_b36 (N : Nat) (z : Nat → Nat) (v0 : Option Nat) (v1 : Option Nat) (x0 : Hp) : Option (Option Nat × Hp) :=
  bnd (f_L_cell N z v0 (1 : Int32) x0) fun i114 x113 =>
  bnd (f_L_below N z i114 (5 : Int32) x113) fun i116 x115 =>
  newa x115 106 ((1 : Int32) + i116) fun r117 x118 =>
  putr v1 x118 15 285 r117 fun x119 =>
  f_L_chosen_b58 N z N v0 v1 ((1 : Int32) + i116) (0 : Int32) x119
def f_L_chosen (N : Nat) (z : Nat → Nat) (v0 : Option Nat) (x0 : Hp) : Option (Option Nat × Hp) :=
  newo x0 15 8 fun r120 x121 =>
  obj r120 x121 15 fun q123 => bnd (f_X12_init N z q123 x121) fun _ x122 =>
  bnd (f_L_cell N z v0 (0 : Int32) x122) fun i125 x124 =>
  bnd (f_L_below N z i125 (3 : Int32) x124) fun i127 x126 =>
  if i127 ≤ 0 then (f_L_chosen_b36 N z v0 r120 x126) else (bnd (f_L_cell N z v0 (0 : Int32) x126) fun i129 x128 =>
  bnd (f_L_below N z (i129 >>> ((2 : Int32) &&& 31)) (31 : Int32) x128) fun i131 x130 =>
  puti r120 x130 15 281 i131 fun x132 =>
  f_L_chosen_b36 N z v0 r120 x132)
set_option maxRecDepth 100000 in
set_option maxHeartbeats 4000000 in
theorem g_L_chosen_b263 (l : Launch) (N : Nat) (z : Nat → Nat) {k58 : Option Nat → Option Nat → Int32 → Int32 → Hp → Option (Option Nat × Hp)} (hk58 : ∀ v0 v1 v2 v3 x, G l z m_L_chosen okT enR 58 [(0, va_rf v0), (1, va_rf v1), (2, .int v2), (3, .int v3)] [] x (k58 v0 v1 v2 v3 x)) (v0 : Option Nat) (v1 : Option Nat) (v2 : Int32) (v3 : Int32) (v5 : Option Nat) (s0 : Int32) (s1 : Option Nat) (x0 : Hp) : G l z m_L_chosen okT enR 263 [(0, va_rf v0), (1, va_rf v1), (2, .int v2), (3, .int v3), (5, va_rf v5)] [.int s0, va_rf s1] x0 (f_L_chosen_b263 N z k58 v0 v1 v2 v3 v5 s0 s1 x0) := by
  unfold f_L_chosen_b263
  refine G_bool (fun h2 => ?_)
  refine G_puti (k := 8) K_13 (by decide) rfl rfl rfl gw_1403 rfl (Or.inl rfl) (nar_bool h2).1 (nar_bool h2).2 dL_chosen_263 (fun x1 => ?_)
  refine G_aload 4 dL_chosen_266 rfl ?_
  refine G_aload 4 dL_chosen_268 rfl ?_
  refine G_geti (k := 4) K_13 (by decide) rfl rfl rfl gw_1392 rfl dL_chosen_270 (fun i3 => ?_)
  refine G_puti (k := 6) K_13 (by decide) rfl rfl rfl gw_1399 rfl (Or.inl rfl) nar_int.1 nar_int.2 dL_chosen_273 (fun x4 => ?_)
  refine G_aload_n 1 dL_chosen_276 rfl rfl ?_
  refine G_getr (k := 5) K_14 (by decide) rfl rfl rfl gw_1350 rfl dL_chosen_277 (fun r5 => ?_)
  refine G_iload_n 3 dL_chosen_280 rfl rfl ?_
  refine G_aload 4 dL_chosen_281 rfl ?_
  refine G_aast (t := 6) K_13 rfl rfl (by decide) (by decide) (fun _ => rfl) dL_chosen_283 (fun x6 => ?_)
  refine G_iinc (i := 3) (l2 := [(0, va_rf v0), (1, va_rf v1), (2, .int v2), (5, va_rf v5)]) 3 [0, 1, 2, 4] dL_chosen_284 rfl rfl (Nat.le_of_ble_eq_true rfl) rfl (sok_a (by decide) (by decide) (sok_a (by decide) (by decide) (sok_b (by decide) rfl (sok_a (by decide) (by decide) trivial)))) ?_
  refine G_goto (tgt := 58) dL_chosen_287 (by decide) ?_
  refine G_lv [1, 2, 3, 0] rfl ?_
  exact hk58 v0 v1 v2 (v3 + (1 : Int32)) x6

set_option maxRecDepth 100000 in
set_option maxHeartbeats 4000000 in
theorem g_L_chosen_b237 (l : Launch) (N : Nat) (z : Nat → Nat) {k58 : Option Nat → Option Nat → Int32 → Int32 → Hp → Option (Option Nat × Hp)} (hk58 : ∀ v0 v1 v2 v3 x, G l z m_L_chosen okT enR 58 [(0, va_rf v0), (1, va_rf v1), (2, .int v2), (3, .int v3)] [] x (k58 v0 v1 v2 v3 x)) (v0 : Option Nat) (v1 : Option Nat) (v2 : Int32) (v3 : Int32) (v4 : Int32) (v5 : Option Nat) (s0 : Int32) (s1 : Int32) (s2 : Int32) (s3 : Option Nat) (x0 : Hp) : G l z m_L_chosen okT enR 237 [(0, va_rf v0), (1, va_rf v1), (2, .int v2), (3, .int v3), (4, .int v4), (5, va_rf v5)] [.int s0, .int s1, .int s2, va_rf s3] x0 (f_L_chosen_b237 N z k58 v0 v1 v2 v3 v4 v5 s0 s1 s2 s3 x0) := by
  unfold f_L_chosen_b237
  refine G_callS (av := [.int s1, .int s0]) [.int s2, va_rf s3] (ct_L_below l N z s1 s0) yn_L_below (Nat.le_of_ble_eq_true rfl) (by decide) gw_1372 gw_1373 gw_38 gw_1374 rfl (by simp only [hw_n, hw_i, hw_r, hw_j, hw_d]; decide) dL_chosen_237 (fun i8 x7 => ?_)
  refine G_iadd dL_chosen_240 ?_
  refine G_puti (k := 7) K_13 (by decide) rfl rfl rfl gw_1401 rfl (Or.inl rfl) nar_int.1 nar_int.2 dL_chosen_241 (fun x9 => ?_)
  refine G_aload 5 dL_chosen_244 rfl ?_
  refine G_iload 4 dL_chosen_246 rfl ?_
  refine G_bipush (v := (7 : Int32)) dL_chosen_248 (by decide) ?_
  refine G_ishr dL_chosen_250 ?_
  refine G_iconst (v := (2 : Int32)) dL_chosen_251 rfl ?_
  refine G_callS (av := [.int (v4 >>> ((7 : Int32) &&& 31)), .int (2 : Int32)]) [va_rf v5] (ct_L_below l N z (v4 >>> ((7 : Int32) &&& 31)) (2 : Int32)) yn_L_below (Nat.le_of_ble_eq_true rfl) (by decide) gw_1372 gw_1373 gw_38 gw_1374 rfl (by simp only [hw_n, hw_i, hw_r, hw_j, hw_d]; decide) dL_chosen_252 (fun i11 x10 => ?_)
  refine G_if_ne (tgt := 262) dL_chosen_255 (by decide) (fun _ => ?_) (fun _ => ?_)
  · refine G_iconst (v := (1 : Int32)) dL_chosen_258 rfl ?_
    refine G_goto (tgt := 263) dL_chosen_259 (by decide) ?_
    refine G_lv [0, 1, 2, 3, 5] rfl ?_
    exact g_L_chosen_b263 l N z hk58 v0 v1 v2 v3 v5 (1 : Int32) v5 x10
  · refine G_iconst (v := (0 : Int32)) dL_chosen_262 rfl ?_
    refine G_lv [0, 1, 2, 3, 5] rfl ?_
    exact g_L_chosen_b263 l N z hk58 v0 v1 v2 v3 v5 (0 : Int32) v5 x10

set_option maxRecDepth 100000 in
set_option maxHeartbeats 4000000 in
theorem g_L_chosen_b192 (l : Launch) (N : Nat) (z : Nat → Nat) {k58 : Option Nat → Option Nat → Int32 → Int32 → Hp → Option (Option Nat × Hp)} (hk58 : ∀ v0 v1 v2 v3 x, G l z m_L_chosen okT enR 58 [(0, va_rf v0), (1, va_rf v1), (2, .int v2), (3, .int v3)] [] x (k58 v0 v1 v2 v3 x)) (v0 : Option Nat) (v1 : Option Nat) (v2 : Int32) (v3 : Int32) (v4 : Int32) (v5 : Option Nat) (s0 : Int32) (s1 : Int32) (s2 : Option Nat) (x0 : Hp) : G l z m_L_chosen okT enR 192 [(0, va_rf v0), (1, va_rf v1), (2, .int v2), (3, .int v3), (4, .int v4), (5, va_rf v5)] [.int s0, .int s1, va_rf s2] x0 (f_L_chosen_b192 N z k58 v0 v1 v2 v3 v4 v5 s0 s1 s2 x0) := by
  unfold f_L_chosen_b192
  refine G_callS (av := [.int s1, .int s0]) [va_rf s2] (ct_L_below l N z s1 s0) yn_L_below (Nat.le_of_ble_eq_true rfl) (by decide) gw_1372 gw_1373 gw_38 gw_1374 rfl (by simp only [hw_n, hw_i, hw_r, hw_j, hw_d]; decide) dL_chosen_192 (fun i13 x12 => ?_)
  refine G_puti (k := 4) K_13 (by decide) rfl rfl rfl gw_1392 rfl (Or.inl rfl) nar_int.1 nar_int.2 dL_chosen_195 (fun x14 => ?_)
  refine G_aload 5 dL_chosen_198 rfl ?_
  refine G_iload 4 dL_chosen_200 rfl ?_
  refine G_iconst (v := (5 : Int32)) dL_chosen_202 rfl ?_
  refine G_ishr dL_chosen_203 ?_
  refine G_iconst (v := (4 : Int32)) dL_chosen_204 rfl ?_
  refine G_callS (av := [.int (v4 >>> ((5 : Int32) &&& 31)), .int (4 : Int32)]) [va_rf v5] (ct_L_below l N z (v4 >>> ((5 : Int32) &&& 31)) (4 : Int32)) yn_L_below (Nat.le_of_ble_eq_true rfl) (by decide) gw_1372 gw_1373 gw_38 gw_1374 rfl (by simp only [hw_n, hw_i, hw_r, hw_j, hw_d]; decide) dL_chosen_205 (fun i16 x15 => ?_)
  refine G_puti (k := 5) K_13 (by decide) rfl rfl rfl gw_1395 rfl (Or.inl rfl) nar_int.1 nar_int.2 dL_chosen_208 (fun x17 => ?_)
  refine G_aload 5 dL_chosen_211 rfl ?_
  refine G_iconst (v := (1 : Int32)) dL_chosen_213 rfl ?_
  refine G_iload 4 dL_chosen_214 rfl ?_
  refine G_bipush (v := (6 : Int32)) dL_chosen_216 (by decide) ?_
  refine G_ishr dL_chosen_218 ?_
  refine G_iload 4 dL_chosen_219 rfl ?_
  refine G_iconst (v := (2 : Int32)) dL_chosen_221 rfl ?_
  refine G_ishr dL_chosen_222 ?_
  refine G_iconst (v := (2 : Int32)) dL_chosen_223 rfl ?_
  refine G_callS (av := [.int (v4 >>> ((2 : Int32) &&& 31)), .int (2 : Int32)]) [.int (v4 >>> ((6 : Int32) &&& 31)), .int (1 : Int32), va_rf v5] (ct_L_below l N z (v4 >>> ((2 : Int32) &&& 31)) (2 : Int32)) yn_L_below (Nat.le_of_ble_eq_true rfl) (by decide) gw_1372 gw_1373 gw_38 gw_1374 rfl (by simp only [hw_n, hw_i, hw_r, hw_j, hw_d]; decide) dL_chosen_224 (fun i19 x18 => ?_)
  refine G_if_ne (tgt := 235) dL_chosen_227 (by decide) (fun _ => ?_) (fun _ => ?_)
  · refine G_bipush (v := (60 : Int32)) dL_chosen_230 (by decide) ?_
    refine G_goto (tgt := 237) dL_chosen_232 (by decide) ?_
    refine G_lv [0, 1, 2, 3, 4, 5] rfl ?_
    exact g_L_chosen_b237 l N z hk58 v0 v1 v2 v3 v4 v5 (60 : Int32) (v4 >>> ((6 : Int32) &&& 31)) (1 : Int32) v5 x18
  · refine G_bipush (v := (9 : Int32)) dL_chosen_235 (by decide) ?_
    refine G_lv [0, 1, 2, 3, 4, 5] rfl ?_
    exact g_L_chosen_b237 l N z hk58 v0 v1 v2 v3 v4 v5 (9 : Int32) (v4 >>> ((6 : Int32) &&& 31)) (1 : Int32) v5 x18

set_option maxRecDepth 100000 in
set_option maxHeartbeats 4000000 in
theorem g_L_chosen_b148 (l : Launch) (N : Nat) (z : Nat → Nat) {k58 : Option Nat → Option Nat → Int32 → Int32 → Hp → Option (Option Nat × Hp)} (hk58 : ∀ v0 v1 v2 v3 x, G l z m_L_chosen okT enR 58 [(0, va_rf v0), (1, va_rf v1), (2, .int v2), (3, .int v3)] [] x (k58 v0 v1 v2 v3 x)) (v0 : Option Nat) (v1 : Option Nat) (v2 : Int32) (v3 : Int32) (v4 : Int32) (v5 : Option Nat) (s0 : Int32) (s1 : Int32) (s2 : Option Nat) (x0 : Hp) : G l z m_L_chosen okT enR 148 [(0, va_rf v0), (1, va_rf v1), (2, .int v2), (3, .int v3), (4, .int v4), (5, va_rf v5)] [.int s0, .int s1, va_rf s2] x0 (f_L_chosen_b148 N z k58 v0 v1 v2 v3 v4 v5 s0 s1 s2 x0) := by
  unfold f_L_chosen_b148
  refine G_callS (av := [.int s1, .int s0]) [va_rf s2] (ct_L_below l N z s1 s0) yn_L_below (Nat.le_of_ble_eq_true rfl) (by decide) gw_1372 gw_1373 gw_38 gw_1374 rfl (by simp only [hw_n, hw_i, hw_r, hw_j, hw_d]; decide) dL_chosen_148 (fun i21 x20 => ?_)
  refine G_puti (k := 2) K_13 (by decide) rfl rfl rfl gw_1387 rfl (Or.inl rfl) nar_int.1 nar_int.2 dL_chosen_151 (fun x22 => ?_)
  refine G_aload 5 dL_chosen_154 rfl ?_
  refine G_iload 4 dL_chosen_156 rfl ?_
  refine G_iconst (v := (3 : Int32)) dL_chosen_158 rfl ?_
  refine G_ishr dL_chosen_159 ?_
  refine G_bipush (v := (31 : Int32)) dL_chosen_160 (by decide) ?_
  refine G_callS (av := [.int (v4 >>> ((3 : Int32) &&& 31)), .int (31 : Int32)]) [va_rf v5] (ct_L_below l N z (v4 >>> ((3 : Int32) &&& 31)) (31 : Int32)) yn_L_below (Nat.le_of_ble_eq_true rfl) (by decide) gw_1372 gw_1373 gw_38 gw_1374 rfl (by simp only [hw_n, hw_i, hw_r, hw_j, hw_d]; decide) dL_chosen_162 (fun i24 x23 => ?_)
  refine G_puti (k := 3) K_13 (by decide) rfl rfl rfl gw_1390 rfl (Or.inl rfl) nar_int.1 nar_int.2 dL_chosen_165 (fun x25 => ?_)
  refine G_aload 5 dL_chosen_168 rfl ?_
  refine G_iload 4 dL_chosen_170 rfl ?_
  refine G_iconst (v := (4 : Int32)) dL_chosen_172 rfl ?_
  refine G_ishr dL_chosen_173 ?_
  refine G_iload 4 dL_chosen_174 rfl ?_
  refine G_iconst (v := (1 : Int32)) dL_chosen_176 rfl ?_
  refine G_ishr dL_chosen_177 ?_
  refine G_iconst (v := (2 : Int32)) dL_chosen_178 rfl ?_
  refine G_callS (av := [.int (v4 >>> ((1 : Int32) &&& 31)), .int (2 : Int32)]) [.int (v4 >>> ((4 : Int32) &&& 31)), va_rf v5] (ct_L_below l N z (v4 >>> ((1 : Int32) &&& 31)) (2 : Int32)) yn_L_below (Nat.le_of_ble_eq_true rfl) (by decide) gw_1372 gw_1373 gw_38 gw_1374 rfl (by simp only [hw_n, hw_i, hw_r, hw_j, hw_d]; decide) dL_chosen_179 (fun i27 x26 => ?_)
  refine G_if_ne (tgt := 190) dL_chosen_182 (by decide) (fun _ => ?_) (fun _ => ?_)
  · refine G_bipush (v := (100 : Int32)) dL_chosen_185 (by decide) ?_
    refine G_goto (tgt := 192) dL_chosen_187 (by decide) ?_
    refine G_lv [0, 1, 2, 3, 4, 5] rfl ?_
    exact g_L_chosen_b192 l N z hk58 v0 v1 v2 v3 v4 v5 (100 : Int32) (v4 >>> ((4 : Int32) &&& 31)) v5 x26
  · refine G_bipush (v := (9 : Int32)) dL_chosen_190 (by decide) ?_
    refine G_lv [0, 1, 2, 3, 4, 5] rfl ?_
    exact g_L_chosen_b192 l N z hk58 v0 v1 v2 v3 v4 v5 (9 : Int32) (v4 >>> ((4 : Int32) &&& 31)) v5 x26

set_option maxRecDepth 100000 in
set_option maxHeartbeats 4000000 in
theorem g_L_chosen_b124 (l : Launch) (N : Nat) (z : Nat → Nat) {k58 : Option Nat → Option Nat → Int32 → Int32 → Hp → Option (Option Nat × Hp)} (hk58 : ∀ v0 v1 v2 v3 x, G l z m_L_chosen okT enR 58 [(0, va_rf v0), (1, va_rf v1), (2, .int v2), (3, .int v3)] [] x (k58 v0 v1 v2 v3 x)) (v0 : Option Nat) (v1 : Option Nat) (v2 : Int32) (v3 : Int32) (v4 : Int32) (v5 : Option Nat) (s0 : Option Nat) (s1 : Option Nat) (x0 : Hp) : G l z m_L_chosen okT enR 124 [(0, va_rf v0), (1, va_rf v1), (2, .int v2), (3, .int v3), (4, .int v4), (5, va_rf v5)] [va_rf s0, va_rf s1] x0 (f_L_chosen_b124 N z k58 v0 v1 v2 v3 v4 v5 s0 s1 x0) := by
  unfold f_L_chosen_b124
  refine G_putr (k := 0) K_13 (by decide) rfl rfl rfl gw_1383 rfl (Or.inl rfl) nar_obj.1 nar_obj.2 dL_chosen_124 (fun x28 => ?_)
  refine G_aload 5 dL_chosen_127 rfl ?_
  refine G_iload 4 dL_chosen_129 rfl ?_
  refine G_iconst (v := (2 : Int32)) dL_chosen_131 rfl ?_
  refine G_ishr dL_chosen_132 ?_
  refine G_iload 4 dL_chosen_133 rfl ?_
  refine G_iconst (v := (2 : Int32)) dL_chosen_135 rfl ?_
  refine G_callS (av := [.int v4, .int (2 : Int32)]) [.int (v4 >>> ((2 : Int32) &&& 31)), va_rf v5] (ct_L_below l N z v4 (2 : Int32)) yn_L_below (Nat.le_of_ble_eq_true rfl) (by decide) gw_1372 gw_1373 gw_38 gw_1374 rfl (by simp only [hw_n, hw_i, hw_r, hw_j, hw_d]; decide) dL_chosen_136 (fun i30 x29 => ?_)
  refine G_if_ne (tgt := 147) dL_chosen_139 (by decide) (fun _ => ?_) (fun _ => ?_)
  · refine G_bipush (v := (31 : Int32)) dL_chosen_142 (by decide) ?_
    refine G_goto (tgt := 148) dL_chosen_144 (by decide) ?_
    refine G_lv [0, 1, 2, 3, 4, 5] rfl ?_
    exact g_L_chosen_b148 l N z hk58 v0 v1 v2 v3 v4 v5 (31 : Int32) (v4 >>> ((2 : Int32) &&& 31)) v5 x29
  · refine G_iconst (v := (5 : Int32)) dL_chosen_147 rfl ?_
    refine G_lv [0, 1, 2, 3, 4, 5] rfl ?_
    exact g_L_chosen_b148 l N z hk58 v0 v1 v2 v3 v4 v5 (5 : Int32) (v4 >>> ((2 : Int32) &&& 31)) v5 x29

set_option maxRecDepth 100000 in
set_option maxHeartbeats 4000000 in
theorem g_L_chosen_b107 (l : Launch) (N : Nat) (z : Nat → Nat) {k58 : Option Nat → Option Nat → Int32 → Int32 → Hp → Option (Option Nat × Hp)} (hk58 : ∀ v0 v1 v2 v3 x, G l z m_L_chosen okT enR 58 [(0, va_rf v0), (1, va_rf v1), (2, .int v2), (3, .int v3)] [] x (k58 v0 v1 v2 v3 x)) (v0 : Option Nat) (v1 : Option Nat) (v2 : Int32) (v3 : Int32) (v4 : Int32) (v5 : Option Nat) (s0 : Option Nat) (x0 : Hp) : G l z m_L_chosen okT enR 107 [(0, va_rf v0), (1, va_rf v1), (2, .int v2), (3, .int v3), (4, .int v4), (5, va_rf v5)] [va_rf s0] x0 (f_L_chosen_b107 N z k58 v0 v1 v2 v3 v4 v5 s0 x0) := by
  unfold f_L_chosen_b107
  refine G_null dL_chosen_107 ?_
  refine G_goto (tgt := 124) dL_chosen_108 (by decide) ?_
  refine G_lv [0, 1, 2, 3, 4, 5] rfl ?_
  exact g_L_chosen_b124 l N z hk58 v0 v1 v2 v3 v4 v5 none s0 x0

set_option maxRecDepth 100000 in
set_option maxHeartbeats 4000000 in
theorem g_L_chosen_b434 (l : Launch) (N : Nat) (z : Nat → Nat) {k315 : Option Nat → Option Nat → Int32 → Int32 → Int32 → Hp → Option (Option Nat × Hp)} (hk315 : ∀ v0 v1 v2 v3 v4 x, G l z m_L_chosen okT enR 315 [(0, va_rf v0), (1, va_rf v1), (2, .int v2), (3, .int v3), (4, .int v4)] [] x (k315 v0 v1 v2 v3 v4 x)) (v0 : Option Nat) (v1 : Option Nat) (v2 : Int32) (v3 : Int32) (v4 : Int32) (s0 : Int32) (s1 : Int32) (s2 : Int32) (s3 : Option Nat) (s4 : Option Nat) (s5 : Int32) (s6 : Option Nat) (x0 : Hp) : G l z m_L_chosen okT enR 434 [(0, va_rf v0), (1, va_rf v1), (2, .int v2), (3, .int v3), (4, .int v4)] [.int s0, .int s1, .int s2, va_rf s3, va_rf s4, .int s5, va_rf s6] x0 (f_L_chosen_b434 N z k315 v0 v1 v2 v3 v4 s0 s1 s2 s3 s4 s5 s6 x0) := by
  unfold f_L_chosen_b434
  refine G_callS (av := [.int s1, .int s0]) [.int s2, va_rf s3, va_rf s4, .int s5, va_rf s6] (ct_L_below l N z s1 s0) yn_L_below (Nat.le_of_ble_eq_true rfl) (by decide) gw_1372 gw_1373 gw_38 gw_1374 rfl (by simp only [hw_n, hw_i, hw_r, hw_j, hw_d]; decide) dL_chosen_434 (fun i32 x31 => ?_)
  refine G_iast dL_chosen_437 (fun x33 => ?_)
  refine G_dup dL_chosen_438 (rf_cat _) ?_
  refine G_iconst (v := (4 : Int32)) dL_chosen_439 rfl ?_
  refine G_iconst (v := (0 : Int32)) dL_chosen_440 rfl ?_
  refine G_iast dL_chosen_441 (fun x34 => ?_)
  refine G_aastA dL_chosen_442 (fun x35 => ?_)
  refine G_iinc (i := 4) (l2 := [(0, va_rf v0), (1, va_rf v1), (2, .int v2), (3, .int v3)]) 4 [0, 1, 2, 3] dL_chosen_443 rfl rfl (Nat.le_of_ble_eq_true rfl) rfl (sok_a (by decide) (by decide) (sok_a (by decide) (by decide) (sok_a (by decide) (by decide) (sok_b (by decide) rfl trivial)))) ?_
  refine G_goto (tgt := 315) dL_chosen_446 (by decide) ?_
  refine G_lv [1, 2, 3, 4, 0] rfl ?_
  exact hk315 v0 v1 v2 v3 (v4 + (1 : Int32)) x35

set_option maxRecDepth 100000 in
set_option maxHeartbeats 4000000 in
theorem g_L_chosen_b407 (l : Launch) (N : Nat) (z : Nat → Nat) {k315 : Option Nat → Option Nat → Int32 → Int32 → Int32 → Hp → Option (Option Nat × Hp)} (hk315 : ∀ v0 v1 v2 v3 v4 x, G l z m_L_chosen okT enR 315 [(0, va_rf v0), (1, va_rf v1), (2, .int v2), (3, .int v3), (4, .int v4)] [] x (k315 v0 v1 v2 v3 v4 x)) (v0 : Option Nat) (v1 : Option Nat) (v2 : Int32) (v3 : Int32) (v4 : Int32) (v5 : Int32) (s0 : Int32) (s1 : Int32) (s2 : Int32) (s3 : Int32) (s4 : Option Nat) (s5 : Option Nat) (s6 : Int32) (s7 : Option Nat) (x0 : Hp) : G l z m_L_chosen okT enR 407 [(0, va_rf v0), (1, va_rf v1), (2, .int v2), (3, .int v3), (4, .int v4), (5, .int v5)] [.int s0, .int s1, .int s2, .int s3, va_rf s4, va_rf s5, .int s6, va_rf s7] x0 (f_L_chosen_b407 N z k315 v0 v1 v2 v3 v4 v5 s0 s1 s2 s3 s4 s5 s6 s7 x0) := by
  unfold f_L_chosen_b407
  refine G_callS (av := [.int s1, .int s0]) [.int s2, .int s3, va_rf s4, va_rf s5, .int s6, va_rf s7] (ct_L_below l N z s1 s0) yn_L_below (Nat.le_of_ble_eq_true rfl) (by decide) gw_1372 gw_1373 gw_38 gw_1374 rfl (by simp only [hw_n, hw_i, hw_r, hw_j, hw_d]; decide) dL_chosen_407 (fun i37 x36 => ?_)
  refine G_iadd dL_chosen_410 ?_
  refine G_iast dL_chosen_411 (fun x38 => ?_)
  refine G_dup dL_chosen_412 (rf_cat _) ?_
  refine G_iconst (v := (3 : Int32)) dL_chosen_413 rfl ?_
  refine G_iload 5 dL_chosen_414 rfl ?_
  refine G_iconst (v := (4 : Int32)) dL_chosen_416 rfl ?_
  refine G_ishr dL_chosen_417 ?_
  refine G_iload 5 dL_chosen_418 rfl ?_
  refine G_iconst (v := (3 : Int32)) dL_chosen_420 rfl ?_
  refine G_callS (av := [.int v5, .int (3 : Int32)]) [.int (v5 >>> ((4 : Int32) &&& 31)), .int (3 : Int32), va_rf s5, va_rf s5, .int s6, va_rf s7] (ct_L_below l N z v5 (3 : Int32)) yn_L_below (Nat.le_of_ble_eq_true rfl) (by decide) gw_1372 gw_1373 gw_38 gw_1374 rfl (by simp only [hw_n, hw_i, hw_r, hw_j, hw_d]; decide) dL_chosen_421 (fun i40 x39 => ?_)
  refine G_if_ne (tgt := 432) dL_chosen_424 (by decide) (fun _ => ?_) (fun _ => ?_)
  · refine G_bipush (v := (100 : Int32)) dL_chosen_427 (by decide) ?_
    refine G_goto (tgt := 434) dL_chosen_429 (by decide) ?_
    refine G_lv [0, 1, 2, 3, 4] rfl ?_
    exact g_L_chosen_b434 l N z hk315 v0 v1 v2 v3 v4 (100 : Int32) (v5 >>> ((4 : Int32) &&& 31)) (3 : Int32) s5 s5 s6 s7 x39
  · refine G_bipush (v := (6 : Int32)) dL_chosen_432 (by decide) ?_
    refine G_lv [0, 1, 2, 3, 4] rfl ?_
    exact g_L_chosen_b434 l N z hk315 v0 v1 v2 v3 v4 (6 : Int32) (v5 >>> ((4 : Int32) &&& 31)) (3 : Int32) s5 s5 s6 s7 x39

set_option maxRecDepth 100000 in
set_option maxHeartbeats 4000000 in
theorem g_L_chosen_b380 (l : Launch) (N : Nat) (z : Nat → Nat) {k315 : Option Nat → Option Nat → Int32 → Int32 → Int32 → Hp → Option (Option Nat × Hp)} (hk315 : ∀ v0 v1 v2 v3 v4 x, G l z m_L_chosen okT enR 315 [(0, va_rf v0), (1, va_rf v1), (2, .int v2), (3, .int v3), (4, .int v4)] [] x (k315 v0 v1 v2 v3 v4 x)) (v0 : Option Nat) (v1 : Option Nat) (v2 : Int32) (v3 : Int32) (v4 : Int32) (v5 : Int32) (s0 : Int32) (s1 : Int32) (s2 : Int32) (s3 : Int32) (s4 : Option Nat) (s5 : Option Nat) (s6 : Int32) (s7 : Option Nat) (x0 : Hp) : G l z m_L_chosen okT enR 380 [(0, va_rf v0), (1, va_rf v1), (2, .int v2), (3, .int v3), (4, .int v4), (5, .int v5)] [.int s0, .int s1, .int s2, .int s3, va_rf s4, va_rf s5, .int s6, va_rf s7] x0 (f_L_chosen_b380 N z k315 v0 v1 v2 v3 v4 v5 s0 s1 s2 s3 s4 s5 s6 s7 x0) := by
  unfold f_L_chosen_b380
  refine G_callS (av := [.int s1, .int s0]) [.int s2, .int s3, va_rf s4, va_rf s5, .int s6, va_rf s7] (ct_L_below l N z s1 s0) yn_L_below (Nat.le_of_ble_eq_true rfl) (by decide) gw_1372 gw_1373 gw_38 gw_1374 rfl (by simp only [hw_n, hw_i, hw_r, hw_j, hw_d]; decide) dL_chosen_380 (fun i42 x41 => ?_)
  refine G_iadd dL_chosen_383 ?_
  refine G_iast dL_chosen_384 (fun x43 => ?_)
  refine G_dup dL_chosen_385 (rf_cat _) ?_
  refine G_iconst (v := (2 : Int32)) dL_chosen_386 rfl ?_
  refine G_iconst (v := (1 : Int32)) dL_chosen_387 rfl ?_
  refine G_iload 5 dL_chosen_388 rfl ?_
  refine G_iconst (v := (3 : Int32)) dL_chosen_390 rfl ?_
  refine G_ishr dL_chosen_391 ?_
  refine G_iload 5 dL_chosen_392 rfl ?_
  refine G_iconst (v := (3 : Int32)) dL_chosen_394 rfl ?_
  refine G_callS (av := [.int v5, .int (3 : Int32)]) [.int (v5 >>> ((3 : Int32) &&& 31)), .int (1 : Int32), .int (2 : Int32), va_rf s5, va_rf s5, .int s6, va_rf s7] (ct_L_below l N z v5 (3 : Int32)) yn_L_below (Nat.le_of_ble_eq_true rfl) (by decide) gw_1372 gw_1373 gw_38 gw_1374 rfl (by simp only [hw_n, hw_i, hw_r, hw_j, hw_d]; decide) dL_chosen_395 (fun i45 x44 => ?_)
  refine G_if_ne (tgt := 406) dL_chosen_398 (by decide) (fun _ => ?_) (fun _ => ?_)
  · refine G_bipush (v := (30 : Int32)) dL_chosen_401 (by decide) ?_
    refine G_goto (tgt := 407) dL_chosen_403 (by decide) ?_
    refine G_lv [0, 1, 2, 3, 4, 5] rfl ?_
    exact g_L_chosen_b407 l N z hk315 v0 v1 v2 v3 v4 v5 (30 : Int32) (v5 >>> ((3 : Int32) &&& 31)) (1 : Int32) (2 : Int32) s5 s5 s6 s7 x44
  · refine G_iconst (v := (4 : Int32)) dL_chosen_406 rfl ?_
    refine G_lv [0, 1, 2, 3, 4, 5] rfl ?_
    exact g_L_chosen_b407 l N z hk315 v0 v1 v2 v3 v4 v5 (4 : Int32) (v5 >>> ((3 : Int32) &&& 31)) (1 : Int32) (2 : Int32) s5 s5 s6 s7 x44

set_option maxRecDepth 100000 in
set_option maxHeartbeats 4000000 in
theorem g_L_chosen_b474 (l : Launch) (N : Nat) (z : Nat → Nat) : ∀ (n : Nat) (v0 : Option Nat) (v1 : Option Nat) (v2 : Int32) (v4 : Int32) (v5 : Int32) (x0 : Hp), G l z m_L_chosen okT enR 474 [(0, va_rf v0), (1, va_rf v1), (2, .int v2), (4, .int v4), (5, .int v5)] [] x0 (f_L_chosen_b474 N z n v0 v1 v2 v4 v5 x0) := by
  intro n
  induction n with
  | zero => intro v0 v1 v2 v4 v5 x0; exact G_none
  | succ n ih =>
  intro v0 v1 v2 v4 v5 x0
  rw [f_L_chosen_b474]
  refine G_iload 4 dL_chosen_474 rfl ?_
  refine G_iload 3 dL_chosen_476 rfl ?_
  refine G_icmp_ge (tgt := 609) dL_chosen_478 (by decide) (fun _ => ?_) (fun _ => ?_)
  · refine G_aload_n 1 dL_chosen_609 rfl rfl ?_
    exact G_ret trivial dL_chosen_610 rfl
  · refine G_aload_n 0 dL_chosen_481 rfl rfl ?_
    refine G_iconst (v := (3 : Int32)) dL_chosen_482 rfl ?_
    refine G_iload 4 dL_chosen_483 rfl ?_
    refine G_iadd dL_chosen_485 ?_
    refine G_callS (av := [va_rf v0, .int ((3 : Int32) + v5)]) [] (ct_L_cell l N z v0 ((3 : Int32) + v5)) yn_L_cell (Nat.le_of_ble_eq_true rfl) (by decide) gw_1114 gw_1115 gw_38 gw_1116 rfl (by decide) dL_chosen_486 (fun i47 x46 => ?_)
    refine G_sipush (v := (137 : Int32)) dL_chosen_489 (by decide) ?_
    refine G_iload 4 dL_chosen_492 rfl ?_
    refine G_imul dL_chosen_494 ?_
    refine G_iadd dL_chosen_495 ?_
    refine G_istore (i := 6) (l2 := [(0, va_rf v0), (1, va_rf v1), (2, .int v2), (4, .int v4), (5, .int v5)]) [0, 1, 2, 3, 4] dL_chosen_496 (Nat.le_of_ble_eq_true rfl) rfl (sok_a (by decide) (by decide) (sok_a (by decide) (by decide) (sok_a (by decide) (by decide) (sok_a (by decide) (by decide) (sok_b (by decide) rfl trivial))))) ?_
    refine G_aload_n 2 dL_chosen_498 rfl rfl ?_
    refine G_getr (k := 7) K_14 (by decide) rfl rfl rfl gw_1354 rfl dL_chosen_499 (fun r48 => ?_)
    refine G_iload 5 dL_chosen_502 rfl ?_
    refine G_bipush (v := (8 : Int32)) dL_chosen_504 (by decide) ?_
    refine G_newa (t := 1) rfl (Or.inr (Or.inl ⟨rfl, rfl⟩)) gw_140 dL_chosen_506 (fun r49 x50 => ?_)
    refine G_dup dL_chosen_508 (rf_cat _) ?_
    refine G_iconst (v := (0 : Int32)) dL_chosen_509 rfl ?_
    refine G_iload 0 dL_chosen_510 rfl ?_
    refine G_iconst (v := (3 : Int32)) dL_chosen_512 rfl ?_
    refine G_callS (av := [.int (i47 + ((137 : Int32) * v5)), .int (3 : Int32)]) [.int (0 : Int32), va_rf r49, va_rf r49, .int v5, va_rf r48] (ct_L_below l N z (i47 + ((137 : Int32) * v5)) (3 : Int32)) yn_L_below (Nat.le_of_ble_eq_true rfl) (by decide) gw_1372 gw_1373 gw_38 gw_1374 rfl (by simp only [hw_n, hw_i, hw_r, hw_j, hw_d]; decide) dL_chosen_513 (fun i52 x51 => ?_)
    refine G_iast dL_chosen_516 (fun x53 => ?_)
    refine G_dup dL_chosen_517 (rf_cat _) ?_
    refine G_iconst (v := (1 : Int32)) dL_chosen_518 rfl ?_
    refine G_iload 0 dL_chosen_519 rfl ?_
    refine G_iconst (v := (1 : Int32)) dL_chosen_521 rfl ?_
    refine G_ishr dL_chosen_522 ?_
    refine G_iload_n 3 dL_chosen_523 rfl rfl ?_
    refine G_callS (av := [.int ((i47 + ((137 : Int32) * v5)) >>> ((1 : Int32) &&& 31)), .int v2]) [.int (1 : Int32), va_rf r49, va_rf r49, .int v5, va_rf r48] (ct_L_below l N z ((i47 + ((137 : Int32) * v5)) >>> ((1 : Int32) &&& 31)) v2) yn_L_below (Nat.le_of_ble_eq_true rfl) (by decide) gw_1372 gw_1373 gw_38 gw_1374 rfl (by simp only [hw_n, hw_i, hw_r, hw_j, hw_d]; decide) dL_chosen_524 (fun i55 x54 => ?_)
    refine G_iast dL_chosen_527 (fun x56 => ?_)
    refine G_dup dL_chosen_528 (rf_cat _) ?_
    refine G_iconst (v := (2 : Int32)) dL_chosen_529 rfl ?_
    refine G_iload 0 dL_chosen_530 rfl ?_
    refine G_iconst (v := (2 : Int32)) dL_chosen_532 rfl ?_
    refine G_ishr dL_chosen_533 ?_
    refine G_bipush (v := (7 : Int32)) dL_chosen_534 (by decide) ?_
    refine G_callS (av := [.int ((i47 + ((137 : Int32) * v5)) >>> ((2 : Int32) &&& 31)), .int (7 : Int32)]) [.int (2 : Int32), va_rf r49, va_rf r49, .int v5, va_rf r48] (ct_L_below l N z ((i47 + ((137 : Int32) * v5)) >>> ((2 : Int32) &&& 31)) (7 : Int32)) yn_L_below (Nat.le_of_ble_eq_true rfl) (by decide) gw_1372 gw_1373 gw_38 gw_1374 rfl (by simp only [hw_n, hw_i, hw_r, hw_j, hw_d]; decide) dL_chosen_536 (fun i58 x57 => ?_)
    refine G_iast dL_chosen_539 (fun x59 => ?_)
    refine G_dup dL_chosen_540 (rf_cat _) ?_
    refine G_iconst (v := (3 : Int32)) dL_chosen_541 rfl ?_
    refine G_iload 0 dL_chosen_542 rfl ?_
    refine G_iconst (v := (3 : Int32)) dL_chosen_544 rfl ?_
    refine G_ishr dL_chosen_545 ?_
    refine G_iload_n 3 dL_chosen_546 rfl rfl ?_
    refine G_callS (av := [.int ((i47 + ((137 : Int32) * v5)) >>> ((3 : Int32) &&& 31)), .int v2]) [.int (3 : Int32), va_rf r49, va_rf r49, .int v5, va_rf r48] (ct_L_below l N z ((i47 + ((137 : Int32) * v5)) >>> ((3 : Int32) &&& 31)) v2) yn_L_below (Nat.le_of_ble_eq_true rfl) (by decide) gw_1372 gw_1373 gw_38 gw_1374 rfl (by simp only [hw_n, hw_i, hw_r, hw_j, hw_d]; decide) dL_chosen_547 (fun i61 x60 => ?_)
    refine G_iast dL_chosen_550 (fun x62 => ?_)
    refine G_dup dL_chosen_551 (rf_cat _) ?_
    refine G_iconst (v := (4 : Int32)) dL_chosen_552 rfl ?_
    refine G_iload 0 dL_chosen_553 rfl ?_
    refine G_iconst (v := (4 : Int32)) dL_chosen_555 rfl ?_
    refine G_ishr dL_chosen_556 ?_
    refine G_bipush (v := (31 : Int32)) dL_chosen_557 (by decide) ?_
    refine G_callS (av := [.int ((i47 + ((137 : Int32) * v5)) >>> ((4 : Int32) &&& 31)), .int (31 : Int32)]) [.int (4 : Int32), va_rf r49, va_rf r49, .int v5, va_rf r48] (ct_L_below l N z ((i47 + ((137 : Int32) * v5)) >>> ((4 : Int32) &&& 31)) (31 : Int32)) yn_L_below (Nat.le_of_ble_eq_true rfl) (by decide) gw_1372 gw_1373 gw_38 gw_1374 rfl (by simp only [hw_n, hw_i, hw_r, hw_j, hw_d]; decide) dL_chosen_559 (fun i64 x63 => ?_)
    refine G_iast dL_chosen_562 (fun x65 => ?_)
    refine G_dup dL_chosen_563 (rf_cat _) ?_
    refine G_iconst (v := (5 : Int32)) dL_chosen_564 rfl ?_
    refine G_iload 0 dL_chosen_565 rfl ?_
    refine G_iconst (v := (5 : Int32)) dL_chosen_567 rfl ?_
    refine G_ishr dL_chosen_568 ?_
    refine G_bipush (v := (7 : Int32)) dL_chosen_569 (by decide) ?_
    refine G_callS (av := [.int ((i47 + ((137 : Int32) * v5)) >>> ((5 : Int32) &&& 31)), .int (7 : Int32)]) [.int (5 : Int32), va_rf r49, va_rf r49, .int v5, va_rf r48] (ct_L_below l N z ((i47 + ((137 : Int32) * v5)) >>> ((5 : Int32) &&& 31)) (7 : Int32)) yn_L_below (Nat.le_of_ble_eq_true rfl) (by decide) gw_1372 gw_1373 gw_38 gw_1374 rfl (by simp only [hw_n, hw_i, hw_r, hw_j, hw_d]; decide) dL_chosen_571 (fun i67 x66 => ?_)
    refine G_iast dL_chosen_574 (fun x68 => ?_)
    refine G_dup dL_chosen_575 (rf_cat _) ?_
    refine G_bipush (v := (6 : Int32)) dL_chosen_576 (by decide) ?_
    refine G_iload 0 dL_chosen_578 rfl ?_
    refine G_bipush (v := (6 : Int32)) dL_chosen_580 (by decide) ?_
    refine G_ishr dL_chosen_582 ?_
    refine G_iload_n 3 dL_chosen_583 rfl rfl ?_
    refine G_callS (av := [.int ((i47 + ((137 : Int32) * v5)) >>> ((6 : Int32) &&& 31)), .int v2]) [.int (6 : Int32), va_rf r49, va_rf r49, .int v5, va_rf r48] (ct_L_below l N z ((i47 + ((137 : Int32) * v5)) >>> ((6 : Int32) &&& 31)) v2) yn_L_below (Nat.le_of_ble_eq_true rfl) (by decide) gw_1372 gw_1373 gw_38 gw_1374 rfl (by simp only [hw_n, hw_i, hw_r, hw_j, hw_d]; decide) dL_chosen_584 (fun i70 x69 => ?_)
    refine G_iast dL_chosen_587 (fun x71 => ?_)
    refine G_dup dL_chosen_588 (rf_cat _) ?_
    refine G_bipush (v := (7 : Int32)) dL_chosen_589 (by decide) ?_
    refine G_iload 0 dL_chosen_591 rfl ?_
    refine G_bipush (v := (7 : Int32)) dL_chosen_593 (by decide) ?_
    refine G_ishr dL_chosen_595 ?_
    refine G_bipush (v := (25 : Int32)) dL_chosen_596 (by decide) ?_
    refine G_callS (av := [.int ((i47 + ((137 : Int32) * v5)) >>> ((7 : Int32) &&& 31)), .int (25 : Int32)]) [.int (7 : Int32), va_rf r49, va_rf r49, .int v5, va_rf r48] (ct_L_below l N z ((i47 + ((137 : Int32) * v5)) >>> ((7 : Int32) &&& 31)) (25 : Int32)) yn_L_below (Nat.le_of_ble_eq_true rfl) (by decide) gw_1372 gw_1373 gw_38 gw_1374 rfl (by simp only [hw_n, hw_i, hw_r, hw_j, hw_d]; decide) dL_chosen_598 (fun i73 x72 => ?_)
    refine G_iast dL_chosen_601 (fun x74 => ?_)
    refine G_aastA dL_chosen_602 (fun x75 => ?_)
    refine G_iinc (i := 5) (l2 := [(6, .int (i47 + ((137 : Int32) * v5))), (0, va_rf v0), (1, va_rf v1), (2, .int v2), (4, .int v4)]) 5 [0, 1, 2, 3, 4] dL_chosen_603 rfl rfl (Nat.le_of_ble_eq_true rfl) rfl (sok_a (by decide) (by decide) (sok_a (by decide) (by decide) (sok_a (by decide) (by decide) (sok_a (by decide) (by decide) (sok_b (by decide) rfl trivial))))) ?_
    refine G_goto (tgt := 474) dL_chosen_606 (by decide) ?_
    refine G_lv [2, 3, 4, 5, 0] rfl ?_
    exact ih v0 v1 v2 v4 (v5 + (1 : Int32)) x75

set_option maxRecDepth 100000 in
set_option maxHeartbeats 4000000 in
theorem g_L_chosen_b315 (l : Launch) (N : Nat) (z : Nat → Nat) : ∀ (n : Nat) (v0 : Option Nat) (v1 : Option Nat) (v2 : Int32) (v3 : Int32) (v4 : Int32) (x0 : Hp), G l z m_L_chosen okT enR 315 [(0, va_rf v0), (1, va_rf v1), (2, .int v2), (3, .int v3), (4, .int v4)] [] x0 (f_L_chosen_b315 N z n v0 v1 v2 v3 v4 x0) := by
  intro n
  induction n with
  | zero => intro v0 v1 v2 v3 v4 x0; exact G_none
  | succ n ih =>
  intro v0 v1 v2 v3 v4 x0
  rw [f_L_chosen_b315]
  refine G_iload 4 dL_chosen_315 rfl ?_
  refine G_iload_n 3 dL_chosen_317 rfl rfl ?_
  refine G_icmp_ge (tgt := 449) dL_chosen_318 (by decide) (fun _ => ?_) (fun _ => ?_)
  · refine G_aload_n 0 dL_chosen_449 rfl rfl ?_
    refine G_bipush (v := (15 : Int32)) dL_chosen_450 (by decide) ?_
    refine G_callS (av := [va_rf v0, .int (15 : Int32)]) [] (ct_L_cell l N z v0 (15 : Int32)) yn_L_cell (Nat.le_of_ble_eq_true rfl) (by decide) gw_1114 gw_1115 gw_38 gw_1116 rfl (by decide) dL_chosen_452 (fun i77 x76 => ?_)
    refine G_bipush (v := (7 : Int32)) dL_chosen_455 (by decide) ?_
    refine G_callS (av := [.int i77, .int (7 : Int32)]) [] (ct_L_below l N z i77 (7 : Int32)) yn_L_below (Nat.le_of_ble_eq_true rfl) (by decide) gw_1372 gw_1373 gw_38 gw_1374 rfl (by decide) dL_chosen_457 (fun i79 x78 => ?_)
    refine G_istore (i := 4) (l2 := [(0, va_rf v0), (1, va_rf v1), (2, .int v2), (3, .int v3)]) [0, 1, 2, 3] dL_chosen_460 (Nat.le_of_ble_eq_true rfl) rfl (sok_a (by decide) (by decide) (sok_a (by decide) (by decide) (sok_a (by decide) (by decide) (sok_b (by decide) rfl trivial)))) ?_
    refine G_aload_n 2 dL_chosen_462 rfl rfl ?_
    refine G_iload 0 dL_chosen_463 rfl ?_
    refine G_anewA gw_1458 dL_chosen_465 (fun r80 x81 => ?_)
    refine G_putr (k := 7) K_14 (by decide) rfl rfl rfl gw_1354 rfl (Or.inl rfl) nar_arr.1 nar_arr.2 dL_chosen_468 (fun x82 => ?_)
    refine G_iconst (v := (0 : Int32)) dL_chosen_471 rfl ?_
    refine G_istore (i := 5) (l2 := [(4, .int i79), (0, va_rf v0), (1, va_rf v1), (2, .int v2), (3, .int v3)]) [0, 1, 2, 3, 4] dL_chosen_472 (Nat.le_of_ble_eq_true rfl) rfl (sok_b (by decide) rfl (sok_a (by decide) (by decide) (sok_a (by decide) (by decide) (sok_a (by decide) (by decide) (sok_a (by decide) (by decide) trivial))))) ?_
    refine G_lv [2, 3, 4, 1, 0] rfl ?_
    exact g_L_chosen_b474 l N z N v0 v1 v2 i79 (0 : Int32) x82
  · refine G_aload_n 0 dL_chosen_321 rfl rfl ?_
    refine G_bipush (v := (9 : Int32)) dL_chosen_322 (by decide) ?_
    refine G_iload 4 dL_chosen_324 rfl ?_
    refine G_iadd dL_chosen_326 ?_
    refine G_callS (av := [va_rf v0, .int ((9 : Int32) + v4)]) [] (ct_L_cell l N z v0 ((9 : Int32) + v4)) yn_L_cell (Nat.le_of_ble_eq_true rfl) (by decide) gw_1114 gw_1115 gw_38 gw_1116 rfl (by decide) dL_chosen_327 (fun i84 x83 => ?_)
    refine G_sipush (v := (131 : Int32)) dL_chosen_330 (by decide) ?_
    refine G_iload 4 dL_chosen_333 rfl ?_
    refine G_imul dL_chosen_335 ?_
    refine G_iadd dL_chosen_336 ?_
    refine G_istore (i := 5) (l2 := [(0, va_rf v0), (1, va_rf v1), (2, .int v2), (3, .int v3), (4, .int v4)]) [0, 1, 2, 3, 4] dL_chosen_337 (Nat.le_of_ble_eq_true rfl) rfl (sok_a (by decide) (by decide) (sok_a (by decide) (by decide) (sok_a (by decide) (by decide) (sok_a (by decide) (by decide) (sok_b (by decide) rfl trivial))))) ?_
    refine G_aload_n 2 dL_chosen_339 rfl rfl ?_
    refine G_getr (k := 6) K_14 (by decide) rfl rfl rfl gw_1352 rfl dL_chosen_340 (fun r85 => ?_)
    refine G_iload 5 dL_chosen_343 rfl ?_
    refine G_iconst (v := (5 : Int32)) dL_chosen_345 rfl ?_
    refine G_newa (t := 1) rfl (Or.inr (Or.inl ⟨rfl, rfl⟩)) gw_140 dL_chosen_346 (fun r86 x87 => ?_)
    refine G_dup dL_chosen_348 (rf_cat _) ?_
    refine G_iconst (v := (0 : Int32)) dL_chosen_349 rfl ?_
    refine G_iload 0 dL_chosen_350 rfl ?_
    refine G_iload_n 3 dL_chosen_352 rfl rfl ?_
    refine G_callS (av := [.int (i84 + ((131 : Int32) * v4)), .int v2]) [.int (0 : Int32), va_rf r86, va_rf r86, .int v4, va_rf r85] (ct_L_below l N z (i84 + ((131 : Int32) * v4)) v2) yn_L_below (Nat.le_of_ble_eq_true rfl) (by decide) gw_1372 gw_1373 gw_38 gw_1374 rfl (by simp only [hw_n, hw_i, hw_r, hw_j, hw_d]; decide) dL_chosen_353 (fun i89 x88 => ?_)
    refine G_iast dL_chosen_356 (fun x90 => ?_)
    refine G_dup dL_chosen_357 (rf_cat _) ?_
    refine G_iconst (v := (1 : Int32)) dL_chosen_358 rfl ?_
    refine G_iconst (v := (1 : Int32)) dL_chosen_359 rfl ?_
    refine G_iload 0 dL_chosen_360 rfl ?_
    refine G_iconst (v := (2 : Int32)) dL_chosen_362 rfl ?_
    refine G_ishr dL_chosen_363 ?_
    refine G_iload 0 dL_chosen_364 rfl ?_
    refine G_iconst (v := (2 : Int32)) dL_chosen_366 rfl ?_
    refine G_callS (av := [.int (i84 + ((131 : Int32) * v4)), .int (2 : Int32)]) [.int ((i84 + ((131 : Int32) * v4)) >>> ((2 : Int32) &&& 31)), .int (1 : Int32), .int (1 : Int32), va_rf r86, va_rf r86, .int v4, va_rf r85] (ct_L_below l N z (i84 + ((131 : Int32) * v4)) (2 : Int32)) yn_L_below (Nat.le_of_ble_eq_true rfl) (by decide) gw_1372 gw_1373 gw_38 gw_1374 rfl (by simp only [hw_n, hw_i, hw_r, hw_j, hw_d]; decide) dL_chosen_367 (fun i92 x91 => ?_)
    refine G_if_ne (tgt := 378) dL_chosen_370 (by decide) (fun _ => ?_) (fun _ => ?_)
    · refine G_bipush (v := (30 : Int32)) dL_chosen_373 (by decide) ?_
      refine G_goto (tgt := 380) dL_chosen_375 (by decide) ?_
      refine G_lv [1, 2, 3, 4, 5, 0] rfl ?_
      exact g_L_chosen_b380 l N z ih v0 v1 v2 v3 v4 (i84 + ((131 : Int32) * v4)) (30 : Int32) ((i84 + ((131 : Int32) * v4)) >>> ((2 : Int32) &&& 31)) (1 : Int32) (1 : Int32) r86 r86 v4 r85 x91
    · refine G_bipush (v := (6 : Int32)) dL_chosen_378 (by decide) ?_
      refine G_lv [1, 2, 3, 4, 5, 0] rfl ?_
      exact g_L_chosen_b380 l N z ih v0 v1 v2 v3 v4 (i84 + ((131 : Int32) * v4)) (6 : Int32) ((i84 + ((131 : Int32) * v4)) >>> ((2 : Int32) &&& 31)) (1 : Int32) (1 : Int32) r86 r86 v4 r85 x91

set_option maxRecDepth 100000 in
set_option maxHeartbeats 4000000 in
theorem g_L_chosen_b58 (l : Launch) (N : Nat) (z : Nat → Nat) : ∀ (n : Nat) (v0 : Option Nat) (v1 : Option Nat) (v2 : Int32) (v3 : Int32) (x0 : Hp), G l z m_L_chosen okT enR 58 [(0, va_rf v0), (1, va_rf v1), (2, .int v2), (3, .int v3)] [] x0 (f_L_chosen_b58 N z n v0 v1 v2 v3 x0) := by
  intro n
  induction n with
  | zero => intro v0 v1 v2 v3 x0; exact G_none
  | succ n ih =>
  intro v0 v1 v2 v3 x0
  rw [f_L_chosen_b58]
  refine G_iload_n 3 dL_chosen_58 rfl rfl ?_
  refine G_iload_n 2 dL_chosen_59 rfl rfl ?_
  refine G_icmp_ge (tgt := 290) dL_chosen_60 (by decide) (fun _ => ?_) (fun _ => ?_)
  · refine G_iconst (v := (1 : Int32)) dL_chosen_290 rfl ?_
    refine G_aload_n 0 dL_chosen_291 rfl rfl ?_
    refine G_bipush (v := (8 : Int32)) dL_chosen_292 (by decide) ?_
    refine G_callS (av := [va_rf v0, .int (8 : Int32)]) [.int (1 : Int32)] (ct_L_cell l N z v0 (8 : Int32)) yn_L_cell (Nat.le_of_ble_eq_true rfl) (by decide) gw_1114 gw_1115 gw_38 gw_1116 rfl (by simp only [hw_n, hw_i, hw_r, hw_j, hw_d]; decide) dL_chosen_294 (fun i94 x93 => ?_)
    refine G_bipush (v := (6 : Int32)) dL_chosen_297 (by decide) ?_
    refine G_callS (av := [.int i94, .int (6 : Int32)]) [.int (1 : Int32)] (ct_L_below l N z i94 (6 : Int32)) yn_L_below (Nat.le_of_ble_eq_true rfl) (by decide) gw_1372 gw_1373 gw_38 gw_1374 rfl (by simp only [hw_n, hw_i, hw_r, hw_j, hw_d]; decide) dL_chosen_299 (fun i96 x95 => ?_)
    refine G_iadd dL_chosen_302 ?_
    refine G_istore_n (i := 3) (l2 := [(0, va_rf v0), (1, va_rf v1), (2, .int v2)]) [0, 1, 2] dL_chosen_303 rfl (Nat.le_of_ble_eq_true rfl) rfl (sok_a (by decide) (by decide) (sok_a (by decide) (by decide) (sok_b (by decide) rfl trivial))) ?_
    refine G_aload_n 2 dL_chosen_304 rfl rfl ?_
    refine G_iload_n 0 dL_chosen_305 rfl rfl ?_
    refine G_anewA gw_1458 dL_chosen_306 (fun r97 x98 => ?_)
    refine G_putr (k := 6) K_14 (by decide) rfl rfl rfl gw_1352 rfl (Or.inl rfl) nar_arr.1 nar_arr.2 dL_chosen_309 (fun x99 => ?_)
    refine G_iconst (v := (0 : Int32)) dL_chosen_312 rfl ?_
    refine G_istore (i := 4) (l2 := [(3, .int ((1 : Int32) + i96)), (0, va_rf v0), (1, va_rf v1), (2, .int v2)]) [0, 1, 2, 3] dL_chosen_313 (Nat.le_of_ble_eq_true rfl) rfl (sok_b (by decide) rfl (sok_a (by decide) (by decide) (sok_a (by decide) (by decide) (sok_a (by decide) (by decide) trivial)))) ?_
    refine G_lv [2, 3, 4, 1, 0] rfl ?_
    exact g_L_chosen_b315 l N z N v0 v1 v2 ((1 : Int32) + i96) (0 : Int32) x99
  · refine G_aload_n 0 dL_chosen_63 rfl rfl ?_
    refine G_iconst (v := (2 : Int32)) dL_chosen_64 rfl ?_
    refine G_iload_n 3 dL_chosen_65 rfl rfl ?_
    refine G_iadd dL_chosen_66 ?_
    refine G_callS (av := [va_rf v0, .int ((2 : Int32) + v3)]) [] (ct_L_cell l N z v0 ((2 : Int32) + v3)) yn_L_cell (Nat.le_of_ble_eq_true rfl) (by decide) gw_1114 gw_1115 gw_38 gw_1116 rfl (by decide) dL_chosen_67 (fun i101 x100 => ?_)
    refine G_bipush (v := (127 : Int32)) dL_chosen_70 (by decide) ?_
    refine G_iload_n 3 dL_chosen_72 rfl rfl ?_
    refine G_imul dL_chosen_73 ?_
    refine G_iadd dL_chosen_74 ?_
    refine G_istore (i := 4) (l2 := [(0, va_rf v0), (1, va_rf v1), (2, .int v2), (3, .int v3)]) [0, 1, 2, 3] dL_chosen_75 (Nat.le_of_ble_eq_true rfl) rfl (sok_a (by decide) (by decide) (sok_a (by decide) (by decide) (sok_a (by decide) (by decide) (sok_b (by decide) rfl trivial)))) ?_
    refine G_new K_13 rfl gw_1376 gw_1377 gw_55 dL_chosen_77 (fun r102 x103 => ?_)
    refine G_dup dL_chosen_80 (rf_cat _) ?_
    refine G_callN (av := []) [va_rf r102] (fun q105 => ct_X11_init l N z q105) rfl yn_X11_init (Nat.le_of_ble_eq_true rfl) (by decide) gn_1378 gw_1379 gw_55 gw_1380 rfl (by simp only [hw_n, hw_i, hw_r, hw_j, hw_d]; decide) dL_chosen_81 (fun x104 => ?_)
    refine G_astore (i := 5) (l2 := [(4, .int (i101 + ((127 : Int32) * v3))), (0, va_rf v0), (1, va_rf v1), (2, .int v2), (3, .int v3)]) [0, 1, 2, 3, 4] dL_chosen_84 (Nat.le_of_ble_eq_true rfl) rfl (sok_b (by decide) rfl (sok_a (by decide) (by decide) (sok_a (by decide) (by decide) (sok_a (by decide) (by decide) (sok_a (by decide) (by decide) trivial))))) ?_
    refine G_aload 0 dL_chosen_86 rfl ?_
    refine G_iload_n 5 dL_chosen_88 rfl rfl ?_
    refine G_puti (k := 1) K_13 (by decide) rfl rfl rfl gw_1385 rfl (Or.inl rfl) nar_int.1 nar_int.2 dL_chosen_89 (fun x106 => ?_)
    refine G_aload 0 dL_chosen_92 rfl ?_
    refine G_iload_n 5 dL_chosen_94 rfl rfl ?_
    refine G_if_eq (tgt := 107) dL_chosen_95 (by decide) (fun _ => ?_) (fun _ => ?_)
    · refine G_lv [2, 3, 4, 5, 1, 0] rfl ?_
      exact g_L_chosen_b107 l N z ih v0 v1 v2 v3 (i101 + ((127 : Int32) * v3)) r102 r102 x106
    · refine G_iload 1 dL_chosen_98 rfl ?_
      refine G_iconst (v := (3 : Int32)) dL_chosen_100 rfl ?_
      refine G_callS (av := [.int (i101 + ((127 : Int32) * v3)), .int (3 : Int32)]) [va_rf r102] (ct_L_below l N z (i101 + ((127 : Int32) * v3)) (3 : Int32)) yn_L_below (Nat.le_of_ble_eq_true rfl) (by decide) gw_1372 gw_1373 gw_38 gw_1374 rfl (by simp only [hw_n, hw_i, hw_r, hw_j, hw_d]; decide) dL_chosen_101 (fun i108 x107 => ?_)
      refine G_if_ne (tgt := 111) dL_chosen_104 (by decide) (fun _ => ?_) (fun _ => ?_)
      · refine G_lv [2, 3, 4, 5, 1, 0] rfl ?_
        exact g_L_chosen_b107 l N z ih v0 v1 v2 v3 (i101 + ((127 : Int32) * v3)) r102 r102 x107
      · refine G_aload_n 3 dL_chosen_111 rfl rfl ?_
        refine G_getr (k := 5) K_14 (by decide) rfl rfl rfl gw_1350 rfl dL_chosen_112 (fun r109 => ?_)
        refine G_iload 1 dL_chosen_115 rfl ?_
        refine G_iconst (v := (1 : Int32)) dL_chosen_117 rfl ?_
        refine G_ishr dL_chosen_118 ?_
        refine G_iload_n 5 dL_chosen_119 rfl rfl ?_
        refine G_callS (av := [.int ((i101 + ((127 : Int32) * v3)) >>> ((1 : Int32) &&& 31)), .int v3]) [va_rf r109, va_rf r102] (ct_L_below l N z ((i101 + ((127 : Int32) * v3)) >>> ((1 : Int32) &&& 31)) v3) yn_L_below (Nat.le_of_ble_eq_true rfl) (by decide) gw_1372 gw_1373 gw_38 gw_1374 rfl (by simp only [hw_n, hw_i, hw_r, hw_j, hw_d]; decide) dL_chosen_120 (fun i111 x110 => ?_)
        refine G_aald (t := 6) rfl (by decide) (by decide) dL_chosen_123 (fun r112 => ?_)
        refine G_lv [2, 3, 4, 5, 1, 0] rfl ?_
        exact g_L_chosen_b124 l N z ih v0 v1 v2 v3 (i101 + ((127 : Int32) * v3)) r102 r112 r102 x110

set_option maxRecDepth 100000 in
set_option maxHeartbeats 4000000 in
theorem g_L_chosen_b36 (l : Launch) (N : Nat) (z : Nat → Nat) (v0 : Option Nat) (v1 : Option Nat) (x0 : Hp) : G l z m_L_chosen okT enR 36 [(0, va_rf v0), (1, va_rf v1)] [] x0 (f_L_chosen_b36 N z v0 v1 x0) := by
  unfold f_L_chosen_b36
  refine G_iconst (v := (1 : Int32)) dL_chosen_36 rfl ?_
  refine G_aload_n 0 dL_chosen_37 rfl rfl ?_
  refine G_iconst (v := (1 : Int32)) dL_chosen_38 rfl ?_
  refine G_callS (av := [va_rf v0, .int (1 : Int32)]) [.int (1 : Int32)] (ct_L_cell l N z v0 (1 : Int32)) yn_L_cell (Nat.le_of_ble_eq_true rfl) (by decide) gw_1114 gw_1115 gw_38 gw_1116 rfl (by simp only [hw_n, hw_i, hw_r, hw_j, hw_d]; decide) dL_chosen_39 (fun i114 x113 => ?_)
  refine G_iconst (v := (5 : Int32)) dL_chosen_42 rfl ?_
  refine G_callS (av := [.int i114, .int (5 : Int32)]) [.int (1 : Int32)] (ct_L_below l N z i114 (5 : Int32)) yn_L_below (Nat.le_of_ble_eq_true rfl) (by decide) gw_1372 gw_1373 gw_38 gw_1374 rfl (by simp only [hw_n, hw_i, hw_r, hw_j, hw_d]; decide) dL_chosen_43 (fun i116 x115 => ?_)
  refine G_iadd dL_chosen_46 ?_
  refine G_istore_n (i := 2) (l2 := [(0, va_rf v0), (1, va_rf v1)]) [0, 1] dL_chosen_47 rfl (Nat.le_of_ble_eq_true rfl) rfl (sok_a (by decide) (by decide) (sok_b (by decide) (rf_cat _) trivial)) ?_
  refine G_aload_n 2 dL_chosen_48 rfl rfl ?_
  refine G_iload_n 0 dL_chosen_49 rfl rfl ?_
  refine G_anew (t := 6) rfl (by decide) (by decide) (fun _ => rfl) gw_1376 (by decide) dL_chosen_50 (fun r117 x118 => ?_)
  refine G_putr (k := 5) K_14 (by decide) rfl rfl rfl gw_1350 rfl (Or.inl rfl) nar_arr.1 nar_arr.2 dL_chosen_53 (fun x119 => ?_)
  refine G_iconst (v := (0 : Int32)) dL_chosen_56 rfl ?_
  refine G_istore_n (i := 3) (l2 := [(2, .int ((1 : Int32) + i116)), (0, va_rf v0), (1, va_rf v1)]) [0, 1, 2] dL_chosen_57 rfl (Nat.le_of_ble_eq_true rfl) rfl (sok_b (by decide) rfl (sok_a (by decide) (by decide) (sok_a (by decide) (by decide) trivial))) ?_
  refine G_lv [2, 3, 1, 0] rfl ?_
  exact g_L_chosen_b58 l N z N v0 v1 ((1 : Int32) + i116) (0 : Int32) x119

set_option maxRecDepth 100000 in
set_option maxHeartbeats 4000000 in
theorem g_L_chosen (l : Launch) (N : Nat) (z : Nat → Nat) (v0 : Option Nat) (x0 : Hp) : G l z m_L_chosen okT enR 0 [(0, va_rf v0)] [] x0 (f_L_chosen N z v0 x0) := by
  unfold f_L_chosen
  refine G_new K_14 rfl gw_1334 gw_792 gw_54 dL_chosen_0 (fun r120 x121 => ?_)
  refine G_dup dL_chosen_3 (rf_cat _) ?_
  refine G_callN (av := []) [va_rf r120] (fun q123 => ct_X12_init l N z q123) rfl yn_X12_init (Nat.le_of_ble_eq_true rfl) (by decide) gn_1335 gw_1336 gw_54 gw_1337 rfl (by simp only [hw_n, hw_i, hw_r, hw_j, hw_d]; decide) dL_chosen_4 (fun x122 => ?_)
  refine G_astore_n (i := 1) (l2 := [(0, va_rf v0)]) [0] dL_chosen_7 rfl (Nat.le_of_ble_eq_true rfl) rfl (sok_b (by decide) (rf_cat _) trivial) ?_
  refine G_aload_n 1 dL_chosen_8 rfl rfl ?_
  refine G_iconst (v := (0 : Int32)) dL_chosen_9 rfl ?_
  refine G_callS (av := [va_rf v0, .int (0 : Int32)]) [] (ct_L_cell l N z v0 (0 : Int32)) yn_L_cell (Nat.le_of_ble_eq_true rfl) (by decide) gw_1114 gw_1115 gw_38 gw_1116 rfl (by decide) dL_chosen_10 (fun i125 x124 => ?_)
  refine G_iconst (v := (3 : Int32)) dL_chosen_13 rfl ?_
  refine G_callS (av := [.int i125, .int (3 : Int32)]) [] (ct_L_below l N z i125 (3 : Int32)) yn_L_below (Nat.le_of_ble_eq_true rfl) (by decide) gw_1372 gw_1373 gw_38 gw_1374 rfl (by decide) dL_chosen_14 (fun i127 x126 => ?_)
  refine G_if_le (tgt := 36) dL_chosen_17 (by decide) (fun _ => ?_) (fun _ => ?_)
  · refine G_lv [1, 0] rfl ?_
    exact g_L_chosen_b36 l N z v0 r120 x126
  · refine G_aload_n 0 dL_chosen_20 rfl rfl ?_
    refine G_aload_n 1 dL_chosen_21 rfl rfl ?_
    refine G_iconst (v := (0 : Int32)) dL_chosen_22 rfl ?_
    refine G_callS (av := [va_rf v0, .int (0 : Int32)]) [va_rf r120] (ct_L_cell l N z v0 (0 : Int32)) yn_L_cell (Nat.le_of_ble_eq_true rfl) (by decide) gw_1114 gw_1115 gw_38 gw_1116 rfl (by simp only [hw_n, hw_i, hw_r, hw_j, hw_d]; decide) dL_chosen_23 (fun i129 x128 => ?_)
    refine G_iconst (v := (2 : Int32)) dL_chosen_26 rfl ?_
    refine G_ishr dL_chosen_27 ?_
    refine G_bipush (v := (31 : Int32)) dL_chosen_28 (by decide) ?_
    refine G_callS (av := [.int (i129 >>> ((2 : Int32) &&& 31)), .int (31 : Int32)]) [va_rf r120] (ct_L_below l N z (i129 >>> ((2 : Int32) &&& 31)) (31 : Int32)) yn_L_below (Nat.le_of_ble_eq_true rfl) (by decide) gw_1372 gw_1373 gw_38 gw_1374 rfl (by simp only [hw_n, hw_i, hw_r, hw_j, hw_d]; decide) dL_chosen_30 (fun i131 x130 => ?_)
    refine G_puti (k := 1) K_14 (by decide) rfl rfl rfl gw_1345 rfl (Or.inl rfl) nar_int.1 nar_int.2 dL_chosen_33 (fun x132 => ?_)
    refine G_lv [1, 0] rfl ?_
    exact g_L_chosen_b36 l N z v0 r120 x132

theorem yn_L_chosen : Yn yL_chosen 1 := ⟨by decide +kernel, by decide +kernel, by decide +kernel⟩
theorem ct_L_chosen (l : Launch) (N : Nat) (z : Nat → Nat) (v0 : Option Nat) : Ct l z yL_chosen cL_chosen 7 (some (.object "BucketBrigadeLaw$Sim")) 3 enR [va_rf v0] (f_L_chosen N z v0) :=
  Ct_r (fun x => G_lv0 (by simp only [lva_n, lva_i, lva_o, lva_r, lva_j]) (g_L_chosen l N z v0 x)) (by decide +kernel) (by simp only [lgl_n, lgl_i, lgl_o, lgl_r, lgl_j]; decide)

theorem dL_act_0 : decode cL_act 0 = .ok (.iload_n 2, 1) := by decide +kernel
theorem dL_act_1 : decode cL_act 1 = .ok (.iconst 1, 1) := by decide +kernel
theorem dL_act_2 : decode cL_act 2 = .ok (.ishr, 1) := by decide +kernel
theorem dL_act_3 : decode cL_act 3 = .ok (.aload_n 1, 1) := by decide +kernel
theorem dL_act_4 : decode cL_act 4 = .ok (.getfield 51, 3) := by decide +kernel
theorem dL_act_7 : decode cL_act 7 = .ok (.arraylength, 1) := by decide +kernel
theorem dL_act_8 : decode cL_act 8 = .ok (.invokestatic 41, 3) := by decide +kernel
theorem dL_act_11 : decode cL_act 11 = .ok (.istore_n 3, 1) := by decide +kernel
theorem dL_act_12 : decode cL_act 12 = .ok (.aload_n 1, 1) := by decide +kernel
theorem dL_act_13 : decode cL_act 13 = .ok (.getfield 51, 3) := by decide +kernel
theorem dL_act_16 : decode cL_act 16 = .ok (.iload_n 3, 1) := by decide +kernel
theorem dL_act_17 : decode cL_act 17 = .ok (.aaload, 1) := by decide +kernel
theorem dL_act_18 : decode cL_act 18 = .ok (.astore 4, 2) := by decide +kernel
theorem dL_act_20 : decode cL_act 20 = .ok (.iload_n 2, 1) := by decide +kernel
theorem dL_act_21 : decode cL_act 21 = .ok (.bipush 7, 2) := by decide +kernel
theorem dL_act_23 : decode cL_act 23 = .ok (.ishr, 1) := by decide +kernel
theorem dL_act_24 : decode cL_act 24 = .ok (.bipush 9, 2) := by decide +kernel
theorem dL_act_26 : decode cL_act 26 = .ok (.invokestatic 41, 3) := by decide +kernel
theorem dL_act_29 : decode cL_act 29 = .ok (.tableswitch 282 0 5 #[39, 39, 87, 153, 194, 235], 39) := by decide +kernel
theorem dL_act_68 : decode cL_act 68 = .ok (.iconst 1, 1) := by decide +kernel
theorem dL_act_69 : decode cL_act 69 = .ok (.iload_n 2, 1) := by decide +kernel
theorem dL_act_70 : decode cL_act 70 = .ok (.iconst 2, 1) := by decide +kernel
theorem dL_act_71 : decode cL_act 71 = .ok (.ishr, 1) := by decide +kernel
theorem dL_act_72 : decode cL_act 72 = .ok (.iload_n 2, 1) := by decide +kernel
theorem dL_act_73 : decode cL_act 73 = .ok (.iconst 2, 1) := by decide +kernel
theorem dL_act_74 : decode cL_act 74 = .ok (.invokestatic 41, 3) := by decide +kernel
theorem dL_act_77 : decode cL_act 77 = .ok (.ifCond .ne 8, 3) := by decide +kernel
theorem dL_act_80 : decode cL_act 80 = .ok (.bipush 30, 2) := by decide +kernel
theorem dL_act_82 : decode cL_act 82 = .ok (.goto 4, 3) := by decide +kernel
theorem dL_act_85 : decode cL_act 85 = .ok (.iconst 5, 1) := by decide +kernel
theorem dL_act_86 : decode cL_act 86 = .ok (.invokestatic 41, 3) := by decide +kernel
theorem dL_act_89 : decode cL_act 89 = .ok (.iadd, 1) := by decide +kernel
theorem dL_act_90 : decode cL_act 90 = .ok (.istore 5, 2) := by decide +kernel
theorem dL_act_92 : decode cL_act 92 = .ok (.aload_n 0, 1) := by decide +kernel
theorem dL_act_93 : decode cL_act 93 = .ok (.iload_n 3, 1) := by decide +kernel
theorem dL_act_94 : decode cL_act 94 = .ok (.iload 5, 2) := by decide +kernel
theorem dL_act_96 : decode cL_act 96 = .ok (.invokevirtual 94, 3) := by decide +kernel
theorem dL_act_99 : decode cL_act 99 = .ok (.aload_n 1, 1) := by decide +kernel
theorem dL_act_100 : decode cL_act 100 = .ok (.aload 4, 2) := by decide +kernel
theorem dL_act_102 : decode cL_act 102 = .ok (.iload 5, 2) := by decide +kernel
theorem dL_act_104 : decode cL_act 104 = .ok (.invokevirtual 97, 3) := by decide +kernel
theorem dL_act_107 : decode cL_act 107 = .ok (.if_icmp .ne 7, 3) := by decide +kernel
theorem dL_act_110 : decode cL_act 110 = .ok (.iconst 1, 1) := by decide +kernel
theorem dL_act_111 : decode cL_act 111 = .ok (.goto 4, 3) := by decide +kernel
theorem dL_act_114 : decode cL_act 114 = .ok (.iconst 0, 1) := by decide +kernel
theorem dL_act_115 : decode cL_act 115 = .ok (.ireturn, 1) := by decide +kernel
theorem dL_act_116 : decode cL_act 116 = .ok (.iconst 1, 1) := by decide +kernel
theorem dL_act_117 : decode cL_act 117 = .ok (.iload_n 2, 1) := by decide +kernel
theorem dL_act_118 : decode cL_act 118 = .ok (.iconst 2, 1) := by decide +kernel
theorem dL_act_119 : decode cL_act 119 = .ok (.ishr, 1) := by decide +kernel
theorem dL_act_120 : decode cL_act 120 = .ok (.iload_n 2, 1) := by decide +kernel
theorem dL_act_121 : decode cL_act 121 = .ok (.iconst 2, 1) := by decide +kernel
theorem dL_act_122 : decode cL_act 122 = .ok (.invokestatic 41, 3) := by decide +kernel
theorem dL_act_125 : decode cL_act 125 = .ok (.ifCond .ne 8, 3) := by decide +kernel
theorem dL_act_128 : decode cL_act 128 = .ok (.bipush 99, 2) := by decide +kernel
theorem dL_act_130 : decode cL_act 130 = .ok (.goto 4, 3) := by decide +kernel
theorem dL_act_133 : decode cL_act 133 = .ok (.iconst 5, 1) := by decide +kernel
theorem dL_act_134 : decode cL_act 134 = .ok (.invokestatic 41, 3) := by decide +kernel
theorem dL_act_137 : decode cL_act 137 = .ok (.iadd, 1) := by decide +kernel
theorem dL_act_138 : decode cL_act 138 = .ok (.istore 6, 2) := by decide +kernel
theorem dL_act_140 : decode cL_act 140 = .ok (.aload 4, 2) := by decide +kernel
theorem dL_act_142 : decode cL_act 142 = .ok (.aload 4, 2) := by decide +kernel
theorem dL_act_144 : decode cL_act 144 = .ok (.getfield 69, 3) := by decide +kernel
theorem dL_act_147 : decode cL_act 147 = .ok (.aload 4, 2) := by decide +kernel
theorem dL_act_149 : decode cL_act 149 = .ok (.getfield 82, 3) := by decide +kernel
theorem dL_act_152 : decode cL_act 152 = .ok (.iload 6, 2) := by decide +kernel
theorem dL_act_154 : decode cL_act 154 = .ok (.iadd, 1) := by decide +kernel
theorem dL_act_155 : decode cL_act 155 = .ok (.invokestatic 100, 3) := by decide +kernel
theorem dL_act_158 : decode cL_act 158 = .ok (.putfield 82, 3) := by decide +kernel
theorem dL_act_161 : decode cL_act 161 = .ok (.aload_n 0, 1) := by decide +kernel
theorem dL_act_162 : decode cL_act 162 = .ok (.iload_n 3, 1) := by decide +kernel
theorem dL_act_163 : decode cL_act 163 = .ok (.iload 6, 2) := by decide +kernel
theorem dL_act_165 : decode cL_act 165 = .ok (.invokevirtual 105, 3) := by decide +kernel
theorem dL_act_168 : decode cL_act 168 = .ok (.aload 4, 2) := by decide +kernel
theorem dL_act_170 : decode cL_act 170 = .ok (.getfield 82, 3) := by decide +kernel
theorem dL_act_173 : decode cL_act 173 = .ok (.if_icmp .ne 7, 3) := by decide +kernel
theorem dL_act_176 : decode cL_act 176 = .ok (.iconst 1, 1) := by decide +kernel
theorem dL_act_177 : decode cL_act 177 = .ok (.goto 4, 3) := by decide +kernel
theorem dL_act_180 : decode cL_act 180 = .ok (.iconst 0, 1) := by decide +kernel
theorem dL_act_181 : decode cL_act 181 = .ok (.ireturn, 1) := by decide +kernel
theorem dL_act_182 : decode cL_act 182 = .ok (.aload 4, 2) := by decide +kernel
theorem dL_act_184 : decode cL_act 184 = .ok (.getfield 63, 3) := by decide +kernel
theorem dL_act_187 : decode cL_act 187 = .ok (.istore 7, 2) := by decide +kernel
theorem dL_act_189 : decode cL_act 189 = .ok (.aload 4, 2) := by decide +kernel
theorem dL_act_191 : decode cL_act 191 = .ok (.iload_n 2, 1) := by decide +kernel
theorem dL_act_192 : decode cL_act 192 = .ok (.iconst 2, 1) := by decide +kernel
theorem dL_act_193 : decode cL_act 193 = .ok (.ishr, 1) := by decide +kernel
theorem dL_act_194 : decode cL_act 194 = .ok (.bipush 31, 2) := by decide +kernel
theorem dL_act_196 : decode cL_act 196 = .ok (.invokestatic 41, 3) := by decide +kernel
theorem dL_act_199 : decode cL_act 199 = .ok (.putfield 63, 3) := by decide +kernel
theorem dL_act_202 : decode cL_act 202 = .ok (.aload_n 0, 1) := by decide +kernel
theorem dL_act_203 : decode cL_act 203 = .ok (.iload_n 3, 1) := by decide +kernel
theorem dL_act_204 : decode cL_act 204 = .ok (.aload 4, 2) := by decide +kernel
theorem dL_act_206 : decode cL_act 206 = .ok (.getfield 63, 3) := by decide +kernel
theorem dL_act_209 : decode cL_act 209 = .ok (.invokevirtual 108, 3) := by decide +kernel
theorem dL_act_212 : decode cL_act 212 = .ok (.iload 7, 2) := by decide +kernel
theorem dL_act_214 : decode cL_act 214 = .ok (.if_icmp .ne 7, 3) := by decide +kernel
theorem dL_act_217 : decode cL_act 217 = .ok (.iconst 1, 1) := by decide +kernel
theorem dL_act_218 : decode cL_act 218 = .ok (.goto 4, 3) := by decide +kernel
theorem dL_act_221 : decode cL_act 221 = .ok (.iconst 0, 1) := by decide +kernel
theorem dL_act_222 : decode cL_act 222 = .ok (.ireturn, 1) := by decide +kernel
theorem dL_act_223 : decode cL_act 223 = .ok (.aload 4, 2) := by decide +kernel
theorem dL_act_225 : decode cL_act 225 = .ok (.getfield 66, 3) := by decide +kernel
theorem dL_act_228 : decode cL_act 228 = .ok (.istore 8, 2) := by decide +kernel
theorem dL_act_230 : decode cL_act 230 = .ok (.aload 4, 2) := by decide +kernel
theorem dL_act_232 : decode cL_act 232 = .ok (.iload_n 2, 1) := by decide +kernel
theorem dL_act_233 : decode cL_act 233 = .ok (.iconst 2, 1) := by decide +kernel
theorem dL_act_234 : decode cL_act 234 = .ok (.ishr, 1) := by decide +kernel
theorem dL_act_235 : decode cL_act 235 = .ok (.bipush 31, 2) := by decide +kernel
theorem dL_act_237 : decode cL_act 237 = .ok (.invokestatic 41, 3) := by decide +kernel
theorem dL_act_240 : decode cL_act 240 = .ok (.putfield 66, 3) := by decide +kernel
theorem dL_act_243 : decode cL_act 243 = .ok (.aload_n 0, 1) := by decide +kernel
theorem dL_act_244 : decode cL_act 244 = .ok (.iload_n 3, 1) := by decide +kernel
theorem dL_act_245 : decode cL_act 245 = .ok (.aload 4, 2) := by decide +kernel
theorem dL_act_247 : decode cL_act 247 = .ok (.getfield 66, 3) := by decide +kernel
theorem dL_act_250 : decode cL_act 250 = .ok (.invokevirtual 111, 3) := by decide +kernel
theorem dL_act_253 : decode cL_act 253 = .ok (.iload 8, 2) := by decide +kernel
theorem dL_act_255 : decode cL_act 255 = .ok (.if_icmp .ne 7, 3) := by decide +kernel
theorem dL_act_258 : decode cL_act 258 = .ok (.iconst 1, 1) := by decide +kernel
theorem dL_act_259 : decode cL_act 259 = .ok (.goto 4, 3) := by decide +kernel
theorem dL_act_262 : decode cL_act 262 = .ok (.iconst 0, 1) := by decide +kernel
theorem dL_act_263 : decode cL_act 263 = .ok (.ireturn, 1) := by decide +kernel
theorem dL_act_264 : decode cL_act 264 = .ok (.iload_n 2, 1) := by decide +kernel
theorem dL_act_265 : decode cL_act 265 = .ok (.iconst 3, 1) := by decide +kernel
theorem dL_act_266 : decode cL_act 266 = .ok (.invokestatic 41, 3) := by decide +kernel
theorem dL_act_269 : decode cL_act 269 = .ok (.ifCond .le 5, 3) := by decide +kernel
theorem dL_act_272 : decode cL_act 272 = .ok (.iconst 1, 1) := by decide +kernel
theorem dL_act_273 : decode cL_act 273 = .ok (.ireturn, 1) := by decide +kernel
theorem dL_act_274 : decode cL_act 274 = .ok (.aload_n 1, 1) := by decide +kernel
theorem dL_act_275 : decode cL_act 275 = .ok (.getfield 45, 3) := by decide +kernel
theorem dL_act_278 : decode cL_act 278 = .ok (.istore 9, 2) := by decide +kernel
theorem dL_act_280 : decode cL_act 280 = .ok (.aload_n 1, 1) := by decide +kernel
theorem dL_act_281 : decode cL_act 281 = .ok (.iload_n 2, 1) := by decide +kernel
theorem dL_act_282 : decode cL_act 282 = .ok (.iconst 2, 1) := by decide +kernel
theorem dL_act_283 : decode cL_act 283 = .ok (.ishr, 1) := by decide +kernel
theorem dL_act_284 : decode cL_act 284 = .ok (.bipush 31, 2) := by decide +kernel
theorem dL_act_286 : decode cL_act 286 = .ok (.invokestatic 41, 3) := by decide +kernel
theorem dL_act_289 : decode cL_act 289 = .ok (.putfield 45, 3) := by decide +kernel
theorem dL_act_292 : decode cL_act 292 = .ok (.aload_n 0, 1) := by decide +kernel
theorem dL_act_293 : decode cL_act 293 = .ok (.aload_n 1, 1) := by decide +kernel
theorem dL_act_294 : decode cL_act 294 = .ok (.getfield 45, 3) := by decide +kernel
theorem dL_act_297 : decode cL_act 297 = .ok (.invokevirtual 114, 3) := by decide +kernel
theorem dL_act_300 : decode cL_act 300 = .ok (.iload 9, 2) := by decide +kernel
theorem dL_act_302 : decode cL_act 302 = .ok (.if_icmp .ne 7, 3) := by decide +kernel
theorem dL_act_305 : decode cL_act 305 = .ok (.iconst 1, 1) := by decide +kernel
theorem dL_act_306 : decode cL_act 306 = .ok (.goto 4, 3) := by decide +kernel
theorem dL_act_309 : decode cL_act 309 = .ok (.iconst 0, 1) := by decide +kernel
theorem dL_act_310 : decode cL_act 310 = .ok (.ireturn, 1) := by decide +kernel
theorem dL_act_311 : decode cL_act 311 = .ok (.iconst 1, 1) := by decide +kernel
theorem dL_act_312 : decode cL_act 312 = .ok (.iload_n 2, 1) := by decide +kernel
theorem dL_act_313 : decode cL_act 313 = .ok (.iconst 2, 1) := by decide +kernel
theorem dL_act_314 : decode cL_act 314 = .ok (.ishr, 1) := by decide +kernel
theorem dL_act_315 : decode cL_act 315 = .ok (.bipush 6, 2) := by decide +kernel
theorem dL_act_317 : decode cL_act 317 = .ok (.invokestatic 41, 3) := by decide +kernel
theorem dL_act_320 : decode cL_act 320 = .ok (.iadd, 1) := by decide +kernel
theorem dL_act_321 : decode cL_act 321 = .ok (.istore 10, 2) := by decide +kernel
theorem dL_act_323 : decode cL_act 323 = .ok (.aload_n 1, 1) := by decide +kernel
theorem dL_act_324 : decode cL_act 324 = .ok (.bipush 7, 2) := by decide +kernel
theorem dL_act_326 : decode cL_act 326 = .ok (.invokevirtual 117, 3) := by decide +kernel
theorem dL_act_329 : decode cL_act 329 = .ok (.istore 11, 2) := by decide +kernel
theorem dL_act_331 : decode cL_act 331 = .ok (.aload_n 1, 1) := by decide +kernel
theorem dL_act_332 : decode cL_act 332 = .ok (.iload 10, 2) := by decide +kernel
theorem dL_act_334 : decode cL_act 334 = .ok (.invokevirtual 120, 3) := by decide +kernel
theorem dL_act_337 : decode cL_act 337 = .ok (.pop, 1) := by decide +kernel
theorem dL_act_338 : decode cL_act 338 = .ok (.aload_n 0, 1) := by decide +kernel
theorem dL_act_339 : decode cL_act 339 = .ok (.iload 10, 2) := by decide +kernel
theorem dL_act_341 : decode cL_act 341 = .ok (.invokevirtual 124, 3) := by decide +kernel
theorem dL_act_344 : decode cL_act 344 = .ok (.aload_n 1, 1) := by decide +kernel
theorem dL_act_345 : decode cL_act 345 = .ok (.bipush 7, 2) := by decide +kernel
theorem dL_act_347 : decode cL_act 347 = .ok (.invokevirtual 117, 3) := by decide +kernel
theorem dL_act_350 : decode cL_act 350 = .ok (.iload 11, 2) := by decide +kernel
theorem dL_act_352 : decode cL_act 352 = .ok (.isub, 1) := by decide +kernel
theorem dL_act_353 : decode cL_act 353 = .ok (.if_icmp .ne 7, 3) := by decide +kernel
theorem dL_act_356 : decode cL_act 356 = .ok (.iconst 1, 1) := by decide +kernel
theorem dL_act_357 : decode cL_act 357 = .ok (.goto 4, 3) := by decide +kernel
theorem dL_act_360 : decode cL_act 360 = .ok (.iconst 0, 1) := by decide +kernel
theorem dL_act_361 : decode cL_act 361 = .ok (.ireturn, 1) := by decide +kernel
abbrev m_L_act : Mt := (cL_act, RL, "act", 12, .ireturn, 8)
def f_L_act_b86 (N : Nat) (z : Nat → Nat) (v0 : Option Nat) (v1 : Option Nat) (v3 : Int32) (v4 : Option Nat) (s0 : Int32) (s1 : Int32) (s2 : Int32) (x0 : Hp) : Option (Int32 × Hp) :=
  bnd (f_L_below N z s1 s0 x0) fun i2 x1 =>
  obj v0 x1 13 fun q5 => bnd (f_X10_bring N z q5 v3 (s2 + i2) x1) fun i4 x3 =>
  obj v1 x3 15 fun q8 => bnd (f_X12_bring N z q8 v4 (s2 + i2) x3) fun i7 x6 =>
  if i4 = i7 then (some ((1 : Int32), x6)) else (some ((0 : Int32), x6))
def f_L_act_b134 (N : Nat) (z : Nat → Nat) (v0 : Option Nat) (v3 : Int32) (v4 : Option Nat) (s0 : Int32) (s1 : Int32) (s2 : Int32) (x0 : Hp) : Option (Int32 × Hp) :=
  bnd (f_L_below N z s1 s0 x0) fun i10 x9 =>
  geti v4 x9 14 264 fun i11 =>
  geti v4 x9 14 266 fun i12 =>
  puti v4 x9 14 266 (if (i12 + (s2 + i10)) < i11 then (i12 + (s2 + i10)) else i11) fun x13 =>
  obj v0 x13 13 fun q16 => bnd (f_X10_give N z q16 v3 (s2 + i10) x13) fun i15 x14 =>
  geti v4 x14 14 266 fun i17 =>
  if i15 = i17 then (some ((1 : Int32), x14)) else (some ((0 : Int32), x14))
def f_L_act (N : Nat) (z : Nat → Nat) (v0 : Option Nat) (v1 : Option Nat) (v2 : Int32) (x0 : Hp) : Option (Int32 × Hp) :=
  getr v1 x0 15 285 fun r18 =>
  alen r18 x0 106 fun i19 =>
  bnd (f_L_below N z (v2 >>> ((1 : Int32) &&& 31)) i19 x0) fun i21 x20 =>
  getr v1 x20 15 285 fun r22 =>
  aldr r22 x20 106 i21 fun r23 =>
  bnd (f_L_below N z (v2 >>> ((7 : Int32) &&& 31)) (9 : Int32) x20) fun i25 x24 =>
  if i25 = (0 : Int32) then (bnd (f_L_below N z v2 (2 : Int32) x24) fun i28 x27 =>
  if i28 = 0 then (f_L_act_b86 N z v0 v1 i21 r23 (30 : Int32) (v2 >>> ((2 : Int32) &&& 31)) (1 : Int32) x27) else (f_L_act_b86 N z v0 v1 i21 r23 (5 : Int32) (v2 >>> ((2 : Int32) &&& 31)) (1 : Int32) x27)) else (if i25 = (1 : Int32) then (bnd (f_L_below N z v2 (2 : Int32) x24) fun i31 x30 =>
  if i31 = 0 then (f_L_act_b86 N z v0 v1 i21 r23 (30 : Int32) (v2 >>> ((2 : Int32) &&& 31)) (1 : Int32) x30) else (f_L_act_b86 N z v0 v1 i21 r23 (5 : Int32) (v2 >>> ((2 : Int32) &&& 31)) (1 : Int32) x30)) else (if i25 = (2 : Int32) then (bnd (f_L_below N z v2 (2 : Int32) x24) fun i34 x33 =>
  if i34 = 0 then (f_L_act_b134 N z v0 i21 r23 (99 : Int32) (v2 >>> ((2 : Int32) &&& 31)) (1 : Int32) x33) else (f_L_act_b134 N z v0 i21 r23 (5 : Int32) (v2 >>> ((2 : Int32) &&& 31)) (1 : Int32) x33)) else (if i25 = (3 : Int32) then (geti r23 x24 14 262 fun i36 =>
  bnd (f_L_below N z (v2 >>> ((2 : Int32) &&& 31)) (31 : Int32) x24) fun i38 x37 =>
  puti r23 x37 14 262 i38 fun x39 =>
  geti r23 x39 14 262 fun i40 =>
  obj v0 x39 13 fun q43 => bnd (f_X10_setRate N z q43 i21 i40 x39) fun i42 x41 =>
  if i42 = i36 then (some ((1 : Int32), x41)) else (some ((0 : Int32), x41))) else (if i25 = (4 : Int32) then (geti r23 x24 14 263 fun i45 =>
  bnd (f_L_below N z (v2 >>> ((2 : Int32) &&& 31)) (31 : Int32) x24) fun i47 x46 =>
  puti r23 x46 14 263 i47 fun x48 =>
  geti r23 x48 14 263 fun i49 =>
  obj v0 x48 13 fun q52 => bnd (f_X10_setMost N z q52 i21 i49 x48) fun i51 x50 =>
  if i51 = i45 then (some ((1 : Int32), x50)) else (some ((0 : Int32), x50))) else (if i25 = (5 : Int32) then (bnd (f_L_below N z v2 (3 : Int32) x24) fun i55 x54 =>
  if i55 ≤ 0 then (geti v1 x54 15 281 fun i56 =>
  bnd (f_L_below N z (v2 >>> ((2 : Int32) &&& 31)) (31 : Int32) x54) fun i58 x57 =>
  puti v1 x57 15 281 i58 fun x59 =>
  geti v1 x59 15 281 fun i60 =>
  obj v0 x59 13 fun q63 => bnd (f_X10_setWell N z q63 i60 x59) fun i62 x61 =>
  if i62 = i56 then (some ((1 : Int32), x61)) else (some ((0 : Int32), x61))) else (some ((1 : Int32), x54))) else (bnd (f_L_below N z (v2 >>> ((2 : Int32) &&& 31)) (6 : Int32) x24) fun i65 x64 =>
  obj v1 x64 15 fun q68 => bnd (f_X12_counted N z q68 (7 : Int32) x64) fun i67 x66 =>
  obj v1 x66 15 fun q71 => bnd (f_X12_behind N z q71 ((1 : Int32) + i65) x66) fun r70 x69 =>
  obj v0 x69 13 fun q74 => bnd (f_X10_pass N z q74 ((1 : Int32) + i65) x69) fun i73 x72 =>
  obj v1 x72 15 fun q77 => bnd (f_X12_counted N z q77 (7 : Int32) x72) fun i76 x75 =>
  if i73 = (i76 - i67) then (some ((1 : Int32), x75)) else (some ((0 : Int32), x75))))))))
set_option maxRecDepth 100000 in
set_option maxHeartbeats 4000000 in
theorem g_L_act_b86 (l : Launch) (N : Nat) (z : Nat → Nat) (v0 : Option Nat) (v1 : Option Nat) (v3 : Int32) (v4 : Option Nat) (s0 : Int32) (s1 : Int32) (s2 : Int32) (x0 : Hp) : G l z m_L_act okZ enI 86 [(0, va_rf v0), (1, va_rf v1), (3, .int v3), (4, va_rf v4)] [.int s0, .int s1, .int s2] x0 (f_L_act_b86 N z v0 v1 v3 v4 s0 s1 s2 x0) := by
  unfold f_L_act_b86
  refine G_callS (av := [.int s1, .int s0]) [.int s2] (ct_L_below l N z s1 s0) yn_L_below (Nat.le_of_ble_eq_true rfl) (by decide) gw_1372 gw_1373 gw_38 gw_1374 rfl (by simp only [hw_n, hw_i, hw_r, hw_j, hw_d]; decide) dL_act_86 (fun i2 x1 => ?_)
  refine G_iadd dL_act_89 ?_
  refine G_istore (i := 5) (l2 := [(0, va_rf v0), (1, va_rf v1), (3, .int v3), (4, va_rf v4)]) [0, 1, 2, 3] dL_act_90 (Nat.le_of_ble_eq_true rfl) rfl (sok_a (by decide) (by decide) (sok_a (by decide) (by decide) (sok_a (by decide) (by decide) (sok_b (by decide) (rf_cat _) trivial)))) ?_
  refine G_aload_n 1 dL_act_92 rfl rfl ?_
  refine G_iload_n 3 dL_act_93 rfl rfl ?_
  refine G_iload 0 dL_act_94 rfl ?_
  refine G_callV (av := [.int v3, .int (s2 + i2)]) [] (fun q5 => ct_X10_bring l N z q5 v3 (s2 + i2)) K_12 rfl yn_X10_bring (Nat.le_of_ble_eq_true rfl) (by decide) gw_1462 gw_1463 gw_1464 gw_39 gw_1465 rfl (by decide) dL_act_96 (fun i4 x3 => ?_)
  refine G_aload_n 2 dL_act_99 rfl rfl ?_
  refine G_aload 4 dL_act_100 rfl ?_
  refine G_iload 0 dL_act_102 rfl ?_
  refine G_callV (av := [va_rf v4, .int (s2 + i2)]) [.int i4] (fun q8 => ct_X12_bring l N z q8 v4 (s2 + i2)) K_14 rfl yn_X12_bring (Nat.le_of_ble_eq_true rfl) (by decide) gw_1468 gw_800 gw_801 gw_54 gw_802 rfl (by simp only [hw_n, hw_i, hw_r, hw_j, hw_d]; decide) dL_act_104 (fun i7 x6 => ?_)
  refine G_icmp_ne (tgt := 114) dL_act_107 (by decide) (fun _ => ?_) (fun _ => ?_)
  · refine G_iconst (v := (1 : Int32)) dL_act_110 rfl ?_
    refine G_goto (tgt := 115) dL_act_111 (by decide) ?_
    exact G_ret (Or.inr rfl) dL_act_115 rfl
  · refine G_iconst (v := (0 : Int32)) dL_act_114 rfl ?_
    exact G_ret (Or.inl rfl) dL_act_115 rfl

set_option maxRecDepth 100000 in
set_option maxHeartbeats 4000000 in
theorem g_L_act_b134 (l : Launch) (N : Nat) (z : Nat → Nat) (v0 : Option Nat) (v3 : Int32) (v4 : Option Nat) (s0 : Int32) (s1 : Int32) (s2 : Int32) (x0 : Hp) : G l z m_L_act okZ enI 134 [(0, va_rf v0), (3, .int v3), (4, va_rf v4)] [.int s0, .int s1, .int s2] x0 (f_L_act_b134 N z v0 v3 v4 s0 s1 s2 x0) := by
  unfold f_L_act_b134
  refine G_callS (av := [.int s1, .int s0]) [.int s2] (ct_L_below l N z s1 s0) yn_L_below (Nat.le_of_ble_eq_true rfl) (by decide) gw_1372 gw_1373 gw_38 gw_1374 rfl (by simp only [hw_n, hw_i, hw_r, hw_j, hw_d]; decide) dL_act_134 (fun i10 x9 => ?_)
  refine G_iadd dL_act_137 ?_
  refine G_istore (i := 6) (l2 := [(0, va_rf v0), (3, .int v3), (4, va_rf v4)]) [0, 1, 2] dL_act_138 (Nat.le_of_ble_eq_true rfl) rfl (sok_a (by decide) (by decide) (sok_a (by decide) (by decide) (sok_a (by decide) (by decide) trivial))) ?_
  refine G_aload 3 dL_act_140 rfl ?_
  refine G_aload 3 dL_act_142 rfl ?_
  refine G_geti (k := 4) K_13 (by decide) rfl rfl rfl gw_1392 rfl dL_act_144 (fun i11 => ?_)
  refine G_aload 3 dL_act_147 rfl ?_
  refine G_geti (k := 6) K_13 (by decide) rfl rfl rfl gw_1399 rfl dL_act_149 (fun i12 => ?_)
  refine G_iload 0 dL_act_152 rfl ?_
  refine G_iadd dL_act_154 ?_
  refine G_mmin (st := [va_rf v4]) gw_1469 gw_670 gw_59 gw_671 (by decide) (by simp only [hw_n, hw_i, hw_r, hw_j, hw_d]; decide) dL_act_155 ?_
  refine G_puti (k := 6) K_13 (by decide) rfl rfl rfl gw_1399 rfl (Or.inl rfl) nar_int.1 nar_int.2 dL_act_158 (fun x13 => ?_)
  refine G_aload_n 1 dL_act_161 rfl rfl ?_
  refine G_iload_n 2 dL_act_162 rfl rfl ?_
  refine G_iload 0 dL_act_163 rfl ?_
  refine G_callV (av := [.int v3, .int (s2 + i10)]) [] (fun q16 => ct_X10_give l N z q16 v3 (s2 + i10)) K_12 rfl yn_X10_give (Nat.le_of_ble_eq_true rfl) (by decide) gw_1470 gw_1471 gw_1472 gw_39 gw_1473 rfl (by decide) dL_act_165 (fun i15 x14 => ?_)
  refine G_aload 3 dL_act_168 rfl ?_
  refine G_geti (k := 6) K_13 (by decide) rfl rfl rfl gw_1399 rfl dL_act_170 (fun i17 => ?_)
  refine G_icmp_ne (tgt := 180) dL_act_173 (by decide) (fun _ => ?_) (fun _ => ?_)
  · refine G_iconst (v := (1 : Int32)) dL_act_176 rfl ?_
    refine G_goto (tgt := 181) dL_act_177 (by decide) ?_
    exact G_ret (Or.inr rfl) dL_act_181 rfl
  · refine G_iconst (v := (0 : Int32)) dL_act_180 rfl ?_
    exact G_ret (Or.inl rfl) dL_act_181 rfl

set_option maxRecDepth 100000 in
set_option maxHeartbeats 4000000 in
theorem g_L_act (l : Launch) (N : Nat) (z : Nat → Nat) (v0 : Option Nat) (v1 : Option Nat) (v2 : Int32) (x0 : Hp) : G l z m_L_act okZ enI 0 [(0, va_rf v0), (1, va_rf v1), (2, .int v2)] [] x0 (f_L_act N z v0 v1 v2 x0) := by
  unfold f_L_act
  refine G_iload_n 2 dL_act_0 rfl rfl ?_
  refine G_iconst (v := (1 : Int32)) dL_act_1 rfl ?_
  refine G_ishr dL_act_2 ?_
  refine G_aload_n 1 dL_act_3 rfl rfl ?_
  refine G_getr (k := 5) K_14 (by decide) rfl rfl rfl gw_1350 rfl dL_act_4 (fun r18 => ?_)
  refine G_alen (t := 6) rfl (by decide) dL_act_7 (fun i19 => ?_)
  refine G_callS (av := [.int (v2 >>> ((1 : Int32) &&& 31)), .int i19]) [] (ct_L_below l N z (v2 >>> ((1 : Int32) &&& 31)) i19) yn_L_below (Nat.le_of_ble_eq_true rfl) (by decide) gw_1372 gw_1373 gw_38 gw_1374 rfl (by decide) dL_act_8 (fun i21 x20 => ?_)
  refine G_istore_n (i := 3) (l2 := [(0, va_rf v0), (1, va_rf v1), (2, .int v2)]) [0, 1, 2] dL_act_11 rfl (Nat.le_of_ble_eq_true rfl) rfl (sok_a (by decide) (by decide) (sok_a (by decide) (by decide) (sok_b (by decide) rfl trivial))) ?_
  refine G_aload_n 2 dL_act_12 rfl rfl ?_
  refine G_getr (k := 5) K_14 (by decide) rfl rfl rfl gw_1350 rfl dL_act_13 (fun r22 => ?_)
  refine G_iload_n 0 dL_act_16 rfl rfl ?_
  refine G_aald (t := 6) rfl (by decide) (by decide) dL_act_17 (fun r23 => ?_)
  refine G_astore (i := 4) (l2 := [(3, .int i21), (0, va_rf v0), (1, va_rf v1), (2, .int v2)]) [0, 1, 2, 3] dL_act_18 (Nat.le_of_ble_eq_true rfl) rfl (sok_b (by decide) rfl (sok_a (by decide) (by decide) (sok_a (by decide) (by decide) (sok_a (by decide) (by decide) trivial)))) ?_
  refine G_iload_n 4 dL_act_20 rfl rfl ?_
  refine G_bipush (v := (7 : Int32)) dL_act_21 (by decide) ?_
  refine G_ishr dL_act_23 ?_
  refine G_bipush (v := (9 : Int32)) dL_act_24 (by decide) ?_
  refine G_callS (av := [.int (v2 >>> ((7 : Int32) &&& 31)), .int (9 : Int32)]) [] (ct_L_below l N z (v2 >>> ((7 : Int32) &&& 31)) (9 : Int32)) yn_L_below (Nat.le_of_ble_eq_true rfl) (by decide) gw_1372 gw_1373 gw_38 gw_1374 rfl (by decide) dL_act_26 (fun i25 x24 => ?_)
  refine G_if (fun hs26 => ?_) (fun hs26 => ?_)
  · refine G_tableIn (tgt := 68) dL_act_29 (by rw [hs26]; decide) (by rw [hs26]; decide) (by rw [hs26]; rfl) (by decide) ?_
    refine G_iconst (v := (1 : Int32)) dL_act_68 rfl ?_
    refine G_iload_n 4 dL_act_69 rfl rfl ?_
    refine G_iconst (v := (2 : Int32)) dL_act_70 rfl ?_
    refine G_ishr dL_act_71 ?_
    refine G_iload_n 4 dL_act_72 rfl rfl ?_
    refine G_iconst (v := (2 : Int32)) dL_act_73 rfl ?_
    refine G_callS (av := [.int v2, .int (2 : Int32)]) [.int (v2 >>> ((2 : Int32) &&& 31)), .int (1 : Int32)] (ct_L_below l N z v2 (2 : Int32)) yn_L_below (Nat.le_of_ble_eq_true rfl) (by decide) gw_1372 gw_1373 gw_38 gw_1374 rfl (by simp only [hw_n, hw_i, hw_r, hw_j, hw_d]; decide) dL_act_74 (fun i28 x27 => ?_)
    refine G_if_ne (tgt := 85) dL_act_77 (by decide) (fun _ => ?_) (fun _ => ?_)
    · refine G_bipush (v := (30 : Int32)) dL_act_80 (by decide) ?_
      refine G_goto (tgt := 86) dL_act_82 (by decide) ?_
      refine G_lv [2, 3, 1, 0] rfl ?_
      exact g_L_act_b86 l N z v0 v1 i21 r23 (30 : Int32) (v2 >>> ((2 : Int32) &&& 31)) (1 : Int32) x27
    · refine G_iconst (v := (5 : Int32)) dL_act_85 rfl ?_
      refine G_lv [2, 3, 1, 0] rfl ?_
      exact g_L_act_b86 l N z v0 v1 i21 r23 (5 : Int32) (v2 >>> ((2 : Int32) &&& 31)) (1 : Int32) x27
  refine G_if (fun hs29 => ?_) (fun hs29 => ?_)
  · refine G_tableIn (tgt := 68) dL_act_29 (by rw [hs29]; decide) (by rw [hs29]; decide) (by rw [hs29]; rfl) (by decide) ?_
    refine G_iconst (v := (1 : Int32)) dL_act_68 rfl ?_
    refine G_iload_n 4 dL_act_69 rfl rfl ?_
    refine G_iconst (v := (2 : Int32)) dL_act_70 rfl ?_
    refine G_ishr dL_act_71 ?_
    refine G_iload_n 4 dL_act_72 rfl rfl ?_
    refine G_iconst (v := (2 : Int32)) dL_act_73 rfl ?_
    refine G_callS (av := [.int v2, .int (2 : Int32)]) [.int (v2 >>> ((2 : Int32) &&& 31)), .int (1 : Int32)] (ct_L_below l N z v2 (2 : Int32)) yn_L_below (Nat.le_of_ble_eq_true rfl) (by decide) gw_1372 gw_1373 gw_38 gw_1374 rfl (by simp only [hw_n, hw_i, hw_r, hw_j, hw_d]; decide) dL_act_74 (fun i31 x30 => ?_)
    refine G_if_ne (tgt := 85) dL_act_77 (by decide) (fun _ => ?_) (fun _ => ?_)
    · refine G_bipush (v := (30 : Int32)) dL_act_80 (by decide) ?_
      refine G_goto (tgt := 86) dL_act_82 (by decide) ?_
      refine G_lv [2, 3, 1, 0] rfl ?_
      exact g_L_act_b86 l N z v0 v1 i21 r23 (30 : Int32) (v2 >>> ((2 : Int32) &&& 31)) (1 : Int32) x30
    · refine G_iconst (v := (5 : Int32)) dL_act_85 rfl ?_
      refine G_lv [2, 3, 1, 0] rfl ?_
      exact g_L_act_b86 l N z v0 v1 i21 r23 (5 : Int32) (v2 >>> ((2 : Int32) &&& 31)) (1 : Int32) x30
  refine G_if (fun hs32 => ?_) (fun hs32 => ?_)
  · refine G_tableIn (tgt := 116) dL_act_29 (by rw [hs32]; decide) (by rw [hs32]; decide) (by rw [hs32]; rfl) (by decide) ?_
    refine G_iconst (v := (1 : Int32)) dL_act_116 rfl ?_
    refine G_iload_n 4 dL_act_117 rfl rfl ?_
    refine G_iconst (v := (2 : Int32)) dL_act_118 rfl ?_
    refine G_ishr dL_act_119 ?_
    refine G_iload_n 4 dL_act_120 rfl rfl ?_
    refine G_iconst (v := (2 : Int32)) dL_act_121 rfl ?_
    refine G_callS (av := [.int v2, .int (2 : Int32)]) [.int (v2 >>> ((2 : Int32) &&& 31)), .int (1 : Int32)] (ct_L_below l N z v2 (2 : Int32)) yn_L_below (Nat.le_of_ble_eq_true rfl) (by decide) gw_1372 gw_1373 gw_38 gw_1374 rfl (by simp only [hw_n, hw_i, hw_r, hw_j, hw_d]; decide) dL_act_122 (fun i34 x33 => ?_)
    refine G_if_ne (tgt := 133) dL_act_125 (by decide) (fun _ => ?_) (fun _ => ?_)
    · refine G_bipush (v := (99 : Int32)) dL_act_128 (by decide) ?_
      refine G_goto (tgt := 134) dL_act_130 (by decide) ?_
      refine G_lv [2, 1, 0] rfl ?_
      exact g_L_act_b134 l N z v0 i21 r23 (99 : Int32) (v2 >>> ((2 : Int32) &&& 31)) (1 : Int32) x33
    · refine G_iconst (v := (5 : Int32)) dL_act_133 rfl ?_
      refine G_lv [2, 1, 0] rfl ?_
      exact g_L_act_b134 l N z v0 i21 r23 (5 : Int32) (v2 >>> ((2 : Int32) &&& 31)) (1 : Int32) x33
  refine G_if (fun hs35 => ?_) (fun hs35 => ?_)
  · refine G_tableIn (tgt := 182) dL_act_29 (by rw [hs35]; decide) (by rw [hs35]; decide) (by rw [hs35]; rfl) (by decide) ?_
    refine G_aload 0 dL_act_182 rfl ?_
    refine G_geti (k := 2) K_13 (by decide) rfl rfl rfl gw_1387 rfl dL_act_184 (fun i36 => ?_)
    refine G_istore (i := 7) (l2 := [(4, va_rf r23), (3, .int i21), (0, va_rf v0), (1, va_rf v1), (2, .int v2)]) [0, 1, 2, 3, 4] dL_act_187 (Nat.le_of_ble_eq_true rfl) rfl (sok_a (by decide) (by decide) (sok_a (by decide) (by decide) (sok_a (by decide) (by decide) (sok_a (by decide) (by decide) (sok_a (by decide) (by decide) trivial))))) ?_
    refine G_aload 1 dL_act_189 rfl ?_
    refine G_iload_n 5 dL_act_191 rfl rfl ?_
    refine G_iconst (v := (2 : Int32)) dL_act_192 rfl ?_
    refine G_ishr dL_act_193 ?_
    refine G_bipush (v := (31 : Int32)) dL_act_194 (by decide) ?_
    refine G_callS (av := [.int (v2 >>> ((2 : Int32) &&& 31)), .int (31 : Int32)]) [va_rf r23] (ct_L_below l N z (v2 >>> ((2 : Int32) &&& 31)) (31 : Int32)) yn_L_below (Nat.le_of_ble_eq_true rfl) (by decide) gw_1372 gw_1373 gw_38 gw_1374 rfl (by simp only [hw_n, hw_i, hw_r, hw_j, hw_d]; decide) dL_act_196 (fun i38 x37 => ?_)
    refine G_puti (k := 2) K_13 (by decide) rfl rfl rfl gw_1387 rfl (Or.inl rfl) nar_int.1 nar_int.2 dL_act_199 (fun x39 => ?_)
    refine G_aload_n 3 dL_act_202 rfl rfl ?_
    refine G_iload_n 2 dL_act_203 rfl rfl ?_
    refine G_aload 1 dL_act_204 rfl ?_
    refine G_geti (k := 2) K_13 (by decide) rfl rfl rfl gw_1387 rfl dL_act_206 (fun i40 => ?_)
    refine G_callV (av := [.int i21, .int i40]) [] (fun q43 => ct_X10_setRate l N z q43 i21 i40) K_12 rfl yn_X10_setRate (Nat.le_of_ble_eq_true rfl) (by decide) gw_1476 gw_1477 gw_1478 gw_39 gw_1479 rfl (by decide) dL_act_209 (fun i42 x41 => ?_)
    refine G_iload 0 dL_act_212 rfl ?_
    refine G_icmp_ne (tgt := 221) dL_act_214 (by decide) (fun _ => ?_) (fun _ => ?_)
    · refine G_iconst (v := (1 : Int32)) dL_act_217 rfl ?_
      refine G_goto (tgt := 222) dL_act_218 (by decide) ?_
      exact G_ret (Or.inr rfl) dL_act_222 rfl
    · refine G_iconst (v := (0 : Int32)) dL_act_221 rfl ?_
      exact G_ret (Or.inl rfl) dL_act_222 rfl
  refine G_if (fun hs44 => ?_) (fun hs44 => ?_)
  · refine G_tableIn (tgt := 223) dL_act_29 (by rw [hs44]; decide) (by rw [hs44]; decide) (by rw [hs44]; rfl) (by decide) ?_
    refine G_aload 0 dL_act_223 rfl ?_
    refine G_geti (k := 3) K_13 (by decide) rfl rfl rfl gw_1390 rfl dL_act_225 (fun i45 => ?_)
    refine G_istore (i := 8) (l2 := [(4, va_rf r23), (3, .int i21), (0, va_rf v0), (1, va_rf v1), (2, .int v2)]) [0, 1, 2, 3, 4] dL_act_228 (Nat.le_of_ble_eq_true rfl) rfl (sok_a (by decide) (by decide) (sok_a (by decide) (by decide) (sok_a (by decide) (by decide) (sok_a (by decide) (by decide) (sok_a (by decide) (by decide) trivial))))) ?_
    refine G_aload 1 dL_act_230 rfl ?_
    refine G_iload_n 5 dL_act_232 rfl rfl ?_
    refine G_iconst (v := (2 : Int32)) dL_act_233 rfl ?_
    refine G_ishr dL_act_234 ?_
    refine G_bipush (v := (31 : Int32)) dL_act_235 (by decide) ?_
    refine G_callS (av := [.int (v2 >>> ((2 : Int32) &&& 31)), .int (31 : Int32)]) [va_rf r23] (ct_L_below l N z (v2 >>> ((2 : Int32) &&& 31)) (31 : Int32)) yn_L_below (Nat.le_of_ble_eq_true rfl) (by decide) gw_1372 gw_1373 gw_38 gw_1374 rfl (by simp only [hw_n, hw_i, hw_r, hw_j, hw_d]; decide) dL_act_237 (fun i47 x46 => ?_)
    refine G_puti (k := 3) K_13 (by decide) rfl rfl rfl gw_1390 rfl (Or.inl rfl) nar_int.1 nar_int.2 dL_act_240 (fun x48 => ?_)
    refine G_aload_n 3 dL_act_243 rfl rfl ?_
    refine G_iload_n 2 dL_act_244 rfl rfl ?_
    refine G_aload 1 dL_act_245 rfl ?_
    refine G_geti (k := 3) K_13 (by decide) rfl rfl rfl gw_1390 rfl dL_act_247 (fun i49 => ?_)
    refine G_callV (av := [.int i21, .int i49]) [] (fun q52 => ct_X10_setMost l N z q52 i21 i49) K_12 rfl yn_X10_setMost (Nat.le_of_ble_eq_true rfl) (by decide) gw_1481 gw_1482 gw_1483 gw_39 gw_1484 rfl (by decide) dL_act_250 (fun i51 x50 => ?_)
    refine G_iload 0 dL_act_253 rfl ?_
    refine G_icmp_ne (tgt := 262) dL_act_255 (by decide) (fun _ => ?_) (fun _ => ?_)
    · refine G_iconst (v := (1 : Int32)) dL_act_258 rfl ?_
      refine G_goto (tgt := 263) dL_act_259 (by decide) ?_
      exact G_ret (Or.inr rfl) dL_act_263 rfl
    · refine G_iconst (v := (0 : Int32)) dL_act_262 rfl ?_
      exact G_ret (Or.inl rfl) dL_act_263 rfl
  refine G_if (fun hs53 => ?_) (fun hs53 => ?_)
  · refine G_tableIn (tgt := 264) dL_act_29 (by rw [hs53]; decide) (by rw [hs53]; decide) (by rw [hs53]; rfl) (by decide) ?_
    refine G_iload_n 4 dL_act_264 rfl rfl ?_
    refine G_iconst (v := (3 : Int32)) dL_act_265 rfl ?_
    refine G_callS (av := [.int v2, .int (3 : Int32)]) [] (ct_L_below l N z v2 (3 : Int32)) yn_L_below (Nat.le_of_ble_eq_true rfl) (by decide) gw_1372 gw_1373 gw_38 gw_1374 rfl (by decide) dL_act_266 (fun i55 x54 => ?_)
    refine G_if_le (tgt := 274) dL_act_269 (by decide) (fun _ => ?_) (fun _ => ?_)
    · refine G_aload_n 3 dL_act_274 rfl rfl ?_
      refine G_geti (k := 1) K_14 (by decide) rfl rfl rfl gw_1345 rfl dL_act_275 (fun i56 => ?_)
      refine G_istore (i := 9) (l2 := [(4, va_rf r23), (3, .int i21), (0, va_rf v0), (1, va_rf v1), (2, .int v2)]) [0, 1, 2, 3, 4] dL_act_278 (Nat.le_of_ble_eq_true rfl) rfl (sok_a (by decide) (by decide) (sok_a (by decide) (by decide) (sok_a (by decide) (by decide) (sok_a (by decide) (by decide) (sok_a (by decide) (by decide) trivial))))) ?_
      refine G_aload_n 4 dL_act_280 rfl rfl ?_
      refine G_iload_n 5 dL_act_281 rfl rfl ?_
      refine G_iconst (v := (2 : Int32)) dL_act_282 rfl ?_
      refine G_ishr dL_act_283 ?_
      refine G_bipush (v := (31 : Int32)) dL_act_284 (by decide) ?_
      refine G_callS (av := [.int (v2 >>> ((2 : Int32) &&& 31)), .int (31 : Int32)]) [va_rf v1] (ct_L_below l N z (v2 >>> ((2 : Int32) &&& 31)) (31 : Int32)) yn_L_below (Nat.le_of_ble_eq_true rfl) (by decide) gw_1372 gw_1373 gw_38 gw_1374 rfl (by simp only [hw_n, hw_i, hw_r, hw_j, hw_d]; decide) dL_act_286 (fun i58 x57 => ?_)
      refine G_puti (k := 1) K_14 (by decide) rfl rfl rfl gw_1345 rfl (Or.inl rfl) nar_int.1 nar_int.2 dL_act_289 (fun x59 => ?_)
      refine G_aload_n 3 dL_act_292 rfl rfl ?_
      refine G_aload_n 4 dL_act_293 rfl rfl ?_
      refine G_geti (k := 1) K_14 (by decide) rfl rfl rfl gw_1345 rfl dL_act_294 (fun i60 => ?_)
      refine G_callV (av := [.int i60]) [] (fun q63 => ct_X10_setWell l N z q63 i60) K_12 rfl yn_X10_setWell (Nat.le_of_ble_eq_true rfl) (by decide) gw_1486 gw_1487 gw_1488 gw_39 gw_1489 rfl (by decide) dL_act_297 (fun i62 x61 => ?_)
      refine G_iload 0 dL_act_300 rfl ?_
      refine G_icmp_ne (tgt := 309) dL_act_302 (by decide) (fun _ => ?_) (fun _ => ?_)
      · refine G_iconst (v := (1 : Int32)) dL_act_305 rfl ?_
        refine G_goto (tgt := 310) dL_act_306 (by decide) ?_
        exact G_ret (Or.inr rfl) dL_act_310 rfl
      · refine G_iconst (v := (0 : Int32)) dL_act_309 rfl ?_
        exact G_ret (Or.inl rfl) dL_act_310 rfl
    · refine G_iconst (v := (1 : Int32)) dL_act_272 rfl ?_
      exact G_ret (Or.inr rfl) dL_act_273 rfl
  refine G_tableOut (tgt := 311) dL_act_29 (by have q0 := i32_ne hs26; rw [show (0 : Int32).toInt = 0 from by decide] at q0; have q1 := i32_ne hs29; rw [show (1 : Int32).toInt = 1 from by decide] at q1; have q2 := i32_ne hs32; rw [show (2 : Int32).toInt = 2 from by decide] at q2; have q3 := i32_ne hs35; rw [show (3 : Int32).toInt = 3 from by decide] at q3; have q4 := i32_ne hs44; rw [show (4 : Int32).toInt = 4 from by decide] at q4; have q5 := i32_ne hs53; rw [show (5 : Int32).toInt = 5 from by decide] at q5; omega) (by decide) ?_
  refine G_iconst (v := (1 : Int32)) dL_act_311 rfl ?_
  refine G_iload_n 4 dL_act_312 rfl rfl ?_
  refine G_iconst (v := (2 : Int32)) dL_act_313 rfl ?_
  refine G_ishr dL_act_314 ?_
  refine G_bipush (v := (6 : Int32)) dL_act_315 (by decide) ?_
  refine G_callS (av := [.int (v2 >>> ((2 : Int32) &&& 31)), .int (6 : Int32)]) [.int (1 : Int32)] (ct_L_below l N z (v2 >>> ((2 : Int32) &&& 31)) (6 : Int32)) yn_L_below (Nat.le_of_ble_eq_true rfl) (by decide) gw_1372 gw_1373 gw_38 gw_1374 rfl (by simp only [hw_n, hw_i, hw_r, hw_j, hw_d]; decide) dL_act_317 (fun i65 x64 => ?_)
  refine G_iadd dL_act_320 ?_
  refine G_istore (i := 10) (l2 := [(4, va_rf r23), (3, .int i21), (0, va_rf v0), (1, va_rf v1), (2, .int v2)]) [0, 1, 2, 3, 4] dL_act_321 (Nat.le_of_ble_eq_true rfl) rfl (sok_a (by decide) (by decide) (sok_a (by decide) (by decide) (sok_a (by decide) (by decide) (sok_a (by decide) (by decide) (sok_a (by decide) (by decide) trivial))))) ?_
  refine G_aload_n 4 dL_act_323 rfl rfl ?_
  refine G_bipush (v := (7 : Int32)) dL_act_324 (by decide) ?_
  refine G_callV (av := [.int (7 : Int32)]) [] (fun q68 => ct_X12_counted l N z q68 (7 : Int32)) K_14 rfl yn_X12_counted (Nat.le_of_ble_eq_true rfl) (by decide) gw_1491 gw_826 gw_827 gw_54 gw_828 rfl (by decide) dL_act_326 (fun i67 x66 => ?_)
  refine G_istore (i := 11) (l2 := [(10, .int ((1 : Int32) + i65)), (4, va_rf r23), (3, .int i21), (0, va_rf v0), (1, va_rf v1), (2, .int v2)]) [0, 1, 2, 3, 4, 5] dL_act_329 (Nat.le_of_ble_eq_true rfl) rfl (sok_b (by decide) rfl (sok_a (by decide) (by decide) (sok_a (by decide) (by decide) (sok_a (by decide) (by decide) (sok_a (by decide) (by decide) (sok_a (by decide) (by decide) trivial)))))) ?_
  refine G_aload_n 5 dL_act_331 rfl rfl ?_
  refine G_iload 1 dL_act_332 rfl ?_
  refine G_callV (av := [.int ((1 : Int32) + i65)]) [] (fun q71 => ct_X12_behind l N z q71 ((1 : Int32) + i65)) K_14 rfl yn_X12_behind (Nat.le_of_ble_eq_true rfl) (by decide) gw_1492 gw_1493 gw_1494 gw_54 gw_1495 rfl (by decide) dL_act_334 (fun r70 x69 => ?_)
  refine G_pop dL_act_337 (rf_cat _) ?_
  refine G_aload_n 4 dL_act_338 rfl rfl ?_
  refine G_iload 1 dL_act_339 rfl ?_
  refine G_callV (av := [.int ((1 : Int32) + i65)]) [] (fun q74 => ct_X10_pass l N z q74 ((1 : Int32) + i65)) K_12 rfl yn_X10_pass (Nat.le_of_ble_eq_true rfl) (by decide) gw_603 gw_604 gw_605 gw_39 gw_606 rfl (by decide) dL_act_341 (fun i73 x72 => ?_)
  refine G_aload_n 5 dL_act_344 rfl rfl ?_
  refine G_bipush (v := (7 : Int32)) dL_act_345 (by decide) ?_
  refine G_callV (av := [.int (7 : Int32)]) [.int i73] (fun q77 => ct_X12_counted l N z q77 (7 : Int32)) K_14 rfl yn_X12_counted (Nat.le_of_ble_eq_true rfl) (by decide) gw_1491 gw_826 gw_827 gw_54 gw_828 rfl (by simp only [hw_n, hw_i, hw_r, hw_j, hw_d]; decide) dL_act_347 (fun i76 x75 => ?_)
  refine G_iload 0 dL_act_350 rfl ?_
  refine G_isub dL_act_352 ?_
  refine G_icmp_ne (tgt := 360) dL_act_353 (by decide) (fun _ => ?_) (fun _ => ?_)
  · refine G_iconst (v := (1 : Int32)) dL_act_356 rfl ?_
    refine G_goto (tgt := 361) dL_act_357 (by decide) ?_
    exact G_ret (Or.inr rfl) dL_act_361 rfl
  · refine G_iconst (v := (0 : Int32)) dL_act_360 rfl ?_
    exact G_ret (Or.inl rfl) dL_act_361 rfl

theorem yn_L_act : Yn yL_act 3 := ⟨by decide +kernel, by decide +kernel, by decide +kernel⟩
theorem ct_L_act (l : Launch) (N : Nat) (z : Nat → Nat) (v0 : Option Nat) (v1 : Option Nat) (v2 : Int32) : Ct l z yL_act cL_act 12 (some .boolean) 8 enI [va_rf v0, va_rf v1, .int v2] (f_L_act N z v0 v1 v2) :=
  Ct_z (fun x => G_lv0 (by simp only [lva_n, lva_i, lva_o, lva_r, lva_j]) (g_L_act l N z v0 v1 v2 x)) (by decide +kernel) (by simp only [lgl_n, lgl_i, lgl_o, lgl_r, lgl_j]; decide)

theorem dL_hasShut_0 : decode cL_hasShut 0 = .ok (.aload_n 0, 1) := by decide +kernel
theorem dL_hasShut_1 : decode cL_hasShut 1 = .ok (.getfield 91, 3) := by decide +kernel
theorem dL_hasShut_4 : decode cL_hasShut 4 = .ok (.astore_n 2, 1) := by decide +kernel
theorem dL_hasShut_5 : decode cL_hasShut 5 = .ok (.aload_n 2, 1) := by decide +kernel
theorem dL_hasShut_6 : decode cL_hasShut 6 = .ok (.arraylength, 1) := by decide +kernel
theorem dL_hasShut_7 : decode cL_hasShut 7 = .ok (.istore_n 3, 1) := by decide +kernel
theorem dL_hasShut_8 : decode cL_hasShut 8 = .ok (.iconst 0, 1) := by decide +kernel
theorem dL_hasShut_9 : decode cL_hasShut 9 = .ok (.istore 4, 2) := by decide +kernel
theorem dL_hasShut_11 : decode cL_hasShut 11 = .ok (.iload 4, 2) := by decide +kernel
theorem dL_hasShut_13 : decode cL_hasShut 13 = .ok (.iload_n 3, 1) := by decide +kernel
theorem dL_hasShut_14 : decode cL_hasShut 14 = .ok (.if_icmp .ge 33, 3) := by decide +kernel
theorem dL_hasShut_17 : decode cL_hasShut 17 = .ok (.aload_n 2, 1) := by decide +kernel
theorem dL_hasShut_18 : decode cL_hasShut 18 = .ok (.iload 4, 2) := by decide +kernel
theorem dL_hasShut_20 : decode cL_hasShut 20 = .ok (.aaload, 1) := by decide +kernel
theorem dL_hasShut_21 : decode cL_hasShut 21 = .ok (.astore 5, 2) := by decide +kernel
theorem dL_hasShut_23 : decode cL_hasShut 23 = .ok (.aload 5, 2) := by decide +kernel
theorem dL_hasShut_25 : decode cL_hasShut 25 = .ok (.iconst 0, 1) := by decide +kernel
theorem dL_hasShut_26 : decode cL_hasShut 26 = .ok (.iaload, 1) := by decide +kernel
theorem dL_hasShut_27 : decode cL_hasShut 27 = .ok (.iconst 2, 1) := by decide +kernel
theorem dL_hasShut_28 : decode cL_hasShut 28 = .ok (.if_icmp .ne 13, 3) := by decide +kernel
theorem dL_hasShut_31 : decode cL_hasShut 31 = .ok (.aload 5, 2) := by decide +kernel
theorem dL_hasShut_33 : decode cL_hasShut 33 = .ok (.iconst 1, 1) := by decide +kernel
theorem dL_hasShut_34 : decode cL_hasShut 34 = .ok (.iaload, 1) := by decide +kernel
theorem dL_hasShut_35 : decode cL_hasShut 35 = .ok (.iload_n 1, 1) := by decide +kernel
theorem dL_hasShut_36 : decode cL_hasShut 36 = .ok (.if_icmp .ne 5, 3) := by decide +kernel
theorem dL_hasShut_39 : decode cL_hasShut 39 = .ok (.iconst 1, 1) := by decide +kernel
theorem dL_hasShut_40 : decode cL_hasShut 40 = .ok (.ireturn, 1) := by decide +kernel
theorem dL_hasShut_41 : decode cL_hasShut 41 = .ok (.iinc 4 1, 3) := by decide +kernel
theorem dL_hasShut_44 : decode cL_hasShut 44 = .ok (.goto (-33), 3) := by decide +kernel
theorem dL_hasShut_47 : decode cL_hasShut 47 = .ok (.iconst 0, 1) := by decide +kernel
theorem dL_hasShut_48 : decode cL_hasShut 48 = .ok (.ireturn, 1) := by decide +kernel
abbrev m_L_hasShut : Mt := (cL_hasShut, RL, "hasShut", 6, .ireturn, 1)
def f_L_hasShut_b41 (N : Nat) (z : Nat → Nat) (k11 : Int32 → Option Nat → Int32 → Int32 → Hp → Option (Int32 × Hp)) (v1 : Int32) (v2 : Option Nat) (v3 : Int32) (v4 : Int32) (x0 : Hp) : Option (Int32 × Hp) :=
  k11 v1 v2 v3 (v4 + (1 : Int32)) x0
def f_L_hasShut_b11 (N : Nat) (z : Nat → Nat) : Nat → Int32 → Option Nat → Int32 → Int32 → Hp → Option (Int32 × Hp)
  | 0, _, _, _, _, _ => none
  | n + 1, v1, v2, v3, v4, x0 => if v3 ≤ v4 then (some ((0 : Int32), x0)) else (aldr v2 x0 107 v4 fun r1 =>
  aldi r1 x0 101 (0 : Int32) fun i2 =>
  if i2 = (2 : Int32) then (aldi r1 x0 101 (1 : Int32) fun i3 =>
  if i3 = v1 then (some ((1 : Int32), x0)) else (f_L_hasShut_b41 N z (f_L_hasShut_b11 N z n) v1 v2 v3 v4 x0)) else (f_L_hasShut_b41 N z (f_L_hasShut_b11 N z n) v1 v2 v3 v4 x0))
def f_L_hasShut (N : Nat) (z : Nat → Nat) (v0 : Option Nat) (v1 : Int32) (x0 : Hp) : Option (Int32 × Hp) :=
  getr v0 x0 15 287 fun r4 =>
  alen r4 x0 107 fun i5 =>
  f_L_hasShut_b11 N z N v1 r4 i5 (0 : Int32) x0
set_option maxRecDepth 100000 in
set_option maxHeartbeats 4000000 in
theorem g_L_hasShut_b41 (l : Launch) (N : Nat) (z : Nat → Nat) {k11 : Int32 → Option Nat → Int32 → Int32 → Hp → Option (Int32 × Hp)} (hk11 : ∀ v1 v2 v3 v4 x, G l z m_L_hasShut okZ enI 11 [(1, .int v1), (2, va_rf v2), (3, .int v3), (4, .int v4)] [] x (k11 v1 v2 v3 v4 x)) (v1 : Int32) (v2 : Option Nat) (v3 : Int32) (v4 : Int32) (x0 : Hp) : G l z m_L_hasShut okZ enI 41 [(1, .int v1), (2, va_rf v2), (3, .int v3), (4, .int v4)] [] x0 (f_L_hasShut_b41 N z k11 v1 v2 v3 v4 x0) := by
  unfold f_L_hasShut_b41
  refine G_iinc (i := 4) (l2 := [(1, .int v1), (2, va_rf v2), (3, .int v3)]) 3 [0, 1, 2] dL_hasShut_41 rfl rfl (Nat.le_of_ble_eq_true rfl) rfl (sok_a (by decide) (by decide) (sok_a (by decide) (by decide) (sok_b (by decide) rfl trivial))) ?_
  refine G_goto (tgt := 11) dL_hasShut_44 (by decide) ?_
  refine G_lv [1, 2, 3, 0] rfl ?_
  exact hk11 v1 v2 v3 (v4 + (1 : Int32)) x0

set_option maxRecDepth 100000 in
set_option maxHeartbeats 4000000 in
theorem g_L_hasShut_b11 (l : Launch) (N : Nat) (z : Nat → Nat) : ∀ (n : Nat) (v1 : Int32) (v2 : Option Nat) (v3 : Int32) (v4 : Int32) (x0 : Hp), G l z m_L_hasShut okZ enI 11 [(1, .int v1), (2, va_rf v2), (3, .int v3), (4, .int v4)] [] x0 (f_L_hasShut_b11 N z n v1 v2 v3 v4 x0) := by
  intro n
  induction n with
  | zero => intro v1 v2 v3 v4 x0; exact G_none
  | succ n ih =>
  intro v1 v2 v3 v4 x0
  rw [f_L_hasShut_b11]
  refine G_iload 3 dL_hasShut_11 rfl ?_
  refine G_iload_n 2 dL_hasShut_13 rfl rfl ?_
  refine G_icmp_ge (tgt := 47) dL_hasShut_14 (by decide) (fun _ => ?_) (fun _ => ?_)
  · refine G_iconst (v := (0 : Int32)) dL_hasShut_47 rfl ?_
    exact G_ret (Or.inl rfl) dL_hasShut_48 rfl
  · refine G_aload_n 1 dL_hasShut_17 rfl rfl ?_
    refine G_iload 3 dL_hasShut_18 rfl ?_
    refine G_aald (t := 7) rfl (by decide) (by decide) dL_hasShut_20 (fun r1 => ?_)
    refine G_astore (i := 5) (l2 := [(1, .int v1), (2, va_rf v2), (3, .int v3), (4, .int v4)]) [0, 1, 2, 3] dL_hasShut_21 (Nat.le_of_ble_eq_true rfl) rfl (sok_a (by decide) (by decide) (sok_a (by decide) (by decide) (sok_a (by decide) (by decide) (sok_b (by decide) rfl trivial)))) ?_
    refine G_aload 0 dL_hasShut_23 rfl ?_
    refine G_iconst (v := (0 : Int32)) dL_hasShut_25 rfl ?_
    refine G_iald dL_hasShut_26 (fun i2 => ?_)
    refine G_iconst (v := (2 : Int32)) dL_hasShut_27 rfl ?_
    refine G_icmp_ne (tgt := 41) dL_hasShut_28 (by decide) (fun _ => ?_) (fun _ => ?_)
    · refine G_aload 0 dL_hasShut_31 rfl ?_
      refine G_iconst (v := (1 : Int32)) dL_hasShut_33 rfl ?_
      refine G_iald dL_hasShut_34 (fun i3 => ?_)
      refine G_iload_n 1 dL_hasShut_35 rfl rfl ?_
      refine G_icmp_ne (tgt := 41) dL_hasShut_36 (by decide) (fun _ => ?_) (fun _ => ?_)
      · refine G_iconst (v := (1 : Int32)) dL_hasShut_39 rfl ?_
        exact G_ret (Or.inr rfl) dL_hasShut_40 rfl
      · refine G_lv [1, 2, 3, 4] rfl ?_
        exact g_L_hasShut_b41 l N z ih v1 v2 v3 v4 x0
    · refine G_lv [1, 2, 3, 4] rfl ?_
      exact g_L_hasShut_b41 l N z ih v1 v2 v3 v4 x0

set_option maxRecDepth 100000 in
set_option maxHeartbeats 4000000 in
theorem g_L_hasShut (l : Launch) (N : Nat) (z : Nat → Nat) (v0 : Option Nat) (v1 : Int32) (x0 : Hp) : G l z m_L_hasShut okZ enI 0 [(0, va_rf v0), (1, .int v1)] [] x0 (f_L_hasShut N z v0 v1 x0) := by
  unfold f_L_hasShut
  refine G_aload_n 0 dL_hasShut_0 rfl rfl ?_
  refine G_getr (k := 7) K_14 (by decide) rfl rfl rfl gw_1354 rfl dL_hasShut_1 (fun r4 => ?_)
  refine G_astore_n (i := 2) (l2 := [(0, va_rf v0), (1, .int v1)]) [0, 1] dL_hasShut_4 rfl (Nat.le_of_ble_eq_true rfl) rfl (sok_a (by decide) (by decide) (sok_b (by decide) rfl trivial)) ?_
  refine G_aload_n 0 dL_hasShut_5 rfl rfl ?_
  refine G_alen (t := 7) rfl (by decide) dL_hasShut_6 (fun i5 => ?_)
  refine G_istore_n (i := 3) (l2 := [(2, va_rf r4), (0, va_rf v0), (1, .int v1)]) [0, 1, 2] dL_hasShut_7 rfl (Nat.le_of_ble_eq_true rfl) rfl (sok_b (by decide) (rf_cat _) (sok_a (by decide) (by decide) (sok_a (by decide) (by decide) trivial))) ?_
  refine G_iconst (v := (0 : Int32)) dL_hasShut_8 rfl ?_
  refine G_istore (i := 4) (l2 := [(3, .int i5), (2, va_rf r4), (0, va_rf v0), (1, .int v1)]) [0, 1, 2, 3] dL_hasShut_9 (Nat.le_of_ble_eq_true rfl) rfl (sok_b (by decide) rfl (sok_a (by decide) (by decide) (sok_a (by decide) (by decide) (sok_a (by decide) (by decide) trivial)))) ?_
  refine G_lv [4, 2, 1, 0] rfl ?_
  exact g_L_hasShut_b11 l N z N v1 r4 i5 (0 : Int32) x0

theorem yn_L_hasShut : Yn yL_hasShut 2 := ⟨by decide +kernel, by decide +kernel, by decide +kernel⟩
theorem ct_L_hasShut (l : Launch) (N : Nat) (z : Nat → Nat) (v0 : Option Nat) (v1 : Int32) : Ct l z yL_hasShut cL_hasShut 6 (some .boolean) 1 enI [va_rf v0, .int v1] (f_L_hasShut N z v0 v1) :=
  Ct_z (fun x => G_lv0 (by simp only [lva_n, lva_i, lva_o, lva_r, lva_j]) (g_L_hasShut l N z v0 v1 x)) (by decide +kernel) (by simp only [lgl_n, lgl_i, lgl_o, lgl_r, lgl_j]; decide)

theorem dL_law_0 : decode cL_law 0 = .ok (.new 20, 3) := by decide +kernel
theorem dL_law_3 : decode cL_law 3 = .ok (.dup, 1) := by decide +kernel
theorem dL_law_4 : decode cL_law 4 = .ok (.invokespecial 127, 3) := by decide +kernel
theorem dL_law_7 : decode cL_law 7 = .ok (.astore_n 1, 1) := by decide +kernel
theorem dL_law_8 : decode cL_law 8 = .ok (.aload_n 0, 1) := by decide +kernel
theorem dL_law_9 : decode cL_law 9 = .ok (.invokestatic 128, 3) := by decide +kernel
theorem dL_law_12 : decode cL_law 12 = .ok (.astore_n 2, 1) := by decide +kernel
theorem dL_law_13 : decode cL_law 13 = .ok (.aload_n 1, 1) := by decide +kernel
theorem dL_law_14 : decode cL_law 14 = .ok (.aload_n 2, 1) := by decide +kernel
theorem dL_law_15 : decode cL_law 15 = .ok (.invokevirtual 132, 3) := by decide +kernel
theorem dL_law_18 : decode cL_law 18 = .ok (.invokestatic 136, 3) := by decide +kernel
theorem dL_law_21 : decode cL_law 21 = .ok (.ifCond .eq 5, 3) := by decide +kernel
theorem dL_law_24 : decode cL_law 24 = .ok (.iconst 0, 1) := by decide +kernel
theorem dL_law_25 : decode cL_law 25 = .ok (.ireturn, 1) := by decide +kernel
theorem dL_law_26 : decode cL_law 26 = .ok (.iconst 0, 1) := by decide +kernel
theorem dL_law_27 : decode cL_law 27 = .ok (.istore_n 3, 1) := by decide +kernel
theorem dL_law_28 : decode cL_law 28 = .ok (.iload_n 3, 1) := by decide +kernel
theorem dL_law_29 : decode cL_law 29 = .ok (.bipush 24, 2) := by decide +kernel
theorem dL_law_31 : decode cL_law 31 = .ok (.if_icmp .ge 701, 3) := by decide +kernel
theorem dL_law_34 : decode cL_law 34 = .ok (.aload_n 0, 1) := by decide +kernel
theorem dL_law_35 : decode cL_law 35 = .ok (.iload_n 3, 1) := by decide +kernel
theorem dL_law_36 : decode cL_law 36 = .ok (.bipush 16, 2) := by decide +kernel
theorem dL_law_38 : decode cL_law 38 = .ok (.irem, 1) := by decide +kernel
theorem dL_law_39 : decode cL_law 39 = .ok (.invokestatic 35, 3) := by decide +kernel
theorem dL_law_42 : decode cL_law 42 = .ok (.iload_n 3, 1) := by decide +kernel
theorem dL_law_43 : decode cL_law 43 = .ok (.bipush 16, 2) := by decide +kernel
theorem dL_law_45 : decode cL_law 45 = .ok (.idiv, 1) := by decide +kernel
theorem dL_law_46 : decode cL_law 46 = .ok (.iconst 3, 1) := by decide +kernel
theorem dL_law_47 : decode cL_law 47 = .ok (.imul, 1) := by decide +kernel
theorem dL_law_48 : decode cL_law 48 = .ok (.ishr, 1) := by decide +kernel
theorem dL_law_49 : decode cL_law 49 = .ok (.sipush 421, 3) := by decide +kernel
theorem dL_law_52 : decode cL_law 52 = .ok (.iload_n 3, 1) := by decide +kernel
theorem dL_law_53 : decode cL_law 53 = .ok (.imul, 1) := by decide +kernel
theorem dL_law_54 : decode cL_law 54 = .ok (.iadd, 1) := by decide +kernel
theorem dL_law_55 : decode cL_law 55 = .ok (.istore 4, 2) := by decide +kernel
theorem dL_law_57 : decode cL_law 57 = .ok (.iconst 0, 1) := by decide +kernel
theorem dL_law_58 : decode cL_law 58 = .ok (.istore 5, 2) := by decide +kernel
theorem dL_law_60 : decode cL_law 60 = .ok (.iload 5, 2) := by decide +kernel
theorem dL_law_62 : decode cL_law 62 = .ok (.iconst 2, 1) := by decide +kernel
theorem dL_law_63 : decode cL_law 63 = .ok (.if_icmp .ge 33, 3) := by decide +kernel
theorem dL_law_66 : decode cL_law 66 = .ok (.aload_n 1, 1) := by decide +kernel
theorem dL_law_67 : decode cL_law 67 = .ok (.aload_n 2, 1) := by decide +kernel
theorem dL_law_68 : decode cL_law 68 = .ok (.iload 4, 2) := by decide +kernel
theorem dL_law_70 : decode cL_law 70 = .ok (.iconst 2, 1) := by decide +kernel
theorem dL_law_71 : decode cL_law 71 = .ok (.iload 5, 2) := by decide +kernel
theorem dL_law_73 : decode cL_law 73 = .ok (.imul, 1) := by decide +kernel
theorem dL_law_74 : decode cL_law 74 = .ok (.ishr, 1) := by decide +kernel
theorem dL_law_75 : decode cL_law 75 = .ok (.sipush 311, 3) := by decide +kernel
theorem dL_law_78 : decode cL_law 78 = .ok (.iload 5, 2) := by decide +kernel
theorem dL_law_80 : decode cL_law 80 = .ok (.imul, 1) := by decide +kernel
theorem dL_law_81 : decode cL_law 81 = .ok (.iadd, 1) := by decide +kernel
theorem dL_law_82 : decode cL_law 82 = .ok (.invokestatic 140, 3) := by decide +kernel
theorem dL_law_85 : decode cL_law 85 = .ok (.ifCond .ne 5, 3) := by decide +kernel
theorem dL_law_88 : decode cL_law 88 = .ok (.iconst 0, 1) := by decide +kernel
theorem dL_law_89 : decode cL_law 89 = .ok (.ireturn, 1) := by decide +kernel
theorem dL_law_90 : decode cL_law 90 = .ok (.iinc 5 1, 3) := by decide +kernel
theorem dL_law_93 : decode cL_law 93 = .ok (.goto (-33), 3) := by decide +kernel
theorem dL_law_96 : decode cL_law 96 = .ok (.aload_n 1, 1) := by decide +kernel
theorem dL_law_97 : decode cL_law 97 = .ok (.iconst 2, 1) := by decide +kernel
theorem dL_law_98 : decode cL_law 98 = .ok (.invokevirtual 144, 3) := by decide +kernel
theorem dL_law_101 : decode cL_law 101 = .ok (.istore 5, 2) := by decide +kernel
theorem dL_law_103 : decode cL_law 103 = .ok (.iload 5, 2) := by decide +kernel
theorem dL_law_105 : decode cL_law 105 = .ok (.newarray .int, 2) := by decide +kernel
theorem dL_law_107 : decode cL_law 107 = .ok (.astore 6, 2) := by decide +kernel
theorem dL_law_109 : decode cL_law 109 = .ok (.iconst 0, 1) := by decide +kernel
theorem dL_law_110 : decode cL_law 110 = .ok (.istore 7, 2) := by decide +kernel
theorem dL_law_112 : decode cL_law 112 = .ok (.iload 7, 2) := by decide +kernel
theorem dL_law_114 : decode cL_law 114 = .ok (.iload 5, 2) := by decide +kernel
theorem dL_law_116 : decode cL_law 116 = .ok (.if_icmp .ge 22, 3) := by decide +kernel
theorem dL_law_119 : decode cL_law 119 = .ok (.aload 6, 2) := by decide +kernel
theorem dL_law_121 : decode cL_law 121 = .ok (.iload 7, 2) := by decide +kernel
theorem dL_law_123 : decode cL_law 123 = .ok (.aload_n 1, 1) := by decide +kernel
theorem dL_law_124 : decode cL_law 124 = .ok (.iload 7, 2) := by decide +kernel
theorem dL_law_126 : decode cL_law 126 = .ok (.bipush 8, 2) := by decide +kernel
theorem dL_law_128 : decode cL_law 128 = .ok (.invokevirtual 147, 3) := by decide +kernel
theorem dL_law_131 : decode cL_law 131 = .ok (.iastore, 1) := by decide +kernel
theorem dL_law_132 : decode cL_law 132 = .ok (.iinc 7 1, 3) := by decide +kernel
theorem dL_law_135 : decode cL_law 135 = .ok (.goto (-23), 3) := by decide +kernel
theorem dL_law_138 : decode cL_law 138 = .ok (.bipush 12, 2) := by decide +kernel
theorem dL_law_140 : decode cL_law 140 = .ok (.newarray .int, 2) := by decide +kernel
theorem dL_law_142 : decode cL_law 142 = .ok (.astore 7, 2) := by decide +kernel
theorem dL_law_144 : decode cL_law 144 = .ok (.iconst 5, 1) := by decide +kernel
theorem dL_law_145 : decode cL_law 145 = .ok (.istore 8, 2) := by decide +kernel
theorem dL_law_147 : decode cL_law 147 = .ok (.iload 8, 2) := by decide +kernel
theorem dL_law_149 : decode cL_law 149 = .ok (.bipush 12, 2) := by decide +kernel
theorem dL_law_151 : decode cL_law 151 = .ok (.if_icmp .ge 21, 3) := by decide +kernel
theorem dL_law_154 : decode cL_law 154 = .ok (.aload 7, 2) := by decide +kernel
theorem dL_law_156 : decode cL_law 156 = .ok (.iload 8, 2) := by decide +kernel
theorem dL_law_158 : decode cL_law 158 = .ok (.aload_n 1, 1) := by decide +kernel
theorem dL_law_159 : decode cL_law 159 = .ok (.iconst 1, 1) := by decide +kernel
theorem dL_law_160 : decode cL_law 160 = .ok (.iload 8, 2) := by decide +kernel
theorem dL_law_162 : decode cL_law 162 = .ok (.invokevirtual 150, 3) := by decide +kernel
theorem dL_law_165 : decode cL_law 165 = .ok (.iastore, 1) := by decide +kernel
theorem dL_law_166 : decode cL_law 166 = .ok (.iinc 8 1, 3) := by decide +kernel
theorem dL_law_169 : decode cL_law 169 = .ok (.goto (-22), 3) := by decide +kernel
theorem dL_law_172 : decode cL_law 172 = .ok (.aload_n 1, 1) := by decide +kernel
theorem dL_law_173 : decode cL_law 173 = .ok (.bipush 7, 2) := by decide +kernel
theorem dL_law_175 : decode cL_law 175 = .ok (.invokevirtual 144, 3) := by decide +kernel
theorem dL_law_178 : decode cL_law 178 = .ok (.istore 8, 2) := by decide +kernel
theorem dL_law_180 : decode cL_law 180 = .ok (.aload_n 1, 1) := by decide +kernel
theorem dL_law_181 : decode cL_law 181 = .ok (.iconst 1, 1) := by decide +kernel
theorem dL_law_182 : decode cL_law 182 = .ok (.invokevirtual 124, 3) := by decide +kernel
theorem dL_law_185 : decode cL_law 185 = .ok (.istore 9, 2) := by decide +kernel
theorem dL_law_187 : decode cL_law 187 = .ok (.aload_n 2, 1) := by decide +kernel
theorem dL_law_188 : decode cL_law 188 = .ok (.invokevirtual 153, 3) := by decide +kernel
theorem dL_law_191 : decode cL_law 191 = .ok (.iconst 5, 1) := by decide +kernel
theorem dL_law_192 : decode cL_law 192 = .ok (.istore 10, 2) := by decide +kernel
theorem dL_law_194 : decode cL_law 194 = .ok (.iload 10, 2) := by decide +kernel
theorem dL_law_196 : decode cL_law 196 = .ok (.bipush 12, 2) := by decide +kernel
theorem dL_law_198 : decode cL_law 198 = .ok (.if_icmp .ge 25, 3) := by decide +kernel
theorem dL_law_201 : decode cL_law 201 = .ok (.aload_n 1, 1) := by decide +kernel
theorem dL_law_202 : decode cL_law 202 = .ok (.iload 10, 2) := by decide +kernel
theorem dL_law_204 : decode cL_law 204 = .ok (.invokevirtual 144, 3) := by decide +kernel
theorem dL_law_207 : decode cL_law 207 = .ok (.aload 7, 2) := by decide +kernel
theorem dL_law_209 : decode cL_law 209 = .ok (.iload 10, 2) := by decide +kernel
theorem dL_law_211 : decode cL_law 211 = .ok (.iaload, 1) := by decide +kernel
theorem dL_law_212 : decode cL_law 212 = .ok (.if_icmp .eq 5, 3) := by decide +kernel
theorem dL_law_215 : decode cL_law 215 = .ok (.iconst 0, 1) := by decide +kernel
theorem dL_law_216 : decode cL_law 216 = .ok (.ireturn, 1) := by decide +kernel
theorem dL_law_217 : decode cL_law 217 = .ok (.iinc 10 1, 3) := by decide +kernel
theorem dL_law_220 : decode cL_law 220 = .ok (.goto (-26), 3) := by decide +kernel
theorem dL_law_223 : decode cL_law 223 = .ok (.aload_n 1, 1) := by decide +kernel
theorem dL_law_224 : decode cL_law 224 = .ok (.bipush 7, 2) := by decide +kernel
theorem dL_law_226 : decode cL_law 226 = .ok (.invokevirtual 144, 3) := by decide +kernel
theorem dL_law_229 : decode cL_law 229 = .ok (.iload 8, 2) := by decide +kernel
theorem dL_law_231 : decode cL_law 231 = .ok (.iload 9, 2) := by decide +kernel
theorem dL_law_233 : decode cL_law 233 = .ok (.iadd, 1) := by decide +kernel
theorem dL_law_234 : decode cL_law 234 = .ok (.if_icmp .ne 58, 3) := by decide +kernel
theorem dL_law_237 : decode cL_law 237 = .ok (.iload 9, 2) := by decide +kernel
theorem dL_law_239 : decode cL_law 239 = .ok (.aload_n 1, 1) := by decide +kernel
theorem dL_law_240 : decode cL_law 240 = .ok (.iconst 1, 1) := by decide +kernel
theorem dL_law_241 : decode cL_law 241 = .ok (.invokevirtual 144, 3) := by decide +kernel
theorem dL_law_244 : decode cL_law 244 = .ok (.if_icmp .gt 48, 3) := by decide +kernel
theorem dL_law_247 : decode cL_law 247 = .ok (.aload_n 1, 1) := by decide +kernel
theorem dL_law_248 : decode cL_law 248 = .ok (.bipush 11, 2) := by decide +kernel
theorem dL_law_250 : decode cL_law 250 = .ok (.invokevirtual 144, 3) := by decide +kernel
theorem dL_law_253 : decode cL_law 253 = .ok (.aload_n 1, 1) := by decide +kernel
theorem dL_law_254 : decode cL_law 254 = .ok (.iconst 1, 1) := by decide +kernel
theorem dL_law_255 : decode cL_law 255 = .ok (.invokevirtual 144, 3) := by decide +kernel
theorem dL_law_258 : decode cL_law 258 = .ok (.iload 9, 2) := by decide +kernel
theorem dL_law_260 : decode cL_law 260 = .ok (.isub, 1) := by decide +kernel
theorem dL_law_261 : decode cL_law 261 = .ok (.if_icmp .ne 31, 3) := by decide +kernel
theorem dL_law_264 : decode cL_law 264 = .ok (.aload_n 1, 1) := by decide +kernel
theorem dL_law_265 : decode cL_law 265 = .ok (.bipush 6, 2) := by decide +kernel
theorem dL_law_267 : decode cL_law 267 = .ok (.invokevirtual 144, 3) := by decide +kernel
theorem dL_law_270 : decode cL_law 270 = .ok (.aload_n 1, 1) := by decide +kernel
theorem dL_law_271 : decode cL_law 271 = .ok (.iconst 5, 1) := by decide +kernel
theorem dL_law_272 : decode cL_law 272 = .ok (.invokevirtual 144, 3) := by decide +kernel
theorem dL_law_275 : decode cL_law 275 = .ok (.aload_n 1, 1) := by decide +kernel
theorem dL_law_276 : decode cL_law 276 = .ok (.bipush 7, 2) := by decide +kernel
theorem dL_law_278 : decode cL_law 278 = .ok (.invokevirtual 144, 3) := by decide +kernel
theorem dL_law_281 : decode cL_law 281 = .ok (.iadd, 1) := by decide +kernel
theorem dL_law_282 : decode cL_law 282 = .ok (.aload_n 1, 1) := by decide +kernel
theorem dL_law_283 : decode cL_law 283 = .ok (.bipush 8, 2) := by decide +kernel
theorem dL_law_285 : decode cL_law 285 = .ok (.invokevirtual 144, 3) := by decide +kernel
theorem dL_law_288 : decode cL_law 288 = .ok (.iadd, 1) := by decide +kernel
theorem dL_law_289 : decode cL_law 289 = .ok (.if_icmp .eq 5, 3) := by decide +kernel
theorem dL_law_292 : decode cL_law 292 = .ok (.iconst 0, 1) := by decide +kernel
theorem dL_law_293 : decode cL_law 293 = .ok (.ireturn, 1) := by decide +kernel
theorem dL_law_294 : decode cL_law 294 = .ok (.iconst 0, 1) := by decide +kernel
theorem dL_law_295 : decode cL_law 295 = .ok (.istore 10, 2) := by decide +kernel
theorem dL_law_297 : decode cL_law 297 = .ok (.iconst 0, 1) := by decide +kernel
theorem dL_law_298 : decode cL_law 298 = .ok (.istore 11, 2) := by decide +kernel
theorem dL_law_300 : decode cL_law 300 = .ok (.iconst 0, 1) := by decide +kernel
theorem dL_law_301 : decode cL_law 301 = .ok (.istore 12, 2) := by decide +kernel
theorem dL_law_303 : decode cL_law 303 = .ok (.iconst 0, 1) := by decide +kernel
theorem dL_law_304 : decode cL_law 304 = .ok (.istore 13, 2) := by decide +kernel
theorem dL_law_306 : decode cL_law 306 = .ok (.iconst 0, 1) := by decide +kernel
theorem dL_law_307 : decode cL_law 307 = .ok (.istore 14, 2) := by decide +kernel
theorem dL_law_309 : decode cL_law 309 = .ok (.iload 14, 2) := by decide +kernel
theorem dL_law_311 : decode cL_law 311 = .ok (.iload 5, 2) := by decide +kernel
theorem dL_law_313 : decode cL_law 313 = .ok (.if_icmp .ge 372, 3) := by decide +kernel
theorem dL_law_316 : decode cL_law 316 = .ok (.aload_n 1, 1) := by decide +kernel
theorem dL_law_317 : decode cL_law 317 = .ok (.iload 14, 2) := by decide +kernel
theorem dL_law_319 : decode cL_law 319 = .ok (.iconst 0, 1) := by decide +kernel
theorem dL_law_320 : decode cL_law 320 = .ok (.invokevirtual 147, 3) := by decide +kernel
theorem dL_law_323 : decode cL_law 323 = .ok (.istore 15, 2) := by decide +kernel
theorem dL_law_325 : decode cL_law 325 = .ok (.iload 15, 2) := by decide +kernel
theorem dL_law_327 : decode cL_law 327 = .ok (.iload 14, 2) := by decide +kernel
theorem dL_law_329 : decode cL_law 329 = .ok (.if_icmp .ge 71, 3) := by decide +kernel
theorem dL_law_332 : decode cL_law 332 = .ok (.aload_n 1, 1) := by decide +kernel
theorem dL_law_333 : decode cL_law 333 = .ok (.iload 14, 2) := by decide +kernel
theorem dL_law_335 : decode cL_law 335 = .ok (.iconst 5, 1) := by decide +kernel
theorem dL_law_336 : decode cL_law 336 = .ok (.invokevirtual 147, 3) := by decide +kernel
theorem dL_law_339 : decode cL_law 339 = .ok (.ifCond .lt 61, 3) := by decide +kernel
theorem dL_law_342 : decode cL_law 342 = .ok (.aload_n 1, 1) := by decide +kernel
theorem dL_law_343 : decode cL_law 343 = .ok (.iload 14, 2) := by decide +kernel
theorem dL_law_345 : decode cL_law 345 = .ok (.iconst 5, 1) := by decide +kernel
theorem dL_law_346 : decode cL_law 346 = .ok (.invokevirtual 147, 3) := by decide +kernel
theorem dL_law_349 : decode cL_law 349 = .ok (.aload_n 1, 1) := by decide +kernel
theorem dL_law_350 : decode cL_law 350 = .ok (.iload 14, 2) := by decide +kernel
theorem dL_law_352 : decode cL_law 352 = .ok (.iconst 3, 1) := by decide +kernel
theorem dL_law_353 : decode cL_law 353 = .ok (.invokevirtual 147, 3) := by decide +kernel
theorem dL_law_356 : decode cL_law 356 = .ok (.if_icmp .gt 44, 3) := by decide +kernel
theorem dL_law_359 : decode cL_law 359 = .ok (.aload_n 1, 1) := by decide +kernel
theorem dL_law_360 : decode cL_law 360 = .ok (.iload 14, 2) := by decide +kernel
theorem dL_law_362 : decode cL_law 362 = .ok (.bipush 6, 2) := by decide +kernel
theorem dL_law_364 : decode cL_law 364 = .ok (.invokevirtual 147, 3) := by decide +kernel
theorem dL_law_367 : decode cL_law 367 = .ok (.ifCond .lt 33, 3) := by decide +kernel
theorem dL_law_370 : decode cL_law 370 = .ok (.aload_n 1, 1) := by decide +kernel
theorem dL_law_371 : decode cL_law 371 = .ok (.iload 14, 2) := by decide +kernel
theorem dL_law_373 : decode cL_law 373 = .ok (.bipush 6, 2) := by decide +kernel
theorem dL_law_375 : decode cL_law 375 = .ok (.invokevirtual 147, 3) := by decide +kernel
theorem dL_law_378 : decode cL_law 378 = .ok (.aload_n 1, 1) := by decide +kernel
theorem dL_law_379 : decode cL_law 379 = .ok (.iload 14, 2) := by decide +kernel
theorem dL_law_381 : decode cL_law 381 = .ok (.bipush 7, 2) := by decide +kernel
theorem dL_law_383 : decode cL_law 383 = .ok (.invokevirtual 147, 3) := by decide +kernel
theorem dL_law_386 : decode cL_law 386 = .ok (.if_icmp .gt 14, 3) := by decide +kernel
theorem dL_law_389 : decode cL_law 389 = .ok (.aload_n 1, 1) := by decide +kernel
theorem dL_law_390 : decode cL_law 390 = .ok (.iload 14, 2) := by decide +kernel
theorem dL_law_392 : decode cL_law 392 = .ok (.bipush 12, 2) := by decide +kernel
theorem dL_law_394 : decode cL_law 394 = .ok (.invokevirtual 147, 3) := by decide +kernel
theorem dL_law_397 : decode cL_law 397 = .ok (.ifCond .ge 5, 3) := by decide +kernel
theorem dL_law_400 : decode cL_law 400 = .ok (.iconst 0, 1) := by decide +kernel
theorem dL_law_401 : decode cL_law 401 = .ok (.ireturn, 1) := by decide +kernel
theorem dL_law_402 : decode cL_law 402 = .ok (.iload 10, 2) := by decide +kernel
theorem dL_law_404 : decode cL_law 404 = .ok (.aload_n 1, 1) := by decide +kernel
theorem dL_law_405 : decode cL_law 405 = .ok (.iload 14, 2) := by decide +kernel
theorem dL_law_407 : decode cL_law 407 = .ok (.bipush 6, 2) := by decide +kernel
theorem dL_law_409 : decode cL_law 409 = .ok (.invokevirtual 147, 3) := by decide +kernel
theorem dL_law_412 : decode cL_law 412 = .ok (.iadd, 1) := by decide +kernel
theorem dL_law_413 : decode cL_law 413 = .ok (.istore 10, 2) := by decide +kernel
theorem dL_law_415 : decode cL_law 415 = .ok (.iload 11, 2) := by decide +kernel
theorem dL_law_417 : decode cL_law 417 = .ok (.aload_n 1, 1) := by decide +kernel
theorem dL_law_418 : decode cL_law 418 = .ok (.iload 14, 2) := by decide +kernel
theorem dL_law_420 : decode cL_law 420 = .ok (.bipush 9, 2) := by decide +kernel
theorem dL_law_422 : decode cL_law 422 = .ok (.invokevirtual 147, 3) := by decide +kernel
theorem dL_law_425 : decode cL_law 425 = .ok (.iadd, 1) := by decide +kernel
theorem dL_law_426 : decode cL_law 426 = .ok (.istore 11, 2) := by decide +kernel
theorem dL_law_428 : decode cL_law 428 = .ok (.iload 12, 2) := by decide +kernel
theorem dL_law_430 : decode cL_law 430 = .ok (.aload_n 1, 1) := by decide +kernel
theorem dL_law_431 : decode cL_law 431 = .ok (.iload 14, 2) := by decide +kernel
theorem dL_law_433 : decode cL_law 433 = .ok (.bipush 10, 2) := by decide +kernel
theorem dL_law_435 : decode cL_law 435 = .ok (.invokevirtual 147, 3) := by decide +kernel
theorem dL_law_438 : decode cL_law 438 = .ok (.iadd, 1) := by decide +kernel
theorem dL_law_439 : decode cL_law 439 = .ok (.istore 12, 2) := by decide +kernel
theorem dL_law_441 : decode cL_law 441 = .ok (.iload 13, 2) := by decide +kernel
theorem dL_law_443 : decode cL_law 443 = .ok (.aload_n 1, 1) := by decide +kernel
theorem dL_law_444 : decode cL_law 444 = .ok (.iload 14, 2) := by decide +kernel
theorem dL_law_446 : decode cL_law 446 = .ok (.bipush 11, 2) := by decide +kernel
theorem dL_law_448 : decode cL_law 448 = .ok (.invokevirtual 147, 3) := by decide +kernel
theorem dL_law_451 : decode cL_law 451 = .ok (.iadd, 1) := by decide +kernel
theorem dL_law_452 : decode cL_law 452 = .ok (.istore 13, 2) := by decide +kernel
theorem dL_law_454 : decode cL_law 454 = .ok (.iconst 0, 1) := by decide +kernel
theorem dL_law_455 : decode cL_law 455 = .ok (.istore 16, 2) := by decide +kernel
theorem dL_law_457 : decode cL_law 457 = .ok (.iload 16, 2) := by decide +kernel
theorem dL_law_459 : decode cL_law 459 = .ok (.aload_n 1, 1) := by decide +kernel
theorem dL_law_460 : decode cL_law 460 = .ok (.iload 14, 2) := by decide +kernel
theorem dL_law_462 : decode cL_law 462 = .ok (.bipush 6, 2) := by decide +kernel
theorem dL_law_464 : decode cL_law 464 = .ok (.invokevirtual 147, 3) := by decide +kernel
theorem dL_law_467 : decode cL_law 467 = .ok (.if_icmp .ge 53, 3) := by decide +kernel
theorem dL_law_470 : decode cL_law 470 = .ok (.aload_n 1, 1) := by decide +kernel
theorem dL_law_471 : decode cL_law 471 = .ok (.iload 14, 2) := by decide +kernel
theorem dL_law_473 : decode cL_law 473 = .ok (.iload 16, 2) := by decide +kernel
theorem dL_law_475 : decode cL_law 475 = .ok (.invokevirtual 155, 3) := by decide +kernel
theorem dL_law_478 : decode cL_law 478 = .ok (.aload_n 1, 1) := by decide +kernel
theorem dL_law_479 : decode cL_law 479 = .ok (.iconst 0, 1) := by decide +kernel
theorem dL_law_480 : decode cL_law 480 = .ok (.invokevirtual 144, 3) := by decide +kernel
theorem dL_law_483 : decode cL_law 483 = .ok (.if_icmp .ge 29, 3) := by decide +kernel
theorem dL_law_486 : decode cL_law 486 = .ok (.iload 16, 2) := by decide +kernel
theorem dL_law_488 : decode cL_law 488 = .ok (.ifCond .le 26, 3) := by decide +kernel
theorem dL_law_491 : decode cL_law 491 = .ok (.aload_n 1, 1) := by decide +kernel
theorem dL_law_492 : decode cL_law 492 = .ok (.iload 14, 2) := by decide +kernel
theorem dL_law_494 : decode cL_law 494 = .ok (.iload 16, 2) := by decide +kernel
theorem dL_law_496 : decode cL_law 496 = .ok (.invokevirtual 155, 3) := by decide +kernel
theorem dL_law_499 : decode cL_law 499 = .ok (.aload_n 1, 1) := by decide +kernel
theorem dL_law_500 : decode cL_law 500 = .ok (.iload 14, 2) := by decide +kernel
theorem dL_law_502 : decode cL_law 502 = .ok (.iload 16, 2) := by decide +kernel
theorem dL_law_504 : decode cL_law 504 = .ok (.iconst 1, 1) := by decide +kernel
theorem dL_law_505 : decode cL_law 505 = .ok (.isub, 1) := by decide +kernel
theorem dL_law_506 : decode cL_law 506 = .ok (.invokevirtual 155, 3) := by decide +kernel
theorem dL_law_509 : decode cL_law 509 = .ok (.if_icmp .ge 5, 3) := by decide +kernel
theorem dL_law_512 : decode cL_law 512 = .ok (.iconst 0, 1) := by decide +kernel
theorem dL_law_513 : decode cL_law 513 = .ok (.ireturn, 1) := by decide +kernel
theorem dL_law_514 : decode cL_law 514 = .ok (.iinc 16 1, 3) := by decide +kernel
theorem dL_law_517 : decode cL_law 517 = .ok (.goto (-60), 3) := by decide +kernel
theorem dL_law_520 : decode cL_law 520 = .ok (.iconst 0, 1) := by decide +kernel
theorem dL_law_521 : decode cL_law 521 = .ok (.istore 16, 2) := by decide +kernel
theorem dL_law_523 : decode cL_law 523 = .ok (.iconst 0, 1) := by decide +kernel
theorem dL_law_524 : decode cL_law 524 = .ok (.istore 17, 2) := by decide +kernel
theorem dL_law_526 : decode cL_law 526 = .ok (.iload 17, 2) := by decide +kernel
theorem dL_law_528 : decode cL_law 528 = .ok (.iload 5, 2) := by decide +kernel
theorem dL_law_530 : decode cL_law 530 = .ok (.if_icmp .ge 41, 3) := by decide +kernel
theorem dL_law_533 : decode cL_law 533 = .ok (.aload_n 1, 1) := by decide +kernel
theorem dL_law_534 : decode cL_law 534 = .ok (.iload 17, 2) := by decide +kernel
theorem dL_law_536 : decode cL_law 536 = .ok (.iload 14, 2) := by decide +kernel
theorem dL_law_538 : decode cL_law 538 = .ok (.invokevirtual 158, 3) := by decide +kernel
theorem dL_law_541 : decode cL_law 541 = .ok (.iload 14, 2) := by decide +kernel
theorem dL_law_543 : decode cL_law 543 = .ok (.if_icmp .ne 22, 3) := by decide +kernel
theorem dL_law_546 : decode cL_law 546 = .ok (.iload 16, 2) := by decide +kernel
theorem dL_law_548 : decode cL_law 548 = .ok (.aload_n 1, 1) := by decide +kernel
theorem dL_law_549 : decode cL_law 549 = .ok (.iload 17, 2) := by decide +kernel
theorem dL_law_551 : decode cL_law 551 = .ok (.bipush 8, 2) := by decide +kernel
theorem dL_law_553 : decode cL_law 553 = .ok (.invokevirtual 147, 3) := by decide +kernel
theorem dL_law_556 : decode cL_law 556 = .ok (.aload 6, 2) := by decide +kernel
theorem dL_law_558 : decode cL_law 558 = .ok (.iload 17, 2) := by decide +kernel
theorem dL_law_560 : decode cL_law 560 = .ok (.iaload, 1) := by decide +kernel
theorem dL_law_561 : decode cL_law 561 = .ok (.isub, 1) := by decide +kernel
theorem dL_law_562 : decode cL_law 562 = .ok (.iadd, 1) := by decide +kernel
theorem dL_law_563 : decode cL_law 563 = .ok (.istore 16, 2) := by decide +kernel
theorem dL_law_565 : decode cL_law 565 = .ok (.iinc 17 1, 3) := by decide +kernel
theorem dL_law_568 : decode cL_law 568 = .ok (.goto (-42), 3) := by decide +kernel
theorem dL_law_571 : decode cL_law 571 = .ok (.iload 16, 2) := by decide +kernel
theorem dL_law_573 : decode cL_law 573 = .ok (.aload_n 1, 1) := by decide +kernel
theorem dL_law_574 : decode cL_law 574 = .ok (.iload 14, 2) := by decide +kernel
theorem dL_law_576 : decode cL_law 576 = .ok (.iconst 2, 1) := by decide +kernel
theorem dL_law_577 : decode cL_law 577 = .ok (.invokevirtual 147, 3) := by decide +kernel
theorem dL_law_580 : decode cL_law 580 = .ok (.if_icmp .le 5, 3) := by decide +kernel
theorem dL_law_583 : decode cL_law 583 = .ok (.iconst 0, 1) := by decide +kernel
theorem dL_law_584 : decode cL_law 584 = .ok (.ireturn, 1) := by decide +kernel
theorem dL_law_585 : decode cL_law 585 = .ok (.aload_n 1, 1) := by decide +kernel
theorem dL_law_586 : decode cL_law 586 = .ok (.iload 14, 2) := by decide +kernel
theorem dL_law_588 : decode cL_law 588 = .ok (.invokevirtual 161, 3) := by decide +kernel
theorem dL_law_591 : decode cL_law 591 = .ok (.istore 17, 2) := by decide +kernel
theorem dL_law_593 : decode cL_law 593 = .ok (.iload 17, 2) := by decide +kernel
theorem dL_law_595 : decode cL_law 595 = .ok (.ifCond .lt 29, 3) := by decide +kernel
theorem dL_law_598 : decode cL_law 598 = .ok (.aload_n 1, 1) := by decide +kernel
theorem dL_law_599 : decode cL_law 599 = .ok (.iload 17, 2) := by decide +kernel
theorem dL_law_601 : decode cL_law 601 = .ok (.iconst 5, 1) := by decide +kernel
theorem dL_law_602 : decode cL_law 602 = .ok (.invokevirtual 147, 3) := by decide +kernel
theorem dL_law_605 : decode cL_law 605 = .ok (.iconst 1, 1) := by decide +kernel
theorem dL_law_606 : decode cL_law 606 = .ok (.if_icmp .lt 16, 3) := by decide +kernel
theorem dL_law_609 : decode cL_law 609 = .ok (.aload_n 1, 1) := by decide +kernel
theorem dL_law_610 : decode cL_law 610 = .ok (.iload 14, 2) := by decide +kernel
theorem dL_law_612 : decode cL_law 612 = .ok (.iload 17, 2) := by decide +kernel
theorem dL_law_614 : decode cL_law 614 = .ok (.invokevirtual 158, 3) := by decide +kernel
theorem dL_law_617 : decode cL_law 617 = .ok (.iload 17, 2) := by decide +kernel
theorem dL_law_619 : decode cL_law 619 = .ok (.if_icmp .eq 5, 3) := by decide +kernel
theorem dL_law_622 : decode cL_law 622 = .ok (.iconst 0, 1) := by decide +kernel
theorem dL_law_623 : decode cL_law 623 = .ok (.ireturn, 1) := by decide +kernel
theorem dL_law_624 : decode cL_law 624 = .ok (.aload_n 1, 1) := by decide +kernel
theorem dL_law_625 : decode cL_law 625 = .ok (.bipush 11, 2) := by decide +kernel
theorem dL_law_627 : decode cL_law 627 = .ok (.invokevirtual 144, 3) := by decide +kernel
theorem dL_law_630 : decode cL_law 630 = .ok (.ifCond .le 49, 3) := by decide +kernel
theorem dL_law_633 : decode cL_law 633 = .ok (.aload_n 1, 1) := by decide +kernel
theorem dL_law_634 : decode cL_law 634 = .ok (.iload 14, 2) := by decide +kernel
theorem dL_law_636 : decode cL_law 636 = .ok (.bipush 6, 2) := by decide +kernel
theorem dL_law_638 : decode cL_law 638 = .ok (.invokevirtual 147, 3) := by decide +kernel
theorem dL_law_641 : decode cL_law 641 = .ok (.ifCond .le 38, 3) := by decide +kernel
theorem dL_law_644 : decode cL_law 644 = .ok (.iload 17, 2) := by decide +kernel
theorem dL_law_646 : decode cL_law 646 = .ok (.iload 14, 2) := by decide +kernel
theorem dL_law_648 : decode cL_law 648 = .ok (.if_icmp .ne 31, 3) := by decide +kernel
theorem dL_law_651 : decode cL_law 651 = .ok (.iload 15, 2) := by decide +kernel
theorem dL_law_653 : decode cL_law 653 = .ok (.ifCond .ge 26, 3) := by decide +kernel
theorem dL_law_656 : decode cL_law 656 = .ok (.iload 16, 2) := by decide +kernel
theorem dL_law_658 : decode cL_law 658 = .ok (.aload_n 1, 1) := by decide +kernel
theorem dL_law_659 : decode cL_law 659 = .ok (.iload 14, 2) := by decide +kernel
theorem dL_law_661 : decode cL_law 661 = .ok (.iconst 2, 1) := by decide +kernel
theorem dL_law_662 : decode cL_law 662 = .ok (.invokevirtual 147, 3) := by decide +kernel
theorem dL_law_665 : decode cL_law 665 = .ok (.if_icmp .ge 14, 3) := by decide +kernel
theorem dL_law_668 : decode cL_law 668 = .ok (.aload_n 2, 1) := by decide +kernel
theorem dL_law_669 : decode cL_law 669 = .ok (.iload 14, 2) := by decide +kernel
theorem dL_law_671 : decode cL_law 671 = .ok (.invokestatic 164, 3) := by decide +kernel
theorem dL_law_674 : decode cL_law 674 = .ok (.ifCond .ne 5, 3) := by decide +kernel
theorem dL_law_677 : decode cL_law 677 = .ok (.iconst 0, 1) := by decide +kernel
theorem dL_law_678 : decode cL_law 678 = .ok (.ireturn, 1) := by decide +kernel
theorem dL_law_679 : decode cL_law 679 = .ok (.iinc 14 1, 3) := by decide +kernel
theorem dL_law_682 : decode cL_law 682 = .ok (.goto (-373), 3) := by decide +kernel
theorem dL_law_685 : decode cL_law 685 = .ok (.iload 10, 2) := by decide +kernel
theorem dL_law_687 : decode cL_law 687 = .ok (.aload_n 1, 1) := by decide +kernel
theorem dL_law_688 : decode cL_law 688 = .ok (.iconst 5, 1) := by decide +kernel
theorem dL_law_689 : decode cL_law 689 = .ok (.invokevirtual 144, 3) := by decide +kernel
theorem dL_law_692 : decode cL_law 692 = .ok (.if_icmp .ne 32, 3) := by decide +kernel
theorem dL_law_695 : decode cL_law 695 = .ok (.iload 11, 2) := by decide +kernel
theorem dL_law_697 : decode cL_law 697 = .ok (.aload_n 1, 1) := by decide +kernel
theorem dL_law_698 : decode cL_law 698 = .ok (.bipush 8, 2) := by decide +kernel
theorem dL_law_700 : decode cL_law 700 = .ok (.invokevirtual 144, 3) := by decide +kernel
theorem dL_law_703 : decode cL_law 703 = .ok (.if_icmp .ne 21, 3) := by decide +kernel
theorem dL_law_706 : decode cL_law 706 = .ok (.iload 12, 2) := by decide +kernel
theorem dL_law_708 : decode cL_law 708 = .ok (.iload 13, 2) := by decide +kernel
theorem dL_law_710 : decode cL_law 710 = .ok (.if_icmp .ne 14, 3) := by decide +kernel
theorem dL_law_713 : decode cL_law 713 = .ok (.iload 13, 2) := by decide +kernel
theorem dL_law_715 : decode cL_law 715 = .ok (.aload_n 1, 1) := by decide +kernel
theorem dL_law_716 : decode cL_law 716 = .ok (.bipush 9, 2) := by decide +kernel
theorem dL_law_718 : decode cL_law 718 = .ok (.invokevirtual 144, 3) := by decide +kernel
theorem dL_law_721 : decode cL_law 721 = .ok (.if_icmp .eq 5, 3) := by decide +kernel
theorem dL_law_724 : decode cL_law 724 = .ok (.iconst 0, 1) := by decide +kernel
theorem dL_law_725 : decode cL_law 725 = .ok (.ireturn, 1) := by decide +kernel
theorem dL_law_726 : decode cL_law 726 = .ok (.iinc 3 1, 3) := by decide +kernel
theorem dL_law_729 : decode cL_law 729 = .ok (.goto (-701), 3) := by decide +kernel
theorem dL_law_732 : decode cL_law 732 = .ok (.aload_n 2, 1) := by decide +kernel
theorem dL_law_733 : decode cL_law 733 = .ok (.aload_n 1, 1) := by decide +kernel
theorem dL_law_734 : decode cL_law 734 = .ok (.invokevirtual 168, 3) := by decide +kernel
theorem dL_law_737 : decode cL_law 737 = .ok (.ireturn, 1) := by decide +kernel
abbrev m_L_law (nm : String) : Mt := (cL_law, RL, nm, 18, .ireturn, 32)
def f_L_law_b514 (N : Nat) (z : Nat → Nat) (k28 : Option Nat → Option Nat → Option Nat → Int32 → Hp → Option (Int32 × Hp)) (k309 : Option Nat → Option Nat → Option Nat → Int32 → Int32 → Option Nat → Int32 → Int32 → Int32 → Int32 → Int32 → Hp → Option (Int32 × Hp)) (k457 : Option Nat → Option Nat → Option Nat → Int32 → Int32 → Option Nat → Int32 → Int32 → Int32 → Int32 → Int32 → Int32 → Int32 → Hp → Option (Int32 × Hp)) (v0 : Option Nat) (v1 : Option Nat) (v2 : Option Nat) (v3 : Int32) (v5 : Int32) (v6 : Option Nat) (v10 : Int32) (v11 : Int32) (v12 : Int32) (v13 : Int32) (v14 : Int32) (v15 : Int32) (v16 : Int32) (x0 : Hp) : Option (Int32 × Hp) :=
  k457 v0 v1 v2 v3 v5 v6 v10 v11 v12 v13 v14 v15 (v16 + (1 : Int32)) x0
def f_L_law_b565 (N : Nat) (z : Nat → Nat) (k28 : Option Nat → Option Nat → Option Nat → Int32 → Hp → Option (Int32 × Hp)) (k309 : Option Nat → Option Nat → Option Nat → Int32 → Int32 → Option Nat → Int32 → Int32 → Int32 → Int32 → Int32 → Hp → Option (Int32 × Hp)) (k526 : Option Nat → Option Nat → Option Nat → Int32 → Int32 → Option Nat → Int32 → Int32 → Int32 → Int32 → Int32 → Int32 → Int32 → Int32 → Hp → Option (Int32 × Hp)) (v0 : Option Nat) (v1 : Option Nat) (v2 : Option Nat) (v3 : Int32) (v5 : Int32) (v6 : Option Nat) (v10 : Int32) (v11 : Int32) (v12 : Int32) (v13 : Int32) (v14 : Int32) (v15 : Int32) (v16 : Int32) (v17 : Int32) (x0 : Hp) : Option (Int32 × Hp) :=
  k526 v0 v1 v2 v3 v5 v6 v10 v11 v12 v13 v14 v15 v16 (v17 + (1 : Int32)) x0
def f_L_law_b679 (N : Nat) (z : Nat → Nat) (k28 : Option Nat → Option Nat → Option Nat → Int32 → Hp → Option (Int32 × Hp)) (k309 : Option Nat → Option Nat → Option Nat → Int32 → Int32 → Option Nat → Int32 → Int32 → Int32 → Int32 → Int32 → Hp → Option (Int32 × Hp)) (v0 : Option Nat) (v1 : Option Nat) (v2 : Option Nat) (v3 : Int32) (v5 : Int32) (v6 : Option Nat) (v10 : Int32) (v11 : Int32) (v12 : Int32) (v13 : Int32) (v14 : Int32) (x0 : Hp) : Option (Int32 × Hp) :=
  k309 v0 v1 v2 v3 v5 v6 v10 v11 v12 v13 (v14 + (1 : Int32)) x0
def f_L_law_b624 (N : Nat) (z : Nat → Nat) (k28 : Option Nat → Option Nat → Option Nat → Int32 → Hp → Option (Int32 × Hp)) (k309 : Option Nat → Option Nat → Option Nat → Int32 → Int32 → Option Nat → Int32 → Int32 → Int32 → Int32 → Int32 → Hp → Option (Int32 × Hp)) (v0 : Option Nat) (v1 : Option Nat) (v2 : Option Nat) (v3 : Int32) (v5 : Int32) (v6 : Option Nat) (v10 : Int32) (v11 : Int32) (v12 : Int32) (v13 : Int32) (v14 : Int32) (v15 : Int32) (v16 : Int32) (v17 : Int32) (x0 : Hp) : Option (Int32 × Hp) :=
  obj v1 x0 13 fun q3 => bnd (f_X10_count N z q3 (11 : Int32) x0) fun i2 x1 =>
  if i2 ≤ 0 then (f_L_law_b679 N z k28 k309 v0 v1 v2 v3 v5 v6 v10 v11 v12 v13 v14 x1) else (obj v1 x1 13 fun q6 => bnd (f_X10_lane N z q6 v14 (6 : Int32) x1) fun i5 x4 =>
  if i5 ≤ 0 then (f_L_law_b679 N z k28 k309 v0 v1 v2 v3 v5 v6 v10 v11 v12 v13 v14 x4) else (if v17 = v14 then (if 0 ≤ v15 then (f_L_law_b679 N z k28 k309 v0 v1 v2 v3 v5 v6 v10 v11 v12 v13 v14 x4) else (obj v1 x4 13 fun q9 => bnd (f_X10_lane N z q9 v14 (2 : Int32) x4) fun i8 x7 =>
  if i8 ≤ v16 then (f_L_law_b679 N z k28 k309 v0 v1 v2 v3 v5 v6 v10 v11 v12 v13 v14 x7) else (bnd (f_L_hasShut N z v2 v14 x7) fun i11 x10 =>
  if i11 = 0 then (some ((0 : Int32), x10)) else (f_L_law_b679 N z k28 k309 v0 v1 v2 v3 v5 v6 v10 v11 v12 v13 v14 x10)))) else (f_L_law_b679 N z k28 k309 v0 v1 v2 v3 v5 v6 v10 v11 v12 v13 v14 x4)))
def f_L_law_b526 (N : Nat) (z : Nat → Nat) (k28 : Option Nat → Option Nat → Option Nat → Int32 → Hp → Option (Int32 × Hp)) (k309 : Option Nat → Option Nat → Option Nat → Int32 → Int32 → Option Nat → Int32 → Int32 → Int32 → Int32 → Int32 → Hp → Option (Int32 × Hp)) : Nat → Option Nat → Option Nat → Option Nat → Int32 → Int32 → Option Nat → Int32 → Int32 → Int32 → Int32 → Int32 → Int32 → Int32 → Int32 → Hp → Option (Int32 × Hp)
  | 0, _, _, _, _, _, _, _, _, _, _, _, _, _, _, _ => none
  | n + 1, v0, v1, v2, v3, v5, v6, v10, v11, v12, v13, v14, v15, v16, v17, x0 => if v5 ≤ v17 then (obj v1 x0 13 fun q14 => bnd (f_X10_lane N z q14 v14 (2 : Int32) x0) fun i13 x12 =>
  if v16 ≤ i13 then (obj v1 x12 13 fun q17 => bnd (f_X10_lender N z q17 v14 x12) fun i16 x15 =>
  if i16 < 0 then (f_L_law_b624 N z k28 k309 v0 v1 v2 v3 v5 v6 v10 v11 v12 v13 v14 v15 v16 i16 x15) else (obj v1 x15 13 fun q20 => bnd (f_X10_lane N z q20 i16 (5 : Int32) x15) fun i19 x18 =>
  if i19 < (1 : Int32) then (some ((0 : Int32), x18)) else (obj v1 x18 13 fun q23 => bnd (f_X10_common N z q23 v14 i16 x18) fun i22 x21 =>
  if i22 = i16 then (f_L_law_b624 N z k28 k309 v0 v1 v2 v3 v5 v6 v10 v11 v12 v13 v14 v15 v16 i16 x21) else (some ((0 : Int32), x21))))) else (some ((0 : Int32), x12))) else (obj v1 x0 13 fun q26 => bnd (f_X10_common N z q26 v17 v14 x0) fun i25 x24 =>
  if i25 = v14 then (obj v1 x24 13 fun q29 => bnd (f_X10_lane N z q29 v17 (8 : Int32) x24) fun i28 x27 =>
  aldi v6 x27 101 v17 fun i30 =>
  f_L_law_b565 N z k28 k309 (f_L_law_b526 N z k28 k309 n) v0 v1 v2 v3 v5 v6 v10 v11 v12 v13 v14 v15 (v16 + (i28 - i30)) v17 x27) else (f_L_law_b565 N z k28 k309 (f_L_law_b526 N z k28 k309 n) v0 v1 v2 v3 v5 v6 v10 v11 v12 v13 v14 v15 v16 v17 x24))
def f_L_law_b457 (N : Nat) (z : Nat → Nat) (k28 : Option Nat → Option Nat → Option Nat → Int32 → Hp → Option (Int32 × Hp)) (k309 : Option Nat → Option Nat → Option Nat → Int32 → Int32 → Option Nat → Int32 → Int32 → Int32 → Int32 → Int32 → Hp → Option (Int32 × Hp)) : Nat → Option Nat → Option Nat → Option Nat → Int32 → Int32 → Option Nat → Int32 → Int32 → Int32 → Int32 → Int32 → Int32 → Int32 → Hp → Option (Int32 × Hp)
  | 0, _, _, _, _, _, _, _, _, _, _, _, _, _, _ => none
  | n + 1, v0, v1, v2, v3, v5, v6, v10, v11, v12, v13, v14, v15, v16, x0 => obj v1 x0 13 fun q33 => bnd (f_X10_lane N z q33 v14 (6 : Int32) x0) fun i32 x31 =>
  if i32 ≤ v16 then (f_L_law_b526 N z k28 k309 N v0 v1 v2 v3 v5 v6 v10 v11 v12 v13 v14 v15 (0 : Int32) (0 : Int32) x31) else (obj v1 x31 13 fun q36 => bnd (f_X10_pail N z q36 v14 v16 x31) fun i35 x34 =>
  obj v1 x34 13 fun q39 => bnd (f_X10_count N z q39 (0 : Int32) x34) fun i38 x37 =>
  if i38 ≤ i35 then (some ((0 : Int32), x37)) else (if v16 ≤ 0 then (f_L_law_b514 N z k28 k309 (f_L_law_b457 N z k28 k309 n) v0 v1 v2 v3 v5 v6 v10 v11 v12 v13 v14 v15 v16 x37) else (obj v1 x37 13 fun q42 => bnd (f_X10_pail N z q42 v14 v16 x37) fun i41 x40 =>
  obj v1 x40 13 fun q45 => bnd (f_X10_pail N z q45 v14 (v16 - (1 : Int32)) x40) fun i44 x43 =>
  if i44 ≤ i41 then (f_L_law_b514 N z k28 k309 (f_L_law_b457 N z k28 k309 n) v0 v1 v2 v3 v5 v6 v10 v11 v12 v13 v14 v15 v16 x43) else (some ((0 : Int32), x43)))))
def f_L_law_b309 (N : Nat) (z : Nat → Nat) (k28 : Option Nat → Option Nat → Option Nat → Int32 → Hp → Option (Int32 × Hp)) : Nat → Option Nat → Option Nat → Option Nat → Int32 → Int32 → Option Nat → Int32 → Int32 → Int32 → Int32 → Int32 → Hp → Option (Int32 × Hp)
  | 0, _, _, _, _, _, _, _, _, _, _, _, _ => none
  | n + 1, v0, v1, v2, v3, v5, v6, v10, v11, v12, v13, v14, x0 => if v5 ≤ v14 then (obj v1 x0 13 fun q48 => bnd (f_X10_count N z q48 (5 : Int32) x0) fun i47 x46 =>
  if v10 = i47 then (obj v1 x46 13 fun q51 => bnd (f_X10_count N z q51 (8 : Int32) x46) fun i50 x49 =>
  if v11 = i50 then (if v12 = v13 then (obj v1 x49 13 fun q54 => bnd (f_X10_count N z q54 (9 : Int32) x49) fun i53 x52 =>
  if v13 = i53 then (k28 v0 v1 v2 (v3 + (1 : Int32)) x52) else (some ((0 : Int32), x52))) else (some ((0 : Int32), x49))) else (some ((0 : Int32), x49))) else (some ((0 : Int32), x46))) else (obj v1 x0 13 fun q57 => bnd (f_X10_lane N z q57 v14 (0 : Int32) x0) fun i56 x55 =>
  if v14 ≤ i56 then (some ((0 : Int32), x55)) else (obj v1 x55 13 fun q60 => bnd (f_X10_lane N z q60 v14 (5 : Int32) x55) fun i59 x58 =>
  if i59 < 0 then (some ((0 : Int32), x58)) else (obj v1 x58 13 fun q63 => bnd (f_X10_lane N z q63 v14 (5 : Int32) x58) fun i62 x61 =>
  obj v1 x61 13 fun q66 => bnd (f_X10_lane N z q66 v14 (3 : Int32) x61) fun i65 x64 =>
  if i65 < i62 then (some ((0 : Int32), x64)) else (obj v1 x64 13 fun q69 => bnd (f_X10_lane N z q69 v14 (6 : Int32) x64) fun i68 x67 =>
  if i68 < 0 then (some ((0 : Int32), x67)) else (obj v1 x67 13 fun q72 => bnd (f_X10_lane N z q72 v14 (6 : Int32) x67) fun i71 x70 =>
  obj v1 x70 13 fun q75 => bnd (f_X10_lane N z q75 v14 (7 : Int32) x70) fun i74 x73 =>
  if i74 < i71 then (some ((0 : Int32), x73)) else (obj v1 x73 13 fun q78 => bnd (f_X10_lane N z q78 v14 (12 : Int32) x73) fun i77 x76 =>
  if 0 ≤ i77 then (obj v1 x76 13 fun q81 => bnd (f_X10_lane N z q81 v14 (6 : Int32) x76) fun i80 x79 =>
  obj v1 x79 13 fun q84 => bnd (f_X10_lane N z q84 v14 (9 : Int32) x79) fun i83 x82 =>
  obj v1 x82 13 fun q87 => bnd (f_X10_lane N z q87 v14 (10 : Int32) x82) fun i86 x85 =>
  obj v1 x85 13 fun q90 => bnd (f_X10_lane N z q90 v14 (11 : Int32) x85) fun i89 x88 =>
  f_L_law_b457 N z k28 (f_L_law_b309 N z k28 n) N v0 v1 v2 v3 v5 v6 (v10 + i80) (v11 + i83) (v12 + i86) (v13 + i89) v14 i56 (0 : Int32) x88) else (some ((0 : Int32), x76))))))))
def f_L_law_b194 (N : Nat) (z : Nat → Nat) (k28 : Option Nat → Option Nat → Option Nat → Int32 → Hp → Option (Int32 × Hp)) : Nat → Option Nat → Option Nat → Option Nat → Int32 → Int32 → Option Nat → Option Nat → Int32 → Int32 → Int32 → Hp → Option (Int32 × Hp)
  | 0, _, _, _, _, _, _, _, _, _, _, _ => none
  | n + 1, v0, v1, v2, v3, v5, v6, v7, v8, v9, v10, x0 => if (12 : Int32) ≤ v10 then (obj v1 x0 13 fun q93 => bnd (f_X10_count N z q93 (7 : Int32) x0) fun i92 x91 =>
  if i92 = (v8 + v9) then (obj v1 x91 13 fun q96 => bnd (f_X10_count N z q96 (1 : Int32) x91) fun i95 x94 =>
  if i95 < v9 then (some ((0 : Int32), x94)) else (obj v1 x94 13 fun q99 => bnd (f_X10_count N z q99 (11 : Int32) x94) fun i98 x97 =>
  obj v1 x97 13 fun q102 => bnd (f_X10_count N z q102 (1 : Int32) x97) fun i101 x100 =>
  if i98 = (i101 - v9) then (obj v1 x100 13 fun q105 => bnd (f_X10_count N z q105 (6 : Int32) x100) fun i104 x103 =>
  obj v1 x103 13 fun q108 => bnd (f_X10_count N z q108 (5 : Int32) x103) fun i107 x106 =>
  obj v1 x106 13 fun q111 => bnd (f_X10_count N z q111 (7 : Int32) x106) fun i110 x109 =>
  obj v1 x109 13 fun q114 => bnd (f_X10_count N z q114 (8 : Int32) x109) fun i113 x112 =>
  if i104 = ((i107 + i110) + i113) then (f_L_law_b309 N z k28 N v0 v1 v2 v3 v5 v6 (0 : Int32) (0 : Int32) (0 : Int32) (0 : Int32) (0 : Int32) x112) else (some ((0 : Int32), x112))) else (some ((0 : Int32), x100)))) else (some ((0 : Int32), x91))) else (obj v1 x0 13 fun q117 => bnd (f_X10_count N z q117 v10 x0) fun i116 x115 =>
  aldi v7 x115 101 v10 fun i118 =>
  if i116 = i118 then (f_L_law_b194 N z k28 n v0 v1 v2 v3 v5 v6 v7 v8 v9 (v10 + (1 : Int32)) x115) else (some ((0 : Int32), x115)))
def f_L_law_b147 (N : Nat) (z : Nat → Nat) (k28 : Option Nat → Option Nat → Option Nat → Int32 → Hp → Option (Int32 × Hp)) : Nat → Option Nat → Option Nat → Option Nat → Int32 → Int32 → Option Nat → Option Nat → Int32 → Hp → Option (Int32 × Hp)
  | 0, _, _, _, _, _, _, _, _, _ => none
  | n + 1, v0, v1, v2, v3, v5, v6, v7, v8, x0 => if (12 : Int32) ≤ v8 then (obj v1 x0 13 fun q121 => bnd (f_X10_count N z q121 (7 : Int32) x0) fun i120 x119 =>
  obj v1 x119 13 fun q124 => bnd (f_X10_pass N z q124 (1 : Int32) x119) fun i123 x122 =>
  obj v2 x122 15 fun q126 => bnd (f_X12_pass N z q126 x122) fun _ x125 =>
  f_L_law_b194 N z k28 N v0 v1 v2 v3 v5 v6 v7 i120 i123 (5 : Int32) x125) else (obj v1 x0 13 fun q129 => bnd (f_X10_foresee N z q129 (1 : Int32) v8 x0) fun i128 x127 =>
  asti v7 x127 101 v8 i128 fun x130 =>
  f_L_law_b147 N z k28 n v0 v1 v2 v3 v5 v6 v7 (v8 + (1 : Int32)) x130)
def f_L_law_b112 (N : Nat) (z : Nat → Nat) (k28 : Option Nat → Option Nat → Option Nat → Int32 → Hp → Option (Int32 × Hp)) : Nat → Option Nat → Option Nat → Option Nat → Int32 → Int32 → Option Nat → Int32 → Hp → Option (Int32 × Hp)
  | 0, _, _, _, _, _, _, _, _ => none
  | n + 1, v0, v1, v2, v3, v5, v6, v7, x0 => if v5 ≤ v7 then (newa x0 101 (12 : Int32) fun r131 x132 =>
  f_L_law_b147 N z k28 N v0 v1 v2 v3 v5 v6 r131 (5 : Int32) x132) else (obj v1 x0 13 fun q135 => bnd (f_X10_lane N z q135 v7 (8 : Int32) x0) fun i134 x133 =>
  asti v6 x133 101 v7 i134 fun x136 =>
  f_L_law_b112 N z k28 n v0 v1 v2 v3 v5 v6 (v7 + (1 : Int32)) x136)
def f_L_law_b60 (N : Nat) (z : Nat → Nat) (k28 : Option Nat → Option Nat → Option Nat → Int32 → Hp → Option (Int32 × Hp)) : Nat → Option Nat → Option Nat → Option Nat → Int32 → Int32 → Int32 → Hp → Option (Int32 × Hp)
  | 0, _, _, _, _, _, _, _ => none
  | n + 1, v0, v1, v2, v3, v4, v5, x0 => if (2 : Int32) ≤ v5 then (obj v1 x0 13 fun q139 => bnd (f_X10_count N z q139 (2 : Int32) x0) fun i138 x137 =>
  newa x137 101 i138 fun r140 x141 =>
  f_L_law_b112 N z k28 N v0 v1 v2 v3 i138 r140 (0 : Int32) x141) else (bnd (f_L_act N z v1 v2 ((v4 >>> (((2 : Int32) * v5) &&& 31)) + ((311 : Int32) * v5)) x0) fun i143 x142 =>
  if i143 = 0 then (some ((0 : Int32), x142)) else (f_L_law_b60 N z k28 n v0 v1 v2 v3 v4 (v5 + (1 : Int32)) x142))
def f_L_law_b28 (N : Nat) (z : Nat → Nat) : Nat → Option Nat → Option Nat → Option Nat → Int32 → Hp → Option (Int32 × Hp)
  | 0, _, _, _, _, _ => none
  | n + 1, v0, v1, v2, v3, x0 => if (24 : Int32) ≤ v3 then (obj v2 x0 15 fun q146 => bnd (f_X12_isSame N z q146 v1 x0) fun i145 x144 =>
  bool i145 (some (i145, x144))) else (nz (16 : Int32) <|
  bnd (f_L_cell N z v0 (v3 - v3 / (16 : Int32) * (16 : Int32)) x0) fun i148 x147 =>
  nz (16 : Int32) <|
  f_L_law_b60 N z (f_L_law_b28 N z n) N v0 v1 v2 v3 ((i148 >>> (((v3 / (16 : Int32)) * (3 : Int32)) &&& 31)) + ((421 : Int32) * v3)) (0 : Int32) x147)
def f_L_law (N : Nat) (z : Nat → Nat) (v0 : Option Nat) (x0 : Hp) : Option (Int32 × Hp) :=
  newo x0 13 5 fun r149 x150 =>
  obj r149 x150 13 fun q152 => bnd (f_X10_init N z q152 x150) fun _ x151 =>
  bnd (f_L_chosen N z v0 x151) fun r154 x153 =>
  obj r154 x153 15 fun q157 => bnd (f_X12_text N z q157 x153) fun r156 x155 =>
  bnd (f_L_say N z r149 r156 x155) fun i159 x158 =>
  if i159 = 0 then (f_L_law_b28 N z N v0 r149 r154 (0 : Int32) x158) else (some ((0 : Int32), x158))
set_option maxRecDepth 100000 in
set_option maxHeartbeats 4000000 in
theorem g_L_law_b514 (l : Launch) (N : Nat) (z : Nat → Nat) (nm : String) {k28 : Option Nat → Option Nat → Option Nat → Int32 → Hp → Option (Int32 × Hp)} (hk28 : ∀ v0 v1 v2 v3 x, G l z (m_L_law nm) okZ enI 28 [(0, va_rf v0), (1, va_rf v1), (2, va_rf v2), (3, .int v3)] [] x (k28 v0 v1 v2 v3 x)) {k309 : Option Nat → Option Nat → Option Nat → Int32 → Int32 → Option Nat → Int32 → Int32 → Int32 → Int32 → Int32 → Hp → Option (Int32 × Hp)} (hk309 : ∀ v0 v1 v2 v3 v5 v6 v10 v11 v12 v13 v14 x, G l z (m_L_law nm) okZ enI 309 [(0, va_rf v0), (1, va_rf v1), (2, va_rf v2), (3, .int v3), (5, .int v5), (6, va_rf v6), (10, .int v10), (11, .int v11), (12, .int v12), (13, .int v13), (14, .int v14)] [] x (k309 v0 v1 v2 v3 v5 v6 v10 v11 v12 v13 v14 x)) {k457 : Option Nat → Option Nat → Option Nat → Int32 → Int32 → Option Nat → Int32 → Int32 → Int32 → Int32 → Int32 → Int32 → Int32 → Hp → Option (Int32 × Hp)} (hk457 : ∀ v0 v1 v2 v3 v5 v6 v10 v11 v12 v13 v14 v15 v16 x, G l z (m_L_law nm) okZ enI 457 [(0, va_rf v0), (1, va_rf v1), (2, va_rf v2), (3, .int v3), (5, .int v5), (6, va_rf v6), (10, .int v10), (11, .int v11), (12, .int v12), (13, .int v13), (14, .int v14), (15, .int v15), (16, .int v16)] [] x (k457 v0 v1 v2 v3 v5 v6 v10 v11 v12 v13 v14 v15 v16 x)) (v0 : Option Nat) (v1 : Option Nat) (v2 : Option Nat) (v3 : Int32) (v5 : Int32) (v6 : Option Nat) (v10 : Int32) (v11 : Int32) (v12 : Int32) (v13 : Int32) (v14 : Int32) (v15 : Int32) (v16 : Int32) (x0 : Hp) : G l z (m_L_law nm) okZ enI 514 [(0, va_rf v0), (1, va_rf v1), (2, va_rf v2), (3, .int v3), (5, .int v5), (6, va_rf v6), (10, .int v10), (11, .int v11), (12, .int v12), (13, .int v13), (14, .int v14), (15, .int v15), (16, .int v16)] [] x0 (f_L_law_b514 N z k28 k309 k457 v0 v1 v2 v3 v5 v6 v10 v11 v12 v13 v14 v15 v16 x0) := by
  unfold f_L_law_b514
  refine G_iinc (i := 16) (l2 := [(0, va_rf v0), (1, va_rf v1), (2, va_rf v2), (3, .int v3), (5, .int v5), (6, va_rf v6), (10, .int v10), (11, .int v11), (12, .int v12), (13, .int v13), (14, .int v14), (15, .int v15)]) 12 [0, 1, 2, 3, 4, 5, 6, 7, 8, 9, 10, 11] dL_law_514 rfl rfl (Nat.le_of_ble_eq_true rfl) rfl (sok_a (by decide) (by decide) (sok_a (by decide) (by decide) (sok_a (by decide) (by decide) (sok_a (by decide) (by decide) (sok_a (by decide) (by decide) (sok_a (by decide) (by decide) (sok_a (by decide) (by decide) (sok_a (by decide) (by decide) (sok_a (by decide) (by decide) (sok_a (by decide) (by decide) (sok_a (by decide) (by decide) (sok_b (by decide) rfl trivial)))))))))))) ?_
  refine G_goto (tgt := 457) dL_law_517 (by decide) ?_
  refine G_lv [1, 2, 3, 4, 5, 6, 7, 8, 9, 10, 11, 12, 0] rfl ?_
  exact hk457 v0 v1 v2 v3 v5 v6 v10 v11 v12 v13 v14 v15 (v16 + (1 : Int32)) x0

set_option maxRecDepth 100000 in
set_option maxHeartbeats 4000000 in
theorem g_L_law_b565 (l : Launch) (N : Nat) (z : Nat → Nat) (nm : String) {k28 : Option Nat → Option Nat → Option Nat → Int32 → Hp → Option (Int32 × Hp)} (hk28 : ∀ v0 v1 v2 v3 x, G l z (m_L_law nm) okZ enI 28 [(0, va_rf v0), (1, va_rf v1), (2, va_rf v2), (3, .int v3)] [] x (k28 v0 v1 v2 v3 x)) {k309 : Option Nat → Option Nat → Option Nat → Int32 → Int32 → Option Nat → Int32 → Int32 → Int32 → Int32 → Int32 → Hp → Option (Int32 × Hp)} (hk309 : ∀ v0 v1 v2 v3 v5 v6 v10 v11 v12 v13 v14 x, G l z (m_L_law nm) okZ enI 309 [(0, va_rf v0), (1, va_rf v1), (2, va_rf v2), (3, .int v3), (5, .int v5), (6, va_rf v6), (10, .int v10), (11, .int v11), (12, .int v12), (13, .int v13), (14, .int v14)] [] x (k309 v0 v1 v2 v3 v5 v6 v10 v11 v12 v13 v14 x)) {k526 : Option Nat → Option Nat → Option Nat → Int32 → Int32 → Option Nat → Int32 → Int32 → Int32 → Int32 → Int32 → Int32 → Int32 → Int32 → Hp → Option (Int32 × Hp)} (hk526 : ∀ v0 v1 v2 v3 v5 v6 v10 v11 v12 v13 v14 v15 v16 v17 x, G l z (m_L_law nm) okZ enI 526 [(0, va_rf v0), (1, va_rf v1), (2, va_rf v2), (3, .int v3), (5, .int v5), (6, va_rf v6), (10, .int v10), (11, .int v11), (12, .int v12), (13, .int v13), (14, .int v14), (15, .int v15), (16, .int v16), (17, .int v17)] [] x (k526 v0 v1 v2 v3 v5 v6 v10 v11 v12 v13 v14 v15 v16 v17 x)) (v0 : Option Nat) (v1 : Option Nat) (v2 : Option Nat) (v3 : Int32) (v5 : Int32) (v6 : Option Nat) (v10 : Int32) (v11 : Int32) (v12 : Int32) (v13 : Int32) (v14 : Int32) (v15 : Int32) (v16 : Int32) (v17 : Int32) (x0 : Hp) : G l z (m_L_law nm) okZ enI 565 [(0, va_rf v0), (1, va_rf v1), (2, va_rf v2), (3, .int v3), (5, .int v5), (6, va_rf v6), (10, .int v10), (11, .int v11), (12, .int v12), (13, .int v13), (14, .int v14), (15, .int v15), (16, .int v16), (17, .int v17)] [] x0 (f_L_law_b565 N z k28 k309 k526 v0 v1 v2 v3 v5 v6 v10 v11 v12 v13 v14 v15 v16 v17 x0) := by
  unfold f_L_law_b565
  refine G_iinc (i := 17) (l2 := [(0, va_rf v0), (1, va_rf v1), (2, va_rf v2), (3, .int v3), (5, .int v5), (6, va_rf v6), (10, .int v10), (11, .int v11), (12, .int v12), (13, .int v13), (14, .int v14), (15, .int v15), (16, .int v16)]) 13 [0, 1, 2, 3, 4, 5, 6, 7, 8, 9, 10, 11, 12] dL_law_565 rfl rfl (Nat.le_of_ble_eq_true rfl) rfl (sok_a (by decide) (by decide) (sok_a (by decide) (by decide) (sok_a (by decide) (by decide) (sok_a (by decide) (by decide) (sok_a (by decide) (by decide) (sok_a (by decide) (by decide) (sok_a (by decide) (by decide) (sok_a (by decide) (by decide) (sok_a (by decide) (by decide) (sok_a (by decide) (by decide) (sok_a (by decide) (by decide) (sok_a (by decide) (by decide) (sok_b (by decide) rfl trivial))))))))))))) ?_
  refine G_goto (tgt := 526) dL_law_568 (by decide) ?_
  refine G_lv [1, 2, 3, 4, 5, 6, 7, 8, 9, 10, 11, 12, 13, 0] rfl ?_
  exact hk526 v0 v1 v2 v3 v5 v6 v10 v11 v12 v13 v14 v15 v16 (v17 + (1 : Int32)) x0

set_option maxRecDepth 100000 in
set_option maxHeartbeats 4000000 in
theorem g_L_law_b679 (l : Launch) (N : Nat) (z : Nat → Nat) (nm : String) {k28 : Option Nat → Option Nat → Option Nat → Int32 → Hp → Option (Int32 × Hp)} (hk28 : ∀ v0 v1 v2 v3 x, G l z (m_L_law nm) okZ enI 28 [(0, va_rf v0), (1, va_rf v1), (2, va_rf v2), (3, .int v3)] [] x (k28 v0 v1 v2 v3 x)) {k309 : Option Nat → Option Nat → Option Nat → Int32 → Int32 → Option Nat → Int32 → Int32 → Int32 → Int32 → Int32 → Hp → Option (Int32 × Hp)} (hk309 : ∀ v0 v1 v2 v3 v5 v6 v10 v11 v12 v13 v14 x, G l z (m_L_law nm) okZ enI 309 [(0, va_rf v0), (1, va_rf v1), (2, va_rf v2), (3, .int v3), (5, .int v5), (6, va_rf v6), (10, .int v10), (11, .int v11), (12, .int v12), (13, .int v13), (14, .int v14)] [] x (k309 v0 v1 v2 v3 v5 v6 v10 v11 v12 v13 v14 x)) (v0 : Option Nat) (v1 : Option Nat) (v2 : Option Nat) (v3 : Int32) (v5 : Int32) (v6 : Option Nat) (v10 : Int32) (v11 : Int32) (v12 : Int32) (v13 : Int32) (v14 : Int32) (x0 : Hp) : G l z (m_L_law nm) okZ enI 679 [(0, va_rf v0), (1, va_rf v1), (2, va_rf v2), (3, .int v3), (5, .int v5), (6, va_rf v6), (10, .int v10), (11, .int v11), (12, .int v12), (13, .int v13), (14, .int v14)] [] x0 (f_L_law_b679 N z k28 k309 v0 v1 v2 v3 v5 v6 v10 v11 v12 v13 v14 x0) := by
  unfold f_L_law_b679
  refine G_iinc (i := 14) (l2 := [(0, va_rf v0), (1, va_rf v1), (2, va_rf v2), (3, .int v3), (5, .int v5), (6, va_rf v6), (10, .int v10), (11, .int v11), (12, .int v12), (13, .int v13)]) 10 [0, 1, 2, 3, 4, 5, 6, 7, 8, 9] dL_law_679 rfl rfl (Nat.le_of_ble_eq_true rfl) rfl (sok_a (by decide) (by decide) (sok_a (by decide) (by decide) (sok_a (by decide) (by decide) (sok_a (by decide) (by decide) (sok_a (by decide) (by decide) (sok_a (by decide) (by decide) (sok_a (by decide) (by decide) (sok_a (by decide) (by decide) (sok_a (by decide) (by decide) (sok_b (by decide) rfl trivial)))))))))) ?_
  refine G_goto (tgt := 309) dL_law_682 (by decide) ?_
  refine G_lv [1, 2, 3, 4, 5, 6, 7, 8, 9, 10, 0] rfl ?_
  exact hk309 v0 v1 v2 v3 v5 v6 v10 v11 v12 v13 (v14 + (1 : Int32)) x0

set_option maxRecDepth 100000 in
set_option maxHeartbeats 4000000 in
theorem g_L_law_b624 (l : Launch) (N : Nat) (z : Nat → Nat) (nm : String) {k28 : Option Nat → Option Nat → Option Nat → Int32 → Hp → Option (Int32 × Hp)} (hk28 : ∀ v0 v1 v2 v3 x, G l z (m_L_law nm) okZ enI 28 [(0, va_rf v0), (1, va_rf v1), (2, va_rf v2), (3, .int v3)] [] x (k28 v0 v1 v2 v3 x)) {k309 : Option Nat → Option Nat → Option Nat → Int32 → Int32 → Option Nat → Int32 → Int32 → Int32 → Int32 → Int32 → Hp → Option (Int32 × Hp)} (hk309 : ∀ v0 v1 v2 v3 v5 v6 v10 v11 v12 v13 v14 x, G l z (m_L_law nm) okZ enI 309 [(0, va_rf v0), (1, va_rf v1), (2, va_rf v2), (3, .int v3), (5, .int v5), (6, va_rf v6), (10, .int v10), (11, .int v11), (12, .int v12), (13, .int v13), (14, .int v14)] [] x (k309 v0 v1 v2 v3 v5 v6 v10 v11 v12 v13 v14 x)) (v0 : Option Nat) (v1 : Option Nat) (v2 : Option Nat) (v3 : Int32) (v5 : Int32) (v6 : Option Nat) (v10 : Int32) (v11 : Int32) (v12 : Int32) (v13 : Int32) (v14 : Int32) (v15 : Int32) (v16 : Int32) (v17 : Int32) (x0 : Hp) : G l z (m_L_law nm) okZ enI 624 [(0, va_rf v0), (1, va_rf v1), (2, va_rf v2), (3, .int v3), (5, .int v5), (6, va_rf v6), (10, .int v10), (11, .int v11), (12, .int v12), (13, .int v13), (14, .int v14), (15, .int v15), (16, .int v16), (17, .int v17)] [] x0 (f_L_law_b624 N z k28 k309 v0 v1 v2 v3 v5 v6 v10 v11 v12 v13 v14 v15 v16 v17 x0) := by
  unfold f_L_law_b624
  refine G_aload_n 1 dL_law_624 rfl rfl ?_
  refine G_bipush (v := (11 : Int32)) dL_law_625 (by decide) ?_
  refine G_callV (av := [.int (11 : Int32)]) [] (fun q3 => ct_X10_count l N z q3 (11 : Int32)) K_12 rfl yn_X10_count (Nat.le_of_ble_eq_true rfl) (by decide) gw_470 gw_471 gw_472 gw_39 gw_473 rfl (by decide) dL_law_627 (fun i2 x1 => ?_)
  refine G_if_le (tgt := 679) dL_law_630 (by decide) (fun _ => ?_) (fun _ => ?_)
  · refine G_lv [0, 1, 2, 3, 4, 5, 6, 7, 8, 9, 10] rfl ?_
    exact g_L_law_b679 l N z nm hk28 hk309 v0 v1 v2 v3 v5 v6 v10 v11 v12 v13 v14 x1
  · refine G_aload_n 1 dL_law_633 rfl rfl ?_
    refine G_iload 10 dL_law_634 rfl ?_
    refine G_bipush (v := (6 : Int32)) dL_law_636 (by decide) ?_
    refine G_callV (av := [.int v14, .int (6 : Int32)]) [] (fun q6 => ct_X10_lane l N z q6 v14 (6 : Int32)) K_12 rfl yn_X10_lane (Nat.le_of_ble_eq_true rfl) (by decide) gw_560 gw_561 gw_562 gw_39 gw_563 rfl (by decide) dL_law_638 (fun i5 x4 => ?_)
    refine G_if_le (tgt := 679) dL_law_641 (by decide) (fun _ => ?_) (fun _ => ?_)
    · refine G_lv [0, 1, 2, 3, 4, 5, 6, 7, 8, 9, 10] rfl ?_
      exact g_L_law_b679 l N z nm hk28 hk309 v0 v1 v2 v3 v5 v6 v10 v11 v12 v13 v14 x4
    · refine G_iload 13 dL_law_644 rfl ?_
      refine G_iload 10 dL_law_646 rfl ?_
      refine G_icmp_ne (tgt := 679) dL_law_648 (by decide) (fun _ => ?_) (fun _ => ?_)
      · refine G_iload 11 dL_law_651 rfl ?_
        refine G_if_ge (tgt := 679) dL_law_653 (by decide) (fun _ => ?_) (fun _ => ?_)
        · refine G_lv [0, 1, 2, 3, 4, 5, 6, 7, 8, 9, 10] rfl ?_
          exact g_L_law_b679 l N z nm hk28 hk309 v0 v1 v2 v3 v5 v6 v10 v11 v12 v13 v14 x4
        · refine G_iload 12 dL_law_656 rfl ?_
          refine G_aload_n 1 dL_law_658 rfl rfl ?_
          refine G_iload 10 dL_law_659 rfl ?_
          refine G_iconst (v := (2 : Int32)) dL_law_661 rfl ?_
          refine G_callV (av := [.int v14, .int (2 : Int32)]) [.int v16] (fun q9 => ct_X10_lane l N z q9 v14 (2 : Int32)) K_12 rfl yn_X10_lane (Nat.le_of_ble_eq_true rfl) (by decide) gw_560 gw_561 gw_562 gw_39 gw_563 rfl (by simp only [hw_n, hw_i, hw_r, hw_j, hw_d]; decide) dL_law_662 (fun i8 x7 => ?_)
          refine G_icmp_ge (tgt := 679) dL_law_665 (by decide) (fun _ => ?_) (fun _ => ?_)
          · refine G_lv [0, 1, 2, 3, 4, 5, 6, 7, 8, 9, 10] rfl ?_
            exact g_L_law_b679 l N z nm hk28 hk309 v0 v1 v2 v3 v5 v6 v10 v11 v12 v13 v14 x7
          · refine G_aload_n 2 dL_law_668 rfl rfl ?_
            refine G_iload 10 dL_law_669 rfl ?_
            refine G_callS (av := [va_rf v2, .int v14]) [] (ct_L_hasShut l N z v2 v14) yn_L_hasShut (Nat.le_of_ble_eq_true rfl) (by decide) gw_1497 gw_1498 gw_38 gw_1499 rfl (by decide) dL_law_671 (fun i11 x10 => ?_)
            refine G_if_ne (tgt := 679) dL_law_674 (by decide) (fun _ => ?_) (fun _ => ?_)
            · refine G_iconst (v := (0 : Int32)) dL_law_677 rfl ?_
              exact G_ret (Or.inl rfl) dL_law_678 rfl
            · refine G_lv [0, 1, 2, 3, 4, 5, 6, 7, 8, 9, 10] rfl ?_
              exact g_L_law_b679 l N z nm hk28 hk309 v0 v1 v2 v3 v5 v6 v10 v11 v12 v13 v14 x10
      · refine G_lv [0, 1, 2, 3, 4, 5, 6, 7, 8, 9, 10] rfl ?_
        exact g_L_law_b679 l N z nm hk28 hk309 v0 v1 v2 v3 v5 v6 v10 v11 v12 v13 v14 x4

set_option maxRecDepth 100000 in
set_option maxHeartbeats 4000000 in
theorem g_L_law_b526 (l : Launch) (N : Nat) (z : Nat → Nat) (nm : String) {k28 : Option Nat → Option Nat → Option Nat → Int32 → Hp → Option (Int32 × Hp)} (hk28 : ∀ v0 v1 v2 v3 x, G l z (m_L_law nm) okZ enI 28 [(0, va_rf v0), (1, va_rf v1), (2, va_rf v2), (3, .int v3)] [] x (k28 v0 v1 v2 v3 x)) {k309 : Option Nat → Option Nat → Option Nat → Int32 → Int32 → Option Nat → Int32 → Int32 → Int32 → Int32 → Int32 → Hp → Option (Int32 × Hp)} (hk309 : ∀ v0 v1 v2 v3 v5 v6 v10 v11 v12 v13 v14 x, G l z (m_L_law nm) okZ enI 309 [(0, va_rf v0), (1, va_rf v1), (2, va_rf v2), (3, .int v3), (5, .int v5), (6, va_rf v6), (10, .int v10), (11, .int v11), (12, .int v12), (13, .int v13), (14, .int v14)] [] x (k309 v0 v1 v2 v3 v5 v6 v10 v11 v12 v13 v14 x)) : ∀ (n : Nat) (v0 : Option Nat) (v1 : Option Nat) (v2 : Option Nat) (v3 : Int32) (v5 : Int32) (v6 : Option Nat) (v10 : Int32) (v11 : Int32) (v12 : Int32) (v13 : Int32) (v14 : Int32) (v15 : Int32) (v16 : Int32) (v17 : Int32) (x0 : Hp), G l z (m_L_law nm) okZ enI 526 [(0, va_rf v0), (1, va_rf v1), (2, va_rf v2), (3, .int v3), (5, .int v5), (6, va_rf v6), (10, .int v10), (11, .int v11), (12, .int v12), (13, .int v13), (14, .int v14), (15, .int v15), (16, .int v16), (17, .int v17)] [] x0 (f_L_law_b526 N z k28 k309 n v0 v1 v2 v3 v5 v6 v10 v11 v12 v13 v14 v15 v16 v17 x0) := by
  intro n
  induction n with
  | zero => intro v0 v1 v2 v3 v5 v6 v10 v11 v12 v13 v14 v15 v16 v17 x0; exact G_none
  | succ n ih =>
  intro v0 v1 v2 v3 v5 v6 v10 v11 v12 v13 v14 v15 v16 v17 x0
  rw [f_L_law_b526]
  refine G_iload 13 dL_law_526 rfl ?_
  refine G_iload 4 dL_law_528 rfl ?_
  refine G_icmp_ge (tgt := 571) dL_law_530 (by decide) (fun _ => ?_) (fun _ => ?_)
  · refine G_iload 12 dL_law_571 rfl ?_
    refine G_aload_n 1 dL_law_573 rfl rfl ?_
    refine G_iload 10 dL_law_574 rfl ?_
    refine G_iconst (v := (2 : Int32)) dL_law_576 rfl ?_
    refine G_callV (av := [.int v14, .int (2 : Int32)]) [.int v16] (fun q14 => ct_X10_lane l N z q14 v14 (2 : Int32)) K_12 rfl yn_X10_lane (Nat.le_of_ble_eq_true rfl) (by decide) gw_560 gw_561 gw_562 gw_39 gw_563 rfl (by simp only [hw_n, hw_i, hw_r, hw_j, hw_d]; decide) dL_law_577 (fun i13 x12 => ?_)
    refine G_icmp_le (tgt := 585) dL_law_580 (by decide) (fun _ => ?_) (fun _ => ?_)
    · refine G_aload_n 1 dL_law_585 rfl rfl ?_
      refine G_iload 10 dL_law_586 rfl ?_
      refine G_callV (av := [.int v14]) [] (fun q17 => ct_X10_lender l N z q17 v14) K_12 rfl yn_X10_lender (Nat.le_of_ble_eq_true rfl) (by decide) gw_583 gw_584 gw_585 gw_39 gw_586 rfl (by decide) dL_law_588 (fun i16 x15 => ?_)
      refine G_istore (i := 17) (l2 := [(0, va_rf v0), (1, va_rf v1), (2, va_rf v2), (3, .int v3), (5, .int v5), (6, va_rf v6), (10, .int v10), (11, .int v11), (12, .int v12), (13, .int v13), (14, .int v14), (15, .int v15), (16, .int v16)]) [0, 1, 2, 3, 4, 5, 6, 7, 8, 9, 10, 11, 12] dL_law_591 (Nat.le_of_ble_eq_true rfl) rfl (sok_a (by decide) (by decide) (sok_a (by decide) (by decide) (sok_a (by decide) (by decide) (sok_a (by decide) (by decide) (sok_a (by decide) (by decide) (sok_a (by decide) (by decide) (sok_a (by decide) (by decide) (sok_a (by decide) (by decide) (sok_a (by decide) (by decide) (sok_a (by decide) (by decide) (sok_a (by decide) (by decide) (sok_a (by decide) (by decide) (sok_b (by decide) rfl trivial))))))))))))) ?_
      refine G_iload 0 dL_law_593 rfl ?_
      refine G_if_lt (tgt := 624) dL_law_595 (by decide) (fun _ => ?_) (fun _ => ?_)
      · refine G_lv [1, 2, 3, 4, 5, 6, 7, 8, 9, 10, 11, 12, 13, 0] rfl ?_
        exact g_L_law_b624 l N z nm hk28 hk309 v0 v1 v2 v3 v5 v6 v10 v11 v12 v13 v14 v15 v16 i16 x15
      · refine G_aload_n 2 dL_law_598 rfl rfl ?_
        refine G_iload 0 dL_law_599 rfl ?_
        refine G_iconst (v := (5 : Int32)) dL_law_601 rfl ?_
        refine G_callV (av := [.int i16, .int (5 : Int32)]) [] (fun q20 => ct_X10_lane l N z q20 i16 (5 : Int32)) K_12 rfl yn_X10_lane (Nat.le_of_ble_eq_true rfl) (by decide) gw_560 gw_561 gw_562 gw_39 gw_563 rfl (by decide) dL_law_602 (fun i19 x18 => ?_)
        refine G_iconst (v := (1 : Int32)) dL_law_605 rfl ?_
        refine G_icmp_lt (tgt := 622) dL_law_606 (by decide) (fun _ => ?_) (fun _ => ?_)
        · refine G_iconst (v := (0 : Int32)) dL_law_622 rfl ?_
          exact G_ret (Or.inl rfl) dL_law_623 rfl
        · refine G_aload_n 2 dL_law_609 rfl rfl ?_
          refine G_iload 11 dL_law_610 rfl ?_
          refine G_iload 0 dL_law_612 rfl ?_
          refine G_callV (av := [.int v14, .int i16]) [] (fun q23 => ct_X10_common l N z q23 v14 i16) K_12 rfl yn_X10_common (Nat.le_of_ble_eq_true rfl) (by decide) gw_595 gw_596 gw_597 gw_39 gw_598 rfl (by decide) dL_law_614 (fun i22 x21 => ?_)
          refine G_iload 0 dL_law_617 rfl ?_
          refine G_icmp_eq (tgt := 624) dL_law_619 (by decide) (fun _ => ?_) (fun _ => ?_)
          · refine G_lv [1, 2, 3, 4, 5, 6, 7, 8, 9, 10, 11, 12, 13, 0] rfl ?_
            exact g_L_law_b624 l N z nm hk28 hk309 v0 v1 v2 v3 v5 v6 v10 v11 v12 v13 v14 v15 v16 i16 x21
          · refine G_iconst (v := (0 : Int32)) dL_law_622 rfl ?_
            exact G_ret (Or.inl rfl) dL_law_623 rfl
    · refine G_iconst (v := (0 : Int32)) dL_law_583 rfl ?_
      exact G_ret (Or.inl rfl) dL_law_584 rfl
  · refine G_aload_n 1 dL_law_533 rfl rfl ?_
    refine G_iload 13 dL_law_534 rfl ?_
    refine G_iload 10 dL_law_536 rfl ?_
    refine G_callV (av := [.int v17, .int v14]) [] (fun q26 => ct_X10_common l N z q26 v17 v14) K_12 rfl yn_X10_common (Nat.le_of_ble_eq_true rfl) (by decide) gw_595 gw_596 gw_597 gw_39 gw_598 rfl (by decide) dL_law_538 (fun i25 x24 => ?_)
    refine G_iload 10 dL_law_541 rfl ?_
    refine G_icmp_ne (tgt := 565) dL_law_543 (by decide) (fun _ => ?_) (fun _ => ?_)
    · refine G_iload 12 dL_law_546 rfl ?_
      refine G_aload_n 1 dL_law_548 rfl rfl ?_
      refine G_iload 13 dL_law_549 rfl ?_
      refine G_bipush (v := (8 : Int32)) dL_law_551 (by decide) ?_
      refine G_callV (av := [.int v17, .int (8 : Int32)]) [.int v16] (fun q29 => ct_X10_lane l N z q29 v17 (8 : Int32)) K_12 rfl yn_X10_lane (Nat.le_of_ble_eq_true rfl) (by decide) gw_560 gw_561 gw_562 gw_39 gw_563 rfl (by simp only [hw_n, hw_i, hw_r, hw_j, hw_d]; decide) dL_law_553 (fun i28 x27 => ?_)
      refine G_aload 5 dL_law_556 rfl ?_
      refine G_iload 13 dL_law_558 rfl ?_
      refine G_iald dL_law_560 (fun i30 => ?_)
      refine G_isub dL_law_561 ?_
      refine G_iadd dL_law_562 ?_
      refine G_istore (i := 16) (l2 := [(0, va_rf v0), (1, va_rf v1), (2, va_rf v2), (3, .int v3), (5, .int v5), (6, va_rf v6), (10, .int v10), (11, .int v11), (12, .int v12), (13, .int v13), (14, .int v14), (15, .int v15), (17, .int v17)]) [0, 1, 2, 3, 4, 5, 6, 7, 8, 9, 10, 11, 13] dL_law_563 (Nat.le_of_ble_eq_true rfl) rfl (sok_a (by decide) (by decide) (sok_a (by decide) (by decide) (sok_a (by decide) (by decide) (sok_a (by decide) (by decide) (sok_a (by decide) (by decide) (sok_a (by decide) (by decide) (sok_a (by decide) (by decide) (sok_a (by decide) (by decide) (sok_a (by decide) (by decide) (sok_a (by decide) (by decide) (sok_a (by decide) (by decide) (sok_b (by decide) rfl (sok_a (by decide) (by decide) trivial))))))))))))) ?_
      refine G_lv [1, 2, 3, 4, 5, 6, 7, 8, 9, 10, 11, 12, 0, 13] rfl ?_
      exact g_L_law_b565 l N z nm hk28 hk309 ih v0 v1 v2 v3 v5 v6 v10 v11 v12 v13 v14 v15 (v16 + (i28 - i30)) v17 x27
    · refine G_lv [0, 1, 2, 3, 4, 5, 6, 7, 8, 9, 10, 11, 12, 13] rfl ?_
      exact g_L_law_b565 l N z nm hk28 hk309 ih v0 v1 v2 v3 v5 v6 v10 v11 v12 v13 v14 v15 v16 v17 x24

set_option maxRecDepth 100000 in
set_option maxHeartbeats 4000000 in
theorem g_L_law_b457 (l : Launch) (N : Nat) (z : Nat → Nat) (nm : String) {k28 : Option Nat → Option Nat → Option Nat → Int32 → Hp → Option (Int32 × Hp)} (hk28 : ∀ v0 v1 v2 v3 x, G l z (m_L_law nm) okZ enI 28 [(0, va_rf v0), (1, va_rf v1), (2, va_rf v2), (3, .int v3)] [] x (k28 v0 v1 v2 v3 x)) {k309 : Option Nat → Option Nat → Option Nat → Int32 → Int32 → Option Nat → Int32 → Int32 → Int32 → Int32 → Int32 → Hp → Option (Int32 × Hp)} (hk309 : ∀ v0 v1 v2 v3 v5 v6 v10 v11 v12 v13 v14 x, G l z (m_L_law nm) okZ enI 309 [(0, va_rf v0), (1, va_rf v1), (2, va_rf v2), (3, .int v3), (5, .int v5), (6, va_rf v6), (10, .int v10), (11, .int v11), (12, .int v12), (13, .int v13), (14, .int v14)] [] x (k309 v0 v1 v2 v3 v5 v6 v10 v11 v12 v13 v14 x)) : ∀ (n : Nat) (v0 : Option Nat) (v1 : Option Nat) (v2 : Option Nat) (v3 : Int32) (v5 : Int32) (v6 : Option Nat) (v10 : Int32) (v11 : Int32) (v12 : Int32) (v13 : Int32) (v14 : Int32) (v15 : Int32) (v16 : Int32) (x0 : Hp), G l z (m_L_law nm) okZ enI 457 [(0, va_rf v0), (1, va_rf v1), (2, va_rf v2), (3, .int v3), (5, .int v5), (6, va_rf v6), (10, .int v10), (11, .int v11), (12, .int v12), (13, .int v13), (14, .int v14), (15, .int v15), (16, .int v16)] [] x0 (f_L_law_b457 N z k28 k309 n v0 v1 v2 v3 v5 v6 v10 v11 v12 v13 v14 v15 v16 x0) := by
  intro n
  induction n with
  | zero => intro v0 v1 v2 v3 v5 v6 v10 v11 v12 v13 v14 v15 v16 x0; exact G_none
  | succ n ih =>
  intro v0 v1 v2 v3 v5 v6 v10 v11 v12 v13 v14 v15 v16 x0
  rw [f_L_law_b457]
  refine G_iload 12 dL_law_457 rfl ?_
  refine G_aload_n 1 dL_law_459 rfl rfl ?_
  refine G_iload 10 dL_law_460 rfl ?_
  refine G_bipush (v := (6 : Int32)) dL_law_462 (by decide) ?_
  refine G_callV (av := [.int v14, .int (6 : Int32)]) [.int v16] (fun q33 => ct_X10_lane l N z q33 v14 (6 : Int32)) K_12 rfl yn_X10_lane (Nat.le_of_ble_eq_true rfl) (by decide) gw_560 gw_561 gw_562 gw_39 gw_563 rfl (by simp only [hw_n, hw_i, hw_r, hw_j, hw_d]; decide) dL_law_464 (fun i32 x31 => ?_)
  refine G_icmp_ge (tgt := 520) dL_law_467 (by decide) (fun _ => ?_) (fun _ => ?_)
  · refine G_iconst (v := (0 : Int32)) dL_law_520 rfl ?_
    refine G_istore (i := 16) (l2 := [(0, va_rf v0), (1, va_rf v1), (2, va_rf v2), (3, .int v3), (5, .int v5), (6, va_rf v6), (10, .int v10), (11, .int v11), (12, .int v12), (13, .int v13), (14, .int v14), (15, .int v15)]) [0, 1, 2, 3, 4, 5, 6, 7, 8, 9, 10, 11] dL_law_521 (Nat.le_of_ble_eq_true rfl) rfl (sok_a (by decide) (by decide) (sok_a (by decide) (by decide) (sok_a (by decide) (by decide) (sok_a (by decide) (by decide) (sok_a (by decide) (by decide) (sok_a (by decide) (by decide) (sok_a (by decide) (by decide) (sok_a (by decide) (by decide) (sok_a (by decide) (by decide) (sok_a (by decide) (by decide) (sok_a (by decide) (by decide) (sok_b (by decide) rfl trivial)))))))))))) ?_
    refine G_iconst (v := (0 : Int32)) dL_law_523 rfl ?_
    refine G_istore (i := 17) (l2 := [(16, .int (0 : Int32)), (0, va_rf v0), (1, va_rf v1), (2, va_rf v2), (3, .int v3), (5, .int v5), (6, va_rf v6), (10, .int v10), (11, .int v11), (12, .int v12), (13, .int v13), (14, .int v14), (15, .int v15)]) [0, 1, 2, 3, 4, 5, 6, 7, 8, 9, 10, 11, 12] dL_law_524 (Nat.le_of_ble_eq_true rfl) rfl (sok_b (by decide) rfl (sok_a (by decide) (by decide) (sok_a (by decide) (by decide) (sok_a (by decide) (by decide) (sok_a (by decide) (by decide) (sok_a (by decide) (by decide) (sok_a (by decide) (by decide) (sok_a (by decide) (by decide) (sok_a (by decide) (by decide) (sok_a (by decide) (by decide) (sok_a (by decide) (by decide) (sok_a (by decide) (by decide) (sok_a (by decide) (by decide) trivial))))))))))))) ?_
    refine G_lv [2, 3, 4, 5, 6, 7, 8, 9, 10, 11, 12, 13, 1, 0] rfl ?_
    exact g_L_law_b526 l N z nm hk28 hk309 N v0 v1 v2 v3 v5 v6 v10 v11 v12 v13 v14 v15 (0 : Int32) (0 : Int32) x31
  · refine G_aload_n 1 dL_law_470 rfl rfl ?_
    refine G_iload 10 dL_law_471 rfl ?_
    refine G_iload 12 dL_law_473 rfl ?_
    refine G_callV (av := [.int v14, .int v16]) [] (fun q36 => ct_X10_pail l N z q36 v14 v16) K_12 rfl yn_X10_pail (Nat.le_of_ble_eq_true rfl) (by decide) gw_570 gw_571 gw_572 gw_39 gw_573 rfl (by decide) dL_law_475 (fun i35 x34 => ?_)
    refine G_aload_n 1 dL_law_478 rfl rfl ?_
    refine G_iconst (v := (0 : Int32)) dL_law_479 rfl ?_
    refine G_callV (av := [.int (0 : Int32)]) [.int i35] (fun q39 => ct_X10_count l N z q39 (0 : Int32)) K_12 rfl yn_X10_count (Nat.le_of_ble_eq_true rfl) (by decide) gw_470 gw_471 gw_472 gw_39 gw_473 rfl (by simp only [hw_n, hw_i, hw_r, hw_j, hw_d]; decide) dL_law_480 (fun i38 x37 => ?_)
    refine G_icmp_ge (tgt := 512) dL_law_483 (by decide) (fun _ => ?_) (fun _ => ?_)
    · refine G_iconst (v := (0 : Int32)) dL_law_512 rfl ?_
      exact G_ret (Or.inl rfl) dL_law_513 rfl
    · refine G_iload 12 dL_law_486 rfl ?_
      refine G_if_le (tgt := 514) dL_law_488 (by decide) (fun _ => ?_) (fun _ => ?_)
      · refine G_lv [0, 1, 2, 3, 4, 5, 6, 7, 8, 9, 10, 11, 12] rfl ?_
        exact g_L_law_b514 l N z nm hk28 hk309 ih v0 v1 v2 v3 v5 v6 v10 v11 v12 v13 v14 v15 v16 x37
      · refine G_aload_n 1 dL_law_491 rfl rfl ?_
        refine G_iload 10 dL_law_492 rfl ?_
        refine G_iload 12 dL_law_494 rfl ?_
        refine G_callV (av := [.int v14, .int v16]) [] (fun q42 => ct_X10_pail l N z q42 v14 v16) K_12 rfl yn_X10_pail (Nat.le_of_ble_eq_true rfl) (by decide) gw_570 gw_571 gw_572 gw_39 gw_573 rfl (by decide) dL_law_496 (fun i41 x40 => ?_)
        refine G_aload_n 1 dL_law_499 rfl rfl ?_
        refine G_iload 10 dL_law_500 rfl ?_
        refine G_iload 12 dL_law_502 rfl ?_
        refine G_iconst (v := (1 : Int32)) dL_law_504 rfl ?_
        refine G_isub dL_law_505 ?_
        refine G_callV (av := [.int v14, .int (v16 - (1 : Int32))]) [.int i41] (fun q45 => ct_X10_pail l N z q45 v14 (v16 - (1 : Int32))) K_12 rfl yn_X10_pail (Nat.le_of_ble_eq_true rfl) (by decide) gw_570 gw_571 gw_572 gw_39 gw_573 rfl (by simp only [hw_n, hw_i, hw_r, hw_j, hw_d]; decide) dL_law_506 (fun i44 x43 => ?_)
        refine G_icmp_ge (tgt := 514) dL_law_509 (by decide) (fun _ => ?_) (fun _ => ?_)
        · refine G_lv [0, 1, 2, 3, 4, 5, 6, 7, 8, 9, 10, 11, 12] rfl ?_
          exact g_L_law_b514 l N z nm hk28 hk309 ih v0 v1 v2 v3 v5 v6 v10 v11 v12 v13 v14 v15 v16 x43
        · refine G_iconst (v := (0 : Int32)) dL_law_512 rfl ?_
          exact G_ret (Or.inl rfl) dL_law_513 rfl

set_option maxRecDepth 100000 in
set_option maxHeartbeats 4000000 in
theorem g_L_law_b309 (l : Launch) (N : Nat) (z : Nat → Nat) (nm : String) {k28 : Option Nat → Option Nat → Option Nat → Int32 → Hp → Option (Int32 × Hp)} (hk28 : ∀ v0 v1 v2 v3 x, G l z (m_L_law nm) okZ enI 28 [(0, va_rf v0), (1, va_rf v1), (2, va_rf v2), (3, .int v3)] [] x (k28 v0 v1 v2 v3 x)) : ∀ (n : Nat) (v0 : Option Nat) (v1 : Option Nat) (v2 : Option Nat) (v3 : Int32) (v5 : Int32) (v6 : Option Nat) (v10 : Int32) (v11 : Int32) (v12 : Int32) (v13 : Int32) (v14 : Int32) (x0 : Hp), G l z (m_L_law nm) okZ enI 309 [(0, va_rf v0), (1, va_rf v1), (2, va_rf v2), (3, .int v3), (5, .int v5), (6, va_rf v6), (10, .int v10), (11, .int v11), (12, .int v12), (13, .int v13), (14, .int v14)] [] x0 (f_L_law_b309 N z k28 n v0 v1 v2 v3 v5 v6 v10 v11 v12 v13 v14 x0) := by
  intro n
  induction n with
  | zero => intro v0 v1 v2 v3 v5 v6 v10 v11 v12 v13 v14 x0; exact G_none
  | succ n ih =>
  intro v0 v1 v2 v3 v5 v6 v10 v11 v12 v13 v14 x0
  rw [f_L_law_b309]
  refine G_iload 10 dL_law_309 rfl ?_
  refine G_iload 4 dL_law_311 rfl ?_
  refine G_icmp_ge (tgt := 685) dL_law_313 (by decide) (fun _ => ?_) (fun _ => ?_)
  · refine G_iload 6 dL_law_685 rfl ?_
    refine G_aload_n 1 dL_law_687 rfl rfl ?_
    refine G_iconst (v := (5 : Int32)) dL_law_688 rfl ?_
    refine G_callV (av := [.int (5 : Int32)]) [.int v10] (fun q48 => ct_X10_count l N z q48 (5 : Int32)) K_12 rfl yn_X10_count (Nat.le_of_ble_eq_true rfl) (by decide) gw_470 gw_471 gw_472 gw_39 gw_473 rfl (by simp only [hw_n, hw_i, hw_r, hw_j, hw_d]; decide) dL_law_689 (fun i47 x46 => ?_)
    refine G_icmp_ne (tgt := 724) dL_law_692 (by decide) (fun _ => ?_) (fun _ => ?_)
    · refine G_iload 7 dL_law_695 rfl ?_
      refine G_aload_n 1 dL_law_697 rfl rfl ?_
      refine G_bipush (v := (8 : Int32)) dL_law_698 (by decide) ?_
      refine G_callV (av := [.int (8 : Int32)]) [.int v11] (fun q51 => ct_X10_count l N z q51 (8 : Int32)) K_12 rfl yn_X10_count (Nat.le_of_ble_eq_true rfl) (by decide) gw_470 gw_471 gw_472 gw_39 gw_473 rfl (by simp only [hw_n, hw_i, hw_r, hw_j, hw_d]; decide) dL_law_700 (fun i50 x49 => ?_)
      refine G_icmp_ne (tgt := 724) dL_law_703 (by decide) (fun _ => ?_) (fun _ => ?_)
      · refine G_iload 8 dL_law_706 rfl ?_
        refine G_iload 9 dL_law_708 rfl ?_
        refine G_icmp_ne (tgt := 724) dL_law_710 (by decide) (fun _ => ?_) (fun _ => ?_)
        · refine G_iload 9 dL_law_713 rfl ?_
          refine G_aload_n 1 dL_law_715 rfl rfl ?_
          refine G_bipush (v := (9 : Int32)) dL_law_716 (by decide) ?_
          refine G_callV (av := [.int (9 : Int32)]) [.int v13] (fun q54 => ct_X10_count l N z q54 (9 : Int32)) K_12 rfl yn_X10_count (Nat.le_of_ble_eq_true rfl) (by decide) gw_470 gw_471 gw_472 gw_39 gw_473 rfl (by simp only [hw_n, hw_i, hw_r, hw_j, hw_d]; decide) dL_law_718 (fun i53 x52 => ?_)
          refine G_icmp_eq (tgt := 726) dL_law_721 (by decide) (fun _ => ?_) (fun _ => ?_)
          · refine G_iinc (i := 3) (l2 := [(0, va_rf v0), (1, va_rf v1), (2, va_rf v2), (5, .int v5), (6, va_rf v6), (10, .int v10), (11, .int v11), (12, .int v12), (13, .int v13), (14, .int v14)]) 3 [0, 1, 2, 4, 5, 6, 7, 8, 9, 10] dL_law_726 rfl rfl (Nat.le_of_ble_eq_true rfl) rfl (sok_a (by decide) (by decide) (sok_a (by decide) (by decide) (sok_b (by decide) (rf_cat _) (sok_a (by decide) (by decide) (sok_a (by decide) (by decide) (sok_a (by decide) (by decide) (sok_a (by decide) (by decide) (sok_a (by decide) (by decide) (sok_a (by decide) (by decide) (sok_a (by decide) (by decide) trivial)))))))))) ?_
            refine G_goto (tgt := 28) dL_law_729 (by decide) ?_
            refine G_lv [1, 2, 3, 0] rfl ?_
            exact hk28 v0 v1 v2 (v3 + (1 : Int32)) x52
          · refine G_iconst (v := (0 : Int32)) dL_law_724 rfl ?_
            exact G_ret (Or.inl rfl) dL_law_725 rfl
        · refine G_iconst (v := (0 : Int32)) dL_law_724 rfl ?_
          exact G_ret (Or.inl rfl) dL_law_725 rfl
      · refine G_iconst (v := (0 : Int32)) dL_law_724 rfl ?_
        exact G_ret (Or.inl rfl) dL_law_725 rfl
    · refine G_iconst (v := (0 : Int32)) dL_law_724 rfl ?_
      exact G_ret (Or.inl rfl) dL_law_725 rfl
  · refine G_aload_n 1 dL_law_316 rfl rfl ?_
    refine G_iload 10 dL_law_317 rfl ?_
    refine G_iconst (v := (0 : Int32)) dL_law_319 rfl ?_
    refine G_callV (av := [.int v14, .int (0 : Int32)]) [] (fun q57 => ct_X10_lane l N z q57 v14 (0 : Int32)) K_12 rfl yn_X10_lane (Nat.le_of_ble_eq_true rfl) (by decide) gw_560 gw_561 gw_562 gw_39 gw_563 rfl (by decide) dL_law_320 (fun i56 x55 => ?_)
    refine G_istore (i := 15) (l2 := [(0, va_rf v0), (1, va_rf v1), (2, va_rf v2), (3, .int v3), (5, .int v5), (6, va_rf v6), (10, .int v10), (11, .int v11), (12, .int v12), (13, .int v13), (14, .int v14)]) [0, 1, 2, 3, 4, 5, 6, 7, 8, 9, 10] dL_law_323 (Nat.le_of_ble_eq_true rfl) rfl (sok_a (by decide) (by decide) (sok_a (by decide) (by decide) (sok_a (by decide) (by decide) (sok_a (by decide) (by decide) (sok_a (by decide) (by decide) (sok_a (by decide) (by decide) (sok_a (by decide) (by decide) (sok_a (by decide) (by decide) (sok_a (by decide) (by decide) (sok_a (by decide) (by decide) (sok_b (by decide) rfl trivial))))))))))) ?_
    refine G_iload 0 dL_law_325 rfl ?_
    refine G_iload 11 dL_law_327 rfl ?_
    refine G_icmp_ge (tgt := 400) dL_law_329 (by decide) (fun _ => ?_) (fun _ => ?_)
    · refine G_iconst (v := (0 : Int32)) dL_law_400 rfl ?_
      exact G_ret (Or.inl rfl) dL_law_401 rfl
    · refine G_aload_n 2 dL_law_332 rfl rfl ?_
      refine G_iload 11 dL_law_333 rfl ?_
      refine G_iconst (v := (5 : Int32)) dL_law_335 rfl ?_
      refine G_callV (av := [.int v14, .int (5 : Int32)]) [] (fun q60 => ct_X10_lane l N z q60 v14 (5 : Int32)) K_12 rfl yn_X10_lane (Nat.le_of_ble_eq_true rfl) (by decide) gw_560 gw_561 gw_562 gw_39 gw_563 rfl (by decide) dL_law_336 (fun i59 x58 => ?_)
      refine G_if_lt (tgt := 400) dL_law_339 (by decide) (fun _ => ?_) (fun _ => ?_)
      · refine G_iconst (v := (0 : Int32)) dL_law_400 rfl ?_
        exact G_ret (Or.inl rfl) dL_law_401 rfl
      · refine G_aload_n 2 dL_law_342 rfl rfl ?_
        refine G_iload 11 dL_law_343 rfl ?_
        refine G_iconst (v := (5 : Int32)) dL_law_345 rfl ?_
        refine G_callV (av := [.int v14, .int (5 : Int32)]) [] (fun q63 => ct_X10_lane l N z q63 v14 (5 : Int32)) K_12 rfl yn_X10_lane (Nat.le_of_ble_eq_true rfl) (by decide) gw_560 gw_561 gw_562 gw_39 gw_563 rfl (by decide) dL_law_346 (fun i62 x61 => ?_)
        refine G_aload_n 2 dL_law_349 rfl rfl ?_
        refine G_iload 11 dL_law_350 rfl ?_
        refine G_iconst (v := (3 : Int32)) dL_law_352 rfl ?_
        refine G_callV (av := [.int v14, .int (3 : Int32)]) [.int i62] (fun q66 => ct_X10_lane l N z q66 v14 (3 : Int32)) K_12 rfl yn_X10_lane (Nat.le_of_ble_eq_true rfl) (by decide) gw_560 gw_561 gw_562 gw_39 gw_563 rfl (by simp only [hw_n, hw_i, hw_r, hw_j, hw_d]; decide) dL_law_353 (fun i65 x64 => ?_)
        refine G_icmp_gt (tgt := 400) dL_law_356 (by decide) (fun _ => ?_) (fun _ => ?_)
        · refine G_iconst (v := (0 : Int32)) dL_law_400 rfl ?_
          exact G_ret (Or.inl rfl) dL_law_401 rfl
        · refine G_aload_n 2 dL_law_359 rfl rfl ?_
          refine G_iload 11 dL_law_360 rfl ?_
          refine G_bipush (v := (6 : Int32)) dL_law_362 (by decide) ?_
          refine G_callV (av := [.int v14, .int (6 : Int32)]) [] (fun q69 => ct_X10_lane l N z q69 v14 (6 : Int32)) K_12 rfl yn_X10_lane (Nat.le_of_ble_eq_true rfl) (by decide) gw_560 gw_561 gw_562 gw_39 gw_563 rfl (by decide) dL_law_364 (fun i68 x67 => ?_)
          refine G_if_lt (tgt := 400) dL_law_367 (by decide) (fun _ => ?_) (fun _ => ?_)
          · refine G_iconst (v := (0 : Int32)) dL_law_400 rfl ?_
            exact G_ret (Or.inl rfl) dL_law_401 rfl
          · refine G_aload_n 2 dL_law_370 rfl rfl ?_
            refine G_iload 11 dL_law_371 rfl ?_
            refine G_bipush (v := (6 : Int32)) dL_law_373 (by decide) ?_
            refine G_callV (av := [.int v14, .int (6 : Int32)]) [] (fun q72 => ct_X10_lane l N z q72 v14 (6 : Int32)) K_12 rfl yn_X10_lane (Nat.le_of_ble_eq_true rfl) (by decide) gw_560 gw_561 gw_562 gw_39 gw_563 rfl (by decide) dL_law_375 (fun i71 x70 => ?_)
            refine G_aload_n 2 dL_law_378 rfl rfl ?_
            refine G_iload 11 dL_law_379 rfl ?_
            refine G_bipush (v := (7 : Int32)) dL_law_381 (by decide) ?_
            refine G_callV (av := [.int v14, .int (7 : Int32)]) [.int i71] (fun q75 => ct_X10_lane l N z q75 v14 (7 : Int32)) K_12 rfl yn_X10_lane (Nat.le_of_ble_eq_true rfl) (by decide) gw_560 gw_561 gw_562 gw_39 gw_563 rfl (by simp only [hw_n, hw_i, hw_r, hw_j, hw_d]; decide) dL_law_383 (fun i74 x73 => ?_)
            refine G_icmp_gt (tgt := 400) dL_law_386 (by decide) (fun _ => ?_) (fun _ => ?_)
            · refine G_iconst (v := (0 : Int32)) dL_law_400 rfl ?_
              exact G_ret (Or.inl rfl) dL_law_401 rfl
            · refine G_aload_n 2 dL_law_389 rfl rfl ?_
              refine G_iload 11 dL_law_390 rfl ?_
              refine G_bipush (v := (12 : Int32)) dL_law_392 (by decide) ?_
              refine G_callV (av := [.int v14, .int (12 : Int32)]) [] (fun q78 => ct_X10_lane l N z q78 v14 (12 : Int32)) K_12 rfl yn_X10_lane (Nat.le_of_ble_eq_true rfl) (by decide) gw_560 gw_561 gw_562 gw_39 gw_563 rfl (by decide) dL_law_394 (fun i77 x76 => ?_)
              refine G_if_ge (tgt := 402) dL_law_397 (by decide) (fun _ => ?_) (fun _ => ?_)
              · refine G_iload 7 dL_law_402 rfl ?_
                refine G_aload_n 2 dL_law_404 rfl rfl ?_
                refine G_iload 11 dL_law_405 rfl ?_
                refine G_bipush (v := (6 : Int32)) dL_law_407 (by decide) ?_
                refine G_callV (av := [.int v14, .int (6 : Int32)]) [.int v10] (fun q81 => ct_X10_lane l N z q81 v14 (6 : Int32)) K_12 rfl yn_X10_lane (Nat.le_of_ble_eq_true rfl) (by decide) gw_560 gw_561 gw_562 gw_39 gw_563 rfl (by simp only [hw_n, hw_i, hw_r, hw_j, hw_d]; decide) dL_law_409 (fun i80 x79 => ?_)
                refine G_iadd dL_law_412 ?_
                refine G_istore (i := 10) (l2 := [(15, .int i56), (0, va_rf v0), (1, va_rf v1), (2, va_rf v2), (3, .int v3), (5, .int v5), (6, va_rf v6), (11, .int v11), (12, .int v12), (13, .int v13), (14, .int v14)]) [0, 1, 2, 3, 4, 5, 6, 8, 9, 10, 11] dL_law_413 (Nat.le_of_ble_eq_true rfl) rfl (sok_a (by decide) (by decide) (sok_a (by decide) (by decide) (sok_a (by decide) (by decide) (sok_a (by decide) (by decide) (sok_a (by decide) (by decide) (sok_a (by decide) (by decide) (sok_a (by decide) (by decide) (sok_a (by decide) (by decide) (sok_a (by decide) (by decide) (sok_a (by decide) (by decide) (sok_a (by decide) (by decide) trivial))))))))))) ?_
                refine G_iload 8 dL_law_415 rfl ?_
                refine G_aload_n 3 dL_law_417 rfl rfl ?_
                refine G_iload 11 dL_law_418 rfl ?_
                refine G_bipush (v := (9 : Int32)) dL_law_420 (by decide) ?_
                refine G_callV (av := [.int v14, .int (9 : Int32)]) [.int v11] (fun q84 => ct_X10_lane l N z q84 v14 (9 : Int32)) K_12 rfl yn_X10_lane (Nat.le_of_ble_eq_true rfl) (by decide) gw_560 gw_561 gw_562 gw_39 gw_563 rfl (by simp only [hw_n, hw_i, hw_r, hw_j, hw_d]; decide) dL_law_422 (fun i83 x82 => ?_)
                refine G_iadd dL_law_425 ?_
                refine G_istore (i := 11) (l2 := [(10, .int (v10 + i80)), (15, .int i56), (0, va_rf v0), (1, va_rf v1), (2, va_rf v2), (3, .int v3), (5, .int v5), (6, va_rf v6), (12, .int v12), (13, .int v13), (14, .int v14)]) [0, 1, 2, 3, 4, 5, 6, 7, 9, 10, 11] dL_law_426 (Nat.le_of_ble_eq_true rfl) rfl (sok_b (by decide) rfl (sok_a (by decide) (by decide) (sok_a (by decide) (by decide) (sok_a (by decide) (by decide) (sok_a (by decide) (by decide) (sok_a (by decide) (by decide) (sok_a (by decide) (by decide) (sok_a (by decide) (by decide) (sok_a (by decide) (by decide) (sok_a (by decide) (by decide) (sok_a (by decide) (by decide) trivial))))))))))) ?_
                refine G_iload 9 dL_law_428 rfl ?_
                refine G_aload_n 4 dL_law_430 rfl rfl ?_
                refine G_iload 11 dL_law_431 rfl ?_
                refine G_bipush (v := (10 : Int32)) dL_law_433 (by decide) ?_
                refine G_callV (av := [.int v14, .int (10 : Int32)]) [.int v12] (fun q87 => ct_X10_lane l N z q87 v14 (10 : Int32)) K_12 rfl yn_X10_lane (Nat.le_of_ble_eq_true rfl) (by decide) gw_560 gw_561 gw_562 gw_39 gw_563 rfl (by simp only [hw_n, hw_i, hw_r, hw_j, hw_d]; decide) dL_law_435 (fun i86 x85 => ?_)
                refine G_iadd dL_law_438 ?_
                refine G_istore (i := 12) (l2 := [(11, .int (v11 + i83)), (10, .int (v10 + i80)), (15, .int i56), (0, va_rf v0), (1, va_rf v1), (2, va_rf v2), (3, .int v3), (5, .int v5), (6, va_rf v6), (13, .int v13), (14, .int v14)]) [0, 1, 2, 3, 4, 5, 6, 7, 8, 10, 11] dL_law_439 (Nat.le_of_ble_eq_true rfl) rfl (sok_b (by decide) rfl (sok_a (by decide) (by decide) (sok_a (by decide) (by decide) (sok_a (by decide) (by decide) (sok_a (by decide) (by decide) (sok_a (by decide) (by decide) (sok_a (by decide) (by decide) (sok_a (by decide) (by decide) (sok_a (by decide) (by decide) (sok_a (by decide) (by decide) (sok_a (by decide) (by decide) trivial))))))))))) ?_
                refine G_iload 10 dL_law_441 rfl ?_
                refine G_aload_n 5 dL_law_443 rfl rfl ?_
                refine G_iload 11 dL_law_444 rfl ?_
                refine G_bipush (v := (11 : Int32)) dL_law_446 (by decide) ?_
                refine G_callV (av := [.int v14, .int (11 : Int32)]) [.int v13] (fun q90 => ct_X10_lane l N z q90 v14 (11 : Int32)) K_12 rfl yn_X10_lane (Nat.le_of_ble_eq_true rfl) (by decide) gw_560 gw_561 gw_562 gw_39 gw_563 rfl (by simp only [hw_n, hw_i, hw_r, hw_j, hw_d]; decide) dL_law_448 (fun i89 x88 => ?_)
                refine G_iadd dL_law_451 ?_
                refine G_istore (i := 13) (l2 := [(12, .int (v12 + i86)), (11, .int (v11 + i83)), (10, .int (v10 + i80)), (15, .int i56), (0, va_rf v0), (1, va_rf v1), (2, va_rf v2), (3, .int v3), (5, .int v5), (6, va_rf v6), (14, .int v14)]) [0, 1, 2, 3, 4, 5, 6, 7, 8, 9, 11] dL_law_452 (Nat.le_of_ble_eq_true rfl) rfl (sok_b (by decide) rfl (sok_a (by decide) (by decide) (sok_a (by decide) (by decide) (sok_a (by decide) (by decide) (sok_a (by decide) (by decide) (sok_a (by decide) (by decide) (sok_a (by decide) (by decide) (sok_a (by decide) (by decide) (sok_a (by decide) (by decide) (sok_a (by decide) (by decide) (sok_a (by decide) (by decide) trivial))))))))))) ?_
                refine G_iconst (v := (0 : Int32)) dL_law_454 rfl ?_
                refine G_istore (i := 16) (l2 := [(13, .int (v13 + i89)), (12, .int (v12 + i86)), (11, .int (v11 + i83)), (10, .int (v10 + i80)), (15, .int i56), (0, va_rf v0), (1, va_rf v1), (2, va_rf v2), (3, .int v3), (5, .int v5), (6, va_rf v6), (14, .int v14)]) [0, 1, 2, 3, 4, 5, 6, 7, 8, 9, 10, 11] dL_law_455 (Nat.le_of_ble_eq_true rfl) rfl (sok_a (by decide) (by decide) (sok_a (by decide) (by decide) (sok_a (by decide) (by decide) (sok_a (by decide) (by decide) (sok_b (by decide) rfl (sok_a (by decide) (by decide) (sok_a (by decide) (by decide) (sok_a (by decide) (by decide) (sok_a (by decide) (by decide) (sok_a (by decide) (by decide) (sok_a (by decide) (by decide) (sok_a (by decide) (by decide) trivial)))))))))))) ?_
                refine G_lv [6, 7, 8, 9, 10, 11, 4, 3, 2, 1, 12, 5, 0] rfl ?_
                exact g_L_law_b457 l N z nm hk28 ih N v0 v1 v2 v3 v5 v6 (v10 + i80) (v11 + i83) (v12 + i86) (v13 + i89) v14 i56 (0 : Int32) x88
              · refine G_iconst (v := (0 : Int32)) dL_law_400 rfl ?_
                exact G_ret (Or.inl rfl) dL_law_401 rfl

set_option maxRecDepth 100000 in
set_option maxHeartbeats 4000000 in
theorem g_L_law_b194 (l : Launch) (N : Nat) (z : Nat → Nat) (nm : String) {k28 : Option Nat → Option Nat → Option Nat → Int32 → Hp → Option (Int32 × Hp)} (hk28 : ∀ v0 v1 v2 v3 x, G l z (m_L_law nm) okZ enI 28 [(0, va_rf v0), (1, va_rf v1), (2, va_rf v2), (3, .int v3)] [] x (k28 v0 v1 v2 v3 x)) : ∀ (n : Nat) (v0 : Option Nat) (v1 : Option Nat) (v2 : Option Nat) (v3 : Int32) (v5 : Int32) (v6 : Option Nat) (v7 : Option Nat) (v8 : Int32) (v9 : Int32) (v10 : Int32) (x0 : Hp), G l z (m_L_law nm) okZ enI 194 [(0, va_rf v0), (1, va_rf v1), (2, va_rf v2), (3, .int v3), (5, .int v5), (6, va_rf v6), (7, va_rf v7), (8, .int v8), (9, .int v9), (10, .int v10)] [] x0 (f_L_law_b194 N z k28 n v0 v1 v2 v3 v5 v6 v7 v8 v9 v10 x0) := by
  intro n
  induction n with
  | zero => intro v0 v1 v2 v3 v5 v6 v7 v8 v9 v10 x0; exact G_none
  | succ n ih =>
  intro v0 v1 v2 v3 v5 v6 v7 v8 v9 v10 x0
  rw [f_L_law_b194]
  refine G_iload 9 dL_law_194 rfl ?_
  refine G_bipush (v := (12 : Int32)) dL_law_196 (by decide) ?_
  refine G_icmp_ge (tgt := 223) dL_law_198 (by decide) (fun _ => ?_) (fun _ => ?_)
  · refine G_aload_n 1 dL_law_223 rfl rfl ?_
    refine G_bipush (v := (7 : Int32)) dL_law_224 (by decide) ?_
    refine G_callV (av := [.int (7 : Int32)]) [] (fun q93 => ct_X10_count l N z q93 (7 : Int32)) K_12 rfl yn_X10_count (Nat.le_of_ble_eq_true rfl) (by decide) gw_470 gw_471 gw_472 gw_39 gw_473 rfl (by decide) dL_law_226 (fun i92 x91 => ?_)
    refine G_iload 7 dL_law_229 rfl ?_
    refine G_iload 8 dL_law_231 rfl ?_
    refine G_iadd dL_law_233 ?_
    refine G_icmp_ne (tgt := 292) dL_law_234 (by decide) (fun _ => ?_) (fun _ => ?_)
    · refine G_iload 8 dL_law_237 rfl ?_
      refine G_aload_n 1 dL_law_239 rfl rfl ?_
      refine G_iconst (v := (1 : Int32)) dL_law_240 rfl ?_
      refine G_callV (av := [.int (1 : Int32)]) [.int v9] (fun q96 => ct_X10_count l N z q96 (1 : Int32)) K_12 rfl yn_X10_count (Nat.le_of_ble_eq_true rfl) (by decide) gw_470 gw_471 gw_472 gw_39 gw_473 rfl (by simp only [hw_n, hw_i, hw_r, hw_j, hw_d]; decide) dL_law_241 (fun i95 x94 => ?_)
      refine G_icmp_gt (tgt := 292) dL_law_244 (by decide) (fun _ => ?_) (fun _ => ?_)
      · refine G_iconst (v := (0 : Int32)) dL_law_292 rfl ?_
        exact G_ret (Or.inl rfl) dL_law_293 rfl
      · refine G_aload_n 1 dL_law_247 rfl rfl ?_
        refine G_bipush (v := (11 : Int32)) dL_law_248 (by decide) ?_
        refine G_callV (av := [.int (11 : Int32)]) [] (fun q99 => ct_X10_count l N z q99 (11 : Int32)) K_12 rfl yn_X10_count (Nat.le_of_ble_eq_true rfl) (by decide) gw_470 gw_471 gw_472 gw_39 gw_473 rfl (by decide) dL_law_250 (fun i98 x97 => ?_)
        refine G_aload_n 1 dL_law_253 rfl rfl ?_
        refine G_iconst (v := (1 : Int32)) dL_law_254 rfl ?_
        refine G_callV (av := [.int (1 : Int32)]) [.int i98] (fun q102 => ct_X10_count l N z q102 (1 : Int32)) K_12 rfl yn_X10_count (Nat.le_of_ble_eq_true rfl) (by decide) gw_470 gw_471 gw_472 gw_39 gw_473 rfl (by simp only [hw_n, hw_i, hw_r, hw_j, hw_d]; decide) dL_law_255 (fun i101 x100 => ?_)
        refine G_iload 8 dL_law_258 rfl ?_
        refine G_isub dL_law_260 ?_
        refine G_icmp_ne (tgt := 292) dL_law_261 (by decide) (fun _ => ?_) (fun _ => ?_)
        · refine G_aload_n 1 dL_law_264 rfl rfl ?_
          refine G_bipush (v := (6 : Int32)) dL_law_265 (by decide) ?_
          refine G_callV (av := [.int (6 : Int32)]) [] (fun q105 => ct_X10_count l N z q105 (6 : Int32)) K_12 rfl yn_X10_count (Nat.le_of_ble_eq_true rfl) (by decide) gw_470 gw_471 gw_472 gw_39 gw_473 rfl (by decide) dL_law_267 (fun i104 x103 => ?_)
          refine G_aload_n 1 dL_law_270 rfl rfl ?_
          refine G_iconst (v := (5 : Int32)) dL_law_271 rfl ?_
          refine G_callV (av := [.int (5 : Int32)]) [.int i104] (fun q108 => ct_X10_count l N z q108 (5 : Int32)) K_12 rfl yn_X10_count (Nat.le_of_ble_eq_true rfl) (by decide) gw_470 gw_471 gw_472 gw_39 gw_473 rfl (by simp only [hw_n, hw_i, hw_r, hw_j, hw_d]; decide) dL_law_272 (fun i107 x106 => ?_)
          refine G_aload_n 1 dL_law_275 rfl rfl ?_
          refine G_bipush (v := (7 : Int32)) dL_law_276 (by decide) ?_
          refine G_callV (av := [.int (7 : Int32)]) [.int i107, .int i104] (fun q111 => ct_X10_count l N z q111 (7 : Int32)) K_12 rfl yn_X10_count (Nat.le_of_ble_eq_true rfl) (by decide) gw_470 gw_471 gw_472 gw_39 gw_473 rfl (by simp only [hw_n, hw_i, hw_r, hw_j, hw_d]; decide) dL_law_278 (fun i110 x109 => ?_)
          refine G_iadd dL_law_281 ?_
          refine G_aload_n 1 dL_law_282 rfl rfl ?_
          refine G_bipush (v := (8 : Int32)) dL_law_283 (by decide) ?_
          refine G_callV (av := [.int (8 : Int32)]) [.int (i107 + i110), .int i104] (fun q114 => ct_X10_count l N z q114 (8 : Int32)) K_12 rfl yn_X10_count (Nat.le_of_ble_eq_true rfl) (by decide) gw_470 gw_471 gw_472 gw_39 gw_473 rfl (by simp only [hw_n, hw_i, hw_r, hw_j, hw_d]; decide) dL_law_285 (fun i113 x112 => ?_)
          refine G_iadd dL_law_288 ?_
          refine G_icmp_eq (tgt := 294) dL_law_289 (by decide) (fun _ => ?_) (fun _ => ?_)
          · refine G_iconst (v := (0 : Int32)) dL_law_294 rfl ?_
            refine G_istore (i := 10) (l2 := [(0, va_rf v0), (1, va_rf v1), (2, va_rf v2), (3, .int v3), (5, .int v5), (6, va_rf v6), (7, va_rf v7), (8, .int v8), (9, .int v9)]) [0, 1, 2, 3, 4, 5, 6, 7, 8] dL_law_295 (Nat.le_of_ble_eq_true rfl) rfl (sok_a (by decide) (by decide) (sok_a (by decide) (by decide) (sok_a (by decide) (by decide) (sok_a (by decide) (by decide) (sok_a (by decide) (by decide) (sok_a (by decide) (by decide) (sok_a (by decide) (by decide) (sok_a (by decide) (by decide) (sok_b (by decide) rfl trivial))))))))) ?_
            refine G_iconst (v := (0 : Int32)) dL_law_297 rfl ?_
            refine G_istore (i := 11) (l2 := [(10, .int (0 : Int32)), (0, va_rf v0), (1, va_rf v1), (2, va_rf v2), (3, .int v3), (5, .int v5), (6, va_rf v6), (7, va_rf v7), (8, .int v8), (9, .int v9)]) [0, 1, 2, 3, 4, 5, 6, 7, 8, 9] dL_law_298 (Nat.le_of_ble_eq_true rfl) rfl (sok_b (by decide) rfl (sok_a (by decide) (by decide) (sok_a (by decide) (by decide) (sok_a (by decide) (by decide) (sok_a (by decide) (by decide) (sok_a (by decide) (by decide) (sok_a (by decide) (by decide) (sok_a (by decide) (by decide) (sok_a (by decide) (by decide) (sok_a (by decide) (by decide) trivial)))))))))) ?_
            refine G_iconst (v := (0 : Int32)) dL_law_300 rfl ?_
            refine G_istore (i := 12) (l2 := [(11, .int (0 : Int32)), (10, .int (0 : Int32)), (0, va_rf v0), (1, va_rf v1), (2, va_rf v2), (3, .int v3), (5, .int v5), (6, va_rf v6), (7, va_rf v7), (8, .int v8), (9, .int v9)]) [0, 1, 2, 3, 4, 5, 6, 7, 8, 9, 10] dL_law_301 (Nat.le_of_ble_eq_true rfl) rfl (sok_b (by decide) rfl (sok_a (by decide) (by decide) (sok_a (by decide) (by decide) (sok_a (by decide) (by decide) (sok_a (by decide) (by decide) (sok_a (by decide) (by decide) (sok_a (by decide) (by decide) (sok_a (by decide) (by decide) (sok_a (by decide) (by decide) (sok_a (by decide) (by decide) (sok_a (by decide) (by decide) trivial))))))))))) ?_
            refine G_iconst (v := (0 : Int32)) dL_law_303 rfl ?_
            refine G_istore (i := 13) (l2 := [(12, .int (0 : Int32)), (11, .int (0 : Int32)), (10, .int (0 : Int32)), (0, va_rf v0), (1, va_rf v1), (2, va_rf v2), (3, .int v3), (5, .int v5), (6, va_rf v6), (7, va_rf v7), (8, .int v8), (9, .int v9)]) [0, 1, 2, 3, 4, 5, 6, 7, 8, 9, 10, 11] dL_law_304 (Nat.le_of_ble_eq_true rfl) rfl (sok_b (by decide) rfl (sok_a (by decide) (by decide) (sok_a (by decide) (by decide) (sok_a (by decide) (by decide) (sok_a (by decide) (by decide) (sok_a (by decide) (by decide) (sok_a (by decide) (by decide) (sok_a (by decide) (by decide) (sok_a (by decide) (by decide) (sok_a (by decide) (by decide) (sok_a (by decide) (by decide) (sok_a (by decide) (by decide) trivial)))))))))))) ?_
            refine G_iconst (v := (0 : Int32)) dL_law_306 rfl ?_
            refine G_istore (i := 14) (l2 := [(13, .int (0 : Int32)), (12, .int (0 : Int32)), (11, .int (0 : Int32)), (10, .int (0 : Int32)), (0, va_rf v0), (1, va_rf v1), (2, va_rf v2), (3, .int v3), (5, .int v5), (6, va_rf v6), (7, va_rf v7), (8, .int v8), (9, .int v9)]) [0, 1, 2, 3, 4, 5, 6, 7, 8, 9, 10, 11, 12] dL_law_307 (Nat.le_of_ble_eq_true rfl) rfl (sok_b (by decide) rfl (sok_a (by decide) (by decide) (sok_a (by decide) (by decide) (sok_a (by decide) (by decide) (sok_a (by decide) (by decide) (sok_a (by decide) (by decide) (sok_a (by decide) (by decide) (sok_a (by decide) (by decide) (sok_a (by decide) (by decide) (sok_a (by decide) (by decide) (sok_a (by decide) (by decide) (sok_a (by decide) (by decide) (sok_a (by decide) (by decide) trivial))))))))))))) ?_
            refine G_lv [5, 6, 7, 8, 9, 10, 4, 3, 2, 1, 0] rfl ?_
            exact g_L_law_b309 l N z nm hk28 N v0 v1 v2 v3 v5 v6 (0 : Int32) (0 : Int32) (0 : Int32) (0 : Int32) (0 : Int32) x112
          · refine G_iconst (v := (0 : Int32)) dL_law_292 rfl ?_
            exact G_ret (Or.inl rfl) dL_law_293 rfl
        · refine G_iconst (v := (0 : Int32)) dL_law_292 rfl ?_
          exact G_ret (Or.inl rfl) dL_law_293 rfl
    · refine G_iconst (v := (0 : Int32)) dL_law_292 rfl ?_
      exact G_ret (Or.inl rfl) dL_law_293 rfl
  · refine G_aload_n 1 dL_law_201 rfl rfl ?_
    refine G_iload 9 dL_law_202 rfl ?_
    refine G_callV (av := [.int v10]) [] (fun q117 => ct_X10_count l N z q117 v10) K_12 rfl yn_X10_count (Nat.le_of_ble_eq_true rfl) (by decide) gw_470 gw_471 gw_472 gw_39 gw_473 rfl (by decide) dL_law_204 (fun i116 x115 => ?_)
    refine G_aload 6 dL_law_207 rfl ?_
    refine G_iload 9 dL_law_209 rfl ?_
    refine G_iald dL_law_211 (fun i118 => ?_)
    refine G_icmp_eq (tgt := 217) dL_law_212 (by decide) (fun _ => ?_) (fun _ => ?_)
    · refine G_iinc (i := 10) (l2 := [(0, va_rf v0), (1, va_rf v1), (2, va_rf v2), (3, .int v3), (5, .int v5), (6, va_rf v6), (7, va_rf v7), (8, .int v8), (9, .int v9)]) 9 [0, 1, 2, 3, 4, 5, 6, 7, 8] dL_law_217 rfl rfl (Nat.le_of_ble_eq_true rfl) rfl (sok_a (by decide) (by decide) (sok_a (by decide) (by decide) (sok_a (by decide) (by decide) (sok_a (by decide) (by decide) (sok_a (by decide) (by decide) (sok_a (by decide) (by decide) (sok_a (by decide) (by decide) (sok_a (by decide) (by decide) (sok_b (by decide) rfl trivial))))))))) ?_
      refine G_goto (tgt := 194) dL_law_220 (by decide) ?_
      refine G_lv [1, 2, 3, 4, 5, 6, 7, 8, 9, 0] rfl ?_
      exact ih v0 v1 v2 v3 v5 v6 v7 v8 v9 (v10 + (1 : Int32)) x115
    · refine G_iconst (v := (0 : Int32)) dL_law_215 rfl ?_
      exact G_ret (Or.inl rfl) dL_law_216 rfl

set_option maxRecDepth 100000 in
set_option maxHeartbeats 4000000 in
theorem g_L_law_b147 (l : Launch) (N : Nat) (z : Nat → Nat) (nm : String) {k28 : Option Nat → Option Nat → Option Nat → Int32 → Hp → Option (Int32 × Hp)} (hk28 : ∀ v0 v1 v2 v3 x, G l z (m_L_law nm) okZ enI 28 [(0, va_rf v0), (1, va_rf v1), (2, va_rf v2), (3, .int v3)] [] x (k28 v0 v1 v2 v3 x)) : ∀ (n : Nat) (v0 : Option Nat) (v1 : Option Nat) (v2 : Option Nat) (v3 : Int32) (v5 : Int32) (v6 : Option Nat) (v7 : Option Nat) (v8 : Int32) (x0 : Hp), G l z (m_L_law nm) okZ enI 147 [(0, va_rf v0), (1, va_rf v1), (2, va_rf v2), (3, .int v3), (5, .int v5), (6, va_rf v6), (7, va_rf v7), (8, .int v8)] [] x0 (f_L_law_b147 N z k28 n v0 v1 v2 v3 v5 v6 v7 v8 x0) := by
  intro n
  induction n with
  | zero => intro v0 v1 v2 v3 v5 v6 v7 v8 x0; exact G_none
  | succ n ih =>
  intro v0 v1 v2 v3 v5 v6 v7 v8 x0
  rw [f_L_law_b147]
  refine G_iload 7 dL_law_147 rfl ?_
  refine G_bipush (v := (12 : Int32)) dL_law_149 (by decide) ?_
  refine G_icmp_ge (tgt := 172) dL_law_151 (by decide) (fun _ => ?_) (fun _ => ?_)
  · refine G_aload_n 1 dL_law_172 rfl rfl ?_
    refine G_bipush (v := (7 : Int32)) dL_law_173 (by decide) ?_
    refine G_callV (av := [.int (7 : Int32)]) [] (fun q121 => ct_X10_count l N z q121 (7 : Int32)) K_12 rfl yn_X10_count (Nat.le_of_ble_eq_true rfl) (by decide) gw_470 gw_471 gw_472 gw_39 gw_473 rfl (by decide) dL_law_175 (fun i120 x119 => ?_)
    refine G_istore (i := 8) (l2 := [(0, va_rf v0), (1, va_rf v1), (2, va_rf v2), (3, .int v3), (5, .int v5), (6, va_rf v6), (7, va_rf v7)]) [0, 1, 2, 3, 4, 5, 6] dL_law_178 (Nat.le_of_ble_eq_true rfl) rfl (sok_a (by decide) (by decide) (sok_a (by decide) (by decide) (sok_a (by decide) (by decide) (sok_a (by decide) (by decide) (sok_a (by decide) (by decide) (sok_a (by decide) (by decide) (sok_b (by decide) (rf_cat _) trivial))))))) ?_
    refine G_aload_n 2 dL_law_180 rfl rfl ?_
    refine G_iconst (v := (1 : Int32)) dL_law_181 rfl ?_
    refine G_callV (av := [.int (1 : Int32)]) [] (fun q124 => ct_X10_pass l N z q124 (1 : Int32)) K_12 rfl yn_X10_pass (Nat.le_of_ble_eq_true rfl) (by decide) gw_603 gw_604 gw_605 gw_39 gw_606 rfl (by decide) dL_law_182 (fun i123 x122 => ?_)
    refine G_istore (i := 9) (l2 := [(8, .int i120), (0, va_rf v0), (1, va_rf v1), (2, va_rf v2), (3, .int v3), (5, .int v5), (6, va_rf v6), (7, va_rf v7)]) [0, 1, 2, 3, 4, 5, 6, 7] dL_law_185 (Nat.le_of_ble_eq_true rfl) rfl (sok_b (by decide) rfl (sok_a (by decide) (by decide) (sok_a (by decide) (by decide) (sok_a (by decide) (by decide) (sok_a (by decide) (by decide) (sok_a (by decide) (by decide) (sok_a (by decide) (by decide) (sok_a (by decide) (by decide) trivial)))))))) ?_
    refine G_aload_n 4 dL_law_187 rfl rfl ?_
    refine G_callV (av := []) [] (fun q126 => ct_X12_pass l N z q126) K_14 rfl yn_X12_pass (Nat.le_of_ble_eq_true rfl) (by decide) gw_785 gw_786 gw_787 gw_54 gw_788 rfl (by decide) dL_law_188 (fun _ x125 => ?_)
    refine G_iconst (v := (5 : Int32)) dL_law_191 rfl ?_
    refine G_istore (i := 10) (l2 := [(9, .int i123), (8, .int i120), (0, va_rf v0), (1, va_rf v1), (2, va_rf v2), (3, .int v3), (5, .int v5), (6, va_rf v6), (7, va_rf v7)]) [0, 1, 2, 3, 4, 5, 6, 7, 8] dL_law_192 (Nat.le_of_ble_eq_true rfl) rfl (sok_b (by decide) rfl (sok_a (by decide) (by decide) (sok_a (by decide) (by decide) (sok_a (by decide) (by decide) (sok_a (by decide) (by decide) (sok_a (by decide) (by decide) (sok_a (by decide) (by decide) (sok_a (by decide) (by decide) (sok_a (by decide) (by decide) trivial))))))))) ?_
    refine G_lv [3, 4, 5, 6, 7, 8, 9, 2, 1, 0] rfl ?_
    exact g_L_law_b194 l N z nm hk28 N v0 v1 v2 v3 v5 v6 v7 i120 i123 (5 : Int32) x125
  · refine G_aload 6 dL_law_154 rfl ?_
    refine G_iload 7 dL_law_156 rfl ?_
    refine G_aload_n 1 dL_law_158 rfl rfl ?_
    refine G_iconst (v := (1 : Int32)) dL_law_159 rfl ?_
    refine G_iload 7 dL_law_160 rfl ?_
    refine G_callV (av := [.int (1 : Int32), .int v8]) [.int v8, va_rf v7] (fun q129 => ct_X10_foresee l N z q129 (1 : Int32) v8) K_12 rfl yn_X10_foresee (Nat.le_of_ble_eq_true rfl) (by decide) gw_735 gw_736 gw_737 gw_39 gw_738 rfl (by simp only [hw_n, hw_i, hw_r, hw_j, hw_d]; decide) dL_law_162 (fun i128 x127 => ?_)
    refine G_iast dL_law_165 (fun x130 => ?_)
    refine G_iinc (i := 8) (l2 := [(0, va_rf v0), (1, va_rf v1), (2, va_rf v2), (3, .int v3), (5, .int v5), (6, va_rf v6), (7, va_rf v7)]) 7 [0, 1, 2, 3, 4, 5, 6] dL_law_166 rfl rfl (Nat.le_of_ble_eq_true rfl) rfl (sok_a (by decide) (by decide) (sok_a (by decide) (by decide) (sok_a (by decide) (by decide) (sok_a (by decide) (by decide) (sok_a (by decide) (by decide) (sok_a (by decide) (by decide) (sok_b (by decide) (rf_cat _) trivial))))))) ?_
    refine G_goto (tgt := 147) dL_law_169 (by decide) ?_
    refine G_lv [1, 2, 3, 4, 5, 6, 7, 0] rfl ?_
    exact ih v0 v1 v2 v3 v5 v6 v7 (v8 + (1 : Int32)) x130

set_option maxRecDepth 100000 in
set_option maxHeartbeats 4000000 in
theorem g_L_law_b112 (l : Launch) (N : Nat) (z : Nat → Nat) (nm : String) {k28 : Option Nat → Option Nat → Option Nat → Int32 → Hp → Option (Int32 × Hp)} (hk28 : ∀ v0 v1 v2 v3 x, G l z (m_L_law nm) okZ enI 28 [(0, va_rf v0), (1, va_rf v1), (2, va_rf v2), (3, .int v3)] [] x (k28 v0 v1 v2 v3 x)) : ∀ (n : Nat) (v0 : Option Nat) (v1 : Option Nat) (v2 : Option Nat) (v3 : Int32) (v5 : Int32) (v6 : Option Nat) (v7 : Int32) (x0 : Hp), G l z (m_L_law nm) okZ enI 112 [(0, va_rf v0), (1, va_rf v1), (2, va_rf v2), (3, .int v3), (5, .int v5), (6, va_rf v6), (7, .int v7)] [] x0 (f_L_law_b112 N z k28 n v0 v1 v2 v3 v5 v6 v7 x0) := by
  intro n
  induction n with
  | zero => intro v0 v1 v2 v3 v5 v6 v7 x0; exact G_none
  | succ n ih =>
  intro v0 v1 v2 v3 v5 v6 v7 x0
  rw [f_L_law_b112]
  refine G_iload 6 dL_law_112 rfl ?_
  refine G_iload 4 dL_law_114 rfl ?_
  refine G_icmp_ge (tgt := 138) dL_law_116 (by decide) (fun _ => ?_) (fun _ => ?_)
  · refine G_bipush (v := (12 : Int32)) dL_law_138 (by decide) ?_
    refine G_newa (t := 1) rfl (Or.inr (Or.inl ⟨rfl, rfl⟩)) gw_140 dL_law_140 (fun r131 x132 => ?_)
    refine G_astore (i := 7) (l2 := [(0, va_rf v0), (1, va_rf v1), (2, va_rf v2), (3, .int v3), (5, .int v5), (6, va_rf v6)]) [0, 1, 2, 3, 4, 5] dL_law_142 (Nat.le_of_ble_eq_true rfl) rfl (sok_a (by decide) (by decide) (sok_a (by decide) (by decide) (sok_a (by decide) (by decide) (sok_a (by decide) (by decide) (sok_a (by decide) (by decide) (sok_b (by decide) (rf_cat _) trivial)))))) ?_
    refine G_iconst (v := (5 : Int32)) dL_law_144 rfl ?_
    refine G_istore (i := 8) (l2 := [(7, va_rf r131), (0, va_rf v0), (1, va_rf v1), (2, va_rf v2), (3, .int v3), (5, .int v5), (6, va_rf v6)]) [0, 1, 2, 3, 4, 5, 6] dL_law_145 (Nat.le_of_ble_eq_true rfl) rfl (sok_b (by decide) (rf_cat _) (sok_a (by decide) (by decide) (sok_a (by decide) (by decide) (sok_a (by decide) (by decide) (sok_a (by decide) (by decide) (sok_a (by decide) (by decide) (sok_a (by decide) (by decide) trivial))))))) ?_
    refine G_lv [2, 3, 4, 5, 6, 7, 1, 0] rfl ?_
    exact g_L_law_b147 l N z nm hk28 N v0 v1 v2 v3 v5 v6 r131 (5 : Int32) x132
  · refine G_aload 5 dL_law_119 rfl ?_
    refine G_iload 6 dL_law_121 rfl ?_
    refine G_aload_n 1 dL_law_123 rfl rfl ?_
    refine G_iload 6 dL_law_124 rfl ?_
    refine G_bipush (v := (8 : Int32)) dL_law_126 (by decide) ?_
    refine G_callV (av := [.int v7, .int (8 : Int32)]) [.int v7, va_rf v6] (fun q135 => ct_X10_lane l N z q135 v7 (8 : Int32)) K_12 rfl yn_X10_lane (Nat.le_of_ble_eq_true rfl) (by decide) gw_560 gw_561 gw_562 gw_39 gw_563 rfl (by simp only [hw_n, hw_i, hw_r, hw_j, hw_d]; decide) dL_law_128 (fun i134 x133 => ?_)
    refine G_iast dL_law_131 (fun x136 => ?_)
    refine G_iinc (i := 7) (l2 := [(0, va_rf v0), (1, va_rf v1), (2, va_rf v2), (3, .int v3), (5, .int v5), (6, va_rf v6)]) 6 [0, 1, 2, 3, 4, 5] dL_law_132 rfl rfl (Nat.le_of_ble_eq_true rfl) rfl (sok_a (by decide) (by decide) (sok_a (by decide) (by decide) (sok_a (by decide) (by decide) (sok_a (by decide) (by decide) (sok_a (by decide) (by decide) (sok_b (by decide) (rf_cat _) trivial)))))) ?_
    refine G_goto (tgt := 112) dL_law_135 (by decide) ?_
    refine G_lv [1, 2, 3, 4, 5, 6, 0] rfl ?_
    exact ih v0 v1 v2 v3 v5 v6 (v7 + (1 : Int32)) x136

set_option maxRecDepth 100000 in
set_option maxHeartbeats 4000000 in
theorem g_L_law_b60 (l : Launch) (N : Nat) (z : Nat → Nat) (nm : String) {k28 : Option Nat → Option Nat → Option Nat → Int32 → Hp → Option (Int32 × Hp)} (hk28 : ∀ v0 v1 v2 v3 x, G l z (m_L_law nm) okZ enI 28 [(0, va_rf v0), (1, va_rf v1), (2, va_rf v2), (3, .int v3)] [] x (k28 v0 v1 v2 v3 x)) : ∀ (n : Nat) (v0 : Option Nat) (v1 : Option Nat) (v2 : Option Nat) (v3 : Int32) (v4 : Int32) (v5 : Int32) (x0 : Hp), G l z (m_L_law nm) okZ enI 60 [(0, va_rf v0), (1, va_rf v1), (2, va_rf v2), (3, .int v3), (4, .int v4), (5, .int v5)] [] x0 (f_L_law_b60 N z k28 n v0 v1 v2 v3 v4 v5 x0) := by
  intro n
  induction n with
  | zero => intro v0 v1 v2 v3 v4 v5 x0; exact G_none
  | succ n ih =>
  intro v0 v1 v2 v3 v4 v5 x0
  rw [f_L_law_b60]
  refine G_iload 5 dL_law_60 rfl ?_
  refine G_iconst (v := (2 : Int32)) dL_law_62 rfl ?_
  refine G_icmp_ge (tgt := 96) dL_law_63 (by decide) (fun _ => ?_) (fun _ => ?_)
  · refine G_aload_n 1 dL_law_96 rfl rfl ?_
    refine G_iconst (v := (2 : Int32)) dL_law_97 rfl ?_
    refine G_callV (av := [.int (2 : Int32)]) [] (fun q139 => ct_X10_count l N z q139 (2 : Int32)) K_12 rfl yn_X10_count (Nat.le_of_ble_eq_true rfl) (by decide) gw_470 gw_471 gw_472 gw_39 gw_473 rfl (by decide) dL_law_98 (fun i138 x137 => ?_)
    refine G_istore (i := 5) (l2 := [(0, va_rf v0), (1, va_rf v1), (2, va_rf v2), (3, .int v3), (4, .int v4)]) [0, 1, 2, 3, 4] dL_law_101 (Nat.le_of_ble_eq_true rfl) rfl (sok_a (by decide) (by decide) (sok_a (by decide) (by decide) (sok_a (by decide) (by decide) (sok_a (by decide) (by decide) (sok_b (by decide) rfl trivial))))) ?_
    refine G_iload 0 dL_law_103 rfl ?_
    refine G_newa (t := 1) rfl (Or.inr (Or.inl ⟨rfl, rfl⟩)) gw_140 dL_law_105 (fun r140 x141 => ?_)
    refine G_astore (i := 6) (l2 := [(5, .int i138), (0, va_rf v0), (1, va_rf v1), (2, va_rf v2), (3, .int v3), (4, .int v4)]) [0, 1, 2, 3, 4, 5] dL_law_107 (Nat.le_of_ble_eq_true rfl) rfl (sok_b (by decide) rfl (sok_a (by decide) (by decide) (sok_a (by decide) (by decide) (sok_a (by decide) (by decide) (sok_a (by decide) (by decide) (sok_a (by decide) (by decide) trivial)))))) ?_
    refine G_iconst (v := (0 : Int32)) dL_law_109 rfl ?_
    refine G_istore (i := 7) (l2 := [(6, va_rf r140), (5, .int i138), (0, va_rf v0), (1, va_rf v1), (2, va_rf v2), (3, .int v3), (4, .int v4)]) [0, 1, 2, 3, 4, 5, 6] dL_law_110 (Nat.le_of_ble_eq_true rfl) rfl (sok_b (by decide) (rf_cat _) (sok_a (by decide) (by decide) (sok_a (by decide) (by decide) (sok_a (by decide) (by decide) (sok_a (by decide) (by decide) (sok_a (by decide) (by decide) (sok_a (by decide) (by decide) trivial))))))) ?_
    refine G_lv [3, 4, 5, 6, 2, 1, 0] rfl ?_
    exact g_L_law_b112 l N z nm hk28 N v0 v1 v2 v3 i138 r140 (0 : Int32) x141
  · refine G_aload_n 1 dL_law_66 rfl rfl ?_
    refine G_aload_n 2 dL_law_67 rfl rfl ?_
    refine G_iload 4 dL_law_68 rfl ?_
    refine G_iconst (v := (2 : Int32)) dL_law_70 rfl ?_
    refine G_iload 5 dL_law_71 rfl ?_
    refine G_imul dL_law_73 ?_
    refine G_ishr dL_law_74 ?_
    refine G_sipush (v := (311 : Int32)) dL_law_75 (by decide) ?_
    refine G_iload 5 dL_law_78 rfl ?_
    refine G_imul dL_law_80 ?_
    refine G_iadd dL_law_81 ?_
    refine G_callS (av := [va_rf v1, va_rf v2, .int ((v4 >>> (((2 : Int32) * v5) &&& 31)) + ((311 : Int32) * v5))]) [] (ct_L_act l N z v1 v2 ((v4 >>> (((2 : Int32) * v5) &&& 31)) + ((311 : Int32) * v5))) yn_L_act (Nat.le_of_ble_eq_true rfl) (by decide) gw_1459 gw_1460 gw_38 gw_1461 rfl (by decide) dL_law_82 (fun i143 x142 => ?_)
    refine G_if_ne (tgt := 90) dL_law_85 (by decide) (fun _ => ?_) (fun _ => ?_)
    · refine G_iconst (v := (0 : Int32)) dL_law_88 rfl ?_
      exact G_ret (Or.inl rfl) dL_law_89 rfl
    · refine G_iinc (i := 5) (l2 := [(0, va_rf v0), (1, va_rf v1), (2, va_rf v2), (3, .int v3), (4, .int v4)]) 5 [0, 1, 2, 3, 4] dL_law_90 rfl rfl (Nat.le_of_ble_eq_true rfl) rfl (sok_a (by decide) (by decide) (sok_a (by decide) (by decide) (sok_a (by decide) (by decide) (sok_a (by decide) (by decide) (sok_b (by decide) rfl trivial))))) ?_
      refine G_goto (tgt := 60) dL_law_93 (by decide) ?_
      refine G_lv [1, 2, 3, 4, 5, 0] rfl ?_
      exact ih v0 v1 v2 v3 v4 (v5 + (1 : Int32)) x142

set_option maxRecDepth 100000 in
set_option maxHeartbeats 4000000 in
theorem g_L_law_b28 (l : Launch) (N : Nat) (z : Nat → Nat) (nm : String) : ∀ (n : Nat) (v0 : Option Nat) (v1 : Option Nat) (v2 : Option Nat) (v3 : Int32) (x0 : Hp), G l z (m_L_law nm) okZ enI 28 [(0, va_rf v0), (1, va_rf v1), (2, va_rf v2), (3, .int v3)] [] x0 (f_L_law_b28 N z n v0 v1 v2 v3 x0) := by
  intro n
  induction n with
  | zero => intro v0 v1 v2 v3 x0; exact G_none
  | succ n ih =>
  intro v0 v1 v2 v3 x0
  rw [f_L_law_b28]
  refine G_iload_n 3 dL_law_28 rfl rfl ?_
  refine G_bipush (v := (24 : Int32)) dL_law_29 (by decide) ?_
  refine G_icmp_ge (tgt := 732) dL_law_31 (by decide) (fun _ => ?_) (fun _ => ?_)
  · refine G_aload_n 2 dL_law_732 rfl rfl ?_
    refine G_aload_n 1 dL_law_733 rfl rfl ?_
    refine G_callV (av := [va_rf v1]) [] (fun q146 => ct_X12_isSame l N z q146 v1) K_14 rfl yn_X12_isSame (Nat.le_of_ble_eq_true rfl) (by decide) gw_820 gw_821 gw_822 gw_54 gw_823 rfl (by decide) dL_law_734 (fun i145 x144 => ?_)
    exact G_bool (fun h => G_ret h dL_law_737 rfl)
  · refine G_aload_n 0 dL_law_34 rfl rfl ?_
    refine G_iload_n 3 dL_law_35 rfl rfl ?_
    refine G_bipush (v := (16 : Int32)) dL_law_36 (by decide) ?_
    refine G_irem dL_law_38 ?_
    refine G_callS (av := [va_rf v0, .int (v3 - v3 / (16 : Int32) * (16 : Int32))]) [] (ct_L_cell l N z v0 (v3 - v3 / (16 : Int32) * (16 : Int32))) yn_L_cell (Nat.le_of_ble_eq_true rfl) (by decide) gw_1114 gw_1115 gw_38 gw_1116 rfl (by decide) dL_law_39 (fun i148 x147 => ?_)
    refine G_iload_n 3 dL_law_42 rfl rfl ?_
    refine G_bipush (v := (16 : Int32)) dL_law_43 (by decide) ?_
    refine G_idiv dL_law_45 ?_
    refine G_iconst (v := (3 : Int32)) dL_law_46 rfl ?_
    refine G_imul dL_law_47 ?_
    refine G_ishr dL_law_48 ?_
    refine G_sipush (v := (421 : Int32)) dL_law_49 (by decide) ?_
    refine G_iload_n 3 dL_law_52 rfl rfl ?_
    refine G_imul dL_law_53 ?_
    refine G_iadd dL_law_54 ?_
    refine G_istore (i := 4) (l2 := [(0, va_rf v0), (1, va_rf v1), (2, va_rf v2), (3, .int v3)]) [0, 1, 2, 3] dL_law_55 (Nat.le_of_ble_eq_true rfl) rfl (sok_a (by decide) (by decide) (sok_a (by decide) (by decide) (sok_a (by decide) (by decide) (sok_b (by decide) rfl trivial)))) ?_
    refine G_iconst (v := (0 : Int32)) dL_law_57 rfl ?_
    refine G_istore (i := 5) (l2 := [(4, .int ((i148 >>> (((v3 / (16 : Int32)) * (3 : Int32)) &&& 31)) + ((421 : Int32) * v3))), (0, va_rf v0), (1, va_rf v1), (2, va_rf v2), (3, .int v3)]) [0, 1, 2, 3, 4] dL_law_58 (Nat.le_of_ble_eq_true rfl) rfl (sok_b (by decide) rfl (sok_a (by decide) (by decide) (sok_a (by decide) (by decide) (sok_a (by decide) (by decide) (sok_a (by decide) (by decide) trivial))))) ?_
    refine G_lv [2, 3, 4, 5, 1, 0] rfl ?_
    exact g_L_law_b60 l N z nm ih N v0 v1 v2 v3 ((i148 >>> (((v3 / (16 : Int32)) * (3 : Int32)) &&& 31)) + ((421 : Int32) * v3)) (0 : Int32) x147

set_option maxRecDepth 100000 in
set_option maxHeartbeats 4000000 in
theorem g_L_law (l : Launch) (N : Nat) (z : Nat → Nat) (nm : String) (v0 : Option Nat) (x0 : Hp) : G l z (m_L_law nm) okZ enI 0 [(0, va_rf v0)] [] x0 (f_L_law N z v0 x0) := by
  unfold f_L_law
  refine G_new K_12 rfl gw_69 gw_70 gw_39 dL_law_0 (fun r149 x150 => ?_)
  refine G_dup dL_law_3 (rf_cat _) ?_
  refine G_callI (av := []) [va_rf r149] (fun q152 => ct_X10_init l N z q152) rfl yn_X10_init (Nat.le_of_ble_eq_true rfl) (by decide) gw_71 gw_72 gw_39 gw_73 rfl (by simp only [hw_n, hw_i, hw_r, hw_j, hw_d]; decide) dL_law_4 (fun x151 => ?_)
  refine G_astore_n (i := 1) (l2 := [(0, va_rf v0)]) [0] dL_law_7 rfl (Nat.le_of_ble_eq_true rfl) rfl (sok_b (by decide) (rf_cat _) trivial) ?_
  refine G_aload_n 1 dL_law_8 rfl rfl ?_
  refine G_callS (av := [va_rf v0]) [] (ct_L_chosen l N z v0) yn_L_chosen (Nat.le_of_ble_eq_true rfl) (by decide) gw_1331 gw_1332 gw_38 gw_1333 rfl (by decide) dL_law_9 (fun r154 x153 => ?_)
  refine G_astore_n (i := 2) (l2 := [(1, va_rf r149), (0, va_rf v0)]) [0, 1] dL_law_12 rfl (Nat.le_of_ble_eq_true rfl) rfl (sok_b (by decide) (rf_cat _) (sok_a (by decide) (by decide) trivial)) ?_
  refine G_aload_n 1 dL_law_13 rfl rfl ?_
  refine G_aload_n 0 dL_law_14 rfl rfl ?_
  refine G_callV (av := []) [va_rf r149] (fun q157 => ct_X12_text l N z q157) K_14 rfl yn_X12_text (Nat.le_of_ble_eq_true rfl) (by decide) gw_850 gw_851 gw_852 gw_54 gw_853 rfl (by simp only [hw_n, hw_i, hw_r, hw_j, hw_d]; decide) dL_law_15 (fun r156 x155 => ?_)
  refine G_callS (av := [va_rf r149, va_rf r156]) [] (ct_L_say l N z r149 r156) yn_L_say (Nat.le_of_ble_eq_true rfl) (by decide) gw_1118 gw_1119 gw_38 gw_1120 rfl (by decide) dL_law_18 (fun i159 x158 => ?_)
  refine G_if_eq (tgt := 26) dL_law_21 (by decide) (fun _ => ?_) (fun _ => ?_)
  · refine G_iconst (v := (0 : Int32)) dL_law_26 rfl ?_
    refine G_istore_n (i := 3) (l2 := [(2, va_rf r154), (1, va_rf r149), (0, va_rf v0)]) [0, 1, 2] dL_law_27 rfl (Nat.le_of_ble_eq_true rfl) rfl (sok_b (by decide) (rf_cat _) (sok_a (by decide) (by decide) (sok_a (by decide) (by decide) trivial))) ?_
    refine G_lv [3, 2, 1, 0] rfl ?_
    exact g_L_law_b28 l N z nm N v0 r149 r154 (0 : Int32) x158
  · refine G_iconst (v := (0 : Int32)) dL_law_24 rfl ?_
    exact G_ret (Or.inl rfl) dL_law_25 rfl

theorem yn_L_law : Yn yL_law 1 := ⟨by decide +kernel, by decide +kernel, by decide +kernel⟩
