/-! ===== THE START: what the premises give, as a heap of maps ===== -/
/-- the premises, leaf by leaf -/
def gL : List Cond := flatC (Jvm.Cond.and given_1 narrow_1)
/-- the bytes of the String constants -/
def gB : List (List Int32) := [[119, 101, 108, 108, 32, 108, 97, 110, 101, 32, 117, 110, 100, 101, 114, 32, 114, 97, 116, 101, 32, 109, 111, 115, 116, 32, 98, 117, 114, 115, 116, 32, 114, 97, 110, 107, 32, 104, 111, 108, 100, 115, 32, 100, 114, 111, 112, 115, 32, 111, 108, 100, 32, 110, 101, 119, 32, 102, 111, 108, 107, 32, 116, 111, 32, 98, 114, 105, 110, 103, 115, 32, 101, 118, 101, 114, 121, 32, 102, 114, 111, 109, 32, 114, 97, 105, 115, 101, 32, 99, 97, 112, 32, 115, 104, 117, 116, 32, 119, 104, 101, 110, 32, 109, 105, 110, 117, 116, 101, 32, 115, 112, 97, 114, 101, 32, 116, 111, 107, 101, 110, 115, 32, 119, 97, 105, 116, 115, 32, 115, 101, 110, 116, 32, 108, 111, 115, 116, 32, 108, 101, 110, 116, 32, 102, 117, 108, 108, 32, 100, 114, 121, 32, 110, 111, 116, 32, 97, 110, 100, 32, 111, 114, 32, 109, 105, 110, 32, 109, 97, 120, 32],
  [119, 101, 108, 108, 32, 51, 59, 119, 101, 108, 108, 32],
  [59],
  [108, 97, 110, 101, 32, 108],
  [32, 117, 110, 100, 101, 114, 32, 108],
  [32, 114, 97, 116, 101, 32],
  [32, 109, 111, 115, 116, 32],
  [32, 98, 117, 114, 115, 116, 32],
  [32, 114, 97, 110, 107, 32],
  [32, 104, 111, 108, 100, 115, 32],
  [32, 100, 114, 111, 112, 115, 32],
  [111, 108, 100],
  [110, 101, 119],
  [59, 10],
  [102, 111, 108, 107, 32, 102],
  [32, 116, 111, 32, 108],
  [32, 98, 114, 105, 110, 103, 115, 32],
  [32, 101, 118, 101, 114, 121, 32],
  [32, 102, 114, 111, 109, 32],
  [114, 97, 105, 115, 101, 32, 108],
  [99, 97, 112, 32, 108],
  [115, 104, 117, 116, 32, 108],
  [32, 116, 111, 32],
  [],
  [109, 105, 110, 117, 116, 101, 32, 45, 32],
  [115, 112, 97, 114, 101, 43, 116, 111, 107, 101, 110, 115, 32, 108],
  [119, 97, 105, 116, 115, 32, 108],
  [32, 42, 32, 50, 32, 45, 32],
  [115, 101, 110, 116, 32, 108],
  [47, 50],
  [108, 111, 115, 116, 32, 108],
  [32, 45, 32, 108, 101, 110, 116, 32, 108],
  [109, 105, 110, 40],
  [44, 51, 48, 32, 45, 32, 116, 111, 107, 101, 110, 115, 32, 108],
  [41],
  [32, 119, 104, 101, 110, 32],
  [102, 117, 108, 108, 32, 108],
  [110, 111, 116, 32, 100, 114, 121, 32, 108],
  [109, 105, 110, 117, 116, 101, 32, 62, 61, 32],
  [100, 114, 121, 32, 108],
  [32, 111, 114, 32, 115, 112, 97, 114, 101, 32, 60, 32],
  [91, 110, 111, 116, 32, 102, 117, 108, 108, 32, 108],
  [32, 97, 110, 100, 32, 109, 105, 110, 117, 116, 101, 32, 47, 32, 52, 32, 42, 32, 52, 32, 61, 32, 109, 105, 110, 117, 116, 101, 93],
  [32, 62, 32],
  [50, 32, 62, 32, 49],
  [59, 32]]
theorem gL_in (i : Nat) {w : Cond} (h : gL[i]? = some w) : w ∈ gL := List.mem_of_getElem? h
section START
variable {s : State} {args : Array Value} {A : Nat → Prop}
/-- a String constant: where it lies, where its bytes -/
def Sc (s : State) (A : Nat → Prop) (k : Nat) (q : Nat × Nat) : Prop := va_O "java/lang/String" q.1 A s s.heap ∧ va_OF "java/lang/String" "coder" "B" (.int 0) q.1 A s s.heap ∧ va_OF "java/lang/String" "value" "[B" (.ref q.2) q.1 A s s.heap ∧ va_T .byte q.2 (gB.getD k []).length (fun j => .int ((gB.getD k []).getD j 0)) A s s.heap
theorem sc_of {tm : Term} {k : Nat} (hN : (gB.getD k []).length < 2 ^ 31) (hex : (Cond.exactly tm "java/lang/String").before args s = true) (hco : (Cond.eq (.field tm "java/lang/String" "coder" "B") (.int 0)).before args s = true) (har : (Cond.arrayOf (.field tm "java/lang/String" "value" "[B") .byte).before args s = true) (hle : (Cond.eq (.length (.field tm "java/lang/String" "value" "[B")) (.int (Int32.ofNat (gB.getD k []).length))).before args s = true)
    (hel : ∀ j : Nat, j < (gB.getD k []).length → (Cond.eq (.elem (.field tm "java/lang/String" "value" "[B") (.int (Int32.ofNat j))) (.int ((gB.getD k []).getD j 0))).before args s = true) (hA : ∀ a : Nat, a < s.heap.size → ¬ A a) : ∃ q : Nat × Nat, tm.eval args s none [] s = some (.ref q.1) ∧ Sc s A k q := by
  obtain ⟨a, c, cB, kB, q1, q2, q3, q4, q5, q6, -⟩ := Cond.exactly_spec (args := args) (first := s) (o := none) (s := s) (idx := []) (t := tm) (cls := "java/lang/String") hex
  obtain ⟨t, ht, hT⟩ := va_Tof (f := fun j => .int ((gB.getD k []).getD j 0)) (A := A) hN har (va_eqt hle) (fun j hj => va_eqt (hel j hj)) hA
  exact ⟨(a, t), q1, ⟨cB, q3, q5, by rw [q6]; exact q2, hA a (Array.getElem?_eq_some_iff.mp q3).1⟩, vk_OFof q1 (va_eqt hco) hA, vk_OFof q1 ht hA, hT⟩

theorem sc_0 (hs : ∀ w ∈ gL, w.before args s = true) (hA : ∀ a : Nat, a < s.heap.size → ¬ A a) : ∃ q : Nat × Nat, (Term.string "BucketBrigade$Tokens" 25).eval args s none [] s = some (.ref q.1) ∧ Sc s A 0 q :=
  sc_of (k := 0) (by decide +kernel) (hs _ (gL_in 289 (by decide +kernel))) (hs _ (gL_in 290 (by decide +kernel))) (hs _ (gL_in 291 (by decide +kernel))) (hs _ (gL_in 292 (by decide +kernel))) (fun j hj => hs _ (va_run (L := gL) (N := 172) (p := 293) (f := fun j => Cond.eq (.elem (.field (Term.string "BucketBrigade$Tokens" 25) "java/lang/String" "value" "[B") (.int (Int32.ofNat j))) (.int ((gB.getD 0 []).getD j 0))) (by decide +kernel) j hj)) hA
theorem sc_1 (hs : ∀ w ∈ gL, w.before args s = true) (hA : ∀ a : Nat, a < s.heap.size → ¬ A a) : ∃ q : Nat × Nat, (Term.string "BucketBrigadeLaw$Sim" 226).eval args s none [] s = some (.ref q.1) ∧ Sc s A 1 q :=
  sc_of (k := 1) (by decide +kernel) (hs _ (gL_in 741 (by decide +kernel))) (hs _ (gL_in 742 (by decide +kernel))) (hs _ (gL_in 743 (by decide +kernel))) (hs _ (gL_in 744 (by decide +kernel))) (fun j hj => hs _ (va_run (L := gL) (N := 12) (p := 745) (f := fun j => Cond.eq (.elem (.field (Term.string "BucketBrigadeLaw$Sim" 226) "java/lang/String" "value" "[B") (.int (Int32.ofNat j))) (.int ((gB.getD 1 []).getD j 0))) (by decide +kernel) j hj)) hA
theorem sc_2 (hs : ∀ w ∈ gL, w.before args s = true) (hA : ∀ a : Nat, a < s.heap.size → ¬ A a) : ∃ q : Nat × Nat, (Term.string "BucketBrigadeLaw$Sim" 228).eval args s none [] s = some (.ref q.1) ∧ Sc s A 2 q :=
  sc_of (k := 2) (by decide +kernel) (hs _ (gL_in 757 (by decide +kernel))) (hs _ (gL_in 758 (by decide +kernel))) (hs _ (gL_in 759 (by decide +kernel))) (hs _ (gL_in 760 (by decide +kernel))) (fun j hj => hs _ (va_run (L := gL) (N := 1) (p := 761) (f := fun j => Cond.eq (.elem (.field (Term.string "BucketBrigadeLaw$Sim" 228) "java/lang/String" "value" "[B") (.int (Int32.ofNat j))) (.int ((gB.getD 2 []).getD j 0))) (by decide +kernel) j hj)) hA
theorem sc_3 (hs : ∀ w ∈ gL, w.before args s = true) (hA : ∀ a : Nat, a < s.heap.size → ¬ A a) : ∃ q : Nat × Nat, (Term.string "BucketBrigadeLaw$Sim" 230).eval args s none [] s = some (.ref q.1) ∧ Sc s A 3 q :=
  sc_of (k := 3) (by decide +kernel) (hs _ (gL_in 762 (by decide +kernel))) (hs _ (gL_in 763 (by decide +kernel))) (hs _ (gL_in 764 (by decide +kernel))) (hs _ (gL_in 765 (by decide +kernel))) (fun j hj => hs _ (va_run (L := gL) (N := 6) (p := 766) (f := fun j => Cond.eq (.elem (.field (Term.string "BucketBrigadeLaw$Sim" 230) "java/lang/String" "value" "[B") (.int (Int32.ofNat j))) (.int ((gB.getD 3 []).getD j 0))) (by decide +kernel) j hj)) hA
theorem sc_4 (hs : ∀ w ∈ gL, w.before args s = true) (hA : ∀ a : Nat, a < s.heap.size → ¬ A a) : ∃ q : Nat × Nat, (Term.string "BucketBrigadeLaw$Sim" 232).eval args s none [] s = some (.ref q.1) ∧ Sc s A 4 q :=
  sc_of (k := 4) (by decide +kernel) (hs _ (gL_in 772 (by decide +kernel))) (hs _ (gL_in 773 (by decide +kernel))) (hs _ (gL_in 774 (by decide +kernel))) (hs _ (gL_in 775 (by decide +kernel))) (fun j hj => hs _ (va_run (L := gL) (N := 8) (p := 776) (f := fun j => Cond.eq (.elem (.field (Term.string "BucketBrigadeLaw$Sim" 232) "java/lang/String" "value" "[B") (.int (Int32.ofNat j))) (.int ((gB.getD 4 []).getD j 0))) (by decide +kernel) j hj)) hA
theorem sc_5 (hs : ∀ w ∈ gL, w.before args s = true) (hA : ∀ a : Nat, a < s.heap.size → ¬ A a) : ∃ q : Nat × Nat, (Term.string "BucketBrigadeLaw$Sim" 234).eval args s none [] s = some (.ref q.1) ∧ Sc s A 5 q :=
  sc_of (k := 5) (by decide +kernel) (hs _ (gL_in 784 (by decide +kernel))) (hs _ (gL_in 785 (by decide +kernel))) (hs _ (gL_in 786 (by decide +kernel))) (hs _ (gL_in 787 (by decide +kernel))) (fun j hj => hs _ (va_run (L := gL) (N := 6) (p := 788) (f := fun j => Cond.eq (.elem (.field (Term.string "BucketBrigadeLaw$Sim" 234) "java/lang/String" "value" "[B") (.int (Int32.ofNat j))) (.int ((gB.getD 5 []).getD j 0))) (by decide +kernel) j hj)) hA
theorem sc_6 (hs : ∀ w ∈ gL, w.before args s = true) (hA : ∀ a : Nat, a < s.heap.size → ¬ A a) : ∃ q : Nat × Nat, (Term.string "BucketBrigadeLaw$Sim" 236).eval args s none [] s = some (.ref q.1) ∧ Sc s A 6 q :=
  sc_of (k := 6) (by decide +kernel) (hs _ (gL_in 794 (by decide +kernel))) (hs _ (gL_in 795 (by decide +kernel))) (hs _ (gL_in 796 (by decide +kernel))) (hs _ (gL_in 797 (by decide +kernel))) (fun j hj => hs _ (va_run (L := gL) (N := 6) (p := 798) (f := fun j => Cond.eq (.elem (.field (Term.string "BucketBrigadeLaw$Sim" 236) "java/lang/String" "value" "[B") (.int (Int32.ofNat j))) (.int ((gB.getD 6 []).getD j 0))) (by decide +kernel) j hj)) hA
theorem sc_7 (hs : ∀ w ∈ gL, w.before args s = true) (hA : ∀ a : Nat, a < s.heap.size → ¬ A a) : ∃ q : Nat × Nat, (Term.string "BucketBrigadeLaw$Sim" 238).eval args s none [] s = some (.ref q.1) ∧ Sc s A 7 q :=
  sc_of (k := 7) (by decide +kernel) (hs _ (gL_in 804 (by decide +kernel))) (hs _ (gL_in 805 (by decide +kernel))) (hs _ (gL_in 806 (by decide +kernel))) (hs _ (gL_in 807 (by decide +kernel))) (fun j hj => hs _ (va_run (L := gL) (N := 7) (p := 808) (f := fun j => Cond.eq (.elem (.field (Term.string "BucketBrigadeLaw$Sim" 238) "java/lang/String" "value" "[B") (.int (Int32.ofNat j))) (.int ((gB.getD 7 []).getD j 0))) (by decide +kernel) j hj)) hA
theorem sc_8 (hs : ∀ w ∈ gL, w.before args s = true) (hA : ∀ a : Nat, a < s.heap.size → ¬ A a) : ∃ q : Nat × Nat, (Term.string "BucketBrigadeLaw$Sim" 240).eval args s none [] s = some (.ref q.1) ∧ Sc s A 8 q :=
  sc_of (k := 8) (by decide +kernel) (hs _ (gL_in 815 (by decide +kernel))) (hs _ (gL_in 816 (by decide +kernel))) (hs _ (gL_in 817 (by decide +kernel))) (hs _ (gL_in 818 (by decide +kernel))) (fun j hj => hs _ (va_run (L := gL) (N := 6) (p := 819) (f := fun j => Cond.eq (.elem (.field (Term.string "BucketBrigadeLaw$Sim" 240) "java/lang/String" "value" "[B") (.int (Int32.ofNat j))) (.int ((gB.getD 8 []).getD j 0))) (by decide +kernel) j hj)) hA
theorem sc_9 (hs : ∀ w ∈ gL, w.before args s = true) (hA : ∀ a : Nat, a < s.heap.size → ¬ A a) : ∃ q : Nat × Nat, (Term.string "BucketBrigadeLaw$Sim" 242).eval args s none [] s = some (.ref q.1) ∧ Sc s A 9 q :=
  sc_of (k := 9) (by decide +kernel) (hs _ (gL_in 825 (by decide +kernel))) (hs _ (gL_in 826 (by decide +kernel))) (hs _ (gL_in 827 (by decide +kernel))) (hs _ (gL_in 828 (by decide +kernel))) (fun j hj => hs _ (va_run (L := gL) (N := 7) (p := 829) (f := fun j => Cond.eq (.elem (.field (Term.string "BucketBrigadeLaw$Sim" 242) "java/lang/String" "value" "[B") (.int (Int32.ofNat j))) (.int ((gB.getD 9 []).getD j 0))) (by decide +kernel) j hj)) hA
theorem sc_10 (hs : ∀ w ∈ gL, w.before args s = true) (hA : ∀ a : Nat, a < s.heap.size → ¬ A a) : ∃ q : Nat × Nat, (Term.string "BucketBrigadeLaw$Sim" 244).eval args s none [] s = some (.ref q.1) ∧ Sc s A 10 q :=
  sc_of (k := 10) (by decide +kernel) (hs _ (gL_in 836 (by decide +kernel))) (hs _ (gL_in 837 (by decide +kernel))) (hs _ (gL_in 838 (by decide +kernel))) (hs _ (gL_in 839 (by decide +kernel))) (fun j hj => hs _ (va_run (L := gL) (N := 7) (p := 840) (f := fun j => Cond.eq (.elem (.field (Term.string "BucketBrigadeLaw$Sim" 244) "java/lang/String" "value" "[B") (.int (Int32.ofNat j))) (.int ((gB.getD 10 []).getD j 0))) (by decide +kernel) j hj)) hA
theorem sc_11 (hs : ∀ w ∈ gL, w.before args s = true) (hA : ∀ a : Nat, a < s.heap.size → ¬ A a) : ∃ q : Nat × Nat, (Term.string "BucketBrigadeLaw$Sim" 246).eval args s none [] s = some (.ref q.1) ∧ Sc s A 11 q :=
  sc_of (k := 11) (by decide +kernel) (hs _ (gL_in 847 (by decide +kernel))) (hs _ (gL_in 848 (by decide +kernel))) (hs _ (gL_in 849 (by decide +kernel))) (hs _ (gL_in 850 (by decide +kernel))) (fun j hj => hs _ (va_run (L := gL) (N := 3) (p := 851) (f := fun j => Cond.eq (.elem (.field (Term.string "BucketBrigadeLaw$Sim" 246) "java/lang/String" "value" "[B") (.int (Int32.ofNat j))) (.int ((gB.getD 11 []).getD j 0))) (by decide +kernel) j hj)) hA
theorem sc_12 (hs : ∀ w ∈ gL, w.before args s = true) (hA : ∀ a : Nat, a < s.heap.size → ¬ A a) : ∃ q : Nat × Nat, (Term.string "BucketBrigadeLaw$Sim" 248).eval args s none [] s = some (.ref q.1) ∧ Sc s A 12 q :=
  sc_of (k := 12) (by decide +kernel) (hs _ (gL_in 854 (by decide +kernel))) (hs _ (gL_in 855 (by decide +kernel))) (hs _ (gL_in 856 (by decide +kernel))) (hs _ (gL_in 857 (by decide +kernel))) (fun j hj => hs _ (va_run (L := gL) (N := 3) (p := 858) (f := fun j => Cond.eq (.elem (.field (Term.string "BucketBrigadeLaw$Sim" 248) "java/lang/String" "value" "[B") (.int (Int32.ofNat j))) (.int ((gB.getD 12 []).getD j 0))) (by decide +kernel) j hj)) hA
theorem sc_13 (hs : ∀ w ∈ gL, w.before args s = true) (hA : ∀ a : Nat, a < s.heap.size → ¬ A a) : ∃ q : Nat × Nat, (Term.string "BucketBrigadeLaw$Sim" 250).eval args s none [] s = some (.ref q.1) ∧ Sc s A 13 q :=
  sc_of (k := 13) (by decide +kernel) (hs _ (gL_in 861 (by decide +kernel))) (hs _ (gL_in 862 (by decide +kernel))) (hs _ (gL_in 863 (by decide +kernel))) (hs _ (gL_in 864 (by decide +kernel))) (fun j hj => hs _ (va_run (L := gL) (N := 2) (p := 865) (f := fun j => Cond.eq (.elem (.field (Term.string "BucketBrigadeLaw$Sim" 250) "java/lang/String" "value" "[B") (.int (Int32.ofNat j))) (.int ((gB.getD 13 []).getD j 0))) (by decide +kernel) j hj)) hA
theorem sc_14 (hs : ∀ w ∈ gL, w.before args s = true) (hA : ∀ a : Nat, a < s.heap.size → ¬ A a) : ∃ q : Nat × Nat, (Term.string "BucketBrigadeLaw$Sim" 252).eval args s none [] s = some (.ref q.1) ∧ Sc s A 14 q :=
  sc_of (k := 14) (by decide +kernel) (hs _ (gL_in 867 (by decide +kernel))) (hs _ (gL_in 868 (by decide +kernel))) (hs _ (gL_in 869 (by decide +kernel))) (hs _ (gL_in 870 (by decide +kernel))) (fun j hj => hs _ (va_run (L := gL) (N := 6) (p := 871) (f := fun j => Cond.eq (.elem (.field (Term.string "BucketBrigadeLaw$Sim" 252) "java/lang/String" "value" "[B") (.int (Int32.ofNat j))) (.int ((gB.getD 14 []).getD j 0))) (by decide +kernel) j hj)) hA
theorem sc_15 (hs : ∀ w ∈ gL, w.before args s = true) (hA : ∀ a : Nat, a < s.heap.size → ¬ A a) : ∃ q : Nat × Nat, (Term.string "BucketBrigadeLaw$Sim" 254).eval args s none [] s = some (.ref q.1) ∧ Sc s A 15 q :=
  sc_of (k := 15) (by decide +kernel) (hs _ (gL_in 877 (by decide +kernel))) (hs _ (gL_in 878 (by decide +kernel))) (hs _ (gL_in 879 (by decide +kernel))) (hs _ (gL_in 880 (by decide +kernel))) (fun j hj => hs _ (va_run (L := gL) (N := 5) (p := 881) (f := fun j => Cond.eq (.elem (.field (Term.string "BucketBrigadeLaw$Sim" 254) "java/lang/String" "value" "[B") (.int (Int32.ofNat j))) (.int ((gB.getD 15 []).getD j 0))) (by decide +kernel) j hj)) hA
theorem sc_16 (hs : ∀ w ∈ gL, w.before args s = true) (hA : ∀ a : Nat, a < s.heap.size → ¬ A a) : ∃ q : Nat × Nat, (Term.string "BucketBrigadeLaw$Sim" 256).eval args s none [] s = some (.ref q.1) ∧ Sc s A 16 q :=
  sc_of (k := 16) (by decide +kernel) (hs _ (gL_in 886 (by decide +kernel))) (hs _ (gL_in 887 (by decide +kernel))) (hs _ (gL_in 888 (by decide +kernel))) (hs _ (gL_in 889 (by decide +kernel))) (fun j hj => hs _ (va_run (L := gL) (N := 8) (p := 890) (f := fun j => Cond.eq (.elem (.field (Term.string "BucketBrigadeLaw$Sim" 256) "java/lang/String" "value" "[B") (.int (Int32.ofNat j))) (.int ((gB.getD 16 []).getD j 0))) (by decide +kernel) j hj)) hA
theorem sc_17 (hs : ∀ w ∈ gL, w.before args s = true) (hA : ∀ a : Nat, a < s.heap.size → ¬ A a) : ∃ q : Nat × Nat, (Term.string "BucketBrigadeLaw$Sim" 258).eval args s none [] s = some (.ref q.1) ∧ Sc s A 17 q :=
  sc_of (k := 17) (by decide +kernel) (hs _ (gL_in 898 (by decide +kernel))) (hs _ (gL_in 899 (by decide +kernel))) (hs _ (gL_in 900 (by decide +kernel))) (hs _ (gL_in 901 (by decide +kernel))) (fun j hj => hs _ (va_run (L := gL) (N := 7) (p := 902) (f := fun j => Cond.eq (.elem (.field (Term.string "BucketBrigadeLaw$Sim" 258) "java/lang/String" "value" "[B") (.int (Int32.ofNat j))) (.int ((gB.getD 17 []).getD j 0))) (by decide +kernel) j hj)) hA
theorem sc_18 (hs : ∀ w ∈ gL, w.before args s = true) (hA : ∀ a : Nat, a < s.heap.size → ¬ A a) : ∃ q : Nat × Nat, (Term.string "BucketBrigadeLaw$Sim" 260).eval args s none [] s = some (.ref q.1) ∧ Sc s A 18 q :=
  sc_of (k := 18) (by decide +kernel) (hs _ (gL_in 909 (by decide +kernel))) (hs _ (gL_in 910 (by decide +kernel))) (hs _ (gL_in 911 (by decide +kernel))) (hs _ (gL_in 912 (by decide +kernel))) (fun j hj => hs _ (va_run (L := gL) (N := 6) (p := 913) (f := fun j => Cond.eq (.elem (.field (Term.string "BucketBrigadeLaw$Sim" 260) "java/lang/String" "value" "[B") (.int (Int32.ofNat j))) (.int ((gB.getD 18 []).getD j 0))) (by decide +kernel) j hj)) hA
theorem sc_19 (hs : ∀ w ∈ gL, w.before args s = true) (hA : ∀ a : Nat, a < s.heap.size → ¬ A a) : ∃ q : Nat × Nat, (Term.string "BucketBrigadeLaw$Sim" 262).eval args s none [] s = some (.ref q.1) ∧ Sc s A 19 q :=
  sc_of (k := 19) (by decide +kernel) (hs _ (gL_in 919 (by decide +kernel))) (hs _ (gL_in 920 (by decide +kernel))) (hs _ (gL_in 921 (by decide +kernel))) (hs _ (gL_in 922 (by decide +kernel))) (fun j hj => hs _ (va_run (L := gL) (N := 7) (p := 923) (f := fun j => Cond.eq (.elem (.field (Term.string "BucketBrigadeLaw$Sim" 262) "java/lang/String" "value" "[B") (.int (Int32.ofNat j))) (.int ((gB.getD 19 []).getD j 0))) (by decide +kernel) j hj)) hA
theorem sc_20 (hs : ∀ w ∈ gL, w.before args s = true) (hA : ∀ a : Nat, a < s.heap.size → ¬ A a) : ∃ q : Nat × Nat, (Term.string "BucketBrigadeLaw$Sim" 264).eval args s none [] s = some (.ref q.1) ∧ Sc s A 20 q :=
  sc_of (k := 20) (by decide +kernel) (hs _ (gL_in 930 (by decide +kernel))) (hs _ (gL_in 931 (by decide +kernel))) (hs _ (gL_in 932 (by decide +kernel))) (hs _ (gL_in 933 (by decide +kernel))) (fun j hj => hs _ (va_run (L := gL) (N := 5) (p := 934) (f := fun j => Cond.eq (.elem (.field (Term.string "BucketBrigadeLaw$Sim" 264) "java/lang/String" "value" "[B") (.int (Int32.ofNat j))) (.int ((gB.getD 20 []).getD j 0))) (by decide +kernel) j hj)) hA
theorem sc_21 (hs : ∀ w ∈ gL, w.before args s = true) (hA : ∀ a : Nat, a < s.heap.size → ¬ A a) : ∃ q : Nat × Nat, (Term.string "BucketBrigadeLaw$Sim" 266).eval args s none [] s = some (.ref q.1) ∧ Sc s A 21 q :=
  sc_of (k := 21) (by decide +kernel) (hs _ (gL_in 939 (by decide +kernel))) (hs _ (gL_in 940 (by decide +kernel))) (hs _ (gL_in 941 (by decide +kernel))) (hs _ (gL_in 942 (by decide +kernel))) (fun j hj => hs _ (va_run (L := gL) (N := 6) (p := 943) (f := fun j => Cond.eq (.elem (.field (Term.string "BucketBrigadeLaw$Sim" 266) "java/lang/String" "value" "[B") (.int (Int32.ofNat j))) (.int ((gB.getD 21 []).getD j 0))) (by decide +kernel) j hj)) hA
theorem sc_22 (hs : ∀ w ∈ gL, w.before args s = true) (hA : ∀ a : Nat, a < s.heap.size → ¬ A a) : ∃ q : Nat × Nat, (Term.string "BucketBrigadeLaw$Sim" 268).eval args s none [] s = some (.ref q.1) ∧ Sc s A 22 q :=
  sc_of (k := 22) (by decide +kernel) (hs _ (gL_in 949 (by decide +kernel))) (hs _ (gL_in 950 (by decide +kernel))) (hs _ (gL_in 951 (by decide +kernel))) (hs _ (gL_in 952 (by decide +kernel))) (fun j hj => hs _ (va_run (L := gL) (N := 4) (p := 953) (f := fun j => Cond.eq (.elem (.field (Term.string "BucketBrigadeLaw$Sim" 268) "java/lang/String" "value" "[B") (.int (Int32.ofNat j))) (.int ((gB.getD 22 []).getD j 0))) (by decide +kernel) j hj)) hA
theorem sc_23 (hs : ∀ w ∈ gL, w.before args s = true) (hA : ∀ a : Nat, a < s.heap.size → ¬ A a) : ∃ q : Nat × Nat, (Term.string "BucketBrigadeLaw$Sim" 108).eval args s none [] s = some (.ref q.1) ∧ Sc s A 23 q :=
  sc_of (k := 23) (by decide +kernel) (hs _ (gL_in 957 (by decide +kernel))) (hs _ (gL_in 958 (by decide +kernel))) (hs _ (gL_in 959 (by decide +kernel))) (hs _ (gL_in 960 (by decide +kernel))) (fun j hj => hs _ (absurd hj (Nat.not_lt_zero _))) hA
theorem sc_24 (hs : ∀ w ∈ gL, w.before args s = true) (hA : ∀ a : Nat, a < s.heap.size → ¬ A a) : ∃ q : Nat × Nat, (Term.string "BucketBrigadeLaw$Sim" 121).eval args s none [] s = some (.ref q.1) ∧ Sc s A 24 q :=
  sc_of (k := 24) (by decide +kernel) (hs _ (gL_in 961 (by decide +kernel))) (hs _ (gL_in 962 (by decide +kernel))) (hs _ (gL_in 963 (by decide +kernel))) (hs _ (gL_in 964 (by decide +kernel))) (fun j hj => hs _ (va_run (L := gL) (N := 9) (p := 965) (f := fun j => Cond.eq (.elem (.field (Term.string "BucketBrigadeLaw$Sim" 121) "java/lang/String" "value" "[B") (.int (Int32.ofNat j))) (.int ((gB.getD 24 []).getD j 0))) (by decide +kernel) j hj)) hA
theorem sc_25 (hs : ∀ w ∈ gL, w.before args s = true) (hA : ∀ a : Nat, a < s.heap.size → ¬ A a) : ∃ q : Nat × Nat, (Term.string "BucketBrigadeLaw$Sim" 123).eval args s none [] s = some (.ref q.1) ∧ Sc s A 25 q :=
  sc_of (k := 25) (by decide +kernel) (hs _ (gL_in 974 (by decide +kernel))) (hs _ (gL_in 975 (by decide +kernel))) (hs _ (gL_in 976 (by decide +kernel))) (hs _ (gL_in 977 (by decide +kernel))) (fun j hj => hs _ (va_run (L := gL) (N := 14) (p := 978) (f := fun j => Cond.eq (.elem (.field (Term.string "BucketBrigadeLaw$Sim" 123) "java/lang/String" "value" "[B") (.int (Int32.ofNat j))) (.int ((gB.getD 25 []).getD j 0))) (by decide +kernel) j hj)) hA
theorem sc_26 (hs : ∀ w ∈ gL, w.before args s = true) (hA : ∀ a : Nat, a < s.heap.size → ¬ A a) : ∃ q : Nat × Nat, (Term.string "BucketBrigadeLaw$Sim" 125).eval args s none [] s = some (.ref q.1) ∧ Sc s A 26 q :=
  sc_of (k := 26) (by decide +kernel) (hs _ (gL_in 992 (by decide +kernel))) (hs _ (gL_in 993 (by decide +kernel))) (hs _ (gL_in 994 (by decide +kernel))) (hs _ (gL_in 995 (by decide +kernel))) (fun j hj => hs _ (va_run (L := gL) (N := 7) (p := 996) (f := fun j => Cond.eq (.elem (.field (Term.string "BucketBrigadeLaw$Sim" 125) "java/lang/String" "value" "[B") (.int (Int32.ofNat j))) (.int ((gB.getD 26 []).getD j 0))) (by decide +kernel) j hj)) hA
theorem sc_27 (hs : ∀ w ∈ gL, w.before args s = true) (hA : ∀ a : Nat, a < s.heap.size → ¬ A a) : ∃ q : Nat × Nat, (Term.string "BucketBrigadeLaw$Sim" 127).eval args s none [] s = some (.ref q.1) ∧ Sc s A 27 q :=
  sc_of (k := 27) (by decide +kernel) (hs _ (gL_in 1003 (by decide +kernel))) (hs _ (gL_in 1004 (by decide +kernel))) (hs _ (gL_in 1005 (by decide +kernel))) (hs _ (gL_in 1006 (by decide +kernel))) (fun j hj => hs _ (va_run (L := gL) (N := 7) (p := 1007) (f := fun j => Cond.eq (.elem (.field (Term.string "BucketBrigadeLaw$Sim" 127) "java/lang/String" "value" "[B") (.int (Int32.ofNat j))) (.int ((gB.getD 27 []).getD j 0))) (by decide +kernel) j hj)) hA
theorem sc_28 (hs : ∀ w ∈ gL, w.before args s = true) (hA : ∀ a : Nat, a < s.heap.size → ¬ A a) : ∃ q : Nat × Nat, (Term.string "BucketBrigadeLaw$Sim" 129).eval args s none [] s = some (.ref q.1) ∧ Sc s A 28 q :=
  sc_of (k := 28) (by decide +kernel) (hs _ (gL_in 1014 (by decide +kernel))) (hs _ (gL_in 1015 (by decide +kernel))) (hs _ (gL_in 1016 (by decide +kernel))) (hs _ (gL_in 1017 (by decide +kernel))) (fun j hj => hs _ (va_run (L := gL) (N := 6) (p := 1018) (f := fun j => Cond.eq (.elem (.field (Term.string "BucketBrigadeLaw$Sim" 129) "java/lang/String" "value" "[B") (.int (Int32.ofNat j))) (.int ((gB.getD 28 []).getD j 0))) (by decide +kernel) j hj)) hA
theorem sc_29 (hs : ∀ w ∈ gL, w.before args s = true) (hA : ∀ a : Nat, a < s.heap.size → ¬ A a) : ∃ q : Nat × Nat, (Term.string "BucketBrigadeLaw$Sim" 131).eval args s none [] s = some (.ref q.1) ∧ Sc s A 29 q :=
  sc_of (k := 29) (by decide +kernel) (hs _ (gL_in 1024 (by decide +kernel))) (hs _ (gL_in 1025 (by decide +kernel))) (hs _ (gL_in 1026 (by decide +kernel))) (hs _ (gL_in 1027 (by decide +kernel))) (fun j hj => hs _ (va_run (L := gL) (N := 2) (p := 1028) (f := fun j => Cond.eq (.elem (.field (Term.string "BucketBrigadeLaw$Sim" 131) "java/lang/String" "value" "[B") (.int (Int32.ofNat j))) (.int ((gB.getD 29 []).getD j 0))) (by decide +kernel) j hj)) hA
theorem sc_30 (hs : ∀ w ∈ gL, w.before args s = true) (hA : ∀ a : Nat, a < s.heap.size → ¬ A a) : ∃ q : Nat × Nat, (Term.string "BucketBrigadeLaw$Sim" 133).eval args s none [] s = some (.ref q.1) ∧ Sc s A 30 q :=
  sc_of (k := 30) (by decide +kernel) (hs _ (gL_in 1030 (by decide +kernel))) (hs _ (gL_in 1031 (by decide +kernel))) (hs _ (gL_in 1032 (by decide +kernel))) (hs _ (gL_in 1033 (by decide +kernel))) (fun j hj => hs _ (va_run (L := gL) (N := 6) (p := 1034) (f := fun j => Cond.eq (.elem (.field (Term.string "BucketBrigadeLaw$Sim" 133) "java/lang/String" "value" "[B") (.int (Int32.ofNat j))) (.int ((gB.getD 30 []).getD j 0))) (by decide +kernel) j hj)) hA
theorem sc_31 (hs : ∀ w ∈ gL, w.before args s = true) (hA : ∀ a : Nat, a < s.heap.size → ¬ A a) : ∃ q : Nat × Nat, (Term.string "BucketBrigadeLaw$Sim" 135).eval args s none [] s = some (.ref q.1) ∧ Sc s A 31 q :=
  sc_of (k := 31) (by decide +kernel) (hs _ (gL_in 1040 (by decide +kernel))) (hs _ (gL_in 1041 (by decide +kernel))) (hs _ (gL_in 1042 (by decide +kernel))) (hs _ (gL_in 1043 (by decide +kernel))) (fun j hj => hs _ (va_run (L := gL) (N := 9) (p := 1044) (f := fun j => Cond.eq (.elem (.field (Term.string "BucketBrigadeLaw$Sim" 135) "java/lang/String" "value" "[B") (.int (Int32.ofNat j))) (.int ((gB.getD 31 []).getD j 0))) (by decide +kernel) j hj)) hA
theorem sc_32 (hs : ∀ w ∈ gL, w.before args s = true) (hA : ∀ a : Nat, a < s.heap.size → ¬ A a) : ∃ q : Nat × Nat, (Term.string "BucketBrigadeLaw$Sim" 137).eval args s none [] s = some (.ref q.1) ∧ Sc s A 32 q :=
  sc_of (k := 32) (by decide +kernel) (hs _ (gL_in 1053 (by decide +kernel))) (hs _ (gL_in 1054 (by decide +kernel))) (hs _ (gL_in 1055 (by decide +kernel))) (hs _ (gL_in 1056 (by decide +kernel))) (fun j hj => hs _ (va_run (L := gL) (N := 4) (p := 1057) (f := fun j => Cond.eq (.elem (.field (Term.string "BucketBrigadeLaw$Sim" 137) "java/lang/String" "value" "[B") (.int (Int32.ofNat j))) (.int ((gB.getD 32 []).getD j 0))) (by decide +kernel) j hj)) hA
theorem sc_33 (hs : ∀ w ∈ gL, w.before args s = true) (hA : ∀ a : Nat, a < s.heap.size → ¬ A a) : ∃ q : Nat × Nat, (Term.string "BucketBrigadeLaw$Sim" 139).eval args s none [] s = some (.ref q.1) ∧ Sc s A 33 q :=
  sc_of (k := 33) (by decide +kernel) (hs _ (gL_in 1061 (by decide +kernel))) (hs _ (gL_in 1062 (by decide +kernel))) (hs _ (gL_in 1063 (by decide +kernel))) (hs _ (gL_in 1064 (by decide +kernel))) (fun j hj => hs _ (va_run (L := gL) (N := 14) (p := 1065) (f := fun j => Cond.eq (.elem (.field (Term.string "BucketBrigadeLaw$Sim" 139) "java/lang/String" "value" "[B") (.int (Int32.ofNat j))) (.int ((gB.getD 33 []).getD j 0))) (by decide +kernel) j hj)) hA
theorem sc_34 (hs : ∀ w ∈ gL, w.before args s = true) (hA : ∀ a : Nat, a < s.heap.size → ¬ A a) : ∃ q : Nat × Nat, (Term.string "BucketBrigadeLaw$Sim" 141).eval args s none [] s = some (.ref q.1) ∧ Sc s A 34 q :=
  sc_of (k := 34) (by decide +kernel) (hs _ (gL_in 1079 (by decide +kernel))) (hs _ (gL_in 1080 (by decide +kernel))) (hs _ (gL_in 1081 (by decide +kernel))) (hs _ (gL_in 1082 (by decide +kernel))) (fun j hj => hs _ (va_run (L := gL) (N := 1) (p := 1083) (f := fun j => Cond.eq (.elem (.field (Term.string "BucketBrigadeLaw$Sim" 141) "java/lang/String" "value" "[B") (.int (Int32.ofNat j))) (.int ((gB.getD 34 []).getD j 0))) (by decide +kernel) j hj)) hA
theorem sc_35 (hs : ∀ w ∈ gL, w.before args s = true) (hA : ∀ a : Nat, a < s.heap.size → ¬ A a) : ∃ q : Nat × Nat, (Term.string "BucketBrigadeLaw$Sim" 270).eval args s none [] s = some (.ref q.1) ∧ Sc s A 35 q :=
  sc_of (k := 35) (by decide +kernel) (hs _ (gL_in 1084 (by decide +kernel))) (hs _ (gL_in 1085 (by decide +kernel))) (hs _ (gL_in 1086 (by decide +kernel))) (hs _ (gL_in 1087 (by decide +kernel))) (fun j hj => hs _ (va_run (L := gL) (N := 6) (p := 1088) (f := fun j => Cond.eq (.elem (.field (Term.string "BucketBrigadeLaw$Sim" 270) "java/lang/String" "value" "[B") (.int (Int32.ofNat j))) (.int ((gB.getD 35 []).getD j 0))) (by decide +kernel) j hj)) hA
theorem sc_36 (hs : ∀ w ∈ gL, w.before args s = true) (hA : ∀ a : Nat, a < s.heap.size → ¬ A a) : ∃ q : Nat × Nat, (Term.string "BucketBrigadeLaw$Sim" 147).eval args s none [] s = some (.ref q.1) ∧ Sc s A 36 q :=
  sc_of (k := 36) (by decide +kernel) (hs _ (gL_in 1094 (by decide +kernel))) (hs _ (gL_in 1095 (by decide +kernel))) (hs _ (gL_in 1096 (by decide +kernel))) (hs _ (gL_in 1097 (by decide +kernel))) (fun j hj => hs _ (va_run (L := gL) (N := 6) (p := 1098) (f := fun j => Cond.eq (.elem (.field (Term.string "BucketBrigadeLaw$Sim" 147) "java/lang/String" "value" "[B") (.int (Int32.ofNat j))) (.int ((gB.getD 36 []).getD j 0))) (by decide +kernel) j hj)) hA
theorem sc_37 (hs : ∀ w ∈ gL, w.before args s = true) (hA : ∀ a : Nat, a < s.heap.size → ¬ A a) : ∃ q : Nat × Nat, (Term.string "BucketBrigadeLaw$Sim" 149).eval args s none [] s = some (.ref q.1) ∧ Sc s A 37 q :=
  sc_of (k := 37) (by decide +kernel) (hs _ (gL_in 1104 (by decide +kernel))) (hs _ (gL_in 1105 (by decide +kernel))) (hs _ (gL_in 1106 (by decide +kernel))) (hs _ (gL_in 1107 (by decide +kernel))) (fun j hj => hs _ (va_run (L := gL) (N := 9) (p := 1108) (f := fun j => Cond.eq (.elem (.field (Term.string "BucketBrigadeLaw$Sim" 149) "java/lang/String" "value" "[B") (.int (Int32.ofNat j))) (.int ((gB.getD 37 []).getD j 0))) (by decide +kernel) j hj)) hA
theorem sc_38 (hs : ∀ w ∈ gL, w.before args s = true) (hA : ∀ a : Nat, a < s.heap.size → ¬ A a) : ∃ q : Nat × Nat, (Term.string "BucketBrigadeLaw$Sim" 151).eval args s none [] s = some (.ref q.1) ∧ Sc s A 38 q :=
  sc_of (k := 38) (by decide +kernel) (hs _ (gL_in 1117 (by decide +kernel))) (hs _ (gL_in 1118 (by decide +kernel))) (hs _ (gL_in 1119 (by decide +kernel))) (hs _ (gL_in 1120 (by decide +kernel))) (fun j hj => hs _ (va_run (L := gL) (N := 10) (p := 1121) (f := fun j => Cond.eq (.elem (.field (Term.string "BucketBrigadeLaw$Sim" 151) "java/lang/String" "value" "[B") (.int (Int32.ofNat j))) (.int ((gB.getD 38 []).getD j 0))) (by decide +kernel) j hj)) hA
theorem sc_39 (hs : ∀ w ∈ gL, w.before args s = true) (hA : ∀ a : Nat, a < s.heap.size → ¬ A a) : ∃ q : Nat × Nat, (Term.string "BucketBrigadeLaw$Sim" 153).eval args s none [] s = some (.ref q.1) ∧ Sc s A 39 q :=
  sc_of (k := 39) (by decide +kernel) (hs _ (gL_in 1131 (by decide +kernel))) (hs _ (gL_in 1132 (by decide +kernel))) (hs _ (gL_in 1133 (by decide +kernel))) (hs _ (gL_in 1134 (by decide +kernel))) (fun j hj => hs _ (va_run (L := gL) (N := 5) (p := 1135) (f := fun j => Cond.eq (.elem (.field (Term.string "BucketBrigadeLaw$Sim" 153) "java/lang/String" "value" "[B") (.int (Int32.ofNat j))) (.int ((gB.getD 39 []).getD j 0))) (by decide +kernel) j hj)) hA
theorem sc_40 (hs : ∀ w ∈ gL, w.before args s = true) (hA : ∀ a : Nat, a < s.heap.size → ¬ A a) : ∃ q : Nat × Nat, (Term.string "BucketBrigadeLaw$Sim" 155).eval args s none [] s = some (.ref q.1) ∧ Sc s A 40 q :=
  sc_of (k := 40) (by decide +kernel) (hs _ (gL_in 1140 (by decide +kernel))) (hs _ (gL_in 1141 (by decide +kernel))) (hs _ (gL_in 1142 (by decide +kernel))) (hs _ (gL_in 1143 (by decide +kernel))) (fun j hj => hs _ (va_run (L := gL) (N := 12) (p := 1144) (f := fun j => Cond.eq (.elem (.field (Term.string "BucketBrigadeLaw$Sim" 155) "java/lang/String" "value" "[B") (.int (Int32.ofNat j))) (.int ((gB.getD 40 []).getD j 0))) (by decide +kernel) j hj)) hA
theorem sc_41 (hs : ∀ w ∈ gL, w.before args s = true) (hA : ∀ a : Nat, a < s.heap.size → ¬ A a) : ∃ q : Nat × Nat, (Term.string "BucketBrigadeLaw$Sim" 157).eval args s none [] s = some (.ref q.1) ∧ Sc s A 41 q :=
  sc_of (k := 41) (by decide +kernel) (hs _ (gL_in 1156 (by decide +kernel))) (hs _ (gL_in 1157 (by decide +kernel))) (hs _ (gL_in 1158 (by decide +kernel))) (hs _ (gL_in 1159 (by decide +kernel))) (fun j hj => hs _ (va_run (L := gL) (N := 11) (p := 1160) (f := fun j => Cond.eq (.elem (.field (Term.string "BucketBrigadeLaw$Sim" 157) "java/lang/String" "value" "[B") (.int (Int32.ofNat j))) (.int ((gB.getD 41 []).getD j 0))) (by decide +kernel) j hj)) hA
theorem sc_42 (hs : ∀ w ∈ gL, w.before args s = true) (hA : ∀ a : Nat, a < s.heap.size → ¬ A a) : ∃ q : Nat × Nat, (Term.string "BucketBrigadeLaw$Sim" 159).eval args s none [] s = some (.ref q.1) ∧ Sc s A 42 q :=
  sc_of (k := 42) (by decide +kernel) (hs _ (gL_in 1171 (by decide +kernel))) (hs _ (gL_in 1172 (by decide +kernel))) (hs _ (gL_in 1173 (by decide +kernel))) (hs _ (gL_in 1174 (by decide +kernel))) (fun j hj => hs _ (va_run (L := gL) (N := 29) (p := 1175) (f := fun j => Cond.eq (.elem (.field (Term.string "BucketBrigadeLaw$Sim" 159) "java/lang/String" "value" "[B") (.int (Int32.ofNat j))) (.int ((gB.getD 42 []).getD j 0))) (by decide +kernel) j hj)) hA
theorem sc_43 (hs : ∀ w ∈ gL, w.before args s = true) (hA : ∀ a : Nat, a < s.heap.size → ¬ A a) : ∃ q : Nat × Nat, (Term.string "BucketBrigadeLaw$Sim" 165).eval args s none [] s = some (.ref q.1) ∧ Sc s A 43 q :=
  sc_of (k := 43) (by decide +kernel) (hs _ (gL_in 1204 (by decide +kernel))) (hs _ (gL_in 1205 (by decide +kernel))) (hs _ (gL_in 1206 (by decide +kernel))) (hs _ (gL_in 1207 (by decide +kernel))) (fun j hj => hs _ (va_run (L := gL) (N := 3) (p := 1208) (f := fun j => Cond.eq (.elem (.field (Term.string "BucketBrigadeLaw$Sim" 165) "java/lang/String" "value" "[B") (.int (Int32.ofNat j))) (.int ((gB.getD 43 []).getD j 0))) (by decide +kernel) j hj)) hA
theorem sc_44 (hs : ∀ w ∈ gL, w.before args s = true) (hA : ∀ a : Nat, a < s.heap.size → ¬ A a) : ∃ q : Nat × Nat, (Term.string "BucketBrigadeLaw$Sim" 167).eval args s none [] s = some (.ref q.1) ∧ Sc s A 44 q :=
  sc_of (k := 44) (by decide +kernel) (hs _ (gL_in 1211 (by decide +kernel))) (hs _ (gL_in 1212 (by decide +kernel))) (hs _ (gL_in 1213 (by decide +kernel))) (hs _ (gL_in 1214 (by decide +kernel))) (fun j hj => hs _ (va_run (L := gL) (N := 5) (p := 1215) (f := fun j => Cond.eq (.elem (.field (Term.string "BucketBrigadeLaw$Sim" 167) "java/lang/String" "value" "[B") (.int (Int32.ofNat j))) (.int ((gB.getD 44 []).getD j 0))) (by decide +kernel) j hj)) hA
theorem sc_45 (hs : ∀ w ∈ gL, w.before args s = true) (hA : ∀ a : Nat, a < s.heap.size → ¬ A a) : ∃ q : Nat × Nat, (Term.string "BucketBrigadeLaw$Sim" 275).eval args s none [] s = some (.ref q.1) ∧ Sc s A 45 q :=
  sc_of (k := 45) (by decide +kernel) (hs _ (gL_in 1220 (by decide +kernel))) (hs _ (gL_in 1221 (by decide +kernel))) (hs _ (gL_in 1222 (by decide +kernel))) (hs _ (gL_in 1223 (by decide +kernel))) (fun j hj => hs _ (va_run (L := gL) (N := 2) (p := 1224) (f := fun j => Cond.eq (.elem (.field (Term.string "BucketBrigadeLaw$Sim" 275) "java/lang/String" "value" "[B") (.int (Int32.ofNat j))) (.int ((gB.getD 45 []).getD j 0))) (by decide +kernel) j hj)) hA
theorem sc_all (hs : ∀ w ∈ gL, w.before args s = true) (hA : ∀ a : Nat, a < s.heap.size → ¬ A a) : ∀ k : Nat, ∃ q : Nat × Nat, ∀ r, gStr[k]? = some r → (Term.string r.1 r.2.1).eval args s none [] s = some (.ref q.1) ∧ r.2.2.2 = k ∧ Sc s A k q := by
  intro k
  match k with
  | 0 => obtain ⟨q, h1, h2⟩ := sc_0 hs hA; exact ⟨q, fun r hr => by cases hr; exact ⟨h1, rfl, h2⟩⟩
  | 1 => obtain ⟨q, h1, h2⟩ := sc_1 hs hA; exact ⟨q, fun r hr => by cases hr; exact ⟨h1, rfl, h2⟩⟩
  | 2 => obtain ⟨q, h1, h2⟩ := sc_2 hs hA; exact ⟨q, fun r hr => by cases hr; exact ⟨h1, rfl, h2⟩⟩
  | 3 => obtain ⟨q, h1, h2⟩ := sc_3 hs hA; exact ⟨q, fun r hr => by cases hr; exact ⟨h1, rfl, h2⟩⟩
  | 4 => obtain ⟨q, h1, h2⟩ := sc_4 hs hA; exact ⟨q, fun r hr => by cases hr; exact ⟨h1, rfl, h2⟩⟩
  | 5 => obtain ⟨q, h1, h2⟩ := sc_5 hs hA; exact ⟨q, fun r hr => by cases hr; exact ⟨h1, rfl, h2⟩⟩
  | 6 => obtain ⟨q, h1, h2⟩ := sc_6 hs hA; exact ⟨q, fun r hr => by cases hr; exact ⟨h1, rfl, h2⟩⟩
  | 7 => obtain ⟨q, h1, h2⟩ := sc_7 hs hA; exact ⟨q, fun r hr => by cases hr; exact ⟨h1, rfl, h2⟩⟩
  | 8 => obtain ⟨q, h1, h2⟩ := sc_8 hs hA; exact ⟨q, fun r hr => by cases hr; exact ⟨h1, rfl, h2⟩⟩
  | 9 => obtain ⟨q, h1, h2⟩ := sc_9 hs hA; exact ⟨q, fun r hr => by cases hr; exact ⟨h1, rfl, h2⟩⟩
  | 10 => obtain ⟨q, h1, h2⟩ := sc_10 hs hA; exact ⟨q, fun r hr => by cases hr; exact ⟨h1, rfl, h2⟩⟩
  | 11 => obtain ⟨q, h1, h2⟩ := sc_11 hs hA; exact ⟨q, fun r hr => by cases hr; exact ⟨h1, rfl, h2⟩⟩
  | 12 => obtain ⟨q, h1, h2⟩ := sc_12 hs hA; exact ⟨q, fun r hr => by cases hr; exact ⟨h1, rfl, h2⟩⟩
  | 13 => obtain ⟨q, h1, h2⟩ := sc_13 hs hA; exact ⟨q, fun r hr => by cases hr; exact ⟨h1, rfl, h2⟩⟩
  | 14 => obtain ⟨q, h1, h2⟩ := sc_14 hs hA; exact ⟨q, fun r hr => by cases hr; exact ⟨h1, rfl, h2⟩⟩
  | 15 => obtain ⟨q, h1, h2⟩ := sc_15 hs hA; exact ⟨q, fun r hr => by cases hr; exact ⟨h1, rfl, h2⟩⟩
  | 16 => obtain ⟨q, h1, h2⟩ := sc_16 hs hA; exact ⟨q, fun r hr => by cases hr; exact ⟨h1, rfl, h2⟩⟩
  | 17 => obtain ⟨q, h1, h2⟩ := sc_17 hs hA; exact ⟨q, fun r hr => by cases hr; exact ⟨h1, rfl, h2⟩⟩
  | 18 => obtain ⟨q, h1, h2⟩ := sc_18 hs hA; exact ⟨q, fun r hr => by cases hr; exact ⟨h1, rfl, h2⟩⟩
  | 19 => obtain ⟨q, h1, h2⟩ := sc_19 hs hA; exact ⟨q, fun r hr => by cases hr; exact ⟨h1, rfl, h2⟩⟩
  | 20 => obtain ⟨q, h1, h2⟩ := sc_20 hs hA; exact ⟨q, fun r hr => by cases hr; exact ⟨h1, rfl, h2⟩⟩
  | 21 => obtain ⟨q, h1, h2⟩ := sc_21 hs hA; exact ⟨q, fun r hr => by cases hr; exact ⟨h1, rfl, h2⟩⟩
  | 22 => obtain ⟨q, h1, h2⟩ := sc_22 hs hA; exact ⟨q, fun r hr => by cases hr; exact ⟨h1, rfl, h2⟩⟩
  | 23 => obtain ⟨q, h1, h2⟩ := sc_23 hs hA; exact ⟨q, fun r hr => by cases hr; exact ⟨h1, rfl, h2⟩⟩
  | 24 => obtain ⟨q, h1, h2⟩ := sc_24 hs hA; exact ⟨q, fun r hr => by cases hr; exact ⟨h1, rfl, h2⟩⟩
  | 25 => obtain ⟨q, h1, h2⟩ := sc_25 hs hA; exact ⟨q, fun r hr => by cases hr; exact ⟨h1, rfl, h2⟩⟩
  | 26 => obtain ⟨q, h1, h2⟩ := sc_26 hs hA; exact ⟨q, fun r hr => by cases hr; exact ⟨h1, rfl, h2⟩⟩
  | 27 => obtain ⟨q, h1, h2⟩ := sc_27 hs hA; exact ⟨q, fun r hr => by cases hr; exact ⟨h1, rfl, h2⟩⟩
  | 28 => obtain ⟨q, h1, h2⟩ := sc_28 hs hA; exact ⟨q, fun r hr => by cases hr; exact ⟨h1, rfl, h2⟩⟩
  | 29 => obtain ⟨q, h1, h2⟩ := sc_29 hs hA; exact ⟨q, fun r hr => by cases hr; exact ⟨h1, rfl, h2⟩⟩
  | 30 => obtain ⟨q, h1, h2⟩ := sc_30 hs hA; exact ⟨q, fun r hr => by cases hr; exact ⟨h1, rfl, h2⟩⟩
  | 31 => obtain ⟨q, h1, h2⟩ := sc_31 hs hA; exact ⟨q, fun r hr => by cases hr; exact ⟨h1, rfl, h2⟩⟩
  | 32 => obtain ⟨q, h1, h2⟩ := sc_32 hs hA; exact ⟨q, fun r hr => by cases hr; exact ⟨h1, rfl, h2⟩⟩
  | 33 => obtain ⟨q, h1, h2⟩ := sc_33 hs hA; exact ⟨q, fun r hr => by cases hr; exact ⟨h1, rfl, h2⟩⟩
  | 34 => obtain ⟨q, h1, h2⟩ := sc_34 hs hA; exact ⟨q, fun r hr => by cases hr; exact ⟨h1, rfl, h2⟩⟩
  | 35 => obtain ⟨q, h1, h2⟩ := sc_35 hs hA; exact ⟨q, fun r hr => by cases hr; exact ⟨h1, rfl, h2⟩⟩
  | 36 => obtain ⟨q, h1, h2⟩ := sc_36 hs hA; exact ⟨q, fun r hr => by cases hr; exact ⟨h1, rfl, h2⟩⟩
  | 37 => obtain ⟨q, h1, h2⟩ := sc_37 hs hA; exact ⟨q, fun r hr => by cases hr; exact ⟨h1, rfl, h2⟩⟩
  | 38 => obtain ⟨q, h1, h2⟩ := sc_38 hs hA; exact ⟨q, fun r hr => by cases hr; exact ⟨h1, rfl, h2⟩⟩
  | 39 => obtain ⟨q, h1, h2⟩ := sc_39 hs hA; exact ⟨q, fun r hr => by cases hr; exact ⟨h1, rfl, h2⟩⟩
  | 40 => obtain ⟨q, h1, h2⟩ := sc_40 hs hA; exact ⟨q, fun r hr => by cases hr; exact ⟨h1, rfl, h2⟩⟩
  | 41 => obtain ⟨q, h1, h2⟩ := sc_41 hs hA; exact ⟨q, fun r hr => by cases hr; exact ⟨h1, rfl, h2⟩⟩
  | 42 => obtain ⟨q, h1, h2⟩ := sc_42 hs hA; exact ⟨q, fun r hr => by cases hr; exact ⟨h1, rfl, h2⟩⟩
  | 43 => obtain ⟨q, h1, h2⟩ := sc_43 hs hA; exact ⟨q, fun r hr => by cases hr; exact ⟨h1, rfl, h2⟩⟩
  | 44 => obtain ⟨q, h1, h2⟩ := sc_44 hs hA; exact ⟨q, fun r hr => by cases hr; exact ⟨h1, rfl, h2⟩⟩
  | 45 => obtain ⟨q, h1, h2⟩ := sc_45 hs hA; exact ⟨q, fun r hr => by cases hr; exact ⟨h1, rfl, h2⟩⟩
  | k + 46 => exact ⟨(0, 0), fun r hr => by simp [gStr] at hr⟩
theorem dg_DigitTens (hs : ∀ w ∈ gL, w.before args s = true) (hA : ∀ a : Nat, a < s.heap.size → ¬ A a) : ∃ t : Nat, (Term.static "java/lang/Integer" "DigitTens" "[B").eval args s none [] s = some (.ref t) ∧ va_T .byte t 100 (fun j => .int (nI (48 + j / 10))) A s s.heap :=
  va_Tof (by decide) (hs _ (gL_in 115 (by decide +kernel))) (va_eqt (hs _ (gL_in 116 (by decide +kernel)))) (fun j hj => va_eqt (hs _ (va_run (L := gL) (N := 100) (p := 117) (f := fun j => Cond.eq (.elem (.static "java/lang/Integer" "DigitTens" "[B") (.int (Int32.ofNat j))) (.int (nI (48 + j / 10)))) (by decide +kernel) j hj))) hA
theorem dg_DigitOnes (hs : ∀ w ∈ gL, w.before args s = true) (hA : ∀ a : Nat, a < s.heap.size → ¬ A a) : ∃ t : Nat, (Term.static "java/lang/Integer" "DigitOnes" "[B").eval args s none [] s = some (.ref t) ∧ va_T .byte t 100 (fun j => .int (nI (48 + j % 10))) A s s.heap :=
  va_Tof (by decide) (hs _ (gL_in 12 (by decide +kernel))) (va_eqt (hs _ (gL_in 13 (by decide +kernel)))) (fun j hj => va_eqt (hs _ (va_run (L := gL) (N := 100) (p := 14) (f := fun j => Cond.eq (.elem (.static "java/lang/Integer" "DigitOnes" "[B") (.int (Int32.ofNat j))) (.int (nI (48 + j % 10)))) (by decide +kernel) j hj))) hA
end START
theorem lw_i (i : Nat) {w : Cond} (h : lw_tbl[i]? = some w) : w ∈ lw_tbl := List.mem_of_getElem? h
theorem st_cls {s : State} {args : Array Value} (hts : ∀ w ∈ lw_tbl, w.before args s = true) : ∀ k : Nat, ∃ q : ClassId × (Nat → Nat), ∀ r : vw_C, vwCl[k]? = some r → u_Kn s r.1 r.2.1 r.2.2 q.1 q.2 := by
  intro k
  have htg : ∀ w ∈ gT, w.before args s = true := fun w hw => hts w (List.mem_filter.mp hw).1
  match k with
  | 0 => obtain ⟨c, i, h⟩ := u_known (C := RJ0) (T := TJ0) (N := 4) (n := 4) htg kin_0 (hts (.instantiable RJ0 4) (lw_i 1037 (by decide +kernel))); exact ⟨(c, i), fun r hr => by cases hr; exact h⟩
  | 1 => obtain ⟨c, i, h⟩ := u_known (C := RJ4) (T := TJ4) (N := 4) (n := 4) htg kin_1 (hts (.instantiable RJ4 4) (lw_i 855 (by decide +kernel))); exact ⟨(c, i), fun r hr => by cases hr; exact h⟩
  | 2 => obtain ⟨c, i, h⟩ := u_known (C := RX0) (T := TX0) (N := 5) (n := 5) htg kin_2 (hts (.instantiable RX0 5) (lw_i 102 (by decide +kernel))); exact ⟨(c, i), fun r hr => by cases hr; exact h⟩
  | 3 => obtain ⟨c, i, h⟩ := u_known (C := RX1) (T := TX1) (N := 5) (n := 5) htg kin_3 (hts (.instantiable RX1 5) (lw_i 281 (by decide +kernel))); exact ⟨(c, i), fun r hr => by cases hr; exact h⟩
  | 4 => obtain ⟨c, i, h⟩ := u_known (C := RX2) (T := TX2) (N := 18) (n := 18) htg kin_4 (hts (.instantiable RX2 18) (lw_i 183 (by decide +kernel))); exact ⟨(c, i), fun r hr => by cases hr; exact h⟩
  | 5 => obtain ⟨c, i, h⟩ := u_known (C := RX3) (T := TX3) (N := 5) (n := 5) htg kin_5 (hts (.instantiable RX3 5) (lw_i 109 (by decide +kernel))); exact ⟨(c, i), fun r hr => by cases hr; exact h⟩
  | 6 => obtain ⟨c, i, h⟩ := u_known (C := RX4) (T := TX4) (N := 3) (n := 3) htg kin_6 (hts (.instantiable RX4 3) (lw_i 189 (by decide +kernel))); exact ⟨(c, i), fun r hr => by cases hr; exact h⟩
  | 7 => obtain ⟨c, i, h⟩ := u_known (C := RX5) (T := TX5) (N := 7) (n := 7) htg kin_7 (hts (.instantiable RX5 7) (lw_i 94 (by decide +kernel))); exact ⟨(c, i), fun r hr => by cases hr; exact h⟩
  | 8 => obtain ⟨c, i, h⟩ := u_known (C := RX6) (T := TX6) (N := 11) (n := 11) htg kin_8 (hts (.instantiable RX6 11) (lw_i 100 (by decide +kernel))); exact ⟨(c, i), fun r hr => by cases hr; exact h⟩
  | 9 => obtain ⟨c, i, h⟩ := u_known (C := RX7) (T := TX7) (N := 2) (n := 2) htg kin_9 (hts (.instantiable RX7 2) (lw_i 171 (by decide +kernel))); exact ⟨(c, i), fun r hr => by cases hr; exact h⟩
  | 10 => obtain ⟨c, i, h⟩ := u_known (C := RX8) (T := TX8) (N := 2) (n := 2) htg kin_10 (hts (.instantiable RX8 2) (lw_i 78 (by decide +kernel))); exact ⟨(c, i), fun r hr => by cases hr; exact h⟩
  | 11 => obtain ⟨c, i, h⟩ := u_known (C := RX9) (T := TX9) (N := 5) (n := 5) htg kin_11 (hts (.instantiable RX9 5) (lw_i 348 (by decide +kernel))); exact ⟨(c, i), fun r hr => by cases hr; exact h⟩
  | 12 => obtain ⟨c, i, h⟩ := u_known (C := RX10) (T := TX10) (N := 5) (n := 5) htg kin_12 (hts (.instantiable RX10 5) (lw_i 70 (by decide +kernel))); exact ⟨(c, i), fun r hr => by cases hr; exact h⟩
  | 13 => obtain ⟨c, i, h⟩ := u_known (C := RX11) (T := TX11) (N := 19) (n := 19) htg kin_13 (hts (.instantiable RX11 19) (lw_i 1377 (by decide +kernel))); exact ⟨(c, i), fun r hr => by cases hr; exact h⟩
  | 14 => obtain ⟨c, i, h⟩ := u_known (C := RX12) (T := TX12) (N := 8) (n := 8) htg kin_14 (hts (.instantiable RX12 8) (lw_i 792 (by decide +kernel))); exact ⟨(c, i), fun r hr => by cases hr; exact h⟩
  | k + 15 => exact ⟨(0, fun _ => 0), fun r hr => by simp [vwCl] at hr⟩
theorem st_arr {s : State} {args : Array Value} (hts : ∀ w ∈ lw_tbl, w.before args s = true) : ∀ t : Nat, ∃ c : ClassId, ∀ ty, (gTy (fun _ => 0))[t]? = some (0, ty) → ArrOfT s c ty ∧ va_RA s c ty := by
  intro t
  match t with
  | 0 => obtain ⟨c, k, comp, h1, h2, h3⟩ := Cond.arrayClass_spec (hts (.arrayClass .byte) (lw_i 92 (by decide +kernel))); exact ⟨c, fun ty h => by cases h; exact ⟨fun n z => ⟨(fun k h => by cases h), k, h2, comp, h3⟩, h1⟩⟩
  | 1 => obtain ⟨c, k, comp, h1, h2, h3⟩ := Cond.arrayClass_spec (hts (.arrayClass .int) (lw_i 140 (by decide +kernel))); exact ⟨c, fun ty h => by cases h; exact ⟨fun n z => ⟨(fun k h => by cases h), k, h2, comp, h3⟩, h1⟩⟩
  | 2 => obtain ⟨c, k, comp, h1, h2, h3⟩ := Cond.arrayClass_spec (hts (.arrayClass .long) (lw_i 425 (by decide +kernel))); exact ⟨c, fun ty h => by cases h; exact ⟨fun n z => ⟨(fun k h => by cases h), k, h2, comp, h3⟩, h1⟩⟩
  | 3 => obtain ⟨comp, c, k, h1, h2, h3, h4, h5⟩ := Cond.arrayOver_spec (hts (.arrayOver (.object "BucketBrigade$Folk")) (lw_i 169 (by decide +kernel))); exact ⟨c, fun ty h => by cases h; exact ⟨fun n z => ⟨(fun k h => by cases h), k, h3, comp, h4⟩, k, comp, h3, h4, h1, h5⟩⟩
  | 4 => obtain ⟨comp, c, k, h1, h2, h3, h4, h5⟩ := Cond.arrayOver_spec (hts (.arrayOver (.object "BucketBrigade$Lane")) (lw_i 167 (by decide +kernel))); exact ⟨c, fun ty h => by cases h; exact ⟨fun n z => ⟨(fun k h => by cases h), k, h3, comp, h4⟩, k, comp, h3, h4, h1, h5⟩⟩
  | 5 => obtain ⟨comp, c, k, h1, h2, h3, h4, h5⟩ := Cond.arrayOver_spec (hts (.arrayOver (.object "BucketBrigade$Order")) (lw_i 108 (by decide +kernel))); exact ⟨c, fun ty h => by cases h; exact ⟨fun n z => ⟨(fun k h => by cases h), k, h3, comp, h4⟩, k, comp, h3, h4, h1, h5⟩⟩
  | 6 => obtain ⟨comp, c, k, h1, h2, h3, h4, h5⟩ := Cond.arrayOver_spec (hts (.arrayOver (.object "BucketBrigadeLaw$Lane")) (lw_i 1340 (by decide +kernel))); exact ⟨c, fun ty h => by cases h; exact ⟨fun n z => ⟨(fun k h => by cases h), k, h3, comp, h4⟩, k, comp, h3, h4, h1, h5⟩⟩
  | 7 => obtain ⟨comp, c, k, h1, h2, h3, h4, h5⟩ := arrayOverA_spec (hts (.arrayOver (.array .int)) (lw_i 1342 (by decide +kernel))); exact ⟨c, fun ty h => by cases h; exact ⟨fun n z => ⟨(fun k h => by cases h), k, h3, comp, h4⟩, h5⟩⟩
  | k + 8 => exact ⟨0, fun ty h => by simp [gTy] at h⟩
theorem st_sref {s : State} {args : Array Value} (hts : ∀ w ∈ lw_tbl, w.before args s = true) : ∀ q ∈ gStr, (Cond.stringRef q.1 q.2.1 q.2.2.1).before args s = true := by
  intro q hq
  simp only [gStr, List.mem_cons, List.not_mem_nil, or_false] at hq
  rcases hq with rfl | rfl | rfl | rfl | rfl | rfl | rfl | rfl | rfl | rfl | rfl | rfl | rfl | rfl | rfl | rfl | rfl | rfl | rfl | rfl | rfl | rfl | rfl | rfl | rfl | rfl | rfl | rfl | rfl | rfl | rfl | rfl | rfl | rfl | rfl | rfl | rfl | rfl | rfl | rfl | rfl | rfl | rfl | rfl | rfl | rfl
  · exact hts _ (lw_i 353 (by decide +kernel))
  · exact hts _ (lw_i 884 (by decide +kernel))
  · exact hts _ (lw_i 1007 (by decide +kernel))
  · exact hts _ (lw_i 1008 (by decide +kernel))
  · exact hts _ (lw_i 1009 (by decide +kernel))
  · exact hts _ (lw_i 1010 (by decide +kernel))
  · exact hts _ (lw_i 1011 (by decide +kernel))
  · exact hts _ (lw_i 1012 (by decide +kernel))
  · exact hts _ (lw_i 1013 (by decide +kernel))
  · exact hts _ (lw_i 1014 (by decide +kernel))
  · exact hts _ (lw_i 1015 (by decide +kernel))
  · exact hts _ (lw_i 1016 (by decide +kernel))
  · exact hts _ (lw_i 1017 (by decide +kernel))
  · exact hts _ (lw_i 1018 (by decide +kernel))
  · exact hts _ (lw_i 1019 (by decide +kernel))
  · exact hts _ (lw_i 1020 (by decide +kernel))
  · exact hts _ (lw_i 1021 (by decide +kernel))
  · exact hts _ (lw_i 1022 (by decide +kernel))
  · exact hts _ (lw_i 1023 (by decide +kernel))
  · exact hts _ (lw_i 1024 (by decide +kernel))
  · exact hts _ (lw_i 1025 (by decide +kernel))
  · exact hts _ (lw_i 1026 (by decide +kernel))
  · exact hts _ (lw_i 1027 (by decide +kernel))
  · exact hts _ (lw_i 1031 (by decide +kernel))
  · exact hts _ (lw_i 1089 (by decide +kernel))
  · exact hts _ (lw_i 1090 (by decide +kernel))
  · exact hts _ (lw_i 1091 (by decide +kernel))
  · exact hts _ (lw_i 1092 (by decide +kernel))
  · exact hts _ (lw_i 1093 (by decide +kernel))
  · exact hts _ (lw_i 1094 (by decide +kernel))
  · exact hts _ (lw_i 1095 (by decide +kernel))
  · exact hts _ (lw_i 1096 (by decide +kernel))
  · exact hts _ (lw_i 1097 (by decide +kernel))
  · exact hts _ (lw_i 1098 (by decide +kernel))
  · exact hts _ (lw_i 1099 (by decide +kernel))
  · exact hts _ (lw_i 1100 (by decide +kernel))
  · exact hts _ (lw_i 1104 (by decide +kernel))
  · exact hts _ (lw_i 1105 (by decide +kernel))
  · exact hts _ (lw_i 1106 (by decide +kernel))
  · exact hts _ (lw_i 1107 (by decide +kernel))
  · exact hts _ (lw_i 1108 (by decide +kernel))
  · exact hts _ (lw_i 1109 (by decide +kernel))
  · exact hts _ (lw_i 1110 (by decide +kernel))
  · exact hts _ (lw_i 1111 (by decide +kernel))
  · exact hts _ (lw_i 1112 (by decide +kernel))
  · exact hts _ (lw_i 1113 (by decide +kernel))
/-- what the walks lean on, at the start -/
theorem st_ev {s : State} {args : Array Value} {z : Nat → Nat} {D : va_G} {cA : Nat → ClassId} (hts : ∀ w ∈ lw_tbl, w.before args s = true) (hs : ∀ w ∈ gL, w.before args s = true) (hK : va_K D vwCl (gTy cA) s) (hz : ∀ q ∈ gStr, (Term.string q.1 q.2.1).eval args s none [] s = some (.ref (z q.2.2.2)))
    (h100 : (Term.static "java/lang/Integer" "DigitTens" "[B").eval args s none [] s = some (.ref (z 100))) (h101 : (Term.static "java/lang/Integer" "DigitOnes" "[B").eval args s none [] s = some (.ref (z 101))) (h102 : (Term.static "jdk/internal/util/Preconditions" "SIOOBE_FORMATTER" "Ljava/util/function/BiFunction;").eval args s none [] s = some (va_rf (zfm z))) : Ev z D cA s.heap.size s := by
  have hA : ∀ a : Nat, a < s.heap.size → ¬ s.heap.size ≤ a := fun a h => Nat.not_le.mpr h
  refine ⟨hK, fun w hw => ?_, fun q hq => ?_, fun q hq => ?_, fun C hC => ?_, hts (.arrayOver (.array .int)) (lw_i 1342 (by decide +kernel)), va_Nw.of rfl (hts (.castable "[B" "java/lang/Cloneable") (lw_i 921 (by decide +kernel))), fun y hy => ?_⟩
  · have h1 := hts w (List.mem_append_right _ (List.mem_filter.mp hw).1)
    have h2 := (List.mem_filter.mp hw).2
    cases w <;> first | exact va_Nw.of rfl h1 | exact absurd h2 Bool.false_ne_true
  · exact vk_R.of (A := args) (st_sref hts q hq) (hz q hq)
  · simp only [gZs, List.mem_cons, List.not_mem_nil, or_false] at hq
    rcases hq with rfl | rfl | rfl | rfl
    · exact va_Zof (hts (.laysStatic "java/lang/String" "COMPACT_STRINGS" "Z") (lw_i 363 (by decide +kernel))) (hts (.initialized "java/lang/String") (lw_i 50 (by decide +kernel))) (va_eqi (hs _ (gL_in 4 (by decide +kernel)))) hA
    · exact va_Zof (hts (.laysStatic "java/lang/Integer" "DigitTens" "[B") (lw_i 998 (by decide +kernel))) (hts (.initialized "java/lang/Integer") (lw_i 62 (by decide +kernel))) h100 hA
    · exact va_Zof (hts (.laysStatic "java/lang/Integer" "DigitOnes" "[B") (lw_i 996 (by decide +kernel))) (hts (.initialized "java/lang/Integer") (lw_i 62 (by decide +kernel))) h101 hA
    · exact va_Zof (hts (.laysStatic "jdk/internal/util/Preconditions" "SIOOBE_FORMATTER" "Ljava/util/function/BiFunction;") (lw_i 379 (by decide +kernel))) (hts (.initialized "jdk/internal/util/Preconditions") (lw_i 52 (by decide +kernel))) h102 hA
  · simp only [gAO, List.mem_cons, List.not_mem_nil, or_false] at hC
    rcases hC with rfl | rfl | rfl | rfl
    · exact va_AO.of (A := args) (hts _ (lw_i 108 (by decide +kernel)))
    · exact va_AO.of (A := args) (hts _ (lw_i 167 (by decide +kernel)))
    · exact va_AO.of (A := args) (hts _ (lw_i 169 (by decide +kernel)))
    · exact va_AO.of (A := args) (hts _ (lw_i 1340 (by decide +kernel)))
  · simp only [gPv, List.mem_cons, List.not_mem_nil, or_false] at hy
    rcases hy with rfl | rfl | rfl | rfl
    · exact va_Nw.of rfl (hts _ (lw_i 897 (by decide +kernel)))
    · exact va_Nw.of rfl (hts _ (lw_i 901 (by decide +kernel)))
    · exact va_Nw.of rfl (hts _ (lw_i 949 (by decide +kernel)))
    · exact va_Nw.of rfl (hts _ (lw_i 953 (by decide +kernel)))
theorem st_fm {s : State} {args : Array Value} (hs : ∀ w ∈ gL, w.before args s = true) : ∃ r : Option Nat, (Term.static "jdk/internal/util/Preconditions" "SIOOBE_FORMATTER" "Ljava/util/function/BiFunction;").eval args s none [] s = some (va_rf r) := by
  obtain ⟨v, h1, h2⟩ := Cond.isRef_spec (hs (.isRef (.static "jdk/internal/util/Preconditions" "SIOOBE_FORMATTER" "Ljava/util/function/BiFunction;")) (gL_in 5 (by decide +kernel)))
  cases v with
  | null => exact ⟨none, h1⟩
  | ref a => exact ⟨some a, h1⟩
  | _ => exact absurd h2 (by simp [Value.isRef])
/-- how many String constants -/
def gK : Nat := 46
/-- a choice, of any proposition -/
noncomputable def cif {α : Type} (p : Prop) (a b : α) : α := @ite α p (Classical.propDecidable p) a b
theorem cif_pos {α : Type} {p : Prop} {a b : α} (h : p) : cif p a b = a := by unfold cif; exact if_pos h
theorem cif_neg {α : Type} {p : Prop} {a b : α} (h : ¬ p) : cif p a b = b := by unfold cif; exact if_neg h
/-- the heap as the law finds it: the script, the String constants and their bytes, the digits -/
def St0 (z : Nat → Nat) (b L : Nat) (xs : Nat → Int32) (x : Hp) : Prop :=
  (∀ k, k < gK → h_k x (z k) = 201 ∧ h_i x 1 (z k) = 0 ∧ h_r x 0 (z k) = some (z (200 + k)) ∧ h_k x (z (200 + k)) = 300 ∧ h_n x (z (200 + k)) = (gB.getD k []).length ∧ ∀ j, j < (gB.getD k []).length → h_ai x (z (200 + k)) j = (gB.getD k []).getD j 0) ∧
  (h_k x (z 100) = 300 ∧ h_n x (z 100) = 100 ∧ ∀ j, j < 100 → h_ai x (z 100) j = nI (48 + j / 10)) ∧
  (h_k x (z 101) = 300 ∧ h_n x (z 101) = 100 ∧ ∀ j, j < 100 → h_ai x (z 101) j = nI (48 + j % 10)) ∧
  (h_k x b = 301 ∧ h_n x b = L ∧ ∀ j, j < L → h_ai x b j = xs j) ∧
  (∀ a, h_k x a ≠ 0 → 200 ≤ h_k x a ∧ a < h_sz x)
