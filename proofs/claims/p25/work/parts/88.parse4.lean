/-! ===== the reader at a test ===== -/
section PT
variable {N : Nat} {z : Nat → Nat} {Y n q e0 : Nat} {ts : List Tok} {e : Int32}
/-- full, dry -/
theorem sg_l {k l : Nat} (hk : k = 27 ∨ k = 28) (hl : l < n) (hN : 401 ≤ N) : Pz Y ts n (fun x => fx_rec N z (q + 1) 2 (Y + 3) e 0 x) [kT k, lT l] [(k, l)] foS := by
  intro x i C os t r h hd _ hC
  simp only [List.length_cons, List.length_nil] at hC
  have hd' : ts.drop i = kT k :: lT l :: t :: r := hd
  obtain ⟨s1, s2, s3, s4, s5, s6, s7, s8⟩ := h.s
  obtain ⟨d1, d2, d3⟩ := drop_tok hd'
  obtain ⟨g1, g2⟩ := h.adv
  have et := g1.told (N := N) (z := z) d3 hl hN
  obtain ⟨g3, g4⟩ := g1.adv
  obtain ⟨u, hu⟩ : ∃ u, u = p_i (p_i x 145 (Y + 3) (nI (i + 1))) 145 (Y + 3) (nI (i + 1 + 1)) := ⟨_, rfl⟩
  rw [← hu] at et g3 g4
  obtain ⟨v1, v2, v3, v4, v5, v6, v7, v8⟩ := g1.s
  obtain ⟨y, a1, a2, a3⟩ := g3.add (N := N) (z := z) (a := k) (b := l) (by omega)
  obtain ⟨w1, w2, w3, w4, w5, w6, w7, w8⟩ := g3.s
  refine ⟨y, ?_, a2, (g2.tr g4).tr a3⟩
  show f_X5_single N z (fx_rec N z q) (Y + 3) e x = _
  unfold f_X5_single f_X5_single_b84
  rw [obj_s s1, h.kind hd', bnd_s, show (kT k).1 = k from rfl]
  rcases hk with c | c <;> subst c
  · rw [if_neg (by decide), if_neg (by decide), if_pos (by decide), geti_s s1, s7, nI_1, puti_s s1, getr_s v1, v2, getr_s v4, v5, obj_s v1, et, bnd_s, obj_s w6, a1, bnd_s]
  · rw [if_neg (by decide), if_neg (by decide), if_neg (by decide), if_pos (by decide), geti_s s1, s7, nI_1, puti_s s1, getr_s v1, v2, getr_s v4, v5, obj_s v1, et, bnd_s, obj_s w6, a1, bnd_s]
/-- not -/
theorem sg_not {a : List Tok} {c : List (Nat × Nat)} (he : e0 < 8) (ha : Pz Y ts n (fun x => fx_rec N z q 2 (Y + 3) (nI (e0 + 1)) 0 x) a c foS) : Pz Y ts n (fun x => fx_rec N z (q + 1) 2 (Y + 3) (nI e0) 0 x) (kT 29 :: a) (c ++ [(29, 0)]) foS := by
  intro x i C os t r h hd hf hC
  simp only [List.length_append, List.length_cons, List.length_nil] at hC
  have hd' : ts.drop i = kT 29 :: (a ++ t :: r) := hd
  obtain ⟨s1, s2, s3, s4, s5, s6, s7, s8⟩ := h.s
  obtain ⟨d1, d2, d3⟩ := drop_tok hd'
  have en := h.enters (N := N) (z := z) he
  obtain ⟨g1, g2⟩ := h.adv
  obtain ⟨y1, a1, a2, a3⟩ := ha _ _ _ _ _ _ g1 d3 hf (by omega)
  obtain ⟨y, b1, b2, b3⟩ := a2.add (N := N) (z := z) (a := 29) (b := 0) (by rw [List.length_append]; omega)
  obtain ⟨v1, v2, v3, v4, v5, v6, v7, v8⟩ := a2.s
  have a1' : fx_rec N z q 2 (Y + 3) (nI (e0 + 1)) 0 _ = some ((), y1) := a1
  have b1' : f_X0_add N z (Y + 5) (29 : Int32) (0 : Int32) _ = some ((), y) := b1
  refine ⟨y, ?_, ?_, (g2.tr a3).tr b3⟩
  · show f_X5_single N z (fx_rec N z q) (Y + 3) (nI e0) x = _
    unfold f_X5_single
    rw [obj_s s1, h.kind hd', bnd_s, show (kT 29).1 = 29 from rfl, if_pos (by decide), obj_s s1, en, bnd_s, if_neg (by decide), obj_s g1.s.1, nI_1, a1', bnd_s, getr_s v1, v2, getr_s v4, v5, obj_s v6, b1', bnd_s]
  · have q1 : i + 1 + a.length = i + (kT 29 :: a).length := by simp; omega
    have q2 : C ++ c ++ [(29, 0)] = C ++ (c ++ [(29, 0)]) := by simp
    rw [q1, q2] at b2
    exact b2
/-- in brackets -/
theorem sg_br {a : List Tok} {c : List (Nat × Nat)} (he : e0 < 8) (ha : Pz Y ts n (fun x => fx_rec N z q 0 (Y + 3) (nI (e0 + 1)) 0 x) a c foT) : Pz Y ts n (fun x => fx_rec N z (q + 1) 2 (Y + 3) (nI e0) 0 x) (sT 91 :: (a ++ [sT 93])) c foS := by
  intro x i C os t r h hd hf hC
  have hd' : ts.drop i = sT 91 :: (a ++ sT 93 :: t :: r) := by rw [hd]; simp
  obtain ⟨s1, s2, s3, s4, s5, s6, s7, s8⟩ := h.s
  obtain ⟨d1, d2, d3⟩ := drop_tok hd'
  have d4 := drop_add d3
  have en := h.enters (N := N) (z := z) he
  obtain ⟨g1, g2⟩ := h.adv
  obtain ⟨y1, a1, a2, a3⟩ := ha _ _ _ _ _ _ g1 d3 (by show ((_ ∧ _ ∧ _ ∧ _) ∧ _) ∧ _; decide) (by omega)
  have n1 := a2.need (N := N) (z := z) d4 (v := 93) rfl
  obtain ⟨g3, g4⟩ := a2.adv
  have a1' : fx_rec N z q 0 (Y + 3) (nI (e0 + 1)) 0 _ = some ((), y1) := a1
  refine ⟨_, ?_, ?_, (g2.tr a3).tr g4⟩
  · show f_X5_single N z (fx_rec N z q) (Y + 3) (nI e0) x = _
    unfold f_X5_single
    rw [obj_s s1, h.kind hd', bnd_s, show (sT 91).1 = 91 from rfl, if_neg (by decide), if_pos (by decide), obj_s s1, en, bnd_s, if_neg (by decide), obj_s g1.s.1, nI_1, a1', bnd_s, obj_s a2.s.1, n1, bnd_s]
  · have q1 : i + 1 + a.length + 1 = i + (sT 91 :: (a ++ [sT 93])).length := by simp; omega
    rw [← q1]
    exact g3
/-- two sums compared -/
theorem sg_cmp {t0 : Tok} {a b : List Tok} {ca cb : List (Nat × Nat)} {o : Nat} (ho : o = 60 ∨ o = 62 ∨ o = 61 ∨ o = 37) (h0 : t0.1 < 128 ∧ t0.1 ≠ 29 ∧ t0.1 ≠ 91 ∧ t0.1 ≠ 27 ∧ t0.1 ≠ 28) (ha : Pz Y ts n (fun x => fx_rec N z q 3 (Y + 3) e 0 x) (t0 :: a) ca foS) (hb : Pz Y ts n (fun x => fx_rec N z q 3 (Y + 3) e 0 x) b cb foS) : Pz Y ts n (fun x => fx_rec N z (q + 1) 2 (Y + 3) e 0 x) (t0 :: (a ++ sT o :: b)) (ca ++ cb ++ [(o, 0)]) foS := by
  intro x i C os t r h hd hf hC
  simp only [List.length_append, List.length_cons, List.length_nil] at hC
  have hd' : ts.drop i = t0 :: (a ++ sT o :: (b ++ t :: r)) := by rw [hd]; simp
  have hd2 : ts.drop i = (t0 :: a) ++ sT o :: (b ++ t :: r) := hd'
  obtain ⟨s1, s2, s3, s4, s5, s6, s7, s8⟩ := h.s
  have d4 := drop_add hd2
  obtain ⟨-, -, d5⟩ := drop_tok d4
  have ho2 : foS o := by
    rcases ho with c | c | c | c <;> subst c <;> (show _ ∧ _ ∧ _ ∧ _; decide)
  obtain ⟨y1, a1, a2, a3⟩ := ha _ _ _ _ _ _ h hd2 ho2 (by omega)
  obtain ⟨g1, g2⟩ := a2.adv
  obtain ⟨v1, v2, v3, v4, v5, v6, v7, v8⟩ := a2.s
  obtain ⟨y2, b1, b2, b3⟩ := hb _ _ _ _ _ _ g1 d5 hf (by rw [List.length_append]; omega)
  obtain ⟨w1, w2, w3, w4, w5, w6, w7, w8⟩ := b2.s
  obtain ⟨y, c1, c2, c3⟩ := b2.add (N := N) (z := z) (a := o) (b := 0) (by rw [List.length_append, List.length_append]; omega)
  have a1' : fx_rec N z q 3 (Y + 3) e 0 x = some ((), y1) := a1
  have b1' : fx_rec N z q 3 (Y + 3) e 0 _ = some ((), y2) := b1
  have c1' : f_X0_add N z (Y + 5) (nI o) (0 : Int32) _ = some ((), y) := c1
  have cm : f_X5_compares N z (nI o) y1 = some (1, y1) := by
    unfold f_X5_compares f_X5_compares_b30
    rcases ho with c | c | c | c <;> subst c <;> rfl
  have ne : ∀ k : Nat, k < 128 → t0.1 ≠ k → ¬ nI t0.1 = nI k := fun k hk hne e => hne ((nI_eq (by omega) (by omega)).mp e)
  refine ⟨y, ?_, ?_, ((a3.tr g2).tr b3).tr c3⟩
  · show f_X5_single N z (fx_rec N z q) (Y + 3) e x = _
    unfold f_X5_single
    rw [obj_s s1, h.kind hd', bnd_s, if_neg (show ¬ nI t0.1 = (29 : Int32) from ne 29 (by decide) h0.2.1), if_neg (show ¬ nI t0.1 = (91 : Int32) from ne 91 (by decide) h0.2.2.1), if_neg (show ¬ nI t0.1 = (27 : Int32) from ne 27 (by decide) h0.2.2.2.1), if_neg (show ¬ nI t0.1 = (28 : Int32) from ne 28 (by decide) h0.2.2.2.2), obj_s s1, a1', bnd_s, obj_s v1, a2.kind d4, bnd_s, show (sT o).1 = o from rfl, cm, bnd_s, if_neg (by decide), geti_s v1, v7, nI_1, puti_s v1, obj_s g1.s.1, b1', bnd_s, getr_s w1, w2, getr_s w4, w5, obj_s w6, c1', bnd_s]
  · have q1 : i + (t0 :: a).length + 1 + b.length = i + (t0 :: (a ++ sT o :: b)).length := by simp; omega
    have q2 : C ++ ca ++ cb ++ [(o, 0)] = C ++ (ca ++ cb ++ [(o, 0)]) := by simp
    rw [q1, q2] at c2
    exact c2
/-- one, or two with and -/
theorem bt1 {a : List Tok} {c : List (Nat × Nat)} (hN : 401 ≤ N) (ha : Pz Y ts n (fun x => fx_rec N z q 2 (Y + 3) e 0 x) a c foS) : Pz Y ts n (fun x => fx_rec N z (q + 1) 1 (Y + 3) e 0 x) a c foB := by
  intro x i C os t r h hd hf hC
  obtain ⟨y1, a1, a2, a3⟩ := ha _ _ _ _ _ _ h hd hf.1 hC
  have d4 := drop_add hd
  have tk := a2.takesN (N := N) (z := z) d4 (k := 30) (v := 30) rfl (by decide) hf.1.1 hf.2
  have a1' : fx_rec N z q 2 (Y + 3) e 0 x = some ((), y1) := a1
  obtain ⟨M, hM⟩ : ∃ M, N = M + 1 := ⟨N - 1, by omega⟩
  refine ⟨y1, ?_, a2, a3⟩
  show f_X5_both N z (fx_rec N z q) (Y + 3) e x = _
  unfold f_X5_both
  rw [obj_s h.s.1, a1', bnd_s, show f_X5_both_b7 N z (fx_rec N z q) N = f_X5_both_b7 N z (fx_rec N z q) (M + 1) by rw [← hM], f_X5_both_b7, if_neg (by decide), obj_s a2.s.1, tk, bnd_s, if_pos rfl]
theorem bt2 {a b : List Tok} {c d : List (Nat × Nat)} (hN : 401 ≤ N) (ha : Pz Y ts n (fun x => fx_rec N z q 2 (Y + 3) e 0 x) a c foS) (hb : Pz Y ts n (fun x => fx_rec N z q 2 (Y + 3) e 0 x) b d foS) : Pz Y ts n (fun x => fx_rec N z (q + 1) 1 (Y + 3) e 0 x) (a ++ kT 30 :: b) (c ++ d ++ [(30, 0)]) foB := by
  intro x i C os t r h hd hf hC
  simp only [List.length_append, List.length_cons, List.length_nil] at hC
  have hd' : ts.drop i = a ++ kT 30 :: (b ++ t :: r) := by rw [hd]; simp
  obtain ⟨y1, a1, a2, a3⟩ := ha _ _ _ _ _ _ h hd' (by show _ ∧ _ ∧ _ ∧ _; decide) (by omega)
  have d4 := drop_add hd'
  have tk := a2.takes (N := N) (z := z) d4 (v := 30) rfl
  obtain ⟨g1, g2⟩ := a2.adv
  obtain ⟨-, -, d5⟩ := drop_tok d4
  obtain ⟨y2, b1, b2, b3⟩ := hb _ _ _ _ _ _ g1 d5 hf.1 (by rw [List.length_append]; omega)
  have d6 := drop_add d5
  obtain ⟨w1, w2, w3, w4, w5, w6, w7, w8⟩ := b2.s
  obtain ⟨y, c1, c2, c3⟩ := b2.add (N := N) (z := z) (a := 30) (b := 0) (by rw [List.length_append, List.length_append]; omega)
  have tk2 := c2.takesN (N := N) (z := z) d6 (k := 30) (v := 30) rfl (by decide) hf.1.1 hf.2
  have a1' : fx_rec N z q 2 (Y + 3) e 0 x = some ((), y1) := a1
  have b1' : fx_rec N z q 2 (Y + 3) e 0 _ = some ((), y2) := b1
  have c1' : f_X0_add N z (Y + 5) (30 : Int32) (0 : Int32) _ = some ((), y) := c1
  obtain ⟨M, hM⟩ : ∃ M, N = M + 2 := ⟨N - 2, by omega⟩
  refine ⟨y, ?_, ?_, ((a3.tr g2).tr b3).tr c3⟩
  · show f_X5_both N z (fx_rec N z q) (Y + 3) e x = _
    unfold f_X5_both
    rw [obj_s h.s.1, a1', bnd_s, show f_X5_both_b7 N z (fx_rec N z q) N = f_X5_both_b7 N z (fx_rec N z q) (M + 1 + 1) by rw [hM], f_X5_both_b7, if_neg (by decide), obj_s a2.s.1, tk, bnd_s, if_neg (by decide), obj_s g1.s.1, b1', bnd_s, getr_s w1, w2, getr_s w4, w5, obj_s w6, c1', bnd_s, f_X5_both_b7, if_neg (by decide), obj_s c2.s.1, tk2, bnd_s, if_pos rfl]
  · have q1 : i + a.length + 1 + b.length = i + (a ++ kT 30 :: b).length := by simp; omega
    have q2 : C ++ c ++ d ++ [(30, 0)] = C ++ (c ++ d ++ [(30, 0)]) := by simp
    rw [q1, q2] at c2
    exact c2
/-- one, or two with or -/
theorem ts1 {a : List Tok} {c : List (Nat × Nat)} (hN : 401 ≤ N) (ha : Pz Y ts n (fun x => fx_rec N z q 1 (Y + 3) e 0 x) a c foB) : Pz Y ts n (fun x => fx_rec N z (q + 1) 0 (Y + 3) e 0 x) a c foT := by
  intro x i C os t r h hd hf hC
  obtain ⟨y1, a1, a2, a3⟩ := ha _ _ _ _ _ _ h hd hf.1 hC
  have d4 := drop_add hd
  have tk := a2.takesN (N := N) (z := z) d4 (k := 31) (v := 31) rfl (by decide) hf.1.1.1 hf.2
  have a1' : fx_rec N z q 1 (Y + 3) e 0 x = some ((), y1) := a1
  obtain ⟨M, hM⟩ : ∃ M, N = M + 1 := ⟨N - 1, by omega⟩
  refine ⟨y1, ?_, a2, a3⟩
  show f_X5_test N z (fx_rec N z q) (Y + 3) e x = _
  unfold f_X5_test
  rw [obj_s h.s.1, a1', bnd_s, show f_X5_test_b7 N z (fx_rec N z q) N = f_X5_test_b7 N z (fx_rec N z q) (M + 1) by rw [← hM], f_X5_test_b7, if_neg (by decide), obj_s a2.s.1, tk, bnd_s, if_pos rfl]
theorem ts2 {a b : List Tok} {c d : List (Nat × Nat)} (hN : 401 ≤ N) (ha : Pz Y ts n (fun x => fx_rec N z q 1 (Y + 3) e 0 x) a c foB) (hb : Pz Y ts n (fun x => fx_rec N z q 1 (Y + 3) e 0 x) b d foB) : Pz Y ts n (fun x => fx_rec N z (q + 1) 0 (Y + 3) e 0 x) (a ++ kT 31 :: b) (c ++ d ++ [(31, 0)]) foT := by
  intro x i C os t r h hd hf hC
  simp only [List.length_append, List.length_cons, List.length_nil] at hC
  have hd' : ts.drop i = a ++ kT 31 :: (b ++ t :: r) := by rw [hd]; simp
  obtain ⟨y1, a1, a2, a3⟩ := ha _ _ _ _ _ _ h hd' (by show (_ ∧ _ ∧ _ ∧ _) ∧ _; decide) (by omega)
  have d4 := drop_add hd'
  have tk := a2.takes (N := N) (z := z) d4 (v := 31) rfl
  obtain ⟨g1, g2⟩ := a2.adv
  obtain ⟨-, -, d5⟩ := drop_tok d4
  obtain ⟨y2, b1, b2, b3⟩ := hb _ _ _ _ _ _ g1 d5 hf.1 (by rw [List.length_append]; omega)
  have d6 := drop_add d5
  obtain ⟨w1, w2, w3, w4, w5, w6, w7, w8⟩ := b2.s
  obtain ⟨y, c1, c2, c3⟩ := b2.add (N := N) (z := z) (a := 31) (b := 0) (by rw [List.length_append, List.length_append]; omega)
  have tk2 := c2.takesN (N := N) (z := z) d6 (k := 31) (v := 31) rfl (by decide) hf.1.1.1 hf.2
  have a1' : fx_rec N z q 1 (Y + 3) e 0 x = some ((), y1) := a1
  have b1' : fx_rec N z q 1 (Y + 3) e 0 _ = some ((), y2) := b1
  have c1' : f_X0_add N z (Y + 5) (31 : Int32) (0 : Int32) _ = some ((), y) := c1
  obtain ⟨M, hM⟩ : ∃ M, N = M + 2 := ⟨N - 2, by omega⟩
  refine ⟨y, ?_, ?_, ((a3.tr g2).tr b3).tr c3⟩
  · show f_X5_test N z (fx_rec N z q) (Y + 3) e x = _
    unfold f_X5_test
    rw [obj_s h.s.1, a1', bnd_s, show f_X5_test_b7 N z (fx_rec N z q) N = f_X5_test_b7 N z (fx_rec N z q) (M + 1 + 1) by rw [hM], f_X5_test_b7, if_neg (by decide), obj_s a2.s.1, tk, bnd_s, if_neg (by decide), obj_s g1.s.1, b1', bnd_s, getr_s w1, w2, getr_s w4, w5, obj_s w6, c1', bnd_s, f_X5_test_b7, if_neg (by decide), obj_s c2.s.1, tk2, bnd_s, if_pos rfl]
  · have q1 : i + a.length + 1 + b.length = i + (a ++ kT 31 :: b).length := by simp; omega
    have q2 : C ++ c ++ d ++ [(31, 0)] = C ++ (c ++ d ++ [(31, 0)]) := by simp
    rw [q1, q2] at c2
    exact c2
/-- a test that a law's order tells -/
theorem tst_p {s l m : Nat} (he : e0 < 6) (hs : s < 7) (hl : l < n) (hm : m < 100) (hN : 401 ≤ N) : Pz Y ts n (fun x => fx_rec N z (q + 12) 0 (Y + 3) (nI e0) 0 x) (tstK s l m) (tstC s l m) foT := by
  have vn : ∀ {k e d}, k < 100 → Pz Y ts n (fun x => fx_rec N z (d + 1) 5 (Y + 3) e 0 x) [nT k] [(35, k)] foV := fun h => val_num h
  have v0 : ∀ {k e d}, (k = 20 ∨ k = 21) → Pz Y ts n (fun x => fx_rec N z (d + 1) 5 (Y + 3) e 0 x) [kT k] [(k, 0)] foV := fun h => val_0 h
  have td : ∀ {s e0}, e0 < 8 → s < 7 → Pz Y ts n (fun x => fx_rec N z (q + 9) 3 (Y + 3) (nI e0) 0 x) (tldK s l m) (tldC s l m) foS := fun h1 h2 => tld_p (q := q + 2) h1 h2 hl hm hN
  have nn : ∀ {k e}, k < 100 → Pz Y ts n (fun x => fx_rec N z (q + 9) 3 (Y + 3) e 0 x) [nT k] [(35, k)] foS := fun h => sm1 hN (pr1 hN (vn h))
  have mi : ∀ {e}, Pz Y ts n (fun x => fx_rec N z (q + 9) 3 (Y + 3) e 0 x) [kT 20] [(20, 0)] foS := sm1 hN (pr1 hN (v0 (by decide)))
  have sp : ∀ {e}, Pz Y ts n (fun x => fx_rec N z (q + 9) 3 (Y + 3) e 0 x) [kT 21] [(21, 0)] foS := sm1 hN (pr1 hN (v0 (by decide)))
  have c : s = 0 ∨ s = 1 ∨ s = 2 ∨ s = 3 ∨ s = 4 ∨ s = 5 ∨ s = 6 := by omega
  rcases c with c | c | c | c | c | c | c <;> subst c
  · exact (ts1 hN (bt1 hN (sg_l (k := 27) (by decide) hl hN))).cg rfl rfl (fun _ h => h)
  · exact (ts1 hN (bt1 hN (sg_not (by omega) (sg_l (k := 28) (by decide) hl hN)))).cg rfl rfl (fun _ h => h)
  · exact (ts1 hN (bt1 hN (sg_cmp (o := 37) (by decide) (by decide) mi (nn hm)))).cg rfl rfl (fun _ h => h)
  · exact (ts2 hN (bt1 hN (sg_l (k := 28) (by decide) hl hN)) (bt1 hN (sg_cmp (o := 60) (by decide) (by decide) sp (nn hm)))).cg rfl rfl (fun _ h => h)
  · have a : Pz Y ts n (fun x => fx_rec N z (q + 6) 3 (Y + 3) (nI (e0 + 1)) 0 x) [kT 20, sT 47, nT 4, sT 42, nT 4] [(20, 0), (35, 4), (47, 0), (35, 4), (42, 0)] foS := (sm1 hN (pr3 (o := 47) (o' := 42) (by decide) (by decide) hN (v0 (k := 20) (by decide)) (vn (k := 4) (by decide)) (vn (k := 4) (by decide)))).cg rfl rfl (fun _ h => h)
    have b : Pz Y ts n (fun x => fx_rec N z (q + 6) 3 (Y + 3) (nI (e0 + 1)) 0 x) [kT 20] [(20, 0)] foS := sm1 hN (pr1 hN (v0 (by decide)))
    have s1 : Pz Y ts n (fun x => fx_rec N z (q + 7) 2 (Y + 3) (nI (e0 + 1)) 0 x) [kT 29, kT 27, lT l] [(27, l), (29, 0)] foS := (sg_not (by omega) (sg_l (k := 27) (by decide) hl hN)).cg rfl rfl (fun _ h => h)
    have s2 : Pz Y ts n (fun x => fx_rec N z (q + 7) 2 (Y + 3) (nI (e0 + 1)) 0 x) [kT 20, sT 47, nT 4, sT 42, nT 4, sT 61, kT 20] [(20, 0), (35, 4), (47, 0), (35, 4), (42, 0), (20, 0), (61, 0)] foS := (sg_cmp (o := 61) (by decide) (by decide) a b).cg rfl rfl (fun _ h => h)
    exact (ts1 hN (bt1 hN (sg_br (by omega) (ts1 hN (bt2 hN s1 s2))))).cg rfl rfl (fun _ h => h)
  · have a := td (s := 3) (e0 := e0) (by omega) (by decide)
    have b := td (s := 2) (e0 := e0) (by omega) (by decide)
    have a' : Pz Y ts n (fun x => fx_rec N z (q + 9) 3 (Y + 3) (nI e0) 0 x) [kT 23, lT l, sT 42, nT 2, sT 45, nT m] [(23, l), (35, 2), (42, 0), (35, m), (45, 0)] foS := a
    exact (ts1 hN (bt1 hN (sg_cmp (o := 62) (by decide) (by decide) a' b))).cg rfl rfl (fun _ h => h)
  · exact (ts1 hN (bt1 hN (sg_cmp (o := 62) (by decide) (by decide) (nn (k := 2) (by decide)) (nn (k := 1) (by decide))))).cg rfl rfl (fun _ h => h)
end PT
