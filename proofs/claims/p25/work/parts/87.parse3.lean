/-! ===== the reader at an expression: min, tests ===== -/
theorem drop_add {ts a b : List Tok} {i : Nat} (h : ts.drop i = a ++ b) : ts.drop (i + a.length) = b := by
  have := congrArg (List.drop a.length) h
  rw [List.drop_drop, List.drop_left] at this
  exact this
def foB (k : Nat) : Prop := foS k ∧ k ≠ 30
def foT (k : Nat) : Prop := foB k ∧ k ≠ 31
section PM
variable {N : Nat} {z : Nat → Nat} {Y n q e0 : Nat} {ts : List Tok} {e : Int32}
theorem PE.enters {x : Hp} {i : Nat} {C : List (Nat × Nat)} {os : List (Nat → Nat)} (h : PE x Y ts n i C os) (he : e0 < 8) : f_X5_enters N z (Y + 3) (nI e0) x = some (1, p_i x 145 (Y + 3) (nI (i + 1))) := by
  obtain ⟨s1, s2, s3, s4, s5, s6, s7, s8⟩ := h.s
  unfold f_X5_enters
  rw [if_pos (show nI e0 < (8 : Int32) from nI_lt (b := 8) he (by decide)), geti_s s1, s7, nI_1, puti_s s1]
theorem Pz.cg {f : Hp → Option (Unit × Hp)} {a a' : List Tok} {c c' : List (Nat × Nat)} {fo fo' : Nat → Prop} (h : Pz Y ts n f a c fo) (ha : a' = a) (hc : c' = c) (hf : ∀ k, fo' k → fo k) : Pz Y ts n f a' c' fo' := by
  subst ha
  subst hc
  exact fun x i C os t r h1 h2 h3 h4 => h x i C os t r h1 h2 (hf _ h3) h4
/-- the lesser of two -/
theorem val_min {a b : List Tok} {ca cb : List (Nat × Nat)} (he : e0 < 8) (ha : Pz Y ts n (fun x => fx_rec N z q 3 (Y + 3) (nI (e0 + 1)) 0 x) a ca foS) (hb : Pz Y ts n (fun x => fx_rec N z q 3 (Y + 3) (nI (e0 + 1)) 0 x) b cb foS) : Pz Y ts n (fun x => fx_rec N z (q + 2) 5 (Y + 3) (nI e0) 0 x) (kT 32 :: sT 40 :: (a ++ sT 44 :: (b ++ [sT 41]))) (ca ++ cb ++ [(32, 0)]) foV := by
  intro x i C os t r h hd _ hC
  simp only [List.length_append, List.length_cons, List.length_nil] at hC
  have hd' : ts.drop i = kT 32 :: sT 40 :: (a ++ sT 44 :: (b ++ sT 41 :: t :: r)) := by rw [hd]; simp
  obtain ⟨-, -, d2⟩ := drop_tok hd'
  obtain ⟨-, -, d3⟩ := drop_tok d2
  have d4 := drop_add d3
  obtain ⟨-, -, d5⟩ := drop_tok d4
  have d6 := drop_add d5
  obtain ⟨g1, g2⟩ := h.adv
  have en := g1.enters (N := N) (z := z) he
  obtain ⟨g3, g4⟩ := g1.adv
  obtain ⟨y1, a1, a2, a3⟩ := ha _ _ _ _ _ _ g3 d3 (by show (44 < 128) ∧ _ ∧ _ ∧ _; decide) (by omega)
  have n1 := a2.need (N := N) (z := z) d4 (v := 44) rfl
  obtain ⟨g5, g6⟩ := a2.adv
  obtain ⟨y2, b1, b2, b3⟩ := hb _ _ _ _ _ _ g5 d5 (by show (41 < 128) ∧ _ ∧ _ ∧ _; decide) (by rw [List.length_append]; omega)
  have n2 := b2.need (N := N) (z := z) d6 (v := 41) rfl
  obtain ⟨g7, g8⟩ := b2.adv
  obtain ⟨y3, c1, c2, c3⟩ := g7.add (N := N) (z := z) (a := 32) (b := 0) (by rw [List.length_append, List.length_append]; omega)
  have s0 := h.s
  obtain ⟨v1, v2, v3, v4, v5, v6, v7, v8⟩ := g7.s
  have c1' : f_X0_add N z (Y + 5) (nI 32) (0 : Int32) _ = some ((), y3) := c1
  have a1' : fx_rec N z q 3 (Y + 3) (nI (e0 + 1)) 0 _ = some ((), y1) := a1
  have b1' : fx_rec N z q 3 (Y + 3) (nI (e0 + 1)) 0 _ = some ((), y2) := b1
  refine ⟨y3, ?_, ?_, ((((g2.tr g4).tr a3).tr g6).tr b3).tr (g8.tr c3)⟩
  · show f_X5_value N z (fx_rec N z (q + 1)) (Y + 3) (nI e0) x = _
    have ep : ∀ w, fx_rec N z (q + 1) 6 (Y + 3) (nI 32) (nI e0) w = f_X5_pair N z (fx_rec N z q) (Y + 3) (nI 32) (nI e0) w := fun w => rfl
    unfold f_X5_value
    rw [obj_s s0.1, h.kind hd', bnd_s, show (kT 32).1 = 32 from rfl]
    repeat rw [if_neg (by decide)]
    rw [if_pos (by decide), geti_s s0.1, s0.2.2.2.2.2.2.1, nI_1, puti_s s0.1, obj_s g1.s.1, ep]
    unfold f_X5_pair
    rw [obj_s g1.s.1, g1.kind d2, bnd_s, show (sT 40).1 = 40 from rfl, if_pos (by decide), obj_s g1.s.1, en, bnd_s, if_neg (by decide), obj_s g3.s.1, nI_1, a1', bnd_s, obj_s a2.s.1, n1, bnd_s, obj_s g5.s.1, b1', bnd_s, obj_s b2.s.1, n2, bnd_s, getr_s v1, v2, getr_s v4, v5, obj_s v6, c1', bnd_s, bnd_s]
  · have q1 : i + 1 + 1 + a.length + 1 + b.length + 1 = i + (kT 32 :: sT 40 :: (a ++ sT 44 :: (b ++ [sT 41]))).length := by simp; omega
    have q2 : C ++ ca ++ cb ++ [(32, 0)] = C ++ (ca ++ cb ++ [(32, 0)]) := by simp
    rw [q1, q2] at c2
    exact c2
theorem pr1 {a : List Tok} {c : List (Nat × Nat)} (hN : 401 ≤ N) (h : Pz Y ts n (fun x => fx_rec N z q 5 (Y + 3) e 0 x) a c foV) : Pz Y ts n (fun x => fx_rec N z (q + 1) 4 (Y + 3) e 0 x) a c foP :=
  (rd_product_s (ops := []) hN h (fun p hp => absurd hp (by simp)) (by simp)).cg (by simp [productT]) (by simp [productC]) (fun _ h => h)
theorem pr2 {a b : List Tok} {c d : List (Nat × Nat)} {o : Nat} (ho : o = 42 ∨ o = 47) (hN : 401 ≤ N) (h : Pz Y ts n (fun x => fx_rec N z q 5 (Y + 3) e 0 x) a c foV) (g : Pz Y ts n (fun x => fx_rec N z q 5 (Y + 3) e 0 x) b d foV) : Pz Y ts n (fun x => fx_rec N z (q + 1) 4 (Y + 3) e 0 x) (a ++ sT o :: b) (c ++ d ++ [(o, 0)]) foP :=
  (rd_product_s (ops := [(o, b, d)]) hN h (fun p hp => by simp at hp; subst hp; exact ⟨ho, g⟩) (by simp)).cg (by simp [productT]) (by simp [productC]) (fun _ h => h)
theorem pr3 {a b b' : List Tok} {c d d' : List (Nat × Nat)} {o o' : Nat} (ho : o = 42 ∨ o = 47) (ho' : o' = 42 ∨ o' = 47) (hN : 401 ≤ N) (h : Pz Y ts n (fun x => fx_rec N z q 5 (Y + 3) e 0 x) a c foV) (g : Pz Y ts n (fun x => fx_rec N z q 5 (Y + 3) e 0 x) b d foV) (g' : Pz Y ts n (fun x => fx_rec N z q 5 (Y + 3) e 0 x) b' d' foV) : Pz Y ts n (fun x => fx_rec N z (q + 1) 4 (Y + 3) e 0 x) (a ++ sT o :: (b ++ sT o' :: b')) (c ++ (d ++ (o, 0) :: (d' ++ [(o', 0)]))) foP :=
  (rd_product_s (ops := [(o, b, d), (o', b', d')]) hN h (fun p hp => by simp at hp; rcases hp with hp | hp <;> subst hp; exact ⟨ho, g⟩; exact ⟨ho', g'⟩) (by simp)).cg (by simp [productT]) (by simp [productC]) (fun _ h => h)
theorem sm1 {a : List Tok} {c : List (Nat × Nat)} (hN : 401 ≤ N) (h : Pz Y ts n (fun x => fx_rec N z q 4 (Y + 3) e 0 x) a c foP) : Pz Y ts n (fun x => fx_rec N z (q + 1) 3 (Y + 3) e 0 x) a c foS :=
  (rd_sum_s (ops := []) hN h (fun p hp => absurd hp (by simp)) (by simp)).cg (by simp [sumT]) (by simp [sumC]) (fun _ h => h)
theorem sm2 {a b : List Tok} {c d : List (Nat × Nat)} {o : Nat} (ho : o = 43 ∨ o = 45) (hN : 401 ≤ N) (h : Pz Y ts n (fun x => fx_rec N z q 4 (Y + 3) e 0 x) a c foP) (g : Pz Y ts n (fun x => fx_rec N z q 4 (Y + 3) e 0 x) b d foP) : Pz Y ts n (fun x => fx_rec N z (q + 1) 3 (Y + 3) e 0 x) (a ++ sT o :: b) (c ++ d ++ [(o, 0)]) foS :=
  (rd_sum_s (ops := [(o, b, d)]) hN h (fun p hp => by simp at hp; subst hp; exact ⟨ho, g⟩) (by simp)).cg (by simp [sumT]) (by simp [sumC]) (fun _ h => h)
/-- a sum that a law's order tells -/
theorem tld_p {s l m : Nat} (he : e0 < 8) (hs : s < 7) (hl : l < n) (hm : m < 100) (hN : 401 ≤ N) : Pz Y ts n (fun x => fx_rec N z (q + 7) 3 (Y + 3) (nI e0) 0 x) (tldK s l m) (tldC s l m) foS := by
  have vn : ∀ {k e d}, k < 100 → Pz Y ts n (fun x => fx_rec N z (d + 1) 5 (Y + 3) e 0 x) [nT k] [(35, k)] foV := fun h => val_num h
  have v0 : ∀ {k e d}, (k = 20 ∨ k = 21) → Pz Y ts n (fun x => fx_rec N z (d + 1) 5 (Y + 3) e 0 x) [kT k] [(k, 0)] foV := fun h => val_0 h
  have vl : ∀ {k e d}, (k = 22 ∨ k = 23 ∨ k = 24 ∨ k = 25 ∨ k = 26) → Pz Y ts n (fun x => fx_rec N z (d + 1) 5 (Y + 3) e 0 x) [kT k, lT l] [(k, l)] foV := fun h => val_l h hl hN
  have c : s = 0 ∨ s = 1 ∨ s = 2 ∨ s = 3 ∨ s = 4 ∨ s = 5 ∨ s = 6 := by omega
  rcases c with c | c | c | c | c | c | c <;> subst c
  · exact sm1 hN (pr1 hN (vn hm))
  · exact (sm2 (o := 45) (by decide) hN (pr1 hN (v0 (k := 20) (by decide))) (pr1 hN (vn hm))).cg rfl rfl (fun _ h => h)
  · exact (sm2 (o := 43) (by decide) hN (pr1 hN (v0 (k := 21) (by decide))) (pr1 hN (vl (k := 22) (by decide)))).cg rfl rfl (fun _ h => h)
  · exact (sm2 (o := 45) (by decide) hN (pr2 (o := 42) (by decide) hN (vl (k := 23) (by decide)) (vn (k := 2) (by decide))) (pr1 hN (vn hm))).cg rfl rfl (fun _ h => h)
  · exact (sm1 hN (pr2 (o := 47) (by decide) hN (vl (k := 24) (by decide)) (vn (k := 2) (by decide)))).cg rfl rfl (fun _ h => h)
  · exact (sm2 (o := 45) (by decide) hN (pr1 hN (vl (k := 25) (by decide))) (pr1 hN (vl (k := 26) (by decide)))).cg rfl rfl (fun _ h => h)
  · have a : Pz Y ts n (fun x => fx_rec N z (q + 3) 3 (Y + 3) (nI (e0 + 1)) 0 x) [nT m] [(35, m)] foS := sm1 hN (pr1 hN (vn hm))
    have b : Pz Y ts n (fun x => fx_rec N z (q + 3) 3 (Y + 3) (nI (e0 + 1)) 0 x) [nT 30, sT 45, kT 22, lT l] [(35, 30), (22, l), (45, 0)] foS := (sm2 (o := 45) (by decide) hN (pr1 hN (vn (k := 30) (by decide))) (pr1 hN (vl (k := 22) (by decide)))).cg rfl rfl (fun _ h => h)
    exact (sm1 hN (pr1 hN (val_min he a b))).cg rfl rfl (fun _ h => h)
end PM
