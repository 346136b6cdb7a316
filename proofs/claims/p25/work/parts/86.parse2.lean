/-! ===== the reader at an expression: values, products, sums ===== -/
/-- f reads the tokens a and puts the code c -/
def Pz (Y : Nat) (ts : List Tok) (n : Nat) (f : Hp → Option (Unit × Hp)) (a : List Tok) (c : List (Nat × Nat)) (fo : Nat → Prop) : Prop := ∀ (x : Hp) (i : Nat) (C : List (Nat × Nat)) (os : List (Nat → Nat)) (t : Tok) (r : List Tok), PE x Y ts n i C os → ts.drop i = a ++ t :: r → fo t.1 → C.length + c.length ≤ 400 → ∃ y, f x = some ((), y) ∧ PE y Y ts n (i + a.length) (C ++ c) os ∧ Ef x y Y
theorem tI : ∀ m, m < 100 → (Int64.ofNat m).toInt32 = nI m := by decide +kernel
theorem PE.s {x : Hp} {Y n i : Nat} {ts : List Tok} {C : List (Nat × Nat)} {os : List (Nat → Nat)} (h : PE x Y ts n i C os) : h_k x (Y + 3) = 8 ∧ h_r x 140 (Y + 3) = some (Y + 4) ∧ h_r x 142 (Y + 3) = some (Y + 59) ∧ h_k x (Y + 4) = 9 ∧ h_r x 160 (Y + 4) = some (Y + 5) ∧ h_k x (Y + 5) = 3 ∧ h_i x 145 (Y + 3) = nI i ∧ h_k x (Y + 59) = 12 := ⟨h.1.1, h.1.2.1, h.1.2.2.1, h.2.2.2.2.1.1, h.2.2.2.2.1.2.1, h.2.2.2.2.2.2.2.1, h.2.2.1, h.2.1.1.1.1⟩
section PV
variable {N : Nat} {z : Nat → Nat} {Y n q : Nat} {ts : List Tok} {e : Int32}
theorem PE.need {x : Hp} {i : Nat} {C : List (Nat × Nat)} {os : List (Nat → Nat)} {t : Tok} {r : List Tok} (h : PE x Y ts n i C os) (hd : ts.drop i = t :: r) {v : Int32} (hv : v = nI t.1) : f_X5_need N z (Y + 3) v x = some ((), p_i x 145 (Y + 3) (nI (i + 1))) := by
  obtain ⟨s1, s2, s3, s4, s5, s6, s7, s8⟩ := h.s
  subst hv
  unfold f_X5_need
  rw [obj_s s1, h.kind hd, bnd_s, if_pos rfl, geti_s s1, s7, nI_1, puti_s s1]
theorem PE.takes {x : Hp} {i : Nat} {C : List (Nat × Nat)} {os : List (Nat → Nat)} {t : Tok} {r : List Tok} (h : PE x Y ts n i C os) (hd : ts.drop i = t :: r) {v : Int32} (hv : v = nI t.1) : f_X5_takes N z (Y + 3) v x = some (1, p_i x 145 (Y + 3) (nI (i + 1))) := by
  obtain ⟨s1, s2, s3, s4, s5, s6, s7, s8⟩ := h.s
  subst hv
  unfold f_X5_takes
  rw [obj_s s1, h.kind hd, bnd_s, if_pos rfl, geti_s s1, s7, nI_1, puti_s s1]
theorem PE.takesN {x : Hp} {i k : Nat} {C : List (Nat × Nat)} {os : List (Nat → Nat)} {t : Tok} {r : List Tok} (h : PE x Y ts n i C os) (hd : ts.drop i = t :: r) {v : Int32} (hv : v = nI k) (hk : k < 128) (ht : t.1 < 128) (hn : t.1 ≠ k) : f_X5_takes N z (Y + 3) v x = some (0, x) := by
  obtain ⟨s1, s2, s3, s4, s5, s6, s7, s8⟩ := h.s
  subst hv
  unfold f_X5_takes
  rw [obj_s s1, h.kind hd, bnd_s, if_neg (fun e => hn ((nI_eq (by omega) (by omega)).mp e))]
/-- a number -/
theorem val_num {m : Nat} (hm : m < 100) : Pz Y ts n (fun x => fx_rec N z (q + 1) 5 (Y + 3) e 0 x) [nT m] [(35, m)] (fun _ => True) := by
  intro x i C os t r h hd _ hC
  simp only [List.length_cons, List.length_nil] at hC
  have hd' : ts.drop i = nT m :: t :: r := hd
  obtain ⟨s1, s2, s3, s4, s5, s6, s7, s8⟩ := h.s
  obtain ⟨d1, d2, d3⟩ := drop_tok hd'
  have ev := valueOf_s (N := N) (z := z) h.2.1 d1
  rw [d2] at ev
  obtain ⟨y, a1, a2, a3⟩ := h.add (N := N) (z := z) (a := 35) (b := m) (by omega)
  obtain ⟨w1, w2, w3, w4, w5, w6, w7, w8⟩ := a2.s
  obtain ⟨b1, b2⟩ := a2.adv
  refine ⟨_, ?_, b1, a3.tr b2⟩
  show f_X5_value N z (fx_rec N z q) (Y + 3) e x = _
  unfold f_X5_value
  rw [obj_s s1, h.kind hd', bnd_s, show (nT m).1 = 35 from rfl]
  repeat rw [if_neg (by decide)]
  rw [if_pos (by decide), getr_s s1, s2, getr_s s4, s5, getr_s s1, s3, geti_s s1, s7, obj_s s8, ev, bnd_s, obj_s s6, show (nT m).2.toInt32 = nI m from tI m hm, show (35 : Int32) = nI 35 from rfl, a1, bnd_s, geti_s w1, w7, nI_1, puti_s w1]
/-- the minute, the spare -/
theorem val_0 {k : Nat} (hk : k = 20 ∨ k = 21) : Pz Y ts n (fun x => fx_rec N z (q + 1) 5 (Y + 3) e 0 x) [kT k] [(k, 0)] (fun _ => True) := by
  intro x i C os t r h hd _ hC
  simp only [List.length_cons, List.length_nil] at hC
  have hd' : ts.drop i = kT k :: t :: r := hd
  obtain ⟨s1, s2, s3, s4, s5, s6, s7, s8⟩ := h.s
  obtain ⟨y, a1, a2, a3⟩ := h.add (N := N) (z := z) (a := k) (b := 0) (by omega)
  obtain ⟨w1, w2, w3, w4, w5, w6, w7, w8⟩ := a2.s
  obtain ⟨b1, b2⟩ := a2.adv
  refine ⟨_, ?_, b1, a3.tr b2⟩
  show f_X5_value N z (fx_rec N z q) (Y + 3) e x = _
  unfold f_X5_value
  have a1' : f_X0_add N z (Y + 5) (nI k) (0 : Int32) x = some ((), y) := a1
  rw [obj_s s1, h.kind hd', bnd_s, show (kT k).1 = k from rfl]
  rcases hk with c | c <;> subst c
  · rw [if_pos (by decide), getr_s s1, s2, getr_s s4, s5, obj_s s6, a1', bnd_s, geti_s w1, w7, nI_1, puti_s w1]
  · rw [if_neg (by decide), if_pos (by decide), getr_s s1, s2, getr_s s4, s5, obj_s s6, a1', bnd_s, geti_s w1, w7, nI_1, puti_s w1]
/-- a fact of a lane -/
theorem val_l {k l : Nat} (hk : k = 22 ∨ k = 23 ∨ k = 24 ∨ k = 25 ∨ k = 26) (hl : l < n) (hN : 401 ≤ N) : Pz Y ts n (fun x => fx_rec N z (q + 1) 5 (Y + 3) e 0 x) [kT k, lT l] [(k, l)] (fun _ => True) := by
  intro x i C os t r h hd _ hC
  simp only [List.length_cons, List.length_nil] at hC
  have hd' : ts.drop i = kT k :: lT l :: t :: r := hd
  obtain ⟨s1, s2, s3, s4, s5, s6, s7, s8⟩ := h.s
  obtain ⟨d1, d2, d3⟩ := drop_tok hd'
  obtain ⟨g1, g2⟩ := h.adv
  have et := g1.told (N := N) (z := z) d3 hl hN
  obtain ⟨g3, g4⟩ := g1.adv
  obtain ⟨u, hu⟩ : ∃ u, u = p_i (p_i x 145 (Y + 3) (nI (i + 1))) 145 (Y + 3) (nI (i + 1 + 1)) := ⟨_, rfl⟩
  rw [← hu] at et g3 g4
  obtain ⟨v1, v2, v3, v4, v5, v6, v7, v8⟩ := g1.s
  obtain ⟨y, a1, a2, a3⟩ := g3.add (N := N) (z := z) (a := k) (b := l) (by omega)
  obtain ⟨w1, w2, w3, w4, w5, w6, w7, w8⟩ := g3.s
  refine ⟨y, ?_, a2, (g2.tr g4).tr a3⟩
  show f_X5_value N z (fx_rec N z q) (Y + 3) e x = _
  unfold f_X5_value
  rw [obj_s s1, h.kind hd', bnd_s, show (kT k).1 = k from rfl]
  rcases hk with c | c | c | c | c <;> subst c

  · rw [if_neg (by decide), if_neg (by decide), if_pos (by decide), geti_s s1, s7, nI_1, puti_s s1, getr_s v1, v2, getr_s v4, v5, obj_s v1, et, bnd_s, obj_s w6, a1, bnd_s]
  · rw [if_neg (by decide), if_neg (by decide), if_neg (by decide), if_pos (by decide), geti_s s1, s7, nI_1, puti_s s1, getr_s v1, v2, getr_s v4, v5, obj_s v1, et, bnd_s, obj_s w6, a1, bnd_s]
  · rw [if_neg (by decide), if_neg (by decide), if_neg (by decide), if_neg (by decide), if_pos (by decide), geti_s s1, s7, nI_1, puti_s s1, getr_s v1, v2, getr_s v4, v5, obj_s v1, et, bnd_s, obj_s w6, a1, bnd_s]
  · rw [if_neg (by decide), if_neg (by decide), if_neg (by decide), if_neg (by decide), if_neg (by decide), if_pos (by decide), geti_s s1, s7, nI_1, puti_s s1, getr_s v1, v2, getr_s v4, v5, obj_s v1, et, bnd_s, obj_s w6, a1, bnd_s]
  · rw [if_neg (by decide), if_neg (by decide), if_neg (by decide), if_neg (by decide), if_neg (by decide), if_neg (by decide), if_pos (by decide), geti_s s1, s7, nI_1, puti_s s1, getr_s v1, v2, getr_s v4, v5, obj_s v1, et, bnd_s, obj_s w6, a1, bnd_s]
/-- what may stand behind a value, a product, a sum -/
def foV (_ : Nat) : Prop := True
def foP (k : Nat) : Prop := k < 128 ∧ k ≠ 42 ∧ k ≠ 47
def foS (k : Nat) : Prop := k < 128 ∧ (k ≠ 42 ∧ k ≠ 47) ∧ k ≠ 43 ∧ k ≠ 45
/-- left to right: one more, as long as its sign stands -/
def productT : List (Nat × List Tok × List (Nat × Nat)) → List Tok
  | [] => []
  | p :: l => sT p.1 :: (p.2.1 ++ productT l)
def productC : List (Nat × List Tok × List (Nat × Nat)) → List (Nat × Nat)
  | [] => []
  | p :: l => p.2.2 ++ (p.1, 0) :: productC l
theorem rd_product_l (hN : 401 ≤ N) : ∀ (ops : List (Nat × List Tok × List (Nat × Nat))) (g k : Nat), (∀ p ∈ ops, (p.1 = 42 ∨ p.1 = 47) ∧ Pz Y ts n (fun x => fx_rec N z q 5 (Y + 3) e 0 x) p.2.1 p.2.2 foV) → ops.length < g → k + ops.length < 400 → Pz Y ts n (fun x => f_X5_product_b7 N z (fx_rec N z q) g (Y + 3) e (nI k) x) (productT ops) (productC ops) foP
  | [], 0, k, hp, hg, hk => absurd hg (by simp)
  | p :: l, 0, k, hp, hg, hk => absurd hg (by simp)
  | [], g + 1, k, hp, hg, hk => by
    intro x i C os t r h hd hf hC
    have hd' : ts.drop i = t :: r := hd
    simp at hk
    obtain ⟨s1, s2, s3, s4, s5, s6, s7, s8⟩ := h.s
    refine ⟨x, ?_, by simpa [productT, productC] using h, Ef.rf⟩
    show f_X5_product_b7 N z (fx_rec N z q) (g + 1) (Y + 3) e (nI k) x = _
    rw [f_X5_product_b7, if_neg (show ¬ (400 : Int32) ≤ nI k from nI_ge (b := 400) (by omega) (by omega)), obj_s s1, h.kind hd', bnd_s, if_neg (show ¬ nI t.1 = (42 : Int32) from fun e => hf.2.1 ((nI_eq (b := 42) (by have := hf.1; omega) (by decide)).mp e)), obj_s s1, h.kind hd', bnd_s, if_neg (show ¬ nI t.1 = (47 : Int32) from fun e => hf.2.2 ((nI_eq (b := 47) (by have := hf.1; omega) (by decide)).mp e))]
  | p :: l, g + 1, k, hp, hg, hk => by
    intro x i C os t r h hd hf hC
    simp only [List.length_cons] at hg hk
    obtain ⟨hp1, hp2⟩ := hp p (by simp)
    have hd' : ts.drop i = sT p.1 :: (p.2.1 ++ (productT l ++ t :: r)) := by rw [hd]; simp [productT]
    obtain ⟨s1, s2, s3, s4, s5, s6, s7, s8⟩ := h.s
    obtain ⟨d1, d2, d3⟩ := drop_tok hd'
    obtain ⟨g1, g2⟩ := h.adv
    simp only [productC, List.length_append, List.length_cons] at hC
    have nxt : ∃ t2 r2, productT l ++ t :: r = t2 :: r2 ∧ foV t2.1 := by
      cases l with
      | nil => exact ⟨t, r, rfl, trivial⟩
      | cons p2 l2 =>
        have c2 := (hp p2 (by simp)).1
        exact ⟨sT p2.1, _, rfl, trivial⟩
    obtain ⟨t2, r2, n1, n2⟩ := nxt
    rw [n1] at d3
    obtain ⟨y, e1, e2, e3⟩ := hp2 _ _ _ _ _ _ g1 d3 n2 (by omega)
    obtain ⟨v1, v2, v3, v4, v5, v6, v7, v8⟩ := e2.s
    obtain ⟨u, a1, a2, a3⟩ := e2.add (N := N) (z := z) (a := p.1) (b := 0) (by rw [List.length_append]; omega)
    have dn : ts.drop (i + 1 + p.2.1.length) = productT l ++ t :: r := by
      rw [n1]
      have := congrArg (List.drop p.2.1.length) d3
      rw [List.drop_drop, List.drop_left] at this
      exact this
    obtain ⟨w, f1, f2, f3⟩ := rd_product_l hN l g (k + 1) (fun p2 h2 => hp p2 (by simp [h2])) (by omega) (by omega) u _ _ _ t r a2 dn hf (by simp only [List.length_append, List.length_cons, List.length_nil]; omega)
    refine ⟨w, ?_, ?_, ((g2.tr e3).tr a3).tr f3⟩
    · show f_X5_product_b7 N z (fx_rec N z q) (g + 1) (Y + 3) e (nI k) x = _
      have e1' : fx_rec N z q 5 (Y + 3) e 0 (p_i x 145 (Y + 3) (nI (i + 1))) = some ((), y) := e1
      have a1' : f_X0_add N z (Y + 5) (nI p.1) (0 : Int32) y = some ((), u) := a1
      have f1' : f_X5_product_b7 N z (fx_rec N z q) g (Y + 3) e (nI (k + 1)) u = some ((), w) := f1
      have b32 : f_X5_product_b32 N z (fx_rec N z q) (f_X5_product_b7 N z (fx_rec N z q) g) (Y + 3) e (nI k) x = some ((), w) := by
        unfold f_X5_product_b32
        rw [obj_s s1, h.kind hd', bnd_s, geti_s s1, s7, nI_1, puti_s s1, obj_s g1.s.1, e1', bnd_s, getr_s v1, v2, getr_s v4, v5, obj_s v6, show (sT p.1).1 = p.1 from rfl, a1', bnd_s, nI_1, f1']
      rw [f_X5_product_b7, if_neg (show ¬ (400 : Int32) ≤ nI k from nI_ge (b := 400) (by omega) (by omega)), obj_s s1, h.kind hd', bnd_s, show (sT p.1).1 = p.1 from rfl]
      by_cases c : p.1 = 42
      · rw [if_pos (show nI p.1 = (42 : Int32) by rw [c]; rfl), b32]
      · rw [if_neg (show ¬ nI p.1 = (42 : Int32) from fun e => c ((nI_eq (b := 42) (by omega) (by decide)).mp e)), obj_s s1, h.kind hd', bnd_s, show (sT p.1).1 = p.1 from rfl, if_pos (show nI p.1 = (47 : Int32) by rw [hp1.resolve_left c]; rfl), b32]
    · have q1 : i + 1 + p.2.1.length + (productT l).length = i + (productT (p :: l)).length := by simp [productT]; omega
      have q2 : C ++ p.2.2 ++ [(p.1, 0)] ++ productC l = C ++ productC (p :: l) := by simp [productC]
      rw [q1, q2] at f2
      exact f2
theorem rd_product_s {a : List Tok} {c : List (Nat × Nat)} {ops : List (Nat × List Tok × List (Nat × Nat))} (hN : 401 ≤ N) (ha : Pz Y ts n (fun x => fx_rec N z q 5 (Y + 3) e 0 x) a c foV) (hp : ∀ p ∈ ops, (p.1 = 42 ∨ p.1 = 47) ∧ Pz Y ts n (fun x => fx_rec N z q 5 (Y + 3) e 0 x) p.2.1 p.2.2 foV) (ho : ops.length < 9) : Pz Y ts n (fun x => fx_rec N z (q + 1) 4 (Y + 3) e 0 x) (a ++ productT ops) (c ++ productC ops) foP := by
  intro x i C os t r h hd hf hC
  simp only [List.length_append] at hC
  have hd' : ts.drop i = a ++ (productT ops ++ t :: r) := by rw [hd]; simp
  have nxt : ∃ t2 r2, productT ops ++ t :: r = t2 :: r2 ∧ foV t2.1 := by
    cases ops with
    | nil => exact ⟨t, r, rfl, trivial⟩
    | cons p2 l2 =>
      have c2 := (hp p2 (by simp)).1
      exact ⟨sT p2.1, _, rfl, trivial⟩
  obtain ⟨t2, r2, n1, n2⟩ := nxt
  rw [n1] at hd'
  obtain ⟨y, e1, e2, e3⟩ := ha _ _ _ _ _ _ h hd' n2 (by omega)
  have dn : ts.drop (i + a.length) = productT ops ++ t :: r := by
    rw [n1]
    have := congrArg (List.drop a.length) hd'
    rw [List.drop_drop, List.drop_left] at this
    exact this
  obtain ⟨w, f1, f2, f3⟩ := rd_product_l (N := N) (z := z) (e := e) (q := q) hN ops N 0 hp (by omega) (by omega) y _ _ _ t r e2 dn hf (by simp only [List.length_append]; omega)
  refine ⟨w, ?_, by simpa [Nat.add_assoc] using f2, e3.tr f3⟩
  show f_X5_product N z (fx_rec N z q) (Y + 3) e x = _
  have e1' : fx_rec N z q 5 (Y + 3) e 0 x = some ((), y) := e1
  have f1' : f_X5_product_b7 N z (fx_rec N z q) N (Y + 3) e (0 : Int32) y = some ((), w) := f1
  unfold f_X5_product
  rw [obj_s h.s.1, e1', bnd_s, f1']

/-- left to right: one more, as long as its sign stands -/
def sumT : List (Nat × List Tok × List (Nat × Nat)) → List Tok
  | [] => []
  | p :: l => sT p.1 :: (p.2.1 ++ sumT l)
def sumC : List (Nat × List Tok × List (Nat × Nat)) → List (Nat × Nat)
  | [] => []
  | p :: l => p.2.2 ++ (p.1, 0) :: sumC l
theorem rd_sum_l (hN : 401 ≤ N) : ∀ (ops : List (Nat × List Tok × List (Nat × Nat))) (g k : Nat), (∀ p ∈ ops, (p.1 = 43 ∨ p.1 = 45) ∧ Pz Y ts n (fun x => fx_rec N z q 4 (Y + 3) e 0 x) p.2.1 p.2.2 foP) → ops.length < g → k + ops.length < 400 → Pz Y ts n (fun x => f_X5_sum_b7 N z (fx_rec N z q) g (Y + 3) e (nI k) x) (sumT ops) (sumC ops) foS
  | [], 0, k, hp, hg, hk => absurd hg (by simp)
  | p :: l, 0, k, hp, hg, hk => absurd hg (by simp)
  | [], g + 1, k, hp, hg, hk => by
    intro x i C os t r h hd hf hC
    have hd' : ts.drop i = t :: r := hd
    simp at hk
    obtain ⟨s1, s2, s3, s4, s5, s6, s7, s8⟩ := h.s
    refine ⟨x, ?_, by simpa [sumT, sumC] using h, Ef.rf⟩
    show f_X5_sum_b7 N z (fx_rec N z q) (g + 1) (Y + 3) e (nI k) x = _
    rw [f_X5_sum_b7, if_neg (show ¬ (400 : Int32) ≤ nI k from nI_ge (b := 400) (by omega) (by omega)), obj_s s1, h.kind hd', bnd_s, if_neg (show ¬ nI t.1 = (43 : Int32) from fun e => hf.2.2.1 ((nI_eq (b := 43) (by have := hf.1; omega) (by decide)).mp e)), obj_s s1, h.kind hd', bnd_s, if_neg (show ¬ nI t.1 = (45 : Int32) from fun e => hf.2.2.2 ((nI_eq (b := 45) (by have := hf.1; omega) (by decide)).mp e))]
  | p :: l, g + 1, k, hp, hg, hk => by
    intro x i C os t r h hd hf hC
    simp only [List.length_cons] at hg hk
    obtain ⟨hp1, hp2⟩ := hp p (by simp)
    have hd' : ts.drop i = sT p.1 :: (p.2.1 ++ (sumT l ++ t :: r)) := by rw [hd]; simp [sumT]
    obtain ⟨s1, s2, s3, s4, s5, s6, s7, s8⟩ := h.s
    obtain ⟨d1, d2, d3⟩ := drop_tok hd'
    obtain ⟨g1, g2⟩ := h.adv
    simp only [sumC, List.length_append, List.length_cons] at hC
    have nxt : ∃ t2 r2, sumT l ++ t :: r = t2 :: r2 ∧ foP t2.1 := by
      cases l with
      | nil => exact ⟨t, r, rfl, ⟨hf.1, hf.2.1⟩⟩
      | cons p2 l2 =>
        have c2 := (hp p2 (by simp)).1
        exact ⟨sT p2.1, _, rfl, by show p2.1 < 128 ∧ p2.1 ≠ 42 ∧ p2.1 ≠ 47; omega⟩
    obtain ⟨t2, r2, n1, n2⟩ := nxt
    rw [n1] at d3
    obtain ⟨y, e1, e2, e3⟩ := hp2 _ _ _ _ _ _ g1 d3 n2 (by omega)
    obtain ⟨v1, v2, v3, v4, v5, v6, v7, v8⟩ := e2.s
    obtain ⟨u, a1, a2, a3⟩ := e2.add (N := N) (z := z) (a := p.1) (b := 0) (by rw [List.length_append]; omega)
    have dn : ts.drop (i + 1 + p.2.1.length) = sumT l ++ t :: r := by
      rw [n1]
      have := congrArg (List.drop p.2.1.length) d3
      rw [List.drop_drop, List.drop_left] at this
      exact this
    obtain ⟨w, f1, f2, f3⟩ := rd_sum_l hN l g (k + 1) (fun p2 h2 => hp p2 (by simp [h2])) (by omega) (by omega) u _ _ _ t r a2 dn hf (by simp only [List.length_append, List.length_cons, List.length_nil]; omega)
    refine ⟨w, ?_, ?_, ((g2.tr e3).tr a3).tr f3⟩
    · show f_X5_sum_b7 N z (fx_rec N z q) (g + 1) (Y + 3) e (nI k) x = _
      have e1' : fx_rec N z q 4 (Y + 3) e 0 (p_i x 145 (Y + 3) (nI (i + 1))) = some ((), y) := e1
      have a1' : f_X0_add N z (Y + 5) (nI p.1) (0 : Int32) y = some ((), u) := a1
      have f1' : f_X5_sum_b7 N z (fx_rec N z q) g (Y + 3) e (nI (k + 1)) u = some ((), w) := f1
      have b32 : f_X5_sum_b32 N z (fx_rec N z q) (f_X5_sum_b7 N z (fx_rec N z q) g) (Y + 3) e (nI k) x = some ((), w) := by
        unfold f_X5_sum_b32
        rw [obj_s s1, h.kind hd', bnd_s, geti_s s1, s7, nI_1, puti_s s1, obj_s g1.s.1, e1', bnd_s, getr_s v1, v2, getr_s v4, v5, obj_s v6, show (sT p.1).1 = p.1 from rfl, a1', bnd_s, nI_1, f1']
      rw [f_X5_sum_b7, if_neg (show ¬ (400 : Int32) ≤ nI k from nI_ge (b := 400) (by omega) (by omega)), obj_s s1, h.kind hd', bnd_s, show (sT p.1).1 = p.1 from rfl]
      by_cases c : p.1 = 43
      · rw [if_pos (show nI p.1 = (43 : Int32) by rw [c]; rfl), b32]
      · rw [if_neg (show ¬ nI p.1 = (43 : Int32) from fun e => c ((nI_eq (b := 43) (by omega) (by decide)).mp e)), obj_s s1, h.kind hd', bnd_s, show (sT p.1).1 = p.1 from rfl, if_pos (show nI p.1 = (45 : Int32) by rw [hp1.resolve_left c]; rfl), b32]
    · have q1 : i + 1 + p.2.1.length + (sumT l).length = i + (sumT (p :: l)).length := by simp [sumT]; omega
      have q2 : C ++ p.2.2 ++ [(p.1, 0)] ++ sumC l = C ++ sumC (p :: l) := by simp [sumC]
      rw [q1, q2] at f2
      exact f2
theorem rd_sum_s {a : List Tok} {c : List (Nat × Nat)} {ops : List (Nat × List Tok × List (Nat × Nat))} (hN : 401 ≤ N) (ha : Pz Y ts n (fun x => fx_rec N z q 4 (Y + 3) e 0 x) a c foP) (hp : ∀ p ∈ ops, (p.1 = 43 ∨ p.1 = 45) ∧ Pz Y ts n (fun x => fx_rec N z q 4 (Y + 3) e 0 x) p.2.1 p.2.2 foP) (ho : ops.length < 9) : Pz Y ts n (fun x => fx_rec N z (q + 1) 3 (Y + 3) e 0 x) (a ++ sumT ops) (c ++ sumC ops) foS := by
  intro x i C os t r h hd hf hC
  simp only [List.length_append] at hC
  have hd' : ts.drop i = a ++ (sumT ops ++ t :: r) := by rw [hd]; simp
  have nxt : ∃ t2 r2, sumT ops ++ t :: r = t2 :: r2 ∧ foP t2.1 := by
    cases ops with
    | nil => exact ⟨t, r, rfl, ⟨hf.1, hf.2.1⟩⟩
    | cons p2 l2 =>
      have c2 := (hp p2 (by simp)).1
      exact ⟨sT p2.1, _, rfl, by show p2.1 < 128 ∧ p2.1 ≠ 42 ∧ p2.1 ≠ 47; omega⟩
  obtain ⟨t2, r2, n1, n2⟩ := nxt
  rw [n1] at hd'
  obtain ⟨y, e1, e2, e3⟩ := ha _ _ _ _ _ _ h hd' n2 (by omega)
  have dn : ts.drop (i + a.length) = sumT ops ++ t :: r := by
    rw [n1]
    have := congrArg (List.drop a.length) hd'
    rw [List.drop_drop, List.drop_left] at this
    exact this
  obtain ⟨w, f1, f2, f3⟩ := rd_sum_l (N := N) (z := z) (e := e) (q := q) hN ops N 0 hp (by omega) (by omega) y _ _ _ t r e2 dn hf (by simp only [List.length_append]; omega)
  refine ⟨w, ?_, by simpa [Nat.add_assoc] using f2, e3.tr f3⟩
  show f_X5_sum N z (fx_rec N z q) (Y + 3) e x = _
  have e1' : fx_rec N z q 4 (Y + 3) e 0 x = some ((), y) := e1
  have f1' : f_X5_sum_b7 N z (fx_rec N z q) N (Y + 3) e (0 : Int32) y = some ((), w) := f1
  unfold f_X5_sum
  rw [obj_s h.s.1, e1', bnd_s, f1']

end PV
