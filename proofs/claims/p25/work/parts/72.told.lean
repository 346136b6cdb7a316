/-! ===== the law's text: what an order tells ===== -/
def tldS (s l n : Nat) : List Nat := if s = 0 then sB 23 ++ dec n else if s = 1 then sB 24 ++ dec n else if s = 2 then sB 25 ++ dec l else if s = 3 then sB 26 ++ dec l ++ sB 27 ++ dec n else if s = 4 then sB 28 ++ dec l ++ sB 29 else if s = 5 then sB 30 ++ dec l ++ sB 31 ++ dec l else sB 32 ++ dec n ++ sB 33 ++ dec l ++ sB 34
def tstS (s l n : Nat) : List Nat := if s = 0 then sB 36 ++ dec l else if s = 1 then sB 37 ++ dec l else if s = 2 then sB 38 ++ dec n else if s = 3 then sB 39 ++ dec l ++ sB 40 ++ dec n else if s = 4 then sB 41 ++ dec l ++ sB 42 else if s = 5 then tldS 3 l n ++ sB 43 ++ tldS 2 l n else sB 44
theorem SbR.ag {x y : Hp} {sb v cap : Nat} {l : List Nat} (h : SbR x sb v cap l) (g : Ag x y 0 (h_sz x)) (hz : h_sz x ≤ h_sz y) : SbR y sb v cap l := by
  obtain ⟨t1, t2, t3, t4, t5, t6, t7, t8, t9, t10, t11, t12, t13⟩ := h
  exact ⟨(g.k (by omega)).trans t1, (g.r (by omega)).trans t2, (g.i (by omega)).trans t3, (g.i (by omega)).trans t4, (g.k (by omega)).trans t5, (g.n (by omega)).trans t6, t7, t8, t9, by omega, t11, fun j hj => by rw [g.ai (by omega)]; exact t12 j hj, fun j hj => by rw [g.ai (by omega)]; exact t13 j hj⟩
/-- a builder at work, above all that was -/
def Bu (z : Nat → Nat) (b0 : Nat) (x0 : Hp) (sb : Nat) (l : List Nat) (e c : Nat) (x : Hp) : Prop := (∃ v cap, SbR x sb v cap l) ∧ Cn z b0 x ∧ b0 ≤ sb ∧ Ag x0 x 0 sb ∧ l.length ≤ e ∧ h_sz x ≤ sb + 2 + c ∧ h_sl x ≤ h_sl x0 + 5004 * c + 20
/-- a String told above all that was -/
def Tl (x : Hp) (r : Option (Option Nat × Hp)) (s : List Nat) (d : Nat) : Prop := ∃ y a, r = some (some a, y) ∧ StrR y a (a + 1) s ∧ Ag x y 0 (h_sz x) ∧ h_sz x ≤ a ∧ a + 1 < h_sz y ∧ h_sz y ≤ h_sz x + d ∧ h_sl y ≤ h_sl x + 5004 * d
theorem sB_len : ∀ k, k < 46 → 0 < k → (sB k).length ≤ 30 := by decide +kernel
theorem dec_len (n : Nat) : (dec n).length ≤ 2 := by
  unfold dec
  split <;> simp
theorem sl_g {a b x u p q r : Nat} (hpq : p ≤ q) (h : a ≤ b + p) (g : b ≤ x + u + r) : a ≤ x + (u + q) + r := by omega
theorem sl_1 {a b x c : Nat} (h : a ≤ b + 5000) (g : b ≤ x + 5004 * c + 20) : a ≤ x + 5004 * (c + 1) + 20 := by
  rw [Nat.mul_add, Nat.mul_one]
  exact sl_g (by decide) h g
theorem sl_3 {a b x c : Nat} (h : a ≤ b + 5004) (g : b ≤ x + 5004 * c + 20) : a ≤ x + 5004 * (c + 1) + 20 := by
  rw [Nat.mul_add, Nat.mul_one]
  exact sl_g (Nat.le_refl _) h g
theorem sl_2 {a b w x c d : Nat} (h : a ≤ w + 5000) (g : b ≤ x + 5004 * c + 20) (f : w ≤ b + 5004 * d) : a ≤ x + 5004 * (c + d + 1) + 20 := by
  rw [Nat.mul_add, Nat.mul_one, Nat.mul_add]
  exact sl_g (by decide) h (sl_g (Nat.le_refl _) f g)
section BU
variable {N : Nat} {z : Nat → Nat} {b0 sb e c : Nat} {x0 x : Hp} {l : List Nat}
theorem Bu.new (hC : Cn z b0 x) (hb : b0 ≤ h_sz x) : ∃ y, (∀ (β : Type) (K : Option Nat → Hp → Option (β × Hp)), (newo x 2 4 fun r x1 => obj r x1 2 fun q => bnd (f_J4_init_da8c8 N z q x1) fun _ x2 => K r x2) = K (some (h_sz x)) y) ∧ Bu z b0 x (h_sz x) [] 0 0 y := by
  obtain ⟨y, h1, h2, h3, h4, h5⟩ := sb_new (N := N) (z := z) (x := x) (K := fun r x2 => some (r, x2))
  refine ⟨y, fun β K => ?_, ⟨_, _, h2⟩, hC.ag h3 hb, hb, h3, by simp, by omega, by omega⟩
  have e := h1
  rw [newo_s] at e ⊢
  have k1 : h_k (p_n x 2 0 4) (h_sz x) = 2 := by rw [pnk, if_pos rfl]
  rw [obj_s k1] at e ⊢
  cases hf : f_J4_init_da8c8 N z (h_sz x) (p_n x 2 0 4) with
  | none => rw [hf] at e; cases e
  | some p =>
    rw [hf] at e
    obtain ⟨u, w⟩ := p
    rw [bnd_s] at e ⊢
    cases e
    rfl
theorem Bu.s (h : Bu z b0 x0 sb l e c x) {k : Nat} (hk : k < 46) (hk0 : 0 < k) (he : e + 30 ≤ 2400) : ∃ y, (∀ (β : Type) (K : Option Nat → Hp → Option (β × Hp)), (obj (some sb) x 2 fun q => bnd (f_J4_append_15ec4 N z q (some (z k)) x) fun r y' => K r y') = K (some sb) y) ∧ Bu z b0 x0 sb (l ++ sB k) (e + 30) (c + 1) y := by
  obtain ⟨⟨v, cap, h1⟩, h2, h3, h4, h5, h6, h7⟩ := h
  obtain ⟨a1, a2, a3⟩ := h2.1 k hk
  have l1 := sB_len k hk hk0
  have s9 : sb < v := h1.2.2.2.2.2.2.2.2.1
  have s10 : v < h_sz x := h1.2.2.2.2.2.2.2.2.2.1
  obtain ⟨y, v', cap', e1, e2, e3, e4, e5, e6⟩ := sb_str (N := N) (z := z) h1 a3 ⟨by omega, by omega, by omega, by omega, by omega⟩ (by omega)
  have hs : h_sl y ≤ h_sl x0 + 5004 * (c + 1) + 20 := sl_1 e6 h7
  refine ⟨y, fun β K => ?_, ⟨v', cap', e2⟩, h2.ag e3 h3, h3, h4.tr e3, ?_, by omega, hs⟩
  · rw [obj_s h1.1, e1, bnd_s]
  · rw [List.length_append]
    omega
theorem Bu.i (h : Bu z b0 x0 sb l e c x) {n : Nat} (hn : n < 100) (he : e + 2 ≤ 2400) (hN : 2 ≤ N) : ∃ y, (∀ (β : Type) (K : Option Nat → Hp → Option (β × Hp)), (obj (some sb) x 2 fun q => bnd (f_J4_append_bf812 N z q (nI n) x) fun r y' => K r y') = K (some sb) y) ∧ Bu z b0 x0 sb (l ++ dec n) (e + 2) (c + 1) y := by
  obtain ⟨⟨v, cap, h1⟩, h2, h3, h4, h5, h6, h7⟩ := h
  have l1 := dec_len n
  obtain ⟨y, v', cap', e1, e2, e3, e4, e5, e6⟩ := sb_int (N := N) (z := z) h1 h2 h3 hn (by omega) hN
  have hs : h_sl y ≤ h_sl x0 + 5004 * (c + 1) + 20 := sl_1 e6 h7
  refine ⟨y, fun β K => ?_, ⟨v', cap', e2⟩, h2.ag e3 h3, h3, h4.tr e3, ?_, by omega, hs⟩
  · rw [obj_s h1.1, e1, bnd_s]
  · rw [List.length_append]
    omega
theorem Bu.t (h : Bu z b0 x0 sb l e c x) {s : List Nat} {d t : Nat} {r : Option (Option Nat × Hp)} (ht : b0 ≤ h_sz x → Tl x r s d) (hs : s.length ≤ t) (he : e + t ≤ 2400) : ∃ y a y2, r = some (some a, y2) ∧ (∀ (β : Type) (K : Option Nat → Hp → Option (β × Hp)), (obj (some sb) y2 2 fun q => bnd (f_J4_append_15ec4 N z q (some a) y2) fun r y' => K r y') = K (some sb) y) ∧ Bu z b0 x0 sb (l ++ s) (e + t) (c + d + 1) y := by
  obtain ⟨⟨v, cap, h1⟩, h2, h3, h4, h5, h6, h7⟩ := h
  have s9 : sb < v := h1.2.2.2.2.2.2.2.2.1
  have s10 : v < h_sz x := h1.2.2.2.2.2.2.2.2.2.1
  obtain ⟨w, a, q1, q2, q3, q4, q5, q6, q7⟩ := ht (by omega)
  have h1w := h1.ag q3 (by omega)
  have g2 : Ag x w 0 sb := q3.wd (Nat.le_refl _) (by omega)
  obtain ⟨y, v', cap', e1, e2, e3, e4, e5, e6⟩ := sb_str (N := N) (z := z) h1w q2 ⟨by omega, by omega, by omega, by omega, by omega⟩ (by omega)
  have hs2 : h_sl y ≤ h_sl x0 + 5004 * (c + d + 1) + 20 := sl_2 e6 h7 q7
  refine ⟨y, a, w, q1, fun β K => ?_, ⟨v', cap', e2⟩, (h2.ag g2 h3).ag e3 h3, h3, (h4.tr g2).tr e3, ?_, by omega, hs2⟩
  · rw [obj_s h1w.1, e1, bnd_s]
  · rw [List.length_append]
    omega
theorem Bu.fin (h : Bu z b0 x0 sb l e c x) (he : e ≤ 2400) : ∃ y, (∀ (β : Type) (K : Option Nat → Hp → Option (β × Hp)), (obj (some sb) x 2 fun q => bnd (f_J4_toString_0e30d N z q x) fun r y' => K r y') = K (some (h_sz x)) y) ∧ StrR y (h_sz x) (h_sz x + 1) l ∧ Ag x0 y 0 sb ∧ sb < h_sz x ∧ h_sz y = h_sz x + 2 ∧ h_sz x ≤ sb + 2 + c ∧ h_sl y ≤ h_sl x0 + 5004 * (c + 1) + 20 := by
  obtain ⟨⟨v, cap, h1⟩, h2, h3, h4, h5, h6, h7⟩ := h
  have s9 : sb < v := h1.2.2.2.2.2.2.2.2.1
  have s10 : v < h_sz x := h1.2.2.2.2.2.2.2.2.2.1
  obtain ⟨y, e1, e2, e3, e4, e5⟩ := sb_end (N := N) (z := z) h1 (by omega)
  refine ⟨y, fun β K => ?_, e2, h4.tr (e3.wd (Nat.le_refl _) (by omega)), by omega, e4, h6, sl_3 e5 h7⟩
  rw [obj_s h1.1, e1, bnd_s]
theorem Te {x y : Hp} {a d : Nat} {l s : List Nat} (h1 : StrR y a (a + 1) l) (h2 : Ag x y 0 (h_sz x)) (h3 : h_sz x < a) (h4 : h_sz y = a + 2) (h5 : a ≤ h_sz x + 2 + c) (h6 : h_sl y ≤ h_sl x + 5004 * (c + 1) + 20) (hl : l = s) (hd : c + 4 ≤ d) : Tl x (some (some a, y)) s d := by
  subst hl
  exact ⟨y, a, rfl, h1, h2, by omega, by omega, by omega, by omega⟩
theorem told_s {x : Hp} {b0 s l n : Nat} (hC : Cn z b0 x) (hb : b0 ≤ h_sz x) (hs : s < 7) (hl : l < 30) (hn : n < 100) (hN : 2 ≤ N) : Tl x (f_X12_told N z (nI s) (nI l) (nI n) x) (tldS s l n) 12 := by
  have c : s = 0 ∨ s = 1 ∨ s = 2 ∨ s = 3 ∨ s = 4 ∨ s = 5 ∨ s = 6 := by omega
  unfold f_X12_told
  rcases c with c | c | c | c | c | c | c <;> subst c
  · rw [if_pos (by decide)]
    obtain ⟨y0, E0, h0⟩ := Bu.new (N := N) (x := x) hC hb
    rw [E0]
    obtain ⟨y1, E1, h1⟩ := h0.s (N := N) (k := 23) (by decide) (by decide) (by omega)
    rw [E1]
    obtain ⟨y2, E2, h2⟩ := h1.i (N := N) (n := n) (by omega) (by omega) (by omega)
    rw [E2]
    obtain ⟨y, E, g1, g2, g3, g4, g5, g6⟩ := h2.fin (N := N) (by omega)
    rw [E]
    exact Te g1 g2 g3 g4 g5 g6 (by simp [tldS]) (by omega)
  · rw [if_neg (by decide), if_pos (by decide)]
    obtain ⟨y0, E0, h0⟩ := Bu.new (N := N) (x := x) hC hb
    rw [E0]
    obtain ⟨y1, E1, h1⟩ := h0.s (N := N) (k := 24) (by decide) (by decide) (by omega)
    rw [E1]
    obtain ⟨y2, E2, h2⟩ := h1.i (N := N) (n := n) (by omega) (by omega) (by omega)
    rw [E2]
    obtain ⟨y, E, g1, g2, g3, g4, g5, g6⟩ := h2.fin (N := N) (by omega)
    rw [E]
    exact Te g1 g2 g3 g4 g5 g6 (by simp [tldS]) (by omega)
  · rw [if_neg (by decide), if_neg (by decide), if_pos (by decide)]
    obtain ⟨y0, E0, h0⟩ := Bu.new (N := N) (x := x) hC hb
    rw [E0]
    obtain ⟨y1, E1, h1⟩ := h0.s (N := N) (k := 25) (by decide) (by decide) (by omega)
    rw [E1]
    obtain ⟨y2, E2, h2⟩ := h1.i (N := N) (n := l) (by omega) (by omega) (by omega)
    rw [E2]
    obtain ⟨y, E, g1, g2, g3, g4, g5, g6⟩ := h2.fin (N := N) (by omega)
    rw [E]
    exact Te g1 g2 g3 g4 g5 g6 (by simp [tldS]) (by omega)
  · rw [if_neg (by decide), if_neg (by decide), if_neg (by decide), if_pos (by decide)]
    obtain ⟨y0, E0, h0⟩ := Bu.new (N := N) (x := x) hC hb
    rw [E0]
    obtain ⟨y1, E1, h1⟩ := h0.s (N := N) (k := 26) (by decide) (by decide) (by omega)
    rw [E1]
    obtain ⟨y2, E2, h2⟩ := h1.i (N := N) (n := l) (by omega) (by omega) (by omega)
    rw [E2]
    obtain ⟨y3, E3, h3⟩ := h2.s (N := N) (k := 27) (by decide) (by decide) (by omega)
    rw [E3]
    obtain ⟨y4, E4, h4⟩ := h3.i (N := N) (n := n) (by omega) (by omega) (by omega)
    rw [E4]
    obtain ⟨y, E, g1, g2, g3, g4, g5, g6⟩ := h4.fin (N := N) (by omega)
    rw [E]
    exact Te g1 g2 g3 g4 g5 g6 (by simp [tldS]) (by omega)
  · rw [if_neg (by decide), if_neg (by decide), if_neg (by decide), if_neg (by decide), if_pos (by decide)]
    obtain ⟨y0, E0, h0⟩ := Bu.new (N := N) (x := x) hC hb
    rw [E0]
    obtain ⟨y1, E1, h1⟩ := h0.s (N := N) (k := 28) (by decide) (by decide) (by omega)
    rw [E1]
    obtain ⟨y2, E2, h2⟩ := h1.i (N := N) (n := l) (by omega) (by omega) (by omega)
    rw [E2]
    obtain ⟨y3, E3, h3⟩ := h2.s (N := N) (k := 29) (by decide) (by decide) (by omega)
    rw [E3]
    obtain ⟨y, E, g1, g2, g3, g4, g5, g6⟩ := h3.fin (N := N) (by omega)
    rw [E]
    exact Te g1 g2 g3 g4 g5 g6 (by simp [tldS]) (by omega)
  · rw [if_neg (by decide), if_neg (by decide), if_neg (by decide), if_neg (by decide), if_neg (by decide), if_pos (by decide)]
    obtain ⟨y0, E0, h0⟩ := Bu.new (N := N) (x := x) hC hb
    rw [E0]
    obtain ⟨y1, E1, h1⟩ := h0.s (N := N) (k := 30) (by decide) (by decide) (by omega)
    rw [E1]
    obtain ⟨y2, E2, h2⟩ := h1.i (N := N) (n := l) (by omega) (by omega) (by omega)
    rw [E2]
    obtain ⟨y3, E3, h3⟩ := h2.s (N := N) (k := 31) (by decide) (by decide) (by omega)
    rw [E3]
    obtain ⟨y4, E4, h4⟩ := h3.i (N := N) (n := l) (by omega) (by omega) (by omega)
    rw [E4]
    obtain ⟨y, E, g1, g2, g3, g4, g5, g6⟩ := h4.fin (N := N) (by omega)
    rw [E]
    exact Te g1 g2 g3 g4 g5 g6 (by simp [tldS]) (by omega)
  · rw [if_neg (by decide), if_neg (by decide), if_neg (by decide), if_neg (by decide), if_neg (by decide), if_neg (by decide)]
    obtain ⟨y0, E0, h0⟩ := Bu.new (N := N) (x := x) hC hb
    rw [E0]
    obtain ⟨y1, E1, h1⟩ := h0.s (N := N) (k := 32) (by decide) (by decide) (by omega)
    rw [E1]
    obtain ⟨y2, E2, h2⟩ := h1.i (N := N) (n := n) (by omega) (by omega) (by omega)
    rw [E2]
    obtain ⟨y3, E3, h3⟩ := h2.s (N := N) (k := 33) (by decide) (by decide) (by omega)
    rw [E3]
    obtain ⟨y4, E4, h4⟩ := h3.i (N := N) (n := l) (by omega) (by omega) (by omega)
    rw [E4]
    obtain ⟨y5, E5, h5⟩ := h4.s (N := N) (k := 34) (by decide) (by decide) (by omega)
    rw [E5]
    obtain ⟨y, E, g1, g2, g3, g4, g5, g6⟩ := h5.fin (N := N) (by omega)
    rw [E]
    exact Te g1 g2 g3 g4 g5 g6 (by simp [tldS]) (by omega)
theorem tldS_len {s l n : Nat} : (tldS s l n).length ≤ 30 := by
  have dl := dec_len l
  have dn := dec_len n
  have c23 : (sB 23).length = 0 := by decide
  have c24 : (sB 24).length = 9 := by decide
  have c25 : (sB 25).length = 14 := by decide
  have c26 : (sB 26).length = 7 := by decide
  have c27 : (sB 27).length = 7 := by decide
  have c28 : (sB 28).length = 6 := by decide
  have c29 : (sB 29).length = 2 := by decide
  have c30 : (sB 30).length = 6 := by decide
  have c31 : (sB 31).length = 9 := by decide
  have c32 : (sB 32).length = 4 := by decide
  have c33 : (sB 33).length = 14 := by decide
  have c34 : (sB 34).length = 1 := by decide
  unfold tldS
  split
  · simp only [List.length_append]; omega
  split
  · simp only [List.length_append]; omega
  split
  · simp only [List.length_append]; omega
  split
  · simp only [List.length_append]; omega
  split
  · simp only [List.length_append]; omega
  split
  · simp only [List.length_append]; omega
  · simp only [List.length_append]; omega
theorem test_s {x : Hp} {b0 s l n : Nat} (hC : Cn z b0 x) (hb : b0 ≤ h_sz x) (hs : s < 6) (hl : l < 30) (hn : n < 100) (hN : 2 ≤ N) : Tl x (f_X12_test N z (nI s) (nI l) (nI n) x) (tstS s l n) 40 := by
  have c : s = 0 ∨ s = 1 ∨ s = 2 ∨ s = 3 ∨ s = 4 ∨ s = 5 := by omega
  unfold f_X12_test
  rcases c with c | c | c | c | c | c <;> subst c
  · rw [if_pos (by decide)]
    obtain ⟨y0, E0, h0⟩ := Bu.new (N := N) (x := x) hC hb
    rw [E0]
    obtain ⟨y1, E1, h1⟩ := h0.s (N := N) (k := 36) (by decide) (by decide) (by omega)
    rw [E1]
    obtain ⟨y2, E2, h2⟩ := h1.i (N := N) (n := l) (by omega) (by omega) (by omega)
    rw [E2]
    obtain ⟨y, E, g1, g2, g3, g4, g5, g6⟩ := h2.fin (N := N) (by omega)
    rw [E]
    exact Te g1 g2 g3 g4 g5 g6 (by simp [tstS]) (by omega)
  · rw [if_neg (by decide), if_pos (by decide)]
    obtain ⟨y0, E0, h0⟩ := Bu.new (N := N) (x := x) hC hb
    rw [E0]
    obtain ⟨y1, E1, h1⟩ := h0.s (N := N) (k := 37) (by decide) (by decide) (by omega)
    rw [E1]
    obtain ⟨y2, E2, h2⟩ := h1.i (N := N) (n := l) (by omega) (by omega) (by omega)
    rw [E2]
    obtain ⟨y, E, g1, g2, g3, g4, g5, g6⟩ := h2.fin (N := N) (by omega)
    rw [E]
    exact Te g1 g2 g3 g4 g5 g6 (by simp [tstS]) (by omega)
  · rw [if_neg (by decide), if_neg (by decide), if_pos (by decide)]
    obtain ⟨y0, E0, h0⟩ := Bu.new (N := N) (x := x) hC hb
    rw [E0]
    obtain ⟨y1, E1, h1⟩ := h0.s (N := N) (k := 38) (by decide) (by decide) (by omega)
    rw [E1]
    obtain ⟨y2, E2, h2⟩ := h1.i (N := N) (n := n) (by omega) (by omega) (by omega)
    rw [E2]
    obtain ⟨y, E, g1, g2, g3, g4, g5, g6⟩ := h2.fin (N := N) (by omega)
    rw [E]
    exact Te g1 g2 g3 g4 g5 g6 (by simp [tstS]) (by omega)
  · rw [if_neg (by decide), if_neg (by decide), if_neg (by decide), if_pos (by decide)]
    obtain ⟨y0, E0, h0⟩ := Bu.new (N := N) (x := x) hC hb
    rw [E0]
    obtain ⟨y1, E1, h1⟩ := h0.s (N := N) (k := 39) (by decide) (by decide) (by omega)
    rw [E1]
    obtain ⟨y2, E2, h2⟩ := h1.i (N := N) (n := l) (by omega) (by omega) (by omega)
    rw [E2]
    obtain ⟨y3, E3, h3⟩ := h2.s (N := N) (k := 40) (by decide) (by decide) (by omega)
    rw [E3]
    obtain ⟨y4, E4, h4⟩ := h3.i (N := N) (n := n) (by omega) (by omega) (by omega)
    rw [E4]
    obtain ⟨y, E, g1, g2, g3, g4, g5, g6⟩ := h4.fin (N := N) (by omega)
    rw [E]
    exact Te g1 g2 g3 g4 g5 g6 (by simp [tstS]) (by omega)
  · rw [if_neg (by decide), if_neg (by decide), if_neg (by decide), if_neg (by decide), if_pos (by decide)]
    obtain ⟨y0, E0, h0⟩ := Bu.new (N := N) (x := x) hC hb
    rw [E0]
    obtain ⟨y1, E1, h1⟩ := h0.s (N := N) (k := 41) (by decide) (by decide) (by omega)
    rw [E1]
    obtain ⟨y2, E2, h2⟩ := h1.i (N := N) (n := l) (by omega) (by omega) (by omega)
    rw [E2]
    obtain ⟨y3, E3, h3⟩ := h2.s (N := N) (k := 42) (by decide) (by decide) (by omega)
    rw [E3]
    obtain ⟨y, E, g1, g2, g3, g4, g5, g6⟩ := h3.fin (N := N) (by omega)
    rw [E]
    exact Te g1 g2 g3 g4 g5 g6 (by simp [tstS]) (by omega)
  · rw [if_neg (by decide), if_neg (by decide), if_neg (by decide), if_neg (by decide), if_neg (by decide), if_pos (by decide)]
    obtain ⟨y0, E0, h0⟩ := Bu.new (N := N) (x := x) hC hb
    rw [E0]
    obtain ⟨y1, a1, w1, F1, E1, h1⟩ := h0.t (N := N) (fun hb => told_s (N := N) (s := 3) (l := l) (n := n) h0.2.1 hb (by decide) hl hn hN) tldS_len (by omega)
    rw [show (3 : Int32) = nI 3 from rfl, F1, bnd_s, E1]
    obtain ⟨y2, E2, h2⟩ := h1.s (N := N) (k := 43) (by decide) (by decide) (by omega)
    rw [E2]
    obtain ⟨y3, a3, w3, F3, E3, h3⟩ := h2.t (N := N) (fun hb => told_s (N := N) (s := 2) (l := l) (n := n) h2.2.1 hb (by decide) hl hn hN) tldS_len (by omega)
    rw [show (2 : Int32) = nI 2 from rfl, F3, bnd_s, E3]
    obtain ⟨y, E, g1, g2, g3, g4, g5, g6⟩ := h3.fin (N := N) (by omega)
    rw [E]
    exact Te g1 g2 g3 g4 g5 g6 (by simp [tstS]) (by omega)
end BU
