/-! ===== the stack, the book, and what a sum or test comes to ===== -/
def cmb (w : Nat) (l r : Int32) : Int32 := if w = 30 then l &&& r else if w = 31 then l ||| r else if w = 32 then (if r < l then r else l) else if w = 37 then (if l < r then 0 else 1) else if w = 42 then l * r else if w = 43 then l + r else if w = 45 then l - r else if w = 47 then (if r = 0 then 0 else l / r) else if w = 60 then (if r ≤ l then 0 else 1) else if w = 61 then (if l = r then 1 else 0) else if l ≤ r then 0 else 1
def isB (w : Nat) : Prop := w = 30 ∨ w = 31 ∨ w = 32 ∨ w = 37 ∨ w = 42 ∨ w = 43 ∨ w = 45 ∨ w = 47 ∨ w = 60 ∨ w = 61 ∨ w = 62
theorem combined_s {x : Hp} {N : Nat} {z : Nat → Nat} {w : Nat} {l r : Int32} (h : isB w) : f_X6_combined N z (nI w) l r x = some (cmb w l r, x) := by
  unfold f_X6_combined
  rcases h with c | c | c | c | c | c | c | c | c | c | c <;> subst c
  · (repeat rw [if_neg (by decide)]); rw [if_pos (by decide)]; rfl
  · (repeat rw [if_neg (by decide)]); rw [if_pos (by decide)]; rfl
  · (repeat rw [if_neg (by decide)]); rw [if_pos (by decide)]; rfl
  · (repeat rw [if_neg (by decide)]); rw [if_pos (by decide)]; show _ = some ((if l < r then (0 : Int32) else 1), x); split <;> rfl
  · (repeat rw [if_neg (by decide)]); rw [if_pos (by decide)]; rfl
  · (repeat rw [if_neg (by decide)]); rw [if_pos (by decide)]; rfl
  · (repeat rw [if_neg (by decide)]); rw [if_pos (by decide)]; rfl
  · (repeat rw [if_neg (by decide)]); rw [if_pos (by decide)]; show _ = some ((if r = 0 then (0 : Int32) else l / r), x)
    by_cases c : r = 0
    · rw [if_pos c, if_pos c]
    · rw [if_neg c, if_neg c, nz, if_neg c]
  · (repeat rw [if_neg (by decide)]); rw [if_pos (by decide)]; show _ = some ((if r ≤ l then (0 : Int32) else 1), x); split <;> rfl
  · (repeat rw [if_neg (by decide)]); rw [if_pos (by decide)]; show _ = some ((if l = r then (1 : Int32) else 0), x); split <;> rfl
  · (repeat rw [if_neg (by decide)]); rw [if_pos (by decide)]; show _ = some ((if l ≤ r then (0 : Int32) else 1), x); split <;> rfl
def StkR (x : Hp) (s : Nat) (l : List Int32) : Prop := h_i x 181 (s + 3) = nI l.length ∧ l.length ≤ 400 ∧ ∀ i, i < l.length → h_ai x (s + 4) (l.length - 1 - i) = l.getD i 0
theorem Site.stk {x y : Hp} {s B : Nat} {m : Md} (h : Site x s B m) (g : Fr x y (s + 3) (s + 5)) (hr : h_r y 180 (s + 3) = some (s + 4)) : Site y s B m := by
  obtain ⟨⟨h1, h2, h3, h4, h5, h6, h7, h8, h9, h10, h11, h12, h13, h14, h15, h16, h17⟩, i2, i3, i4, i5, i6, i7, i8, i9⟩ := h
  exact ⟨⟨g.k.trans h1, (g.r (by omega)).trans h2, (g.r (by omega)).trans h3, (g.r (by omega)).trans h4, (g.r (by omega)).trans h5, g.k.trans h6, g.n.trans h7, fun k hk => by rw [g.ar (by omega)]; exact h8 k hk, g.k.trans h9, g.n.trans h10, fun k hk => by rw [g.ar (by omega)]; exact h11 k hk, g.k.trans h12, hr, g.k.trans h14, g.n.trans h15, fun k hk => ⟨(h16 k hk).1.fr g (by omega), (g.i (by omega)).trans (h16 k hk).2⟩, fun j hj => g.k.trans (h17 j hj)⟩, i2, i3, i4, i5, fun f f1 => (g.i (by omega)).trans (i6 f f1), fun k hk => (i7 k hk).fr g (by omega), i8, fun j hj f f1 f2 => (g.i (by omega)).trans (i9 j hj f f1 f2)⟩
section RK
variable {N : Nat} {z : Nat → Nat} {s B : Nat} {m : Md}
theorem stk_clear {x : Hp} (h : Site x s B m) : ∃ y, f_X7_clear N z (s + 3) x = some ((), y) ∧ Site y s B m ∧ StkR y s [] ∧ Fr x y (s + 3) (s + 5) := by
  obtain ⟨h1, h2, h3, h4, h5, h6, h7, h8, h9, h10, h11, h12, h13, h14, h15, -⟩ := h.1
  have f : Fr x (p_i x 181 (s + 3) 0) (s + 3) (s + 5) := Fr.pi ⟨by omega, by omega⟩
  unfold f_X7_clear
  rw [puti_s h12]
  exact ⟨_, rfl, h.stk f h13, ⟨p_i_eq, by simp, fun i hi => absurd hi (by simp)⟩, f⟩
theorem stk_push {x : Hp} {l : List Int32} {v : Int32} (h : Site x s B m) (hl : StkR x s l) (hn : l.length < 400) : ∃ y, f_X7_push N z (s + 3) v x = some ((), y) ∧ Site y s B m ∧ StkR y s (v :: l) ∧ Fr x y (s + 3) (s + 5) := by
  obtain ⟨h1, h2, h3, h4, h5, h6, h7, h8, h9, h10, h11, h12, h13, h14, h15, -⟩ := h.1
  obtain ⟨l1, l2, l3⟩ := hl
  have f : Fr x (p_i (p_ai x (s + 4) l.length v) 181 (s + 3) (nI (l.length + 1))) (s + 3) (s + 5) := (Fr.pai ⟨by omega, by omega⟩).tr (Fr.pi ⟨by omega, by omega⟩)
  refine ⟨_, ?_, h.stk f h13, ⟨p_i_eq, by simp; omega, fun i hi => ?_⟩, f⟩
  · unfold f_X7_push
    rw [geti_s h12, l1, if_neg (nI_pos (by omega)), geti_s h12, getr_s h12, h13, alen_s h14, h15, l1, if_neg (nI_ge hn (by omega)), getr_s h12, h13, geti_s h12, l1, asti_s h14 (by omega) (by omega), geti_s (by exact h12), puti_s (by exact h12)]
    simp only [HPI, l1, nI_1]
  · simp only [HPAI]
    match i with
    | 0 => rw [if_pos (by simp)]; rfl
    | i + 1 =>
      simp only [List.length_cons] at hi ⊢
      rw [if_neg (by omega), show l.length + 1 - 1 - (i + 1) = l.length - 1 - i by omega, l3 i (by omega)]
      rfl
theorem stk_pop {x : Hp} {l : List Int32} {v : Int32} (h : Site x s B m) (hl : StkR x s (v :: l)) : ∃ y, f_X7_pop N z (s + 3) x = some (v, y) ∧ Site y s B m ∧ StkR y s l ∧ Fr x y (s + 3) (s + 5) := by
  obtain ⟨h1, h2, h3, h4, h5, h6, h7, h8, h9, h10, h11, h12, h13, h14, h15, -⟩ := h.1
  obtain ⟨l1, l2, l3⟩ := hl
  simp only [List.length_cons] at l1 l2 l3
  have f : Fr x (p_i x 181 (s + 3) (nI l.length)) (s + 3) (s + 5) := Fr.pi ⟨by omega, by omega⟩
  refine ⟨_, ?_, h.stk f h13, ⟨p_i_eq, by omega, fun i hi => ?_⟩, f⟩
  · unfold f_X7_pop
    rw [geti_s h12, l1, if_neg (show ¬ nI (l.length + 1) < (1 : Int32) from nI_nlt (b := 1) (by omega) (by omega)), geti_s h12, getr_s h12, h13, alen_s h14, h15, l1, if_pos (nI_le (by omega) (by omega)), geti_s h12, l1, nI_pred, puti_s h12, getr_s (by exact h12), geti_s (by exact h12), p_i_eq, show h_r (p_i x 181 (s + 3) (nI l.length)) 180 (s + 3) = some (s + 4) from h13, aldi_s (by exact h14) (by show l.length < h_n x (s + 4); omega) (by show h_n x (s + 4) < _; omega)]
    have := l3 0 (by omega)
    rw [show l.length + 1 - 1 - 0 = l.length by omega] at this
    exact congrArg (fun v => some (v, p_i x 181 (s + 3) (nI l.length))) this
  · have := l3 (i + 1) (by omega)
    rw [show l.length + 1 - 1 - (i + 1) = l.length - 1 - i by omega] at this
    exact this
/-- one sign of a sum or test -/
def stepM (m : Md) (w d : Nat) (l : List Int32) : List Int32 := if w = 35 then nI d :: l else if w = 20 then m_V m 161 :: l else if w = 21 then m_V m 168 :: l else if w < 29 then knownM (m_A m d) (m_Q m d) w :: l else if w = 29 then (1 - l.getD 0 0) :: l.drop 1 else cmb w (l.getD 1 0) (l.getD 0 0) :: l.drop 2
def okS (m : Md) (w d : Nat) (l : List Int32) : Prop := l.length < 400 ∧ (w = 35 ∨ w = 20 ∨ w = 21 ∨ (22 ≤ w ∧ w < 29 ∧ d < m_n m) ∨ (w = 29 ∧ l ≠ []) ∨ (isB w ∧ 2 ≤ l.length))
theorem step_207 {x : Hp} {l : List Int32} {v : Int32} (h : Site x s B m) (hl : StkR x s l) (hn : l.length < 400) : ∃ y, f_X6_step_b207 N z v (some (s + 3)) x = some ((), y) ∧ Site y s B m ∧ StkR y s (v :: l) ∧ Fr x y (s + 3) (s + 5) := by
  obtain ⟨y, e1, e2, e3, e4⟩ := stk_push (N := N) (z := z) (v := v) h hl hn
  have h12 := h.1.2.2.2.2.2.2.2.2.2.2.2.1
  unfold f_X6_step_b207
  rw [obj_s h12, e1, bnd_s]
  exact ⟨y, rfl, e2, e3, e4⟩
theorem step_s {x : Hp} {w d : Nat} {l : List Int32} (h : Site x s B m) (hl : StkR x s l) (ho : okS m w d l) : ∃ y, f_X6_step N z s (nI w) (nI d) x = some ((), y) ∧ Site y s B m ∧ StkR y s (stepM m w d l) ∧ Fr x y (s + 3) (s + 5) := by
  obtain ⟨h1, h2, h3, h4, h5, h6, h7, h8, h9, h10, h11, h12, -⟩ := h.1
  obtain ⟨o1, o2⟩ := ho
  unfold f_X6_step
  rcases o2 with c | c | c | ⟨c1, c2, c3⟩ | ⟨c, c2⟩ | ⟨c, c2⟩
  · subst c
    obtain ⟨y, e1, e2, e3, e4⟩ := stk_push (N := N) (z := z) (v := nI d) h hl o1
    (repeat rw [if_neg (by decide)])
    rw [if_pos (by decide), getr_s h1, h5, obj_s h12, e1, bnd_s]
    exact ⟨y, rfl, e2, e3, e4⟩
  · subst c
    obtain ⟨y, e1, e2, e3, e4⟩ := stk_push (N := N) (z := z) (v := m_V m 161) h hl o1
    rw [if_pos (by decide), getr_s h1, h5, geti_s h1, h.v (by decide), obj_s h12, e1, bnd_s]
    exact ⟨y, rfl, e2, e3, e4⟩
  · subst c
    obtain ⟨y, e1, e2, e3, e4⟩ := stk_push (N := N) (z := z) (v := m_V m 168) h hl o1
    rw [if_neg (by decide), if_pos (by decide), getr_s h1, h5, geti_s h1, h.v (by decide), obj_s h12, e1, bnd_s]
    exact ⟨y, rfl, e2, e3, e4⟩
  · obtain ⟨y, e1, e2, e3, e4⟩ := step_207 (N := N) (z := z) (v := knownM (m_A m d) (m_Q m d) w) h hl o1
    have hd := h.l c3
    have e0 : stepM m w d l = knownM (m_A m d) (m_Q m d) w :: l := by
      unfold stepM
      rw [if_neg (by omega), if_neg (by omega), if_neg (by omega), if_pos (by omega)]
    rw [e0]
    have kn := lane_known (N := N) (z := z) hd ⟨c1, c2⟩
    have c : w = 22 ∨ w = 23 ∨ w = 24 ∨ w = 25 ∨ w = 26 ∨ w = 27 ∨ w = 28 := by omega
    rcases c with c | c | c | c | c | c | c <;> subst c <;> (repeat rw [if_neg (by decide)]) <;> rw [if_pos (by decide), obj_s h1, lane_at h c3, bnd_s, getr_s h1, h5, if_neg (by simp), obj_s hd.1, kn, bnd_s] <;> exact ⟨y, e1, e2, e3, e4⟩
  · subst c
    match l, c2, hl with
    | v :: t, c2, hl =>
      obtain ⟨y, e1, e2, e3, e4⟩ := stk_pop (N := N) (z := z) h hl
      have k12 := e2.1.2.2.2.2.2.2.2.2.2.2.2.1
      obtain ⟨y2, d1, d2, d3, d4⟩ := stk_push (N := N) (z := z) (v := (1 : Int32) - v) e2 e3 (by simp at o1; omega)
      (repeat rw [if_neg (by decide)])
      rw [if_pos (by decide), getr_s h1, h5, getr_s h1, h5, obj_s h12, e1, bnd_s, obj_s k12, d1, bnd_s]
      exact ⟨y2, rfl, d2, d3, e4.tr d4⟩
  · match l, c2, hl with
    | r :: v :: t, c2, hl =>
      have e0 : stepM m w d (r :: v :: t) = cmb w v r :: t := by
        unfold stepM
        unfold isB at c
        rw [if_neg (by omega), if_neg (by omega), if_neg (by omega), if_neg (by omega), if_neg (by omega)]
        rfl
      rw [e0]
      obtain ⟨y, e1, e2, e3, e4⟩ := stk_pop (N := N) (z := z) h hl
      have k1 := e2.1.1
      have k5 := e2.1.2.2.2.2.1
      have k12 := e2.1.2.2.2.2.2.2.2.2.2.2.2.1
      obtain ⟨y2, d1, d2, d3, d4⟩ := stk_pop (N := N) (z := z) e2 e3
      have j1 := d2.1.1
      have j5 := d2.1.2.2.2.2.1
      have j12 := d2.1.2.2.2.2.2.2.2.2.2.2.2.1
      obtain ⟨y3, b1, b2, b3, b4⟩ := stk_push (N := N) (z := z) (v := cmb w v r) d2 d3 (by simp at o1; omega)
      have cm := combined_s (N := N) (z := z) (x := y2) (l := v) (r := r) c
      have res : (getr (some s) x 9 167 fun r89 => obj r89 x 10 fun q92 => bnd (f_X7_pop N z q92 x) fun i91 x90 => getr (some s) x90 9 167 fun r93 => obj r93 x90 10 fun q96 => bnd (f_X7_pop N z q96 x90) fun i95 x94 => getr (some s) x94 9 167 fun r97 => bnd (f_X6_combined N z (nI w) i95 i91 x94) fun i99 x98 => obj r97 x98 10 fun q101 => bnd (f_X7_push N z q101 i99 x98) fun _ x100 => some ((), x100)) = some ((), y3) := by
        rw [getr_s h1, h5, obj_s h12, e1, bnd_s, getr_s k1, k5, obj_s k12, d1, bnd_s, getr_s j1, j5, cm, bnd_s, obj_s j12, b1, bnd_s]
      refine ⟨y3, ?_, b2, b3, (e4.tr d4).tr b4⟩
      unfold isB at c
      rcases c with c | c | c | c | c | c | c | c | c | c | c <;> subst c <;> (repeat rw [if_neg (by decide)]) <;> exact res
def runM (m : Md) : List (Nat × Nat) → List Int32 → List Int32
  | [], l => l
  | c :: t, l => runM m t (stepM m c.1 c.2 l)
def okR (m : Md) : List (Nat × Nat) → List Int32 → Prop
  | [], l => l ≠ []
  | c :: t, l => okS m c.1 c.2 l ∧ okR m t (stepM m c.1 c.2 l)
/-- the book at B: its code C, its orders os (five numbers each) -/
def Bk (x : Hp) (B : Nat) (C : List (Nat × Nat)) (os : List (Nat → Nat)) : Prop := h_k x B = 3 ∧ h_r x 40 B = some (B + 1) ∧ h_r x 41 B = some (B + 2) ∧ h_r x 44 B = some (B + 3) ∧ h_k x (B + 1) = 101 ∧ h_n x (B + 1) = 400 ∧ h_k x (B + 2) = 101 ∧ h_n x (B + 2) = 400 ∧ h_k x (B + 3) = 105 ∧ h_n x (B + 3) = 20 ∧ (∀ i, i < 20 → h_ar x (B + 3) i = some (B + 4 + i) ∧ h_k x (B + 4 + i) = 6) ∧ h_i x 42 B = nI C.length ∧ C.length ≤ 400 ∧ h_i x 43 B = nI os.length ∧ os.length ≤ 20 ∧ (∀ i, i < C.length → h_ai x (B + 1) i = nI (C.getD i (0, 0)).1 ∧ h_ai x (B + 2) i = nI (C.getD i (0, 0)).2) ∧ ∀ i, i < os.length → ∀ f, f < 5 → h_i x (100 + f) (B + 4 + i) = nI (os.getD i (fun _ => 0) f)
theorem Bk.fr {x y : Hp} {lo hi : Nat} {C : List (Nat × Nat)} {os : List (Nat → Nat)} (h : Bk x B C os) (g : Fr x y lo hi) (hd : B + 24 ≤ lo ∨ hi ≤ B) : Bk y B C os := by
  obtain ⟨h1, h2, h3, h4, h5, h6, h7, h8, h9, h10, h11, h12, h13, h14, h15, h16, h17⟩ := h
  exact ⟨g.k.trans h1, (g.r (by omega)).trans h2, (g.r (by omega)).trans h3, (g.r (by omega)).trans h4, g.k.trans h5, g.n.trans h6, g.k.trans h7, g.n.trans h8, g.k.trans h9, g.n.trans h10, fun i hi => ⟨by rw [g.ar (by omega)]; exact (h11 i hi).1, g.k.trans (h11 i hi).2⟩, (g.i (by omega)).trans h12, h13, (g.i (by omega)).trans h14, h15, fun i hi => ⟨by rw [g.ai (by omega)]; exact (h16 i hi).1, by rw [g.ai (by omega)]; exact (h16 i hi).2⟩, fun i hi f hf => (g.i (by omega)).trans (h17 i hi f hf)⟩
theorem reckon_l {C : List (Nat × Nat)} {os : List (Nat → Nat)} (hd : B + 24 ≤ s ∨ s + 31 ≤ B) : ∀ (seg : List (Nat × Nat)) (n i : Nat) (x : Hp) (l : List Int32), Site x s B m → Bk x B C os → StkR x s l → okR m seg l → i + seg.length ≤ C.length → (∀ j, j < seg.length → C.getD (i + j) (0, 0) = seg.getD j (0, 0)) → seg.length < n → ∃ y, f_X6_reckon_b13 N z n s (nI (i + seg.length)) (nI i) x = some ((runM m seg l).getD 0 0, y) ∧ Site y s B m ∧ Fr x y (s + 3) (s + 5)
  | [], 0, i, x, l, h, hb, hl, ho, hi, hc, hn => absurd hn (by simp)
  | [], n + 1, i, x, l, h, hb, hl, ho, hi, hc, hn => by
    have h12 := h.1.2.2.2.2.2.2.2.2.2.2.2.1
    have hC := hb.2.2.2.2.2.2.2.2.2.2.2.2.1
    unfold f_X6_reckon_b13
    rw [if_pos (nI_le (by simp) (by simp at hi; omega))]
    unfold f_X6_reckon_b70
    match l, ho, hl with
    | [], ho, hl => exact absurd rfl ho
    | v :: t, ho, hl =>
      obtain ⟨y, e1, e2, e3, e4⟩ := stk_pop (N := N) (z := z) h hl
      rw [getr_s h.k, h.1.2.2.2.2.1, obj_s h12, e1, bnd_s]
      exact ⟨y, rfl, e2, e4⟩
  | c :: t, 0, i, x, l, h, hb, hl, ho, hi, hc, hn => absurd hn (by omega)
  | c :: t, n + 1, i, x, l, h, hb, hl, ho, hi, hc, hn => by
    have h160 := h.1.2.1
    have hb' := hb
    obtain ⟨b1, b2, b3, b4, b5, b6, b7, b8, b9, b10, b11, b12, b13, b14, b15, b16, b17⟩ := hb
    simp only [List.length_cons] at hi hc hn ⊢
    have c0 := hc 0 (by omega)
    rw [Nat.add_zero] at c0
    have c1 := b16 i (by omega)
    rw [c0] at c1
    obtain ⟨c1, c2⟩ := c1
    unfold f_X6_reckon_b13
    rw [if_neg (nI_ge (by omega) (by omega)), getr_s h.k, h160, getr_s b1, b2, alen_s b5, b6, if_neg (nI_ge (by omega) (by omega)), getr_s h.k, h160, getr_s b1, b3, alen_s b7, b8, if_neg (nI_ge (by omega) (by omega)), getr_s h.k, h160, getr_s b1, b2, aldi_s b5 (by omega) (by omega), c1, getr_s h.k, h160, getr_s b1, b3, aldi_s b7 (by omega) (by omega), c2, obj_s h.k]
    obtain ⟨y, e1, e2, e3, e4⟩ := step_s (N := N) (z := z) h hl ho.1
    rw [show ((c :: t).getD 0 (0, 0)) = c from rfl, e1, bnd_s, nI_1, show i + (t.length + 1) = (i + 1) + t.length by omega]
    obtain ⟨w, d1, d2, d3⟩ := reckon_l hd t n (i + 1) y _ e2 (hb'.fr e4 (by omega)) e3 ho.2 (by omega) (fun j hj => by
      have := hc (j + 1) (by omega)
      rw [show i + 1 + j = i + (j + 1) by omega]
      exact this) (by omega)
    exact ⟨w, d1, d2, e4.tr d3⟩
theorem reckon_s {x : Hp} {C : List (Nat × Nat)} {os : List (Nat → Nat)} {i : Nat} {seg : List (Nat × Nat)} (hd : B + 24 ≤ s ∨ s + 31 ≤ B) (h : Site x s B m) (hb : Bk x B C os) (ho : okR m seg []) (hi : i + seg.length ≤ C.length) (hc : ∀ j, j < seg.length → C.getD (i + j) (0, 0) = seg.getD j (0, 0)) (hN : 401 ≤ N) : ∃ y, f_X6_reckon N z s (nI i) (nI (i + seg.length)) x = some ((runM m seg []).getD 0 0, y) ∧ Site y s B m ∧ Fr x y (s + 3) (s + 5) := by
  have h12 := h.1.2.2.2.2.2.2.2.2.2.2.2.1
  have hC := hb.2.2.2.2.2.2.2.2.2.2.2.2.1
  obtain ⟨y, e1, e2, e3, e4⟩ := stk_clear (N := N) (z := z) h
  unfold f_X6_reckon
  rw [getr_s h.k, h.1.2.2.2.2.1, obj_s h12, e1, bnd_s]
  have e0 : (if (0 : Int32) < nI i then nI i else (0 : Int32)) = nI i := by
    by_cases c : (0 : Int32) < nI i
    · rw [if_pos c]
    · rw [if_neg c]
      have : i = 0 := by
        have := mt (nI_lt (a := 0) (b := i)) 
        by_cases d : 0 < i
        · exact absurd (nI_lt d (by omega)) c
        · omega
      rw [this]
      rfl
  rw [e0]
  obtain ⟨w, d1, d2, d3⟩ := reckon_l (N := N) (z := z) hd seg N i y [] e2 (hb.fr e4 (by omega)) e3 ho hi hc (by omega)
  exact ⟨w, d1, d2, e4.tr d3⟩
end RK
