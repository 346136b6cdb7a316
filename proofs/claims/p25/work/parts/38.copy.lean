/-! ===== a site copied, and its counts ===== -/
/-- the first i lanes and j folk of a picture -/
def cutM (m : Md) (i j : Nat) : Md := (m_A m, m_Q m, m_O m, m_F m, up1 (up1 (m_V m) 163 (nI i)) 164 (nI j), i, j)
section CP
variable {N : Nat} {z : Nat → Nat} {s B : Nat}
theorem lane_atS {x : Hp} {n k : Nat} (h : SiteS x s B) (h3 : h_i x 163 s = nI n) (hn : n ≤ 6) (hk : k < n) : f_X6_laneAt N z s (nI k) x = some (some (s + 5 + 3 * k), x) := by
  obtain ⟨h1, h2, h4, h5, h6, h7, h8, h9, -⟩ := h
  unfold f_X6_laneAt
  rw [if_neg (nI_pos (by omega)), geti_s h1, h3, if_neg (nI_ge hk (by omega)), getr_s h1, h4, alen_s h7, h8, if_neg (nI_ge (by omega) (by omega)), getr_s h1, h4, aldr_s h7 (by omega) (by omega), h9 k (by omega)]
theorem folk_atS {x : Hp} {n k : Nat} (h : SiteS x s B) (h3 : h_i x 164 s = nI n) (hn : n ≤ 8) (hk : k < n) : f_X6_folkAt N z s (nI k) x = some (some (s + 23 + k), x) := by
  obtain ⟨h1, h2, h4, h5, h6, h7, h8, h9, h10, h11, h12, -⟩ := h
  unfold f_X6_folkAt
  rw [if_neg (nI_pos (by omega)), geti_s h1, h3, if_neg (nI_ge hk (by omega)), getr_s h1, h5, alen_s h10, h11, if_neg (nI_ge (by omega) (by omega)), getr_s h1, h5, aldr_s h10 (by omega) (by omega), h12 k (by omega)]
theorem SiteS.pv {x : Hp} {f : Nat} {v : Int32} (h : SiteS x s B) : SiteS (p_i x f s v) s B := by
  obtain ⟨h1, h2, h3, h4, h5, h6, h7, h8, h9, h10, h11, h12, h13, h14, h15, h16, h17⟩ := h
  have g : Fr x (p_i x f s v) s (s + 1) := Fr.pi ⟨by omega, by omega⟩
  exact ⟨h1, h2, h3, h4, h5, h6, h7, h8, h9, h10, h11, h12, h13, h14, h15, fun j hj => ⟨(h16 j hj).1.fr g (by omega), (g.i (by omega)).trans (h16 j hj).2⟩, h17⟩
theorem SiteS.ln {x y : Hp} {k : Nat} (h : SiteS x s B) (hk : k < 6) (g : Fr x y (s + 5 + 3 * k) (s + 5 + 3 * k + 3)) (hl : LaneS y (s + 5 + 3 * k)) (h80 : h_i y 80 (s + 5 + 3 * k) = nI k) : SiteS y s B := by
  obtain ⟨h1, h2, h3, h4, h5, h6, h7, h8, h9, h10, h11, h12, h13, h14, h15, h16, h17⟩ := h
  refine ⟨g.k.trans h1, (g.r (by omega)).trans h2, (g.r (by omega)).trans h3, (g.r (by omega)).trans h4, (g.r (by omega)).trans h5, g.k.trans h6, g.n.trans h7, fun k hk => by rw [g.ar (by omega)]; exact h8 k hk, g.k.trans h9, g.n.trans h10, fun k hk => by rw [g.ar (by omega)]; exact h11 k hk, g.k.trans h12, (g.r (by omega)).trans h13, g.k.trans h14, g.n.trans h15, fun j hj => ?_, fun j hj => g.k.trans (h17 j hj)⟩
  by_cases c : j = k
  · subst c
    exact ⟨hl, h80⟩
  · exact ⟨(h16 j hj).1.fr g (by omega), (g.i (by omega)).trans (h16 j hj).2⟩
theorem add_lane {x : Hp} {n : Nat} (h : SiteS x s B) (h3 : h_i x 163 s = nI n) (hn : n < 6) : f_X6_addLane N z s x = some (some (s + 5 + 3 * n), p_i x 163 s (nI (n + 1))) := by
  have h' := h.pv (f := 163) (v := nI (n + 1))
  have e := lane_atS (N := N) (z := z) (k := n) h' p_i_eq (by omega) (by omega)
  obtain ⟨h1, h2, h4, h5, h6, h7, h8, h9, -⟩ := h
  unfold f_X6_addLane
  rw [geti_s h1, getr_s h1, h4, alen_s h7, h8, h3, if_pos (nI_lt hn (by omega)), geti_s h1, h3, nI_1, puti_s h1, geti_s (by exact h1), p_i_eq, nI_pred, obj_s (by exact h1), e, bnd_s]
theorem add_folk {x : Hp} {n : Nat} (h : SiteS x s B) (h3 : h_i x 164 s = nI n) (hn : n < 8) : f_X6_addFolk N z s x = some (some (s + 23 + n), p_i x 164 s (nI (n + 1))) := by
  have h' := h.pv (f := 164) (v := nI (n + 1))
  have e := folk_atS (N := N) (z := z) (k := n) h' p_i_eq (by omega) (by omega)
  obtain ⟨h1, h2, h4, h5, h6, h7, h8, h9, h10, h11, h12, -⟩ := h
  unfold f_X6_addFolk
  rw [geti_s h1, getr_s h1, h5, alen_s h10, h11, h3, if_pos (nI_lt hn (by omega)), geti_s h1, h3, nI_1, puti_s h1, geti_s (by exact h1), p_i_eq, nI_pred, obj_s (by exact h1), e, bnd_s]
/-- a new lane of the picture -/
theorem Site.addl {x y : Hp} {m : Md} {i j : Nat} (h : Site x s B (cutM m i j)) (hi : i < 6) (g : Fr (p_i x 163 s (nI (i + 1))) y (s + 5 + 3 * i) (s + 5 + 3 * i + 3)) (hl : LaneR y (s + 5 + 3 * i) (m_A m i) (m_Q m i) (la s (m_O m i))) (h80 : m_A m i 80 = nI i) (ho : ∀ j, m_O m i = some j → j < i) : Site y s B (cutM m (i + 1) j) := by
  obtain ⟨i1, i2, i3, i4, i5, i6, i7, i8, i9⟩ := h
  have f0 : Fr x (p_i x 163 s (nI (i + 1))) s (s + 1) := Fr.pi ⟨by omega, by omega⟩
  refine ⟨(i1.pv).ln hi g hl.s ((hl.a (by decide)).trans h80), by show i + 1 ≤ 6; omega, i3, ?_, i5, fun f f1 => ?_, fun k hk => ?_, fun k hk => ?_, fun k hk f f1 f2 => ?_⟩
  · show up1 (up1 (m_V m) 163 (nI (i + 1))) 164 (nI j) 163 = nI (i + 1)
    rw [up1_ne (by decide), up1_eq]
  · rw [g.i (by omega)]
    have := i6 f f1
    show _ = up1 (up1 (m_V m) 163 (nI (i + 1))) 164 (nI j) f
    have e : m_V (cutM m i j) f = up1 (up1 (m_V m) 163 (nI i)) 164 (nI j) f := rfl
    rw [e] at this
    by_cases c : f = 163
    · subst c
      rw [p_i_eq, up1_ne (by decide), up1_eq]
    · rw [p_i_ne c, this]
      by_cases d : f = 164
      · subst d
        rw [up1_eq, up1_eq]
      · rw [up1_ne d, up1_ne d, up1_ne c, up1_ne c]
  · have hk : k < i + 1 := hk
    by_cases c : k = i
    · subst c
      exact hl
    · exact ((i7 k (show k < i by omega)).fr f0 (by omega)).fr g (by omega)
  · have hk : k < i + 1 := hk
    by_cases c : k = i
    · subst c
      exact ho
    · exact i8 k (show k < i by omega)
  · have hj : j ≤ 8 := i3
    have hk : k < j := hk
    rw [g.i (by omega), f0.i (by omega)]
    exact i9 k hk f f1 f2
/-- lanes that are copied: their flags are a boolean, and nothing of a minute stands -/
def Cpy (m : Md) : Prop := ∀ k, k < m_n m → (m_A m k 94 = 0 ∨ m_A m k 94 = 1) ∧ m_A m k 90 = 0 ∧ m_A m k 96 = 0 ∧ m_A m k 97 = 0
theorem folk_tell {x : Hp} {a a' : Nat} (h : h_k x a = 4) (h' : h_k x a' = 4) (hd : a ≠ a') : ∃ y, f_X1_copyFrom N z a (some a') x = some ((), y) ∧ (∀ f, 60 ≤ f → f < 65 → h_i y f a = h_i x f a') ∧ Fr x y a (a + 1) := by
  have kp : ∀ (w : Hp) (f : Nat) (v : Int32) (f' : Nat), h_i (p_i w f a v) f' a' = h_i w f' a' := fun w f v f' => p_i_na (Ne.symm hd)
  have fp : ∀ (w : Hp) (f : Nat) (v : Int32), Fr w (p_i w f a v) a (a + 1) := fun w f v => Fr.pi ⟨by omega, by omega⟩
  unfold f_X1_copyFrom f_X1_tell
  rw [geti_s h', geti_s h', geti_s h', geti_s h', obj_s h, puti_s h, puti_s (by exact h), puti_s (by exact h), puti_s (by exact h), puti_s (by exact h), bnd_s, geti_s (by exact h'), puti_s (by exact h)]
  refine ⟨_, rfl, fun f f1 f2 => ?_, (((((fp _ _ _).tr (fp _ _ _)).tr (fp _ _ _)).tr (fp _ _ _)).tr (fp _ _ _)).tr (fp _ _ _)⟩
  simp only [kp]
  have c : f = 60 ∨ f = 61 ∨ f = 62 ∨ f = 63 ∨ f = 64 := by omega
  rcases c with c | c | c | c | c <;> subst c <;> simp [p_i_i]
/-- new folk of the picture -/
theorem Site.addf {x y : Hp} {m : Md} {i j : Nat} (h : Site x s B (cutM m i j)) (hj : j < 8) (g : Fr (p_i x 164 s (nI (j + 1))) y (s + 23 + j) (s + 23 + j + 1)) (hl : ∀ f, 60 ≤ f → f < 65 → h_i y f (s + 23 + j) = m_F m j f) : Site y s B (cutM m i (j + 1)) := by
  obtain ⟨i1, i2, i3, i4, i5, i6, i7, i8, i9⟩ := h
  have hi6 : i ≤ 6 := i2
  have f0 : Fr x (p_i x 164 s (nI (j + 1))) s (s + 1) := Fr.pi ⟨by omega, by omega⟩
  obtain ⟨h1, h2, h3, h4, h5, h6, h7, h8, h9, h10, h11, h12, h13, h14, h15, h16, h17⟩ := i1.pv (f := 164) (v := nI (j + 1))
  refine ⟨⟨g.k.trans h1, (g.r (by omega)).trans h2, (g.r (by omega)).trans h3, (g.r (by omega)).trans h4, (g.r (by omega)).trans h5, g.k.trans h6, g.n.trans h7, fun k hk => by rw [g.ar (by omega)]; exact h8 k hk, g.k.trans h9, g.n.trans h10, fun k hk => by rw [g.ar (by omega)]; exact h11 k hk, g.k.trans h12, (g.r (by omega)).trans h13, g.k.trans h14, g.n.trans h15, fun k hk => ⟨(h16 k hk).1.fr g (by omega), (g.i (by omega)).trans (h16 k hk).2⟩, fun k hk => g.k.trans (h17 k hk)⟩, i2, by show j + 1 ≤ 8; omega, ?_, ?_, fun f f1 => ?_, fun k hk => ?_, i8, fun k hk f f1 f2 => ?_⟩
  · show up1 (up1 (m_V m) 163 (nI i)) 164 (nI (j + 1)) 163 = nI i
    rw [up1_ne (by decide), up1_eq]
  · show up1 (up1 (m_V m) 163 (nI i)) 164 (nI (j + 1)) 164 = nI (j + 1)
    exact up1_eq
  · rw [g.i (by omega)]
    have := i6 f f1
    show _ = up1 (up1 (m_V m) 163 (nI i)) 164 (nI (j + 1)) f
    have e : m_V (cutM m i j) f = up1 (up1 (m_V m) 163 (nI i)) 164 (nI j) f := rfl
    rw [e] at this
    by_cases c : f = 164
    · subst c
      rw [p_i_eq, up1_eq]
    · rw [p_i_ne c, this, up1_ne c, up1_ne c]
  · have hk : k < i := hk
    exact ((i7 k hk).fr f0 (by omega)).fr g (by omega)
  · have hk : k < j + 1 := hk
    by_cases c : k = j
    · subst c
      exact hl f f1 f2
    · rw [g.i (by omega), f0.i (by omega)]
      exact i9 k (show k < j by omega) f f1 f2
theorem copyf_l {s' B' : Nat} {m : Md} (hd : s + 31 ≤ s' ∨ s' + 31 ≤ s) : ∀ (n r j : Nat) (x : Hp), Site x s B (cutM m (m_n m) j) → Site x s' B' m → j + r = m_m m → r < n → ∃ y, f_X6_copyFrom_b107 N z n s (some s') (nI j) x = some ((), y) ∧ Site y s B (cutM m (m_n m) (m_m m)) ∧ Fr x y s (s + 31)
  | 0, r, j, x, h, g, hj, hn => absurd hn (by omega)
  | n + 1, 0, j, x, h, g, hj, hn => by
    have hm := g.2.2.1
    unfold f_X6_copyFrom_b107
    rw [geti_s g.k, g.v (by decide), g.2.2.2.2.1, if_pos (nI_le (by omega) (by omega))]
    have e : j = m_m m := by omega
    subst e
    exact ⟨x, rfl, h, Fr.rf⟩
  | n + 1, r + 1, j, x, h, g, hj, hn => by
    have hm := g.2.2.1
    have hjm : j < m_m m := by omega
    have h4 : h_i x 164 s = nI j := (h.v (f := 164) (by decide)).trans (show up1 (up1 (m_V m) 163 (nI (m_n m))) 164 (nI j) 164 = nI j from up1_eq)
    have kk := g.1.2.2.2.2.2.2.2.2.2.2.2.2.2.2.2.2 j (by omega)
    have kk2 := h.1.2.2.2.2.2.2.2.2.2.2.2.2.2.2.2.2 j (by omega)
    have f0 : Fr x (p_i x 164 s (nI (j + 1))) s (s + 31) := Fr.pi ⟨by omega, by omega⟩
    obtain ⟨y, e1, e2, e3⟩ := folk_tell (N := N) (z := z) (x := p_i x 164 s (nI (j + 1))) (a := s + 23 + j) (a' := s' + 23 + j) kk2 kk (by omega)
    have ff := f0.tr (e3.wd (by omega) (by omega))
    have h2 := h.addf (by omega) e3 (fun f f1 f2 => by
      rw [e2 f f1 f2, f0.i (by omega)]
      exact g.f hjm ⟨f1, f2⟩)
    unfold f_X6_copyFrom_b107
    rw [geti_s g.k, g.v (by decide), g.2.2.2.2.1, if_neg (nI_ge (by omega) (by omega)), obj_s g.k, folk_at g hjm, bnd_s, obj_s h.k, add_folk h.1 h4 (by omega), bnd_s, if_neg (by simp), if_neg (by simp), obj_s (by exact kk2), e1, bnd_s]
    unfold f_X6_copyFrom_b142
    rw [nI_1]
    obtain ⟨u, d1, d2, d3⟩ := copyf_l (m := m) hd n r (j + 1) y h2 (g.fr ff (by omega)) (by omega) (by omega)
    exact ⟨u, d1, d2, ff.tr d3⟩
theorem copyl_l {s' B' : Nat} {m : Md} (hd : s + 31 ≤ s' ∨ s' + 31 ≤ s) (hc : Cpy m) (hN : 61 ≤ N) : ∀ (n r i : Nat) (x : Hp), Site x s B (cutM m i 0) → Site x s' B' m → i + r = m_n m → r < n → ∃ y, f_X6_copyFrom_b42 N z n s (some s') (nI i) x = some ((), y) ∧ Site y s B (cutM m (m_n m) (m_m m)) ∧ Fr x y s (s + 31)
  | 0, r, i, x, h, g, hi, hn => absurd hn (by omega)
  | n + 1, 0, i, x, h, g, hi, hn => by
    have hm := g.2.1
    have hm8 := g.2.2.1
    unfold f_X6_copyFrom_b42
    rw [geti_s g.k, g.v (by decide), g.2.2.2.1, if_pos (nI_le (by omega) (by omega))]
    have e : i = m_n m := by omega
    subst e
    exact copyf_l hd N (m_m m) 0 x h g (by omega) (by omega)
  | n + 1, r + 1, i, x, h, g, hi, hn => by
    have hm := g.2.1
    have him : i < m_n m := by omega
    have h3 : h_i x 163 s = nI i := (h.v (f := 163) (by decide)).trans (show up1 (up1 (m_V m) 163 (nI i)) 164 (nI 0) 163 = nI i by rw [up1_ne (by decide), up1_eq])
    have gl := g.l him
    have f0 : Fr x (p_i x 163 s (nI (i + 1))) s (s + 31) := Fr.pi ⟨by omega, by omega⟩
    have hS := h.1.pv (f := 163) (v := nI (i + 1))
    have h16 := hS.2.2.2.2.2.2.2.2.2.2.2.2.2.2.2.1 i (by omega)
    have g1 := g.fr f0 (by omega)
    have gl1 := g1.l him
    obtain ⟨c1, c2⟩ := hc i him
    obtain ⟨y, e1, e2, e3⟩ := lane_copy (N := N) (z := z) (v2 := la s (m_O m i)) h16.1 gl1 (by omega) (h16.2.trans (g.n80 him).symm) c1 c2 hN
    have ff := f0.tr (e3.wd (lo' := s) (hi' := s + 31) (by omega) (by omega))
    have h2 := h.addl (by omega) e3 e2 (g.n80 him) (fun j hj => g.o him hj)
    obtain ⟨u, d1, d2, d3⟩ := copyl_l hd hc hN n r (i + 1) y h2 (g.fr ff (by omega)) (by omega) (by omega)
    refine ⟨u, ?_, d2, ff.tr d3⟩
    unfold f_X6_copyFrom_b42
    rw [geti_s g.k, g.v (by decide), g.2.2.2.1, if_neg (nI_ge (by omega) (by omega)), obj_s g.k, lane_at g him, bnd_s, obj_s h.k, add_lane h.1 h3 (by omega), bnd_s, if_neg (by simp), if_neg (by simp), getr_s gl1.1, gl1.2.2.1]
    match hO : m_O m i with
    | none =>
      rw [hO] at e1
      rw [show la s' none = none from rfl, if_pos rfl]
      unfold f_X6_copyFrom_b93
      rw [obj_s hS.1]
      unfold f_X6_laneAt
      rw [if_pos (by decide), bnd_s, obj_s h16.1.1, show la s none = none from rfl] at *
      rw [e1, bnd_s]
      unfold f_X6_copyFrom_b99
      rw [nI_1]
      exact d1
    | some j =>
      rw [hO] at e1
      have hj := g.o him hO
      have gj := g1.l (k := j) (by omega)
      rw [show la s' (some j) = some (s' + 5 + 3 * j) from rfl, if_neg (by simp), getr_s gl1.1, gl1.2.2.1, hO, show la s' (some j) = some (s' + 5 + 3 * j) from rfl, geti_s gj.1, gj.a (by decide), g1.n80 (by omega)]
      unfold f_X6_copyFrom_b93
      rw [obj_s hS.1, lane_atS hS p_i_eq (by omega) (by omega), bnd_s, obj_s h16.1.1]
      rw [show la s (some j) = some (s + 5 + 3 * j) from rfl] at e1
      rw [e1, bnd_s]
      unfold f_X6_copyFrom_b99
      rw [nI_1]
      exact d1
theorem site_copy {x : Hp} {s' B' : Nat} {m : Md} (hd : s + 31 ≤ s' ∨ s' + 31 ≤ s) (hc : Cpy m) (hN : 61 ≤ N) (h : SiteS x s B) (g : Site x s' B' m) : ∃ y, f_X6_copyFrom N z s (some s') x = some ((), y) ∧ Site y s B (cutM m (m_n m) (m_m m)) ∧ Fr x y s (s + 31) := by
  have hm := g.2.1
  have kp : ∀ (w : Hp) (f : Nat) (v : Int32) (f' : Nat), h_i (p_i w f s v) f' s' = h_i w f' s' := fun w f v f' => p_i_na (by omega)
  have fp : ∀ (w : Hp) (f : Nat) (v : Int32), Fr w (p_i w f s v) s (s + 31) := fun w f v => Fr.pi ⟨by omega, by omega⟩
  have h1 := h.1
  have g1 := g.k
  have hs := ((((((((((h.pv (f := 161) (v := m_V m 161)).pv (f := 162) (v := 20)).pv (f := 163) (v := 0)).pv (f := 164) (v := 0)).pv (f := 168) (v := 0)).pv (f := 169) (v := 0)).pv (f := 170) (v := 0)).pv (f := 162) (v := m_V m 162)).pv (f := 168) (v := m_V m 168)).pv (f := 169) (v := m_V m 169)).pv (f := 170) (v := m_V m 170)
  have ff := (((((((((((fp x 161 (m_V m 161))).tr (fp _ 162 20)).tr (fp _ 163 0)).tr (fp _ 164 0)).tr (fp _ 168 0)).tr (fp _ 169 0)).tr (fp _ 170 0)).tr (fp _ 162 (m_V m 162))).tr (fp _ 168 (m_V m 168))).tr (fp _ 169 (m_V m 169))).tr (fp _ 170 (m_V m 170))
  have hS : Site (p_i (p_i (p_i (p_i (p_i (p_i (p_i (p_i (p_i (p_i (p_i x 161 s (m_V m 161)) 162 s 20) 163 s 0) 164 s 0) 168 s 0) 169 s 0) 170 s 0) 162 s (m_V m 162)) 168 s (m_V m 168)) 169 s (m_V m 169)) 170 s (m_V m 170)) s B (cutM m 0 0) := by
    refine ⟨hs, Nat.zero_le _, Nat.zero_le _, rfl, rfl, fun f f1 => ?_, fun k hk => absurd hk (Nat.not_lt_zero _), fun k hk => absurd hk (Nat.not_lt_zero _), fun k hk => absurd hk (Nat.not_lt_zero _)⟩
    have c : f = 161 ∨ f = 162 ∨ f = 163 ∨ f = 164 ∨ f = 168 ∨ f = 169 ∨ f = 170 := by omega
    show _ = up1 (up1 (m_V m) 163 (nI 0)) 164 (nI 0) f
    rcases c with c | c | c | c | c | c | c <;> subst c <;> simp [p_i_i, up1, nI_0]
  obtain ⟨u, d1, d2, d3⟩ := copyl_l (N := N) (z := z) hd hc hN N (m_n m) 0 _ hS (g.fr ff (by omega)) (by omega) (by omega)
  unfold f_X6_copyFrom f_X6_begin
  rw [geti_s g1, g.v (by decide), obj_s h1, puti_s h1, puti_s (by exact h1), puti_s (by exact h1), puti_s (by exact h1), puti_s (by exact h1), puti_s (by exact h1), puti_s (by exact h1), bnd_s, geti_s (by exact g1), puti_s (by exact h1), geti_s (by exact g1), puti_s (by exact h1), geti_s (by exact g1), puti_s (by exact h1), geti_s (by exact g1), puti_s (by exact h1)]
  simp only [kp, g.v (f := 162) (by decide), g.v (f := 168) (by decide), g.v (f := 169) (by decide), g.v (f := 170) (by decide)]
  exact ⟨u, d1, d2, ff.tr d3⟩
theorem cutM_x (m : Md) (i j : Nat) : m_A (cutM m i j) = m_A m ∧ m_Q (cutM m i j) = m_Q m ∧ m_O (cutM m i j) = m_O m ∧ m_F (cutM m i j) = m_F m ∧ m_n (cutM m i j) = i ∧ m_m (cutM m i j) = j := ⟨rfl, rfl, rfl, rfl, rfl, rfl⟩
end CP
