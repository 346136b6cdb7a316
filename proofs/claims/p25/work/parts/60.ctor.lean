/-! ===== what constructors make ===== -/
theorem pnk {x : Hp} {k n w a : Nat} : h_k (p_n x k n w) a = if a = h_sz x then k else h_k x a := rfl
theorem pnn {x : Hp} {k n w a : Nat} : h_n (p_n x k n w) a = if a = h_sz x then n else h_n x a := rfl
theorem pni {x : Hp} {k n w f a : Nat} : h_i (p_n x k n w) f a = if a = h_sz x then 0 else h_i x f a := rfl
theorem pnr {x : Hp} {k n w f a : Nat} : h_r (p_n x k n w) f a = if a = h_sz x then none else h_r x f a := rfl
theorem newo_s {β : Type} {x : Hp} {kd w : Nat} {k : Option Nat → Hp → Option β} : newo x kd w k = k (some (h_sz x)) (p_n x kd 0 w) := rfl
theorem nn_s {β : Type} {o : Nat} {k : Nat → Option β} : nn (some o) k = k o := rfl
theorem pr_ag {x : Hp} {f a lo hi : Nat} {v : Option Nat} (h : hi ≤ a ∨ a < lo) : Ag x (p_r x f a v) lo hi := fun q h1 h2 => Sm_pr (by omega)
theorem pi_ag {x : Hp} {f a lo hi : Nat} {v : Int32} (h : hi ≤ a ∨ a < lo) : Ag x (p_i x f a v) lo hi := fun q h1 h2 => Sm_pi (by omega)
theorem par_ag {x : Hp} {a j lo hi : Nat} {v : Option Nat} (h : hi ≤ a ∨ a < lo) : Ag x (p_ar x a j v) lo hi := fun q h1 h2 => Sm_par (by omega)
theorem pal_ag {x : Hp} {a j lo hi : Nat} {v : Int64} (h : hi ≤ a ∨ a < lo) : Ag x (p_al x a j v) lo hi := fun q h1 h2 => Sm_pal (by omega)
section CT
variable {N : Nat} {z : Nat → Nat}
theorem queue_new {x : Hp} {q : Nat} (h : h_sz x = q + 1) (hk : h_k x q = 7) : ∃ y, f_X4_init N z q x = some ((), y) ∧ QS y q ∧ h_sz y = q + 2 ∧ h_sl y = h_sl x + 60 ∧ Ag x y 0 q := by
  unfold f_X4_init
  rw [nn_s, show (60 : Int32) = nI 60 from rfl, newa_s (by decide), putr_s (by rw [pnk, if_neg (by omega)]; exact hk)]
  have k2 : h_k (p_n x 101 60 60) q = 7 := by rw [pnk, if_neg (by omega)]; exact hk
  refine ⟨_, rfl, ⟨k2, ?_, ?_, ?_⟩, ?_, rfl, (pn_ag (by omega)).tr (pr_ag (by omega))⟩
  · rw [p_r_eq, h]
  · show h_k (p_n x 101 60 60) (q + 1) = 101
    rw [pnk, if_pos h.symm]
  · show h_n (p_n x 101 60 60) (q + 1) = 60
    rw [pnn, if_pos h.symm]
  · show h_sz x + 1 = q + 2
    omega
theorem lane_new {x : Hp} {a : Nat} {v : Int32} (h : h_sz x = a + 1) (hk : h_k x a = 5) : ∃ y, f_X2_init N z a v x = some ((), y) ∧ LaneS y a ∧ h_i y 80 a = v ∧ h_sz y = a + 3 ∧ h_sl y = h_sl x + 63 ∧ Ag x y 0 a := by
  have e1 : h_sz (p_n x 7 0 3) = a + 1 + 1 := by show h_sz x + 1 = _; omega
  have e2 : h_k (p_n x 7 0 3) (a + 1) = 7 := by rw [pnk, if_pos h.symm]
  obtain ⟨u, d1, d2, d3, d4, d5⟩ := queue_new (N := N) (z := z) e1 e2
  have k1 : h_k u a = 5 := by rw [d5.k ⟨by omega, by omega⟩, pnk, if_neg (by omega)]; exact hk
  unfold f_X2_init
  rw [nn_s, newo_s, h, obj_s e2, d1, bnd_s, putr_s k1, puti_s (by exact k1)]
  refine ⟨_, rfl, ⟨k1, p_r_eq, ?_⟩, p_i_eq, d3, ?_, ?_⟩
  · obtain ⟨q1, q2, q3, q4⟩ := d2
    exact ⟨q1, (p_r_ne (by decide)).trans q2, q3, q4⟩
  · show h_sl u = h_sl x + 63
    rw [d4]
    show h_sl x + 3 + 60 = _
    omega
  · exact (((pn_ag (by omega)).tr (d5.wd (Nat.le_refl _) (by omega))).tr (pr_ag (by omega))).tr (pi_ag (by omega))
theorem stack_new {x : Hp} {q : Nat} (h : h_sz x = q + 1) (hk : h_k x q = 10) : ∃ y, f_X7_init N z q x = some ((), y) ∧ (h_k y q = 10 ∧ h_r y 180 q = some (q + 1) ∧ h_k y (q + 1) = 101 ∧ h_n y (q + 1) = 400) ∧ h_sz y = q + 2 ∧ h_sl y = h_sl x + 400 ∧ Ag x y 0 q := by
  have k2 : h_k (p_n x 101 400 400) q = 10 := by rw [pnk, if_neg (by omega)]; exact hk
  unfold f_X7_init
  rw [nn_s, show (400 : Int32) = nI 400 from rfl, newa_s (by decide), putr_s k2]
  refine ⟨_, rfl, ⟨k2, ?_, ?_, ?_⟩, ?_, rfl, (pn_ag (by omega)).tr (pr_ag (by omega))⟩
  · rw [p_r_eq, h]
  · show h_k (p_n x 101 400 400) (q + 1) = 101
    rw [pnk, if_pos h.symm]
  · show h_n (p_n x 101 400 400) (q + 1) = 400
    rw [pnn, if_pos h.symm]
  · show h_sz x + 1 = q + 2
    omega
/-- a site with so many lanes and folk made -/
def SiP (x : Hp) (s t B k j : Nat) : Prop := h_k x s = 9 ∧ h_r x 160 s = some B ∧ h_r x 165 s = some (t + 1) ∧ h_r x 166 s = some (t + 2) ∧ h_r x 167 s = some (t + 3) ∧ h_k x (t + 1) = 104 ∧ h_n x (t + 1) = 6 ∧ (∀ i, i < k → h_ar x (t + 1) i = some (t + 5 + 3 * i)) ∧ h_k x (t + 2) = 103 ∧ h_n x (t + 2) = 8 ∧ (∀ i, i < j → h_ar x (t + 2) i = some (t + 23 + i)) ∧ h_k x (t + 3) = 10 ∧ h_r x 180 (t + 3) = some (t + 4) ∧ h_k x (t + 4) = 101 ∧ h_n x (t + 4) = 400 ∧ (∀ i, i < k → LaneS x (t + 5 + 3 * i) ∧ h_i x 80 (t + 5 + 3 * i) = nI i) ∧ (∀ i, i < j → h_k x (t + 23 + i) = 4)
def SiN (x : Hp) (s : Nat) : Prop := ∀ f, (161 ≤ f ∧ f < 165) ∨ (168 ≤ f ∧ f < 171) → h_i x f s = if f = 162 then 20 else 0
theorem SiP.ag {x y : Hp} {s t B k j : Nat} (hst : s ≤ t) (h : SiP x s t B k j) (g : Ag x y 0 (t + 5 + 3 * k)) (g2 : ∀ i, i < j → h_k y (t + 23 + i) = 4) : SiP y s t B k j := by
  obtain ⟨h1, h2, h3, h4, h5, h6, h7, h8, h9, h10, h11, h12, h13, h14, h15, h16, h17⟩ := h
  exact ⟨(g.k (by omega)).trans h1, (g.r (by omega)).trans h2, (g.r (by omega)).trans h3, (g.r (by omega)).trans h4, (g.r (by omega)).trans h5, (g.k (by omega)).trans h6, (g.n (by omega)).trans h7, fun k hk => by rw [g.ar (by omega)]; exact h8 k hk, (g.k (by omega)).trans h9, (g.n (by omega)).trans h10, fun k hk => by rw [g.ar (by omega)]; exact h11 k hk, (g.k (by omega)).trans h12, (g.r (by omega)).trans h13, (g.k (by omega)).trans h14, (g.n (by omega)).trans h15, fun k hk => ⟨(h16 k hk).1.ag g (by omega), (g.i (by omega)).trans (h16 k hk).2⟩, g2⟩
theorem site_f {s t B : Nat} (hst : s ≤ t) : ∀ (r n j : Nat) (x : Hp), SiP x s t B 6 j → SiN x s → h_sz x = t + 23 + j → j + r = 8 → r < n → ∃ y, f_X6_init_b77 N z n s (nI j) x = some ((), y) ∧ SiP y s t B 6 8 ∧ SiN y s ∧ h_sz y = t + 31 ∧ h_sl y = h_sl x + 5 * r ∧ Ag x y 0 (t + 1)
  | r, 0, j, x, h, hn, hz, hj, hr => absurd hr (by omega)
  | 0, n + 1, j, x, h, hn, hz, hj, hr => by
    have h' := h
    obtain ⟨h1, h2, h3, h4, h5, h6, h7, h8, h9, h10, h11, h12, h13, h14, h15, h16, h17⟩ := h
    rw [f_X6_init_b77, getr_s h1, h4, alen_s h9, h10, if_pos (nI_le (by omega) (by omega))]
    have e : j = 8 := by omega
    subst e
    exact ⟨x, rfl, h', hn, hz, rfl, Ag.rf⟩
  | r + 1, n + 1, j, x, h, hn, hz, hj, hr => by
    have h' := h
    obtain ⟨h1, h2, h3, h4, h5, h6, h7, h8, h9, h10, h11, h12, h13, h14, h15, h16, h17⟩ := h
    obtain ⟨u, hu⟩ : ∃ u, u = p_n x 4 0 5 := ⟨_, rfl⟩
    have gu : Ag x u 0 (t + 23 + j) := by rw [hu]; exact pn_ag (by omega)
    have ku : h_k u (t + 23 + j) = 4 := by rw [hu, pnk, if_pos hz.symm]
    have hP : SiP u s t B 6 j := SiP.ag hst h' (gu.wd (Nat.le_refl _) (by omega)) (fun i hi => (gu.k (by omega)).trans (h17 i hi))
    have k9 : h_k u (t + 2) = 103 := hP.2.2.2.2.2.2.2.2.1
    have n9 : h_n u (t + 2) = 8 := hP.2.2.2.2.2.2.2.2.2.1
    have hQ : SiP (p_ar u (t + 2) j (some (t + 23 + j))) s t B 6 (j + 1) := by
      obtain ⟨p1, p2, p3, p4, p5, p6, p7, p8, p9, p10, p11, p12, p13, p14, p15, p16, p17⟩ := hP
      refine ⟨p1, p2, p3, p4, p5, p6, p7, fun i hi => ?_, p9, p10, fun i hi => ?_, p12, p13, p14, p15, p16, fun i hi => ?_⟩
      · simp only [HPAR]
        rw [if_neg (by omega)]
        exact p8 i hi
      · simp only [HPAR]
        by_cases c : i = j
        · rw [if_pos ⟨trivial, c⟩, c]
        · rw [if_neg (fun q => c q.2)]
          exact p11 i (by omega)
      · by_cases c : i = j
        · rw [c]; exact ku
        · exact p17 i (by omega)
    obtain ⟨y, e1, e2, e3, e4, e5, e6⟩ := site_f hst r n (j + 1) (p_ar u (t + 2) j (some (t + 23 + j))) hQ (fun f hf => by
        rw [hu]
        show h_i (p_n x 4 0 5) f s = _
        rw [pni, if_neg (by omega)]
        exact hn f hf) (by rw [hu]; show h_sz x + 1 = _; omega) (by omega) (by omega)
    refine ⟨y, ?_, e2, e3, e4, ?_, ((gu.wd (Nat.le_refl _) (by omega)).tr (par_ag (by omega))).tr e6⟩
    · have k4 : h_r u 166 s = some (t + 2) := hP.2.2.2.1
      rw [f_X6_init_b77, getr_s h1, h4, alen_s h9, h10, if_neg (nI_ge (by omega) (by omega)), getr_s h1, h4, newo_s, hz, ← hu, obj_s ku]
      unfold f_X1_init
      rw [nn_s, bnd_s]
      unfold astr
      rw [idx_s k9 (by omega) (by omega), nI_1]
      simp only [if_pos ku]
      exact e1
    · rw [e5, hu]
      show h_sl x + 5 + 5 * r = _
      omega
theorem site_l {s t B : Nat} (hst : s ≤ t) (hN : 9 ≤ N) : ∀ (r n k : Nat) (x : Hp), SiP x s t B k 0 → SiN x s → h_sz x = t + 5 + 3 * k → k + r = 6 → r < n → ∃ y, f_X6_init_b46 N z n s (nI k) x = some ((), y) ∧ SiP y s t B 6 8 ∧ SiN y s ∧ h_sz y = t + 31 ∧ h_sl y = h_sl x + 81 * r + 40 ∧ Ag x y 0 (t + 1)
  | r, 0, k, x, h, hn, hz, hj, hr => absurd hr (by omega)
  | 0, n + 1, k, x, h, hn, hz, hj, hr => by
    have h' := h
    obtain ⟨h1, h2, h3, h4, h5, h6, h7, h8, h9, h10, h11, h12, h13, h14, h15, h16, h17⟩ := h
    have e : k = 6 := by omega
    subst e
    obtain ⟨y, e1, e2, e3, e4, e5, e6⟩ := site_f (N := N) (z := z) hst 8 N 0 x h' hn (by omega) (by omega) (by omega)
    refine ⟨y, ?_, e2, e3, e4, by omega, e6⟩
    rw [f_X6_init_b46, getr_s h1, h3, alen_s h6, h7, if_pos (nI_le (by omega) (by omega))]
    exact e1
  | r + 1, n + 1, k, x, h, hn, hz, hj, hr => by
    have h' := h
    obtain ⟨h1, h2, h3, h4, h5, h6, h7, h8, h9, h10, h11, h12, h13, h14, h15, h16, h17⟩ := h
    have e1 : h_sz (p_n x 5 0 18) = t + 5 + 3 * k + 1 := by show h_sz x + 1 = _; omega
    have e2 : h_k (p_n x 5 0 18) (t + 5 + 3 * k) = 5 := by rw [pnk, if_pos hz.symm]
    obtain ⟨u, d1, d2, d3, d4, d5, d6⟩ := lane_new (N := N) (z := z) (v := nI k) e1 e2
    have gu : Ag x u 0 (t + 5 + 3 * k) := (pn_ag (by omega)).tr d6
    have hP : SiP u s t B k 0 := SiP.ag hst h' gu (fun i hi => absurd hi (by omega))
    have k6 : h_k u (t + 1) = 104 := hP.2.2.2.2.2.1
    have n6 : h_n u (t + 1) = 6 := hP.2.2.2.2.2.2.1
    have hQ : SiP (p_ar u (t + 1) k (some (t + 5 + 3 * k))) s t B (k + 1) 0 := by
      obtain ⟨p1, p2, p3, p4, p5, p6, p7, p8, p9, p10, p11, p12, p13, p14, p15, p16, p17⟩ := hP
      refine ⟨p1, p2, p3, p4, p5, p6, p7, fun i hi => ?_, p9, p10, fun i hi => absurd hi (by omega), p12, p13, p14, p15, fun i hi => ?_, fun i hi => absurd hi (by omega)⟩
      · simp only [HPAR]
        by_cases c : i = k
        · rw [if_pos ⟨trivial, c⟩, c]
        · rw [if_neg (fun q => c q.2)]
          exact p8 i (by omega)
      · by_cases c : i = k
        · subst c
          exact ⟨d2, d3⟩
        · exact p16 i (by omega)
    obtain ⟨y, f1, f2, f3, f4, f5, f6⟩ := site_l hst hN r n (k + 1) (p_ar u (t + 1) k (some (t + 5 + 3 * k))) hQ (fun f hf => (gu.i (by omega)).trans (hn f hf)) (by show h_sz u = _; rw [d4]; omega) (by omega) (by omega)
    refine ⟨y, ?_, f2, f3, f4, ?_, ((gu.wd (Nat.le_refl _) (by omega)).tr (par_ag (by omega))).tr f6⟩
    · rw [f_X6_init_b46, getr_s h1, h3, alen_s h6, h7, if_neg (nI_ge (by omega) (by omega)), getr_s h1, h3, newo_s, hz, obj_s e2, d1, bnd_s]
      unfold astr
      rw [idx_s k6 (by omega) (by omega), nI_1]
      simp only [if_pos (show h_k u (t + 5 + 3 * k) = 5 from d2.1)]
      exact f1
    · rw [f5]
      show h_sl u + 81 * r + 40 = _
      rw [d5]
      show h_sl x + 18 + 63 + 81 * r + 40 = _
      omega
theorem site_new {x : Hp} {s t B : Nat} (hst : s ≤ t) (hN : 9 ≤ N) (h : h_sz x = t + 1) (hk : h_k x s = 9) (hi : ∀ f, h_i x f s = 0) : ∃ y, f_X6_init N z s (some B) x = some ((), y) ∧ SiP y s t B 6 8 ∧ SiN y s ∧ h_sz y = t + 31 ∧ h_sl y = h_sl x + 942 ∧ Ag x y 0 s ∧ Ag x y (s + 1) (t + 1) := by
  obtain ⟨x1, hx1⟩ : ∃ x1, x1 = p_r (p_n x 104 6 6) 165 s (some (t + 1)) := ⟨_, rfl⟩
  obtain ⟨x2, hx2⟩ : ∃ x2, x2 = p_r (p_n x1 103 8 8) 166 s (some (t + 2)) := ⟨_, rfl⟩
  have z1 : h_sz x1 = t + 2 := by rw [hx1]; show h_sz x + 1 = _; omega
  have z2 : h_sz x2 = t + 3 := by rw [hx2]; show h_sz x1 + 1 = _; omega
  have k1 : h_k x1 s = 9 := by rw [hx1]; show h_k (p_n x 104 6 6) s = 9; rw [pnk, if_neg (by omega)]; exact hk
  have k2 : h_k x2 s = 9 := by rw [hx2]; show h_k (p_n x1 103 8 8) s = 9; rw [pnk, if_neg (by omega)]; exact k1
  have kk : h_k (p_n x2 10 0 2) (t + 3) = 10 := by rw [pnk, if_pos z2.symm]
  obtain ⟨u, d1, ⟨d2, d3, d4, d5⟩, d6, d7, d8⟩ := stack_new (N := N) (z := z) (x := p_n x2 10 0 2) (q := t + 3) (by show h_sz x2 + 1 = _; omega) kk
  have ku : h_k u s = 9 := by rw [d8.k ⟨by omega, by omega⟩, pnk, if_neg (by omega)]; exact k2
  have g2 : Ag x2 u 0 (t + 3) := (pn_ag (by omega)).tr d8
  obtain ⟨w, hw⟩ : ∃ w, w = p_i (p_r (p_r u 167 s (some (t + 3))) 160 s (some B)) 162 s 20 := ⟨_, rfl⟩
  have hP : SiP w s t B 0 0 := by
    rw [hw]
    refine ⟨ku, p_r_eq, ?_, ?_, ?_, ?_, ?_, fun i hi => absurd hi (by omega), ?_, ?_, fun i hi => absurd hi (by omega), d2, ?_, d4, d5, fun i hi => absurd hi (by omega), fun i hi => absurd hi (by omega)⟩
    · show h_r (p_r (p_r u 167 s (some (t + 3))) 160 s (some B)) 165 s = some (t + 1)
      rw [p_r_ne (by decide), p_r_ne (by decide), g2.r ⟨by omega, by omega⟩, hx2, p_r_ne (by decide), pnr, if_neg (by omega), hx1, p_r_eq]
    · show h_r (p_r (p_r u 167 s (some (t + 3))) 160 s (some B)) 166 s = some (t + 2)
      rw [p_r_ne (by decide), p_r_ne (by decide), g2.r ⟨by omega, by omega⟩, hx2, p_r_eq]
    · show h_r (p_r (p_r u 167 s (some (t + 3))) 160 s (some B)) 167 s = some (t + 3)
      rw [p_r_ne (by decide), p_r_eq]
    · show h_k u (t + 1) = 104
      rw [g2.k ⟨by omega, by omega⟩, hx2]
      show h_k (p_n x1 103 8 8) (t + 1) = 104
      rw [pnk, if_neg (by omega), hx1]
      show h_k (p_n x 104 6 6) (t + 1) = 104
      rw [pnk, if_pos h.symm]
    · show h_n u (t + 1) = 6
      rw [g2.n ⟨by omega, by omega⟩, hx2]
      show h_n (p_n x1 103 8 8) (t + 1) = 6
      rw [pnn, if_neg (by omega), hx1]
      show h_n (p_n x 104 6 6) (t + 1) = 6
      rw [pnn, if_pos h.symm]
    · show h_k u (t + 2) = 103
      rw [g2.k ⟨by omega, by omega⟩, hx2]
      show h_k (p_n x1 103 8 8) (t + 2) = 103
      rw [pnk, if_pos z1.symm]
    · show h_n u (t + 2) = 8
      rw [g2.n ⟨by omega, by omega⟩, hx2]
      show h_n (p_n x1 103 8 8) (t + 2) = 8
      rw [pnn, if_pos z1.symm]
    · show h_r (p_r (p_r u 167 s (some (t + 3))) 160 s (some B)) 180 (t + 3) = some (t + 4)
      rw [p_r_ne (by decide), p_r_ne (by decide)]
      exact d3
  have iu : ∀ f, h_i u f s = 0 := fun f => by
    rw [g2.i ⟨by omega, by omega⟩, hx2]
    show h_i (p_n x1 103 8 8) f s = 0
    rw [pni, if_neg (by omega), hx1]
    show h_i (p_n x 104 6 6) f s = 0
    rw [pni, if_neg (by omega)]
    exact hi f
  have hN2 : SiN w s := by
    intro f hf
    rw [hw, p_i_i]
    by_cases c : f = 162
    · rw [if_pos ⟨c, rfl⟩, if_pos c]
    · rw [if_neg (fun q => c q.1), if_neg c]
      exact iu f
  obtain ⟨y, e1, e2, e3, e4, e5, e6⟩ := site_l (N := N) (z := z) hst hN 6 N 0 w hP hN2 (by rw [hw]; exact d6) (by omega) (by omega)
  refine ⟨y, ?_, e2, e3, e4, ?_, ?_⟩
  · have k1' : h_k (p_n x 104 6 6) s = 9 := by rw [pnk, if_neg (by omega)]; exact hk
    have k2' : h_k (p_n x1 103 8 8) s = 9 := by rw [pnk, if_neg (by omega)]; exact k1
    unfold f_X6_init
    rw [nn_s, show (6 : Int32) = nI 6 from rfl, newa_s (by decide), h, putr_s k1', ← hx1, show (8 : Int32) = nI 8 from rfl, newa_s (by decide), z1, putr_s k2', ← hx2, newo_s, z2, obj_s kk, d1, bnd_s, putr_s ku, putr_s (by exact ku), puti_s (by exact ku), ← hw]
    exact e1
  · rw [e5, hw]
    show h_sl u + 81 * 6 + 40 = _
    rw [d7]
    show h_sl x2 + 2 + 400 + 81 * 6 + 40 = _
    rw [hx2]
    show h_sl x1 + 8 + 2 + 400 + 81 * 6 + 40 = _
    rw [hx1]
    show h_sl x + 6 + 8 + 2 + 400 + 81 * 6 + 40 = _
    omega
  · have g0 : ∀ lo hi, hi ≤ t + 1 → (hi ≤ s ∨ s < lo) → Ag x x2 lo hi := by
      intro lo hi h1 h2
      rw [hx2, hx1]
      exact (((pn_ag (by omega)).tr (pr_ag h2)).tr (pn_ag (by show hi ≤ h_sz x + 1; omega))).tr (pr_ag h2)
    have g3 : ∀ lo hi, (hi ≤ s ∨ s < lo) → Ag u w lo hi := by
      intro lo hi h2
      rw [hw]
      exact ((pr_ag h2).tr (pr_ag h2)).tr (pi_ag h2)
    exact ⟨(((g0 0 s (by omega) (by omega)).tr (g2.wd (Nat.le_refl _) (by omega))).tr (g3 0 s (by omega))).tr (e6.wd (Nat.le_refl _) (by omega)), (((g0 (s + 1) (t + 1) (by omega) (by omega)).tr (g2.wd (Nat.zero_le _) (by omega))).tr (g3 (s + 1) (t + 1) (by omega))).tr (e6.wd (Nat.zero_le _) (Nat.le_refl _))⟩
end CT
