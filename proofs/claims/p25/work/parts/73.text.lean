/-! ===== the law's text: lanes and folk ===== -/
def laneT1 (p : Nat → Nat) : List Nat := sB 5 ++ dec (p 0) ++ sB 6 ++ dec (p 1) ++ sB 7 ++ dec (p 2) ++ sB 8 ++ dec (p 3) ++ sB 9 ++ dec (p 4) ++ sB 10 ++ (if p 5 = 0 then sB 12 else sB 11) ++ sB 13
def undT : Option Nat → List Nat
  | none => []
  | some j => sB 4 ++ dec j
def laneT (k : Nat) (u : Option Nat) (p : Nat → Nat) : List Nat := sB 3 ++ dec k ++ undT u ++ laneT1 p
def folkT (j : Nat) (g : Nat → Nat) : List Nat := sB 14 ++ dec j ++ sB 15 ++ dec (g 0) ++ sB 16 ++ dec (g 1) ++ sB 17 ++ dec (g 2) ++ sB 18 ++ dec (g 3) ++ sB 2
def lanesT (O : Nat → Option Nat) (P : Nat → Nat → Nat) : Nat → Nat → List Nat
  | 0, _ => []
  | r + 1, k => laneT k (O k) (P k) ++ lanesT O P r (k + 1)
def folksT (G : Nat → Nat → Nat) : Nat → Nat → List Nat
  | 0, _ => []
  | r + 1, j => folkT j (G j) ++ folksT G r (j + 1)
theorem sB_ls : (sB 1).length = 12 ∧ (sB 2).length = 1 ∧ (sB 3).length = 6 ∧ (sB 4).length = 8 ∧ (sB 5).length = 6 ∧ (sB 6).length = 6 ∧ (sB 7).length = 7 ∧ (sB 8).length = 6 ∧ (sB 9).length = 7 ∧ (sB 10).length = 7 ∧ (sB 11).length = 3 ∧ (sB 12).length = 3 ∧ (sB 13).length = 2 ∧ (sB 14).length = 6 ∧ (sB 15).length = 5 ∧ (sB 16).length = 8 ∧ (sB 17).length = 7 ∧ (sB 18).length = 6 := by decide
theorem laneT1_len {p : Nat → Nat} : (laneT1 p).length ≤ 54 := by
  obtain ⟨a1, a2, a3, a4, a5, a6, a7, a8, a9, a10, a11, a12, a13, a14, a15, a16, a17, a18⟩ := sB_ls
  have d0 := dec_len (p 0)
  have d1 := dec_len (p 1)
  have d2 := dec_len (p 2)
  have d3 := dec_len (p 3)
  have d4 := dec_len (p 4)
  have d5 : (if p 5 = 0 then sB 12 else sB 11).length = 3 := by split <;> assumption
  unfold laneT1
  simp only [List.length_append]
  omega
theorem laneT_len {k : Nat} {u : Option Nat} {p : Nat → Nat} : (laneT k u p).length ≤ 72 := by
  obtain ⟨a1, a2, a3, a4, a5, a6, a7, a8, a9, a10, a11, a12, a13, a14, a15, a16, a17, a18⟩ := sB_ls
  have d0 := dec_len k
  have d1 := laneT1_len (p := p)
  have d2 : (undT u).length ≤ 10 := by
    cases u with
    | none => show (0 : Nat) ≤ 10; decide
    | some j =>
      have := dec_len j
      show (sB 4 ++ dec j).length ≤ 10
      rw [List.length_append]
      omega
  unfold laneT
  simp only [List.length_append]
  omega
theorem folkT_len {j : Nat} {g : Nat → Nat} : (folkT j g).length ≤ 43 := by
  obtain ⟨a1, a2, a3, a4, a5, a6, a7, a8, a9, a10, a11, a12, a13, a14, a15, a16, a17, a18⟩ := sB_ls
  have d0 := dec_len (g 0)
  have d1 := dec_len (g 1)
  have d2 := dec_len (g 2)
  have d3 := dec_len (g 3)
  have d4 := dec_len j
  unfold folkT
  simp only [List.length_append]
  omega
section LT
variable {N : Nat} {z : Nat → Nat} {b0 sb e c : Nat} {x0 x : Hp} {l : List Nat} {w n mm o : Nat} {P : Nat → Nat → Nat} {O : Nat → Option Nat} {G : Nat → Nat → Nat} {os : List (Nat → Nat)}
theorem Bu.cg {l' : List Nat} {e' c' : Nat} (h : Bu z b0 x0 sb l e c x) (hl : l' = l) (he : l.length ≤ e') (hc : c ≤ c') : Bu z b0 x0 sb l' e' c' x := by
  obtain ⟨h1, h2, h3, h4, h5, h6, h7⟩ := h
  subst hl
  exact ⟨h1, h2, h3, h4, he, by omega, Nat.le_trans h7 (Nat.add_le_add_right (Nat.add_le_add_left (Nat.mul_le_mul_left 5004 hc) _) _)⟩
theorem Bu.sim (h : Bu z b0 x0 sb l e c x) (S : SimR x0 o (mdOf w n mm P O G) os L96) (hE : simE o (mdOf w n mm P O G) os ≤ sb) : SimR x o (mdOf w n mm P O G) os L96 := S.ag h.2.2.2.1 ⟨Nat.zero_le _, hE⟩
theorem Bu.f {β : Type} {K : Int32 → Option β} {k g f q : Nat} (h : Bu z b0 x0 sb l e c x) (S : SimR x0 o (mdOf w n mm P O G) os L96) (hE : simE o (mdOf w n mm P O G) os ≤ sb) (hk : k < n) (hg : g = lf f) (hf : f = 80 ∨ (83 ≤ f ∧ f < 96)) (hv : laneA0 k (P k) f = nI q) : geti (some (o + 5 + 2 * k)) x 14 g K = K (nI q) := by
  have hl := (h.sim S hE).l hk
  have e1 := hl.g f g hg (by omega) (by show f < 96; omega)
  rw [geti_s hl.1, e1, ← hv]
  rfl
theorem Bu.g {β : Type} {K : Int32 → Option β} {j g : Nat} {F : Int32} (h : Bu z b0 x0 sb l e c x) (S : SimR x0 o (mdOf w n mm P O G) os L96) (hE : simE o (mdOf w n mm P O G) os ≤ sb) (hj : j < mm) (hF : F = nI g) (hg : g < 4) : (getr (some o) x 15 286 fun r => aldr r x 107 (nI j) fun r2 => aldi r2 x 101 F K) = K (nI (G j g)) := by
  have s := h.sim S hE
  rw [getr_s s.k, s.1.2.2.1, s.fa hj]
  have c : g = 0 ∨ g = 1 ∨ g = 2 ∨ g = 3 := by omega
  rcases c with c | c | c | c <;> subst c
  · rw [s.rf hj hF (Or.inl ⟨rfl, rfl⟩)]; rfl
  · rw [s.rf hj hF (Or.inr (Or.inl ⟨rfl, rfl⟩))]; rfl
  · rw [s.rf hj hF (Or.inr (Or.inr (Or.inl ⟨rfl, rfl⟩)))]; rfl
  · rw [s.rf hj hF (Or.inr (Or.inr (Or.inr (Or.inl ⟨rfl, rfl⟩))))]; rfl

theorem lane_89 {k38 : Nat → Option Nat → Int32 → Hp → Option (Option Nat × Hp)} {k : Nat} (h0 : Bu z b0 x0 sb l e c x) (S : SimR x0 o (mdOf w n mm P O G) os L96) (hE : simE o (mdOf w n mm P O G) os ≤ sb) (hk : k < n) (hP : LnOk (P k)) (he : e + 300 ≤ 2400) (hN : 2 ≤ N) : ∃ y, f_X12_text_b89 N z k38 o (some sb) (nI k) (some (o + 5 + 2 * k)) x = k38 o (some sb) (nI (k + 1)) y ∧ Bu z b0 x0 sb (l ++ laneT1 (P k)) (l.length + 54) (c + 13) y := by
  obtain ⟨p0, p1, p2, p3, p4, p5, p6⟩ := hP
  unfold f_X12_text_b89
  obtain ⟨y1, E1, h1⟩ := h0.s (N := N) (k := 5) (by decide) (by decide) (by omega)
  rw [E1]
  rw [h1.f S hE hk (g := 262) (f := 83) (q := P k 0) rfl (by decide) rfl]
  obtain ⟨y2, E2, h2⟩ := h1.i (N := N) (n := P k 0) (by omega) (by omega) hN
  rw [E2]
  obtain ⟨y3, E3, h3⟩ := h2.s (N := N) (k := 6) (by decide) (by decide) (by omega)
  rw [E3]
  rw [h3.f S hE hk (g := 263) (f := 84) (q := P k 1) rfl (by decide) rfl]
  obtain ⟨y4, E4, h4⟩ := h3.i (N := N) (n := P k 1) (by omega) (by omega) hN
  rw [E4]
  obtain ⟨y5, E5, h5⟩ := h4.s (N := N) (k := 7) (by decide) (by decide) (by omega)
  rw [E5]
  rw [h5.f S hE hk (g := 264) (f := 91) (q := P k 2) rfl (by decide) rfl]
  obtain ⟨y6, E6, h6⟩ := h5.i (N := N) (n := P k 2) (by omega) (by omega) hN
  rw [E6]
  obtain ⟨y7, E7, h7⟩ := h6.s (N := N) (k := 8) (by decide) (by decide) (by omega)
  rw [E7]
  rw [h7.f S hE hk (g := 265) (f := 92) (q := P k 3) rfl (by decide) rfl]
  obtain ⟨y8, E8, h8⟩ := h7.i (N := N) (n := P k 3) (by omega) (by omega) hN
  rw [E8]
  obtain ⟨y9, E9, h9⟩ := h8.s (N := N) (k := 9) (by decide) (by decide) (by omega)
  rw [E9]
  rw [h9.f S hE hk (g := 267) (f := 93) (q := P k 4) rfl (by decide) rfl]
  obtain ⟨y10, E10, h10⟩ := h9.i (N := N) (n := P k 4) (by omega) (by omega) hN
  rw [E10]
  obtain ⟨y11, E11, h11⟩ := h10.s (N := N) (k := 10) (by decide) (by decide) (by omega)
  rw [E11]
  rw [h11.f S hE hk (g := 268) (f := 94) (q := P k 5) rfl (by decide) rfl]
  by_cases d : P k 5 = 0
  · rw [if_pos (by rw [d]; rfl)]
    unfold f_X12_text_b169
    obtain ⟨u1, F1, g1⟩ := h11.s (N := N) (k := 12) (by decide) (by decide) (by omega)
    rw [F1]
    obtain ⟨u2, F2, g2⟩ := g1.s (N := N) (k := 13) (by decide) (by decide) (by omega)
    rw [F2, nI_1]
    have hl := laneT1_len (p := P k)
    have e0 : laneT1 (P k) = sB 5 ++ dec (P k 0) ++ sB 6 ++ dec (P k 1) ++ sB 7 ++ dec (P k 2) ++ sB 8 ++ dec (P k 3) ++ sB 9 ++ dec (P k 4) ++ sB 10 ++ sB 12 ++ sB 13 := by
      unfold laneT1
      rw [if_pos d]
    refine ⟨u2, rfl, g2.cg (by rw [e0]; simp) ?_ (by omega)⟩
    have : (l ++ laneT1 (P k)).length ≤ l.length + 54 := by rw [List.length_append]; omega
    rw [e0] at this
    simpa using this
  · rw [if_neg (show ¬ nI (P k 5) = (0 : Int32) from fun q => d ((nI_eq (b := 0) (by omega) (by decide)).mp q))]
    unfold f_X12_text_b169
    obtain ⟨u1, F1, g1⟩ := h11.s (N := N) (k := 11) (by decide) (by decide) (by omega)
    rw [F1]
    obtain ⟨u2, F2, g2⟩ := g1.s (N := N) (k := 13) (by decide) (by decide) (by omega)
    rw [F2, nI_1]
    have hl := laneT1_len (p := P k)
    have e0 : laneT1 (P k) = sB 5 ++ dec (P k 0) ++ sB 6 ++ dec (P k 1) ++ sB 7 ++ dec (P k 2) ++ sB 8 ++ dec (P k 3) ++ sB 9 ++ dec (P k 4) ++ sB 10 ++ sB 11 ++ sB 13 := by
      unfold laneT1
      rw [if_neg d]
    refine ⟨u2, rfl, g2.cg (by rw [e0]; simp) ?_ (by omega)⟩
    have : (l ++ laneT1 (P k)).length ≤ l.length + 54 := by rw [List.length_append]; omega
    rw [e0] at this
    simpa using this
theorem lanes_t (S : SimR x0 o (mdOf w n mm P O G) os L96) (hE : simE o (mdOf w n mm P O G) os ≤ sb) (hP : ∀ k, k < n → LnOk (P k)) (hO : ∀ k, k < n → ∀ j, O k = some j → j < k) (hn : n ≤ 5) (hN : 2 ≤ N) : ∀ (r f k : Nat) (x : Hp) (l : List Nat) (e c : Nat), Bu z b0 x0 sb l e c x → k + r = n → r < f → e + 72 * r + 400 ≤ 2400 → ∃ y, f_X12_text_b38 N z f o (some sb) (nI k) x = f_X12_text_b186 N z N o (some sb) 0 y ∧ Bu z b0 x0 sb (l ++ lanesT O P r k) (e + 72 * r) (c + 17 * r) y
  | r, 0, k, x, l, e, c, h, hk, hf, he => absurd hf (by omega)
  | 0, f + 1, k, x, l, e, c, h, hk, hf, he => by
    have s := h.sim S hE
    rw [f_X12_text_b38, getr_s s.k, s.rl, s.an, show m_n (mdOf w n mm P O G) = n from rfl, if_pos (nI_le (show n ≤ k by omega) (by omega))]
    exact ⟨x, rfl, h.cg (by simp [lanesT]) (by have := h.2.2.2.2.1; omega) (by omega)⟩
  | r + 1, f + 1, k, x, l, e, c, h, hk, hf, he => by
    have s := h.sim S hE
    have hkn : k < n := by omega
    have hle := h.2.2.2.2.1
    have tl := laneT_len (k := k) (u := O k) (p := P k)
    rw [f_X12_text_b38, getr_s s.k, s.rl, s.an, show m_n (mdOf w n mm P O G) = n from rfl, if_neg (nI_ge (show k < n from hkn) (by omega)), getr_s s.k, s.rl, s.al hkn]
    obtain ⟨y1, E1, h1⟩ := h.s (N := N) (k := 3) (by decide) (by decide) (by omega)
    rw [E1]
    obtain ⟨y2, E2, h2⟩ := h1.i (N := N) (n := k) (by omega) (by omega) hN
    rw [E2]
    have s2 := h2.sim S hE
    have l2 := s2.l hkn
    rw [getr_s l2.1, l2.2.2.1]
    have hO2 : m_O (mdOf w n mm P O G) k = O k := rfl
    cases hu : O k with
    | none =>
      rw [hO2, hu, if_pos (show lb o none = none from rfl)]
      obtain ⟨y, E, g⟩ := lane_89 (N := N) (k38 := f_X12_text_b38 N z f) h2 S hE hkn (hP k hkn) (by omega) hN
      obtain ⟨y', E', g'⟩ := lanes_t S hE hP hO hn hN r f (k + 1) y (l ++ laneT k (O k) (P k)) (e + 72) (c + 17) (g.cg (by rw [hu]; simp [laneT, undT]) (by
        have : (l ++ laneT k (O k) (P k)).length ≤ e + 72 := by rw [List.length_append]; omega
        rw [hu] at this
        simpa [laneT, undT] using this) (by omega)) (by omega) (by omega) (by omega)
      refine ⟨y', by rw [E, E'], g'.cg (by simp [lanesT]) ?_ (by omega)⟩
      have := g'.2.2.2.2.1
      omega
    | some j =>
      have hj : j < k := hO k hkn j hu
      rw [hO2, hu, show lb o (some j) = some (o + 5 + 2 * j) from rfl, if_neg (by simp)]
      obtain ⟨y3, E3, h3⟩ := h2.s (N := N) (k := 4) (by decide) (by decide) (by omega)
      rw [E3]
      have s3 := h3.sim S hE
      have l3 := s3.l hkn
      rw [getr_s l3.1, l3.2.2.1, hO2, hu, show lb o (some j) = some (o + 5 + 2 * j) from rfl, h3.f S hE (show j < n by omega) (g := 261) (f := 80) (q := j) rfl (by decide) rfl]
      obtain ⟨y4, E4, h4⟩ := h3.i (N := N) (n := j) (by omega) (by omega) hN
      rw [E4]
      obtain ⟨y, E, g⟩ := lane_89 (N := N) (k38 := f_X12_text_b38 N z f) h4 S hE hkn (hP k hkn) (by omega) hN
      obtain ⟨y', E', g'⟩ := lanes_t S hE hP hO hn hN r f (k + 1) y (l ++ laneT k (O k) (P k)) (e + 72) (c + 17) (g.cg (by rw [hu]; simp [laneT, undT]) (by
        have : (l ++ laneT k (O k) (P k)).length ≤ e + 72 := by rw [List.length_append]; omega
        rw [hu] at this
        simpa [laneT, undT] using this) (by omega)) (by omega) (by omega) (by omega)
      refine ⟨y', by rw [E, E'], g'.cg (by simp [lanesT]) ?_ (by omega)⟩
      have := g'.2.2.2.2.1
      omega
theorem folks_t (S : SimR x0 o (mdOf w n mm P O G) os L96) (hE : simE o (mdOf w n mm P O G) os ≤ sb) (hG : ∀ j, j < mm → FoOk n (G j)) (hn : n ≤ 5) (hm : mm ≤ 6) (hN : 2 ≤ N) : ∀ (r f j : Nat) (x : Hp) (l : List Nat) (e c : Nat), Bu z b0 x0 sb l e c x → j + r = mm → r < f → e + 43 * r + 400 ≤ 2400 → ∃ y, f_X12_text_b186 N z f o (some sb) (nI j) x = f_X12_text_b295 N z N (some sb) (some (o + 6 + 2 * n + mm)) (nI os.length) 0 y ∧ Bu z b0 x0 sb (l ++ folksT G r j) (e + 43 * r) (c + 11 * r) y
  | r, 0, j, x, l, e, c, h, hk, hf, he => absurd hf (by omega)
  | 0, f + 1, j, x, l, e, c, h, hk, hf, he => by
    have s := h.sim S hE
    obtain ⟨a1, a2, a3, a4, a5, a6, a7, a8, a9, a10, a11, a12⟩ := id s.1
    obtain ⟨b1, b2, b3, b4⟩ := id s.2.2.2.1
    rw [f_X12_text_b186, getr_s s.k, a3, alen_s a9, a10, show m_m (mdOf w n mm P O G) = mm from rfl, if_pos (nI_le (show mm ≤ j by omega) (by omega)), getr_s s.k, a4, alen_s b1, b2]
    exact ⟨x, rfl, h.cg (by simp [folksT]) (by have := h.2.2.2.2.1; omega) (by omega)⟩
  | r + 1, f + 1, j, x, l, e, c, h, hk, hf, he => by
    have s := h.sim S hE
    have hj : j < mm := by omega
    have hle := h.2.2.2.2.1
    have tl := folkT_len (j := j) (g := G j)
    obtain ⟨a1, a2, a3, a4, a5, a6, a7, a8, a9, a10, a11, a12⟩ := id s.1
    obtain ⟨q1, q2, q3, q4, q5, q6⟩ := hG j hj
    rw [f_X12_text_b186, getr_s s.k, a3, alen_s a9, a10, show m_m (mdOf w n mm P O G) = mm from rfl, if_neg (nI_ge (show j < mm from hj) (by omega))]
    obtain ⟨y1, E1, h1⟩ := h.s (N := N) (k := 14) (by decide) (by decide) (by omega)
    rw [E1]
    obtain ⟨y2, E2, h2⟩ := h1.i (N := N) (n := j) (by omega) (by omega) hN
    rw [E2]
    obtain ⟨y3, E3, h3⟩ := h2.s (N := N) (k := 15) (by decide) (by decide) (by omega)
    rw [E3]
    rw [h3.g S hE hj (F := 0) (g := 0) rfl (by decide)]
    obtain ⟨y4, E4, h4⟩ := h3.i (N := N) (n := G j 0) (by omega) (by omega) hN
    rw [E4]
    obtain ⟨y5, E5, h5⟩ := h4.s (N := N) (k := 16) (by decide) (by decide) (by omega)
    rw [E5]
    rw [h5.g S hE hj (F := 1) (g := 1) rfl (by decide)]
    obtain ⟨y6, E6, h6⟩ := h5.i (N := N) (n := G j 1) (by omega) (by omega) hN
    rw [E6]
    obtain ⟨y7, E7, h7⟩ := h6.s (N := N) (k := 17) (by decide) (by decide) (by omega)
    rw [E7]
    rw [h7.g S hE hj (F := 2) (g := 2) rfl (by decide)]
    obtain ⟨y8, E8, h8⟩ := h7.i (N := N) (n := G j 2) (by omega) (by omega) hN
    rw [E8]
    obtain ⟨y9, E9, h9⟩ := h8.s (N := N) (k := 18) (by decide) (by decide) (by omega)
    rw [E9]
    rw [h9.g S hE hj (F := 3) (g := 3) rfl (by decide)]
    obtain ⟨y10, E10, h10⟩ := h9.i (N := N) (n := G j 3) (by omega) (by omega) hN
    rw [E10]
    obtain ⟨y11, E11, h11⟩ := h10.s (N := N) (k := 2) (by decide) (by decide) (by omega)
    rw [E11]
    obtain ⟨y', E', g'⟩ := folks_t S hE hG hn hm hN r f (j + 1) y11 (l ++ folkT j (G j)) (e + 43) (c + 11) (h11.cg (by simp [folkT]) (by
      have : (l ++ folkT j (G j)).length ≤ e + 43 := by rw [List.length_append]; omega
      simpa [folkT] using this) (by omega)) (by omega) (by omega) (by omega)
    refine ⟨y', by rw [nI_1, E'], g'.cg (by simp [folksT]) ?_ (by omega)⟩
    have := g'.2.2.2.2.1
    omega
end LT
