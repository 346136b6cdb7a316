/-! ===== lanes, folk and orders that cells choose ===== -/
theorem PI.ag {x y : Hp} {a lo hi : Nat} (h : PI x y a) (h1 : hi ≤ a ∨ a < lo) : Ag x y lo hi := fun q q1 q2 => by
  obtain ⟨a1, a2, a3, a4, a5, a6, a7, a8, a9⟩ := h
  exact ⟨by rw [a1], by rw [a2], fun f => a9 f q (by omega), fun f => by rw [a3], by rw [a4], by rw [a5], by rw [a6]⟩
section C2
variable {N : Nat} {z : Nat → Nat} {b L : Nat}
/-- the law's site while it is chosen -/
def ChB (x : Hp) (o w n : Nat) : Prop := h_k x o = 15 ∧ h_r x 285 o = some (o + 4) ∧ h_k x (o + 4) = 106 ∧ h_n x (o + 4) = n ∧ h_i x 280 o = 0 ∧ h_i x 281 o = nI w ∧ h_i x 282 o = 0 ∧ h_i x 283 o = 0 ∧ h_i x 284 o = 0
theorem ChB.ag {x y : Hp} {o w n lo hi : Nat} (h : ChB x o w n) (g : Ag x y lo hi) (h1 : lo ≤ o ∧ o + 5 ≤ hi) : ChB y o w n := by
  obtain ⟨a1, a2, a3, a4, a5, a6, a7, a8, a9⟩ := h
  exact ⟨(g.k (by omega)).trans a1, (g.r (by omega)).trans a2, (g.k (by omega)).trans a3, (g.n (by omega)).trans a4, (g.i (by omega)).trans a5, (g.i (by omega)).trans a6, (g.i (by omega)).trans a7, (g.i (by omega)).trans a8, (g.i (by omega)).trans a9⟩
def ChL (x : Hp) (o k : Nat) (P : Nat → Nat → Nat) (O : Nat → Option Nat) : Prop := ∀ i, i < k → h_ar x (o + 4) i = some (o + 5 + 2 * i) ∧ LawL 96 x (o + 5 + 2 * i) (laneA0 i (P i)) [] (lb o (O i)) ∧ LnOk (P i) ∧ ∀ j, O i = some j → j < i
theorem ChL.ag {x y : Hp} {o k lo hi : Nat} {P : Nat → Nat → Nat} {O : Nat → Option Nat} (h : ChL x o k P O) (g : Ag x y lo hi) (h1 : lo ≤ o + 4 ∧ o + 5 + 2 * k ≤ hi) : ChL y o k P O := fun i hi => by
  obtain ⟨a1, a2, a3, a4⟩ := h i hi
  exact ⟨by rw [g.ar (by omega)]; exact a1, a2.ag g (by omega), a3, a4⟩
/-- the script stays -/
def Scp (x : Hp) (b L : Nat) : Prop := h_k x b = 301 ∧ h_n x b = L ∧ L < 2 ^ 31
theorem Scp.ag {x y : Hp} {lo hi : Nat} (h : Scp x b L) (g : Ag x y lo hi) (h1 : lo ≤ b ∧ b < hi) : Scp y b L := ⟨(g.k h1).trans h.1, (g.n h1).trans h.2.1, h.2.2⟩
theorem Scp.cell {x : Hp} (h : Scp x b L) {k : Nat} (hk : k < 2 ^ 31) : ∃ c, f_L_cell N z (some b) (nI k) x = some (c, x) := cell_s h.1 h.2.1 h.2.2 hk
theorem fin_lane {k : Nat} {p : Nat → Nat} {f : Nat} (hf : flL 96 f) : fin64 (up1 (fun _ => 0) 261 (nI k)) p (lf f) = laneA0 k p f := by
  have c : f = 80 ∨ f = 83 ∨ f = 84 ∨ f = 85 ∨ f = 86 ∨ f = 87 ∨ f = 88 ∨ f = 89 ∨ f = 90 ∨ f = 91 ∨ f = 92 ∨ f = 93 ∨ f = 94 ∨ f = 95 := by
    have := hf.1
    have := hf.2
    unfold fl at *
    omega
  rcases c with c | c | c | c | c | c | c | c | c | c | c | c | c | c <;> subst c <;> rfl
theorem lanes_l {o w n : Nat} (hbo : b < o) (hn1 : 1 ≤ n) (hn5 : n ≤ 5) (hN : 401 ≤ N) (k315 : Nat → Nat → Hp → Option (Option Nat × Hp)) (hk315 : ∀ m x, k315 m n x = f_L_chosen_b315 N z N (some b) (some o) (nI n) (nI m) (nI 0) x) : ∀ (r fu k : Nat) (x : Hp) (P : Nat → Nat → Nat) (O : Nat → Option Nat), Scp x b L → ChB x o w n → ChL x o k P O → h_sz x = o + 5 + 2 * k → k + r = n → r < fu → ∃ y P O m, f_L_chosen_b58 N z fu (some b) (some o) (nI n) (nI k) x = k315 m n y ∧ 1 ≤ m ∧ m ≤ 6 ∧ Scp y b L ∧ ChB y o w n ∧ ChL y o n P O ∧ h_r y 286 o = some (o + 5 + 2 * n) ∧ h_k y (o + 5 + 2 * n) = 107 ∧ h_n y (o + 5 + 2 * n) = m ∧ h_sz y = o + 6 + 2 * n ∧ h_sl y ≤ h_sl x + 79 * r + 6 ∧ Ag x y 0 o
  | r, 0, k, x, P, O, hs, hB, hL, hz, hk, hr => absurd hr (by omega)
  | 0, fu + 1, k, x, P, O, hs, hB, hL, hz, hk, hr => by
    have e : k = n := by omega
    subst e
    obtain ⟨c, c1⟩ := hs.cell (N := N) (z := z) (k := 8) (by decide)
    have c1' : f_L_cell N z (some b) 8 x = some (c, x) := c1
    obtain ⟨q, q1, q2⟩ := below_s (N := N) (z := z) c (k := 6) (by decide) (by decide)
    have q2' : ∀ x : Hp, f_L_below N z c 6 x = some (nI q, x) := q2
    obtain ⟨u, hu⟩ : ∃ u, u = p_r (p_n x 107 (1 + q) (1 + q)) 286 o (some (o + 5 + 2 * k)) := ⟨_, rfl⟩
    have g1 : ∀ lo hi, hi ≤ o + 5 + 2 * k → (hi ≤ o ∨ o < lo) → Ag x u lo hi := fun lo hi h1 h2 => by rw [hu]; exact (pn_ag (by omega)).tr (pr_ag h2)
    have ko : h_k (p_n x 107 (1 + q) (1 + q)) o = 15 := by rw [pnk, if_neg (by omega)]; exact hB.1
    have hBu : ChB u o w k := by
      obtain ⟨a1, a2, a3, a4, a5, a6, a7, a8, a9⟩ := hB
      have g5 := g1 (o + 1) (o + 5) (by omega) (by omega)
      have i0 : ∀ f, h_i u f o = h_i x f o := fun f => by rw [hu]; show h_i (p_n x 107 (1 + q) (1 + q)) f o = _; rw [pni, if_neg (by omega)]
      exact ⟨by rw [hu]; exact ko, by rw [hu, p_r_ne (by decide), pnr, if_neg (by omega)]; exact a2, (g5.k (by omega)).trans a3, (g5.n (by omega)).trans a4, (i0 _).trans a5, (i0 _).trans a6, (i0 _).trans a7, (i0 _).trans a8, (i0 _).trans a9⟩
    refine ⟨u, P, O, 1 + q, ?_, by omega, by omega, hs.ag (g1 0 o (by omega) (by omega)) ⟨Nat.zero_le _, hbo⟩, hBu, hL.ag (g1 (o + 4) (o + 5 + 2 * k) (Nat.le_refl _) (by omega)) ⟨Nat.le_refl _, Nat.le_refl _⟩, by rw [hu]; exact p_r_eq, ?_, ?_, ?_, ?_, g1 0 o (by omega) (by omega)⟩
    · rw [f_L_chosen_b58, if_pos (nI_le (Nat.le_refl _) (by omega)), c1', bnd_s, q2', bnd_s, show (1 : Int32) = nI 1 from rfl, nI_add, newa_s (by omega), hz, putr_s ko, ← hu, hk315]
      rfl
    · rw [hu]; show h_k (p_n x 107 (1 + q) (1 + q)) (o + 5 + 2 * k) = 107; rw [pnk, if_pos hz.symm]
    · rw [hu]; show h_n (p_n x 107 (1 + q) (1 + q)) (o + 5 + 2 * k) = 1 + q; rw [pnn, if_pos hz.symm]
    · rw [hu]; show h_sz x + 1 = _; omega
    · rw [hu]; show h_sl x + (1 + q) ≤ _; omega
  | r + 1, fu + 1, k, x, P, O, hs, hB, hL, hz, hk, hr => by
    obtain ⟨c, c1⟩ := hs.cell (N := N) (z := z) (k := 2 + k) (by omega)
    obtain ⟨a, ha⟩ : ∃ a, a = o + 5 + 2 * k := ⟨_, rfl⟩
    have hz' : h_sz x = a := by omega
    obtain ⟨x1, hx1⟩ : ∃ x1, x1 = p_n x 14 0 19 := ⟨_, rfl⟩
    have z1 : h_sz x1 = a + 1 := by rw [hx1]; show h_sz x + 1 = _; omega
    have k1 : h_k x1 a = 14 := by rw [hx1, pnk, if_pos hz'.symm]
    have k2 : h_k (p_n x1 101 60 60) a = 14 := by rw [pnk, if_neg (by omega)]; exact k1
    obtain ⟨x2, hx2⟩ : ∃ x2, x2 = p_i (p_r (p_n x1 101 60 60) 269 a (some (a + 1))) 261 a (nI k) := ⟨_, rfl⟩
    have e2 : f_X11_init N z a x1 = some ((), p_r (p_n x1 101 60 60) 269 a (some (a + 1))) := by
      unfold f_X11_init
      rw [nn_s, show (60 : Int32) = nI 60 from rfl, newa_s (by decide), z1, putr_s k2]
    have k14 : h_k x2 a = 14 := by rw [hx2]; exact k2
    have r269 : h_r x2 269 a = some (a + 1) := by rw [hx2]; exact p_r_eq
    have kp : h_k x2 (a + 1) = 101 := by rw [hx2]; show h_k (p_n x1 101 60 60) (a + 1) = 101; rw [pnk, if_pos z1.symm]
    have np : h_n x2 (a + 1) = 60 := by rw [hx2]; show h_n (p_n x1 101 60 60) (a + 1) = 60; rw [pnn, if_pos z1.symm]
    have fs : Fs x2 a (up1 (fun _ => 0) 261 (nI k)) := by
      refine ⟨k14, fun f => ?_⟩
      rw [hx2, p_i_i, up1]
      by_cases q : f = 261
      · rw [if_pos ⟨q, rfl⟩, if_pos q]
      · rw [if_neg (fun p => q p.1), if_neg q]
        show h_i (p_n x1 101 60 60) f a = 0
        rw [pni, if_neg (by omega), hx1, pni, if_pos hz'.symm]
    have G2 : Ag x x2 0 a := by
      rw [hx2, hx1]
      exact (((pn_ag (by omega)).tr (pn_ag (by show a ≤ h_sz x + 1; omega))).tr (pr_ag (by omega))).tr (pi_ag (by omega))
    have hB2 := hB.ag G2 ⟨Nat.zero_le _, by omega⟩
    have hL2 := hL.ag G2 ⟨by omega, by omega⟩
    have hs2 := hs.ag G2 ⟨Nat.zero_le _, by omega⟩
    have s2 : h_sz x2 = a + 2 := by rw [hx2]; show h_sz x1 + 1 = _; omega
    have l2 : h_sl x2 = h_sl x + 79 := by rw [hx2]; show h_sl x1 + 60 = _; rw [hx1]; rfl
    -- with the lane over it
    have fin : ∀ (ov : Option Nat), (∀ j, ov = some j → j < k) → ∃ y P O m, f_L_chosen_b124 N z (f_L_chosen_b58 N z fu) (some b) (some o) (nI n) (nI k) (c + (127 : Int32) * nI k) (some a) (lb o ov) (some a) x2 = k315 m n y ∧ 1 ≤ m ∧ m ≤ 6 ∧ Scp y b L ∧ ChB y o w n ∧ ChL y o n P O ∧ h_r y 286 o = some (o + 5 + 2 * n) ∧ h_k y (o + 5 + 2 * n) = 107 ∧ h_n y (o + 5 + 2 * n) = m ∧ h_sz y = o + 6 + 2 * n ∧ h_sl y ≤ h_sl x + 79 * (r + 1) + 6 ∧ Ag x y 0 o := by
      intro ov hov
      obtain ⟨y, p, d1, d2, d3, d4⟩ := ch_124 (N := N) (z := z) (k58 := f_L_chosen_b58 N z fu) (v0 := some b) (v2 := nI n) (v4 := c + (127 : Int32) * nI k) (o := o) (k := k) (n := n) (ov := lb o ov) fs hB2.1 hB2.2.1 hB2.2.2.1 hB2.2.2.2.1 (by omega) hn5
      have gy : ∀ lo hi, (hi ≤ a ∨ a < lo) → Ag x2 y lo hi := fun lo hi h => (pr_ag h).tr (d4.ag h)
      obtain ⟨u, hu⟩ : ∃ u, u = p_ar y (o + 4) k (some a) := ⟨_, rfl⟩
      have gu : ∀ lo hi, (hi ≤ a ∨ a < lo) → (hi ≤ o + 4 ∨ o + 4 < lo) → Ag x2 u lo hi := fun lo hi h h' => by rw [hu]; exact (gy lo hi h).tr (par_ag h')
      have hBu : ChB u o w n := by
        have g := gy o (o + 5) (by omega)
        have hBy := hB2.ag g ⟨Nat.le_refl _, Nat.le_refl _⟩
        obtain ⟨a1, a2, a3, a4, a5, a6, a7, a8, a9⟩ := hBy
        rw [hu]
        exact ⟨a1, a2, a3, a4, a5, a6, a7, a8, a9⟩
      have hLu : ChL u o (k + 1) (up1 P k p) (up1 O k ov) := by
        intro i hi
        by_cases q : i = k
        · subst q
          rw [up1_eq, up1_eq]
          refine ⟨by rw [hu]; simp only [HPAR]; rw [if_pos ⟨trivial, trivial⟩, ha], ?_, d2, hov⟩
          obtain ⟨b1, b2, b3, b4, b5, b6, b7, b8, b9⟩ := d4
          rw [← ha, hu]
          refine ⟨d3.1, ?_, ?_, ?_, ?_, by simp, ?_, fun j hj => absurd hj (by simp), fun f hf => ?_⟩
          · show h_r y 269 a = some (a + 1)
            rw [b3, p_r_ne (by decide)]; exact r269
          · show h_r y 260 a = lb o ov
            rw [b3]; exact p_r_eq
          · show h_k y (a + 1) = 101
            rw [b1]; exact kp
          · show h_n y (a + 1) = 60
            rw [b2]; exact np
          · show h_i y 270 a = nI ([] : List Int32).length
            rw [d3.2]; rfl
          · show h_i y (lf f) a = _
            rw [d3.2]
            exact fin_lane hf
        · rw [up1_ne q, up1_ne q]
          obtain ⟨a1, a2, a3, a4⟩ := hL2 i (by omega)
          refine ⟨?_, a2.ag (gu (o + 5) a (by omega) (by omega)) ⟨by omega, by omega⟩, a3, a4⟩
          rw [hu]
          simp only [HPAR]
          rw [if_neg (fun p => q p.2), (gy (o + 4) (o + 5) (by omega)).ar (by omega)]
          exact a1
      have hsu : h_sz u = a + 2 ∧ h_sl u = h_sl x + 79 := by
        obtain ⟨b1, b2, b3, b4, b5, b6, b7, b8, b9⟩ := d4
        rw [hu]
        exact ⟨b7.trans s2, b8.trans l2⟩
      have g0 : Ag x2 u 0 o := gu 0 o (by omega) (by omega)
      obtain ⟨w', P', O', m, f1, f2, f3, f4, f5, f6, f7, f8, f9, f10, f11, f12⟩ := lanes_l hbo hn1 hn5 hN k315 hk315 r fu (k + 1) u _ _ (hs2.ag g0 ⟨Nat.zero_le _, hbo⟩) hBu hLu (by omega) (by omega) (by omega)
      refine ⟨w', P', O', m, ?_, f2, f3, f4, f5, f6, f7, f8, f9, f10, by omega, ((G2.wd (Nat.le_refl _) (by omega)).tr g0).tr f12⟩
      rw [d1, ← hu]
      exact f1
    rw [f_L_chosen_b58, if_neg (nI_ge (by omega) (by omega)), show (2 : Int32) = nI 2 from rfl, nI_add, c1, bnd_s, newo_s, hz', ← hx1, obj_s k1, e2, bnd_s, puti_s (by exact k2), ← hx2]
    unfold f_L_chosen_b107
    by_cases q : nI k = 0
    · rw [if_pos q]
      exact fin none (fun j hj => by simp at hj)
    · rw [if_neg q]
      have hk0 : 0 < k := by
        by_cases e : k = 0
        · subst e; exact absurd rfl q
        · omega
      obtain ⟨e, e1, e2⟩ := below_s (N := N) (z := z) (c + (127 : Int32) * nI k) (k := 3) (by decide) (by decide)
      have e2' : ∀ x : Hp, f_L_below N z (c + (127 : Int32) * nI k) 3 x = some (nI e, x) := e2
      rw [e2', bnd_s]
      by_cases q2 : nI e = 0
      · rw [if_pos q2]
        exact fin none (fun j hj => by simp at hj)
      · rw [if_neg q2]
        obtain ⟨j, j1, j2⟩ := below_s (N := N) (z := z) ((c + (127 : Int32) * nI k) >>> ((1 : Int32) &&& 31)) (k := k) hk0 (by omega)
        rw [getr_s hB2.1, hB2.2.1, j2, bnd_s, aldr_s hB2.2.2.1 (by rw [hB2.2.2.2.1]; omega) (by rw [hB2.2.2.2.1]; omega), (hL2 j (by omega)).1]
        exact fin (some j) (fun i hi => by injection hi with e; omega)
end C2
