/-! ===== the law's own minutes ===== -/
section LM
variable {N : Nat} {z : Nat → Nat} {b L : Nat} {xs : Nat → Int32} {Y o : Nat} {os : List (Nat → Nat)} {mi : Nat}
variable {k28 : Option Nat → Option Nat → Option Nat → Int32 → Hp → Option (Int32 × Hp)} {v0 : Option Nat} {v3 : Int32}
theorem Wd.nq {x y : Hp} {m : Md} {q : Nat} (h : Wd b L xs Y o os x m) (a : Ag x y 0 q) (hq : simE o m os ≤ q) (h6 : h_sz x ≤ h_sz y) : Wd b L xs Y o os y m := by
  have w8 := h.2.2.2.2.2.2.2.1
  have w9 := h.2.2.2.2.2.2.2.2.1
  have hE : o ≤ simE o m os := by unfold simE; omega
  exact h.to (a.wd (Nat.le_refl _) (by omega)) (h.2.2.2.1.ag a ⟨by omega, by omega⟩) (h.2.2.1.ag a ⟨by omega, by omega⟩) (h.2.2.2.2.2.1.ag a ⟨by omega, hq⟩) h.2.2.2.2.2.2.1 rfl rfl h6
theorem Wd.bk {x : Hp} {m : Md} (h : Wd b L xs Y o os x m) : BkO x (Y + 66) (m_n m) (os.map odOf) := h.2.2.2.2.1
theorem min_147 {m : Md} {q1 q2 : Nat} (i : IInv mi m) (hmi : mi ≤ 990) (hN : 401 ≤ N) (hk : ∀ y m' mi', Wd b L xs Y o os y m' → IInv mi' m' → mi ≤ mi' → mi' ≤ mi + 1 → m_n m' = m_n m → m_m m' = m_m m → True) : ∀ (n r c : Nat) (x : Hp), Wd b L xs Y o os x m → simE o m os ≤ q1 → simE o m os ≤ q2 → (h_k x q1 = 101 ∧ h_n x q1 = m_n m ∧ ∀ j, j < m_n m → h_ai x q1 j = m_A m j 86) → (h_k x q2 = 101 ∧ h_n x q2 = 12 ∧ ∀ j, 5 ≤ j → j < c → h_ai x q2 j = tallyM (passM (os.map odOf) m).1 os.length j) → q1 ≠ q2 → c + r = 12 → 5 ≤ c → r < n → ∃ y m', f_L_law_b147 N z k28 n v0 (some Y) (some o) v3 (nI (m_n m)) (some q1) (some q2) (nI c) x = k28 v0 (some Y) (some o) (v3 + 1) y ∧ Wd b L xs Y o os y m' ∧ IInv (mi + 1) m' ∧ m_n m' = m_n m ∧ m_m m' = m_m m ∧ h_sz y = h_sz x ∧ h_sl y = h_sl x
  | 0, r, c, x, h, l1, l2, hq1, hq2, hne, hc, h5, hr => absurd hr (by omega)
  | n + 1, 0, c, x, h, l1, l2, hq1, hq2, hne, hc, h5, hr => by
    have hb := h.2.1
    have hS := h.2.2.1
    have hB := h.bk
    have hR := h.2.2.2.2.2.1
    have hC := h.2.2.2.2.2.2.1
    have w8 := h.2.2.2.2.2.2.2.1
    have hO := h.2.2.2.2.2.2.2.2.2.1
    have hE : o ≤ simE o m os := by unfold simE; omega
    have e7 : f_X10_count N z Y 7 x = some (s86 m, x) := by rw [← s86_7 m (os.map odOf).length]; exact c_count (w := 7) hb hS hB (by decide) (by omega)
    obtain ⟨y, c1, c2, c3, c4, c5⟩ := c_pass (N := N) (z := z) (c := 1) hN (stay_s hO) hb hS hB ⟨⟨mi, _, i⟩, hC, rfl⟩ (by omega) (by omega)
    have c1' : f_X10_pass N z Y 1 x = some (0 + nI (passM (os.map odOf) m).2, y) := c1
    have c2' : Site y (Y + 90) (Y + 66) (passM (os.map odOf) m).1 := c2
    obtain ⟨w, a1, a2, a3, a4, a5, a6, a7, a8, a9, a10, a11⟩ := pass_facts (os.map odOf) i hC
    have hRy := hR.fr c5 (by omega)
    obtain ⟨u, d1, d2, d3⟩ := law_passI (N := N) (z := z) hRy i hC hO (by omega) (by omega)
    have g1 : Ag x u 0 (Y + 90) := (c5.ag (by omega)).tr (d3.ag (by omega))
    have g2 : Ag x u (Y + 121) (Y + 152) := (c5.ag (by omega)).tr (d3.ag (by omega))
    have hsz : h_sz u = h_sz x := d3.1.trans c5.1
    have hW : Wd b L xs Y o os u (passM (os.map odOf) m).1 := h.to g1 (h.2.2.2.1.ag g2 ⟨by omega, by omega⟩) (c2'.fr d3 (by omega)) d2 a10 a7 a8 (by omega)
    have gq : ∀ q, simE o m os ≤ q → Ag x u q (q + 1) := fun q hq => (c5.ag (by omega)).tr (d3.ag (by omega))
    have i' := i.ps (os.map odOf)
    have hq1' : h_k u q1 = 101 ∧ h_n u q1 = m_n (passM (os.map odOf) m).1 ∧ ∀ j, j < m_n (passM (os.map odOf) m).1 → h_ai u q1 j = m_A m j 86 := by
      have g := gq q1 l1
      refine ⟨(g.k ⟨by omega, by omega⟩).trans hq1.1, ((g.n ⟨by omega, by omega⟩).trans hq1.2.1).trans a7.symm, fun j hj => ?_⟩
      rw [g.ai ⟨by omega, by omega⟩]
      exact hq1.2.2 j (by omega)
    have hq2' : h_k u q2 = 101 ∧ h_n u q2 = 12 ∧ ∀ j, 5 ≤ j → j < 12 → h_ai u q2 j = tallyM (passM (os.map odOf) m).1 os.length j := by
      have g := gq q2 l2
      refine ⟨(g.k ⟨by omega, by omega⟩).trans hq2.1, (g.n ⟨by omega, by omega⟩).trans hq2.2.1, fun j j5 hj => ?_⟩
      rw [g.ai ⟨by omega, by omega⟩]
      exact hq2.2.2 j j5 (by omega)
    have h86 : s86 (passM (os.map odOf) m).1 = s86 m + nI (passM (os.map odOf) m).2 := by
      unfold s86
      rw [a7]
      exact a6
    have fin := chk_194 (k28 := k28) (v0 := v0) (v3 := v3) (z := z) (m0 := m) (v8 := s86 m) (w := w) (s := (passM (os.map odOf) m).2) (q1 := q1) (q2 := q2) (mj := mi) hW i' a7 a9 (fun k hk => by
        obtain ⟨a, M, f1, f2, f3, f4, f5⟩ := a11 k (by omega)
        exact ⟨a, M, f1, f2, f3, f4, fun q1 q2 q3 q4 q5 => f5 q1 q2 q3 (by rw [← a9]; exact q4) q5⟩) a5 a3 h86 a4 a1 hq1' hq2' (pass_qu (os.map odOf) i) (by omega) (by omega) hN N 7 5 (by omega) (by omega) (by omega)
    rw [a7] at fin
    refine ⟨u, _, ?_, hW, i', a7, a8, hsz, d3.2.1.trans c5.2.1⟩
    rw [f_L_law_b147, show (12 : Int32) = nI 12 from rfl, if_pos (nI_le (by omega) (by omega)), obj_s hb.1, e7, bnd_s, obj_s hb.1, c1', bnd_s, obj_s hRy.k, d1, bnd_s, Int32.zero_add]
    exact fin
  | n + 1, r + 1, c, x, h, l1, l2, hq1, hq2, hne, hc, h5, hr => by
    have hb := h.2.1
    have hS := h.2.2.1
    have hB := h.bk
    have hC := h.2.2.2.2.2.2.1
    have w8 := h.2.2.2.2.2.2.2.1
    have hE : o ≤ simE o m os := by unfold simE; omega
    obtain ⟨w, a1, a2, a3, a4, a5, a6, a7, a8, a9, a10, a11⟩ := pass_facts (os.map odOf) i hC
    obtain ⟨y, e1, e2, e3⟩ := c_foresee (N := N) (z := z) (w := c) hN hb hS h.2.2.2.1 hB hC i.wf a7 h5 (by omega)
    have hR := h.2.2.2.2.2.1
    have hy : Wd b L xs Y o os y m := h.to (e3.ag (by omega)) e2 (hS.fr e3 (by omega)) (hR.fr e3 (by omega)) hC rfl rfl (by rw [e3.1]; omega)
    have gq : ∀ q, simE o m os ≤ q → Ag x y q (q + 1) := fun q hq => e3.ag (by omega)
    have k2 : h_k y q2 = 101 := ((gq q2 l2).k ⟨by omega, by omega⟩).trans hq2.1
    have n2 : h_n y q2 = 12 := ((gq q2 l2).n ⟨by omega, by omega⟩).trans hq2.2.1
    have hW : Wd b L xs Y o os (p_ai y q2 c (tallyM (passM (os.map odOf) m).1 (os.map odOf).length c)) m := hy.nq (pai_ag (Or.inl (Nat.le_refl q2))) l2 (Nat.le_refl _)
    obtain ⟨u, m', f1, f2, f3, f4, f5, f6, f7⟩ := min_147 i hmi hN hk n r (c + 1) _ hW l1 l2 (by
        have g := gq q1 l1
        refine ⟨(g.k ⟨by omega, by omega⟩).trans hq1.1, (g.n ⟨by omega, by omega⟩).trans hq1.2.1, fun j hj => ?_⟩
        simp only [HPAI]
        rw [if_neg (fun q => hne q.1), g.ai ⟨by omega, by omega⟩]
        exact hq1.2.2 j hj) (by
        have g := gq q2 l2
        refine ⟨k2, n2, fun j j5 hj => ?_⟩
        simp only [HPAI]
        by_cases d : j = c
        · rw [if_pos ⟨trivial, d⟩, d, List.length_map]
        · rw [if_neg (fun q => d q.2), g.ai ⟨by omega, by omega⟩]
          exact hq2.2.2 j j5 (by omega)) hne (by omega) (by omega) (by omega)
    refine ⟨u, m', ?_, f2, f3, f4, f5, f6.trans e3.1, f7.trans e3.2.1⟩
    rw [f_L_law_b147, show (12 : Int32) = nI 12 from rfl, if_neg (nI_ge (by omega) (by omega)), obj_s hb.1, e1, bnd_s, asti_s k2 (by omega) (by omega), nI_1]
    exact f1
theorem min_112 {m : Md} {q1 : Nat} (i : IInv mi m) (hmi : mi ≤ 990) (hN : 401 ≤ N) : ∀ (n r t : Nat) (x : Hp), Wd b L xs Y o os x m → simE o m os ≤ q1 → q1 < h_sz x → (h_k x q1 = 101 ∧ h_n x q1 = m_n m ∧ ∀ j, j < t → h_ai x q1 j = m_A m j 86) → t + r = m_n m → r < n → ∃ y m', f_L_law_b112 N z k28 n v0 (some Y) (some o) v3 (nI (m_n m)) (some q1) (nI t) x = k28 v0 (some Y) (some o) (v3 + 1) y ∧ Wd b L xs Y o os y m' ∧ IInv (mi + 1) m' ∧ m_n m' = m_n m ∧ m_m m' = m_m m ∧ h_sz y = h_sz x + 1 ∧ h_sl y = h_sl x + 12
  | 0, r, t, x, h, l1, lz, hq1, ht, hr => absurd hr (by omega)
  | n + 1, 0, t, x, h, l1, lz, hq1, ht, hr => by
    have h6 := h.2.2.1.2.1
    have w9 := h.2.2.2.2.2.2.2.2.1
    have ag : Ag x (p_n x 101 12 12) 0 (h_sz x) := pn_ag (Nat.le_refl _)
    obtain ⟨y, m', e1, e2, e3, e4, e5, e6, e7⟩ := min_147 (N := N) (z := z) (k28 := k28) (v0 := v0) (v3 := v3) (q1 := q1) (q2 := h_sz x) i hmi hN (fun _ _ _ _ _ _ _ _ _ => trivial) N 7 5 (p_n x 101 12 12) (h.nw ag (Nat.le_succ _)) l1 w9 (by
        refine ⟨(ag.k ⟨by omega, lz⟩).trans hq1.1, (ag.n ⟨by omega, lz⟩).trans hq1.2.1, fun j hj => ?_⟩
        rw [ag.ai ⟨by omega, lz⟩]
        exact hq1.2.2 j (by omega)) ⟨pn_k, pn_n, fun j j5 hj => absurd hj (by omega)⟩ (by omega) (by omega) (by omega) (by omega)
    refine ⟨y, m', ?_, e2, e3, e4, e5, e6, e7⟩
    rw [f_L_law_b112, if_pos (nI_le (by omega) (by omega)), show (12 : Int32) = nI 12 from rfl, newa_s (by decide)]
    exact e1
  | n + 1, r + 1, t, x, h, l1, lz, hq1, ht, hr => by
    have hb := h.2.1
    have hS := h.2.2.1
    have h6 := hS.2.1
    have e8 : f_X10_lane N z Y (nI t) 8 x = some (m_A m t 86, x) := c_lane (w := 8) hb hS (by omega) (by decide)
    obtain ⟨y, m', e1, e2, e3, e4, e5, e6, e7⟩ := min_112 i hmi hN n r (t + 1) (p_ai x q1 t (m_A m t 86)) (h.nq (pai_ag (Or.inl (Nat.le_refl q1))) l1 (Nat.le_refl _)) l1 lz ⟨hq1.1, hq1.2.1, fun j hj => by
        simp only [HPAI]
        by_cases d : j = t
        · rw [if_pos ⟨trivial, d⟩, d]
        · rw [if_neg (fun q => d q.2)]
          exact hq1.2.2 j (by omega)⟩ (by omega) (by omega)
    refine ⟨y, m', ?_, e2, e3, e4, e5, e6, e7⟩
    rw [f_L_law_b112, if_neg (nI_ge (by omega) (by omega)), obj_s hb.1, e8, bnd_s, asti_s hq1.1 (by rw [hq1.2.1]; omega) (by rw [hq1.2.1]; omega), nI_1]
    exact e1
theorem min_60 {v4 : Int32} (hN : 401 ≤ N) : ∀ (n r c : Nat) (x : Hp) (m : Md) (mi : Nat), Wd b L xs Y o os x m → IInv mi m → mi + 6 * r ≤ 990 → c + r = 2 → r < n → ∃ y m' mi', f_L_law_b60 N z k28 n v0 (some Y) (some o) v3 v4 (nI c) x = k28 v0 (some Y) (some o) (v3 + 1) y ∧ Wd b L xs Y o os y m' ∧ IInv mi' m' ∧ mi' ≤ mi + 6 * r + 1 ∧ m_n m' = m_n m ∧ m_m m' = m_m m ∧ h_sz y ≤ h_sz x + 2 * r + 2 ∧ h_sl y ≤ h_sl x + 26 * r + 18
  | 0, r, c, x, m, mi, h, i, hmi, hc, hr => absurd hr (by omega)
  | n + 1, 0, c, x, m, mi, h, i, hmi, hc, hr => by
    have hb := h.2.1
    have hS := h.2.2.1
    have h6 := hS.2.1
    have w9 := h.2.2.2.2.2.2.2.2.1
    have e2 : f_X10_count N z Y 2 x = some (nI (m_n m), x) := c_count (w := 2) hb hS h.bk (by decide) (by omega)
    obtain ⟨y, m', e3, e4, e5, e6, e7, e8, e9⟩ := min_112 (N := N) (z := z) (k28 := k28) (v0 := v0) (v3 := v3) (q1 := h_sz x) i (by omega) hN N (m_n m) 0 (p_n x 101 (m_n m) (m_n m)) (h.nw (pn_ag (Nat.le_refl _)) (Nat.le_succ _)) w9 (Nat.lt_succ_self _) ⟨pn_k, pn_n, fun j hj => absurd hj (by omega)⟩ (by omega) (by omega)
    have s1 : h_sz (p_n x 101 (m_n m) (m_n m)) = h_sz x + 1 := rfl
    have s2 : h_sl (p_n x 101 (m_n m) (m_n m)) = h_sl x + m_n m := rfl
    refine ⟨y, m', mi + 1, ?_, e4, e5, by omega, e6, e7, by omega, by omega⟩
    rw [f_L_law_b60, show (2 : Int32) = nI 2 from rfl, if_pos (nI_le (by omega) (by omega)), obj_s hb.1]
    rw [show (nI 2 : Int32) = 2 from rfl, e2, bnd_s, newa_s (by omega), show (0 : Int32) = nI 0 from rfl]
    exact e3
  | n + 1, r + 1, c, x, m, mi, h, i, hmi, hc, hr => by
    obtain ⟨y, e1, m', mi', e2, e3, e4, e5, e6, e7, e8, e9⟩ := act_s (N := N) (z := z) ((v4 >>> (((2 : Int32) * nI c) &&& 31)) + ((311 : Int32) * nI c)) h i (by omega) hN
    obtain ⟨u, m2, mj, d1, d2, d3, d4, d5, d6, d7, d8⟩ := min_60 hN n r (c + 1) y m' mi' e2 e3 (by omega) (by omega) (by omega)
    refine ⟨u, m2, mj, ?_, d2, d3, by omega, d5.trans e6, d6.trans e7, by omega, by omega⟩
    have hcond : ¬ (2 : Int32) ≤ nI c := fun q => absurd q (show ¬ nI 2 ≤ nI c from nI_ge (by omega) (by omega))
    rw [f_L_law_b60, if_neg hcond, e1, bnd_s, if_neg (by decide), nI_1]
    exact d1
end LM
