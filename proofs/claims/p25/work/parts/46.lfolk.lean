/-! ===== the law's folk, its whole minute ===== -/
theorem tkP_sV (m : Md) (k : Nat) (w : Int32) : tkP (sV m 169 w) k = sV (tkP m k) 169 w := by
  unfold tkP
  simp only [sV_x]
  rw [up1_ne (by decide)]
  rfl
theorem takeN_sV : ∀ (r : Nat) (m : Md) (k : Nat) (w : Int32), takeN r (sV m 169 w) k = sV (takeN r m k) 169 w
  | 0, m, k, w => rfl
  | r + 1, m, k, w => by rw [takeN, takeN, tkP_sV, takeN_sV r (tkP m k) k w]
theorem sV_sV (m : Md) (f : Nat) (v w : Int32) : sV (sV m f v) f w = sV m f w := by
  have : up1 (up1 (m_V m) f v) f w = up1 (m_V m) f w := by
    funext g
    simp only [up1]
    split <;> rfl
  show (m_A m, m_Q m, m_O m, m_F m, up1 (up1 (m_V m) f v) f w, m_n m, m_m m) = _
  rw [this]
  rfl
theorem Alk.rf {m : Md} : Alk m m := ⟨rfl, rfl, fun _ _ => rfl, fun _ _ => rfl, fun _ _ _ _ => rfl, fun _ _ _ _ _ => rfl, fun _ _ => rfl⟩
theorem sV_alk {m : Md} {f : Nat} {v : Int32} (h : v = m_V m f) : Alk (sV m f v) m := by
  refine ⟨rfl, rfl, fun _ _ => rfl, fun _ _ => rfl, fun _ _ _ _ => rfl, fun _ _ _ _ _ => rfl, fun g _ => ?_⟩
  simp only [sV_x, up1]
  by_cases e : g = f
  · rw [if_pos e, e, h]
  · rw [if_neg e]
theorem r_sub0 (v a : Int32) : v + (a - a) = v := by grind
theorem r_sub1 (v t a : Int32) : v + 1 + (t - (a + 1)) = v + (t - a) := by grind
theorem r_add1 (v a : Int32) : v + 1 + a = v + (a + 1) := by grind
section LB
variable {N : Nat} {z : Nat → Nat} {o : Nat} {os : List (Nat → Nat)} {lim : Nat → Nat}
/-- one pail into a lane of the law's -/
theorem law_59 {x : Hp} {m : Md} {k : Nat} {Q : List Int32} {A : Nat → Int32} {K : Nat → Option Nat → Int32 → Int32 → Int32 → Hp → Option (Int32 × Hp)} {v2 v3 v4 : Int32} (h : SimR x o (sL m k A Q) os lim) (hk : k < m_n m) (hl : Q.length < 60) : ∃ y, f_X12_bring_b59 N z K o (some (o + 5 + 2 * k)) v2 v3 v4 x = K o (some (o + 5 + 2 * k)) v2 v3 (v4 + 1) y ∧ SimR y o (sL m k A (Q ++ [m_V m 161])) os lim ∧ Fr x y o (simE o m os) := by
  have hh := h.l (k := k) hk
  simp only [sL_x, up1_eq] at hh
  have hV : h_i x 280 o = m_V m 161 := h.2.1.1
  obtain ⟨g1, g2⟩ := law_put (v := m_V m 161) hh hl
  have g3 := h.up' (k := k) hk g2 (by simp only [sL_x]; exact g1) (by have := h.2.2.2.2.2.2 k hk; rw [sL_A, if_pos rfl] at this; exact this)
  have g4 := h.fw (k := k) hk g2
  refine ⟨_, ?_, g3.cg ⟨rfl, rfl, fun _ _ => rfl, fun i _ => ?_, fun i _ f _ => ?_, fun _ _ _ _ _ => rfl, fun _ _ => rfl⟩, g4⟩
  · unfold f_X12_bring_b59 f_X12_bring_b82
    rw [getr_s hh.1, hh.2.1, geti_s hh.1, hh.2.2.2.2.2.2.1, geti_s h.k, hV, asti_s hh.2.2.2.1 (by rw [hh.2.2.2.2.1]; exact hl) (by rw [hh.2.2.2.2.1]; decide), geti_s (by exact hh.1), puti_s (by exact hh.1)]
    simp only [HPI, hh.2.2.2.2.2.2.1, nI_1]
  · simp only [sL_x, up1]
    split <;> rfl
  · rw [sL_A, sL_A]
    split
    · rfl
    · rename_i c
      rw [sL_A, if_neg c]
theorem tkA_87 (A : Nat → Int32) (Q : List Int32) : tkA A Q 87 = if nI Q.length < A 93 then A 87 else A 87 + 1 := by
  unfold tkA
  split
  · rfl
  · exact up1_eq
theorem lbring_l {k : Nat} (hlim : ∀ k, 96 ≤ lim k) (hN : 61 ≤ N) : ∀ (n r d : Nat) (v : Int32) (x : Hp) (m : Md), SimR x o m os lim → WfQ m → k < m_n m → r < n → d + r < 2 ^ 31 → ∃ y, f_X12_bring_b5 N z n o (some (o + 5 + 2 * k)) (nI (d + r)) v (nI d) x = some (v + (m_A (takeN r m k) k 87 - m_A m k 87), y) ∧ SimR y o (sV (takeN r m k) 169 (m_V m 169 + nI r)) os lim ∧ Fr x y o (simE o m os)
  | 0, r, d, v, x, m, h, hw, hk, hn, hd => absurd hn (by omega)
  | n + 1, 0, d, v, x, m, h, hw, hk, hn, hd => by
    unfold f_X12_bring_b5
    rw [if_pos (nI_le (by omega) (by omega)), takeN, r_sub0]
    refine ⟨x, rfl, ?_, Fr.rf⟩
    obtain ⟨e1, e2, e3, e4, e5, e6, e7⟩ := sV_alk (m := m) (f := 169) (v := m_V m 169 + nI 0) (by rw [nI_0, Int32.add_zero])
    exact h.cg ⟨e1.symm, e2.symm, fun i hi => (e3 i hi).symm, fun i hi => (e4 i hi).symm, fun i hi f hf => (e5 i hi f hf).symm, fun j hj f f1 f2 => (e6 j hj f f1 f2).symm, fun f hf => (e7 f hf).symm⟩
  | n + 1, r + 1, d, v, x, m, h, hw, hk, hn, hd => by
    have hh := h.l hk
    have h96 := hlim k
    have e93 := hh.g 93 267 rfl (by decide) (by omega)
    have e87 := hh.g 87 272 rfl (by decide) (by omega)
    have e94 := hh.g 94 268 rfl (by decide) (by omega)
    obtain ⟨H, w1, w2, w3, w4⟩ := hw k hk
    obtain ⟨g, gf⟩ := h.wv (n := 282) (f := 169) (v := m_V m 169 + 1) (by decide)
    have gl := g.l (k := k) hk
    -- the picture after one pail
    have fin : ∀ (v' : Int32) (y : Hp), v' + (m_A (takeN r (tkP m k) k) k 87 - m_A (tkP m k) k 87) = v + (m_A (takeN r (tkP m k) k) k 87 - m_A m k 87) → SimR y o (sV (tkP m k) 169 (m_V m 169 + 1)) os lim → Fr x y o (simE o m os) → ∃ w, f_X12_bring_b5 N z n o (some (o + 5 + 2 * k)) (nI (d + (r + 1))) v' (nI d + 1) y = some (v + (m_A (takeN (r + 1) m k) k 87 - m_A m k 87), w) ∧ SimR w o (sV (takeN (r + 1) m k) 169 (m_V m 169 + nI (r + 1))) os lim ∧ Fr x w o (simE o m os) := by
      intro v' y ev hy fy
      obtain ⟨w, d1, d2, d3⟩ := lbring_l (k := k) hlim hN n r (d + 1) v' y _ hy (WfQ.sv (hw.tk hk)) hk (by omega) (by omega)
      rw [takeN_sV, sV_sV] at d2
      have e1 : m_V (sV (tkP m k) 169 (m_V m 169 + 1)) 169 = m_V m 169 + 1 := by rw [(sV_x _ _ _).2.2.2.2.1, up1_eq]
      rw [e1] at d2
      rw [takeN_sV] at d1
      refine ⟨w, ?_, ?_, fy.tr d3⟩
      · rw [nI_1, show d + (r + 1) = d + 1 + r by omega, d1]
        exact congrArg (fun q => some (q, w)) ev
      · rw [takeN, show m_V m 169 + nI (r + 1) = m_V m 169 + 1 + nI r by rw [← nI_1, r_add1]]
        exact d2
    have q60 : (m_Q m k).length ≤ 60 := by omega
    rw [f_X12_bring_b5, if_neg (nI_ge (by omega) (by omega)), geti_s h.k, h.2.1.2.2.1, puti_s h.k, geti_s (by exact hh.1), geti_s (by exact hh.1), p_i_ne (by decide), hh.2.2.2.2.2.2.1, p_i_ne (by decide), e93]
    by_cases c : nI (m_Q m k).length < m_A m k 93
    · rw [w3] at c
      have c2 := (nI_ltI (by omega) (by omega)).mp c
      rw [if_neg (by rw [w3, nI_eq (by omega) (by omega)]; omega)]
      obtain ⟨y, d1, d2, d3⟩ := law_59 (N := N) (z := z) (m := sV m 169 (m_V m 169 + 1)) (k := k) (A := m_A m k) (Q := m_Q m k) (K := f_X12_bring_b5 N z n) (v2 := nI (d + (r + 1))) (v3 := v) (v4 := nI d) (x := p_i x 282 o (m_V m 169 + 1)) (os := os) (lim := lim) (g.cg ⟨rfl, rfl, fun _ _ => rfl, fun i _ => congrFun up1_id i, fun i _ f _ => congrFun (congrFun up1_id i) f, fun _ _ _ _ _ => rfl, fun _ _ => rfl⟩) hk (by omega)
      rw [d1]
      have et : tkP m k = sL m k (m_A m k) (m_Q m k ++ [m_V m 161]) := by
        unfold tkP tkA tkQ
        rw [w3, if_pos c, if_pos c]
      refine fin v y ?_ ?_ (gf.tr d3)
      · rw [et, sL_A, if_pos rfl]
      · rw [et]
        exact d2
    · have c' := c
      rw [w3] at c
      have c2 := mt (nI_ltI (a := (m_Q m k).length) (b := H) (by omega) (by omega)).mpr c
      rw [if_pos (by rw [w3, nI_eq (by omega) (by omega)]; omega), geti_s (by exact hh.1), p_i_ne (by decide), e87, puti_s (by exact hh.1), geti_s (by exact hh.1), p_i_ne (by decide), p_i_ne (by decide), e94]
      obtain ⟨g2, gf2⟩ := g.wr (k := k) (n := 272) (f := 87) (v := m_A m k 87 + 1) hk rfl (by decide)
      have ff := gf.tr gf2
      by_cases e : m_A m k 94 = 0
      · rw [if_pos e]
        unfold f_X12_bring_b82
        have et : tkP m k = sL m k (up1 (m_A m k) 87 (m_A m k 87 + 1)) (m_Q m k) := by
          unfold tkP tkA tkQ
          rw [if_neg c', if_neg c', if_pos e]
        refine fin (v + 1) _ ?_ ?_ ff
        · rw [et, sL_A, if_pos rfl, up1_eq, r_sub1]
        · rw [et]
          exact g2
      · rw [if_neg e]
        have g2l := g2.l (k := k) hk
        match hQ : m_Q m k with
        | [] => exact absurd c2 (by rw [hQ]; simp; omega)
        | q :: t =>
          have hQ2 : m_Q (sA (sV m 169 (m_V m 169 + 1)) k 87 (m_A m k 87 + 1)) k = q :: t := by rw [sA_Q]; exact hQ
          obtain ⟨y, b1, b2, b3⟩ := law_pop2 (N := N) (z := z) g2l hQ2 hN
          have g3 := g2.up' (k := k) hk b3 b2 (by rw [sA_A, if_neg (fun q => absurd q.2 (by decide))]; exact h.2.2.2.2.2.2 k hk)
          have f3' := g2.fw (k := k) hk b3
          have ht60 : t.length < 60 := by
            rw [hQ] at q60
            simp at q60
            omega
          have f3 : Fr x y o (simE o m os) := ff.tr f3'
          rw [obj_s (by exact hh.1), b1, bnd_s]
          obtain ⟨u, d1, d2, d3⟩ := law_59 (N := N) (z := z) (m := sV m 169 (m_V m 169 + 1)) (k := k) (A := up1 (m_A m k) 87 (m_A m k 87 + 1)) (Q := t) (K := f_X12_bring_b5 N z n) (v2 := nI (d + (r + 1))) (v3 := v + 1) (v4 := nI d) (x := y) (os := os) (lim := lim) (g3.cg ⟨rfl, rfl, fun _ _ => rfl, fun i _ => by
              simp only [sL_x, up1]
              split
              · rfl
              · rw [sA_Q], fun i _ f _ => by
              rw [sL_A, sL_A]
              split
              · rename_i ci
                rw [sA_A]
                by_cases cf : f = 87
                · rw [cf, up1_eq, if_pos ⟨rfl, rfl⟩]
                · rw [up1_ne cf, if_neg (fun q => cf q.2)]
                  rfl
              · rename_i ci
                rw [sA_A, if_neg (fun q => ci q.1)], fun _ _ _ _ _ => rfl, fun _ _ => rfl⟩) hk ht60
          rw [d1]
          have et : tkP m k = sL m k (up1 (m_A m k) 87 (m_A m k 87 + 1)) (t ++ [m_V m 161]) := by
            unfold tkP tkA tkQ
            rw [if_neg c', if_neg c', if_neg e, hQ]
            rfl
          refine fin (v + 1) u ?_ ?_ (f3.tr d3)
          · rw [et, sL_A, if_pos rfl, up1_eq, r_sub1]
          · rw [et]
            exact d2
theorem law_bring {x : Hp} {m : Md} {k c : Nat} (h : SimR x o m os lim) (hlim : ∀ k, 96 ≤ lim k) (hw : WfQ m) (hk : k < m_n m) (hc : c ≤ 30) (hN : 61 ≤ N) : ∃ y, f_X12_bring N z o (some (o + 5 + 2 * k)) (nI c) x = some (m_A (takeI m k c) k 87 - m_A m k 87, y) ∧ SimR y o (takeI m k c) os lim ∧ Fr x y o (simE o m os) := by
  obtain ⟨y, d1, d2, d3⟩ := lbring_l (N := N) (z := z) (k := k) hlim hN N c 0 0 x m h hw hk (by omega) (by omega)
  rw [Nat.zero_add] at d1
  refine ⟨y, ?_, d2, d3⟩
  unfold f_X12_bring
  refine Eq.trans d1 ?_
  rw [Int32.zero_add]
  rfl
end LB
