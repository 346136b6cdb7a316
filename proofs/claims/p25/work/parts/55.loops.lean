/-! ===== the law's loops behind a minute ===== -/
section CK
variable {N : Nat} {z : Nat → Nat} {b L : Nat} {xs : Nat → Int32} {Y o : Nat} {os : List (Nat → Nat)} {x : Hp} {m m0 : Md} {mi : Nat}
variable {k28 : Option Nat → Option Nat → Option Nat → Int32 → Hp → Option (Int32 × Hp)} {k309 : Option Nat → Option Nat → Option Nat → Int32 → Int32 → Option Nat → Int32 → Int32 → Int32 → Int32 → Int32 → Hp → Option (Int32 × Hp)}
variable {v0 v6 : Option Nat} {v3 v5 v10 v11 v12 v13 : Int32}
/-- what is known of a lane behind a minute: what it and those under it sent, its most -/
def LaneK (os : List (Nat → Nat)) (m0 m : Md) (w s k a M : Nat) : Prop := a ≤ M ∧ M ≤ 30 ∧ m_A m k 84 = nI M ∧ undS m0 m k = nI a ∧ (s < w → m_Q m k ≠ [] → lend m k = some k → m_O m k = none → a < M → ∃ od ∈ os.map odOf, od.1 = 18 ∧ od.2.1 = k)
theorem ovM_lt (ho : OvI m) {k : Nat} (hk : k < m_n m) (h6 : m_n m ≤ 6) : ¬ nI k ≤ ovM m k := by
  unfold ovM
  match hO : m_O m k with
  | none =>
    simp only
    intro q
    have := (Int32.le_iff_toInt_le).mp q
    have h1 : (-1 : Int32).toInt = -1 := by decide
    rw [h1, nI_toInt (by omega)] at this
    omega
  | some j =>
    simp only
    have := ho k hk j hO
    exact nI_ge this (by omega)
theorem m1_lt {k : Nat} (hk : k < 2 ^ 31) : ¬ (-1 : Int32) = nI k := by
  intro e
  have := congrArg Int32.toInt e
  have h1 : (-1 : Int32).toInt = -1 := by decide
  rw [h1, nI_toInt hk] at this
  omega
theorem chk_624 {k a M w s : Nat} (h : Wd b L xs Y o os x m) (i : IInv mi m) (hk : k < m_n m) (hL : LaneK os m0 m w s k a M) (hV : m_V m 168 = nI w - nI s) (sw : s ≤ w) (w30 : w ≤ 30) (hN : 401 ≤ N) : f_L_law_b624 N z k28 k309 v0 (some Y) (some o) v3 v5 v6 v10 v11 v12 v13 (nI k) (ovM m k) (nI a) (lendI m k) x = k309 v0 (some Y) (some o) v3 v5 v6 v10 v11 v12 v13 (nI k + 1) x := by
  obtain ⟨a1, a2, a3, a4, a5⟩ := hL
  have hb := h.2.1
  have hS := h.2.2.1
  have hB := h.2.2.2.2.1
  have hR := h.2.2.2.2.2.1
  have hO := h.2.2.2.2.2.2.2.2.2.1
  have h6 := hR.n6
  have hl := hS.l hk
  have hq := hl.q.2.1
  unfold f_L_law_b624
  unfold f_L_law_b679
  have ec : f_X10_count N z Y 11 x = some (m_V m 168, x) := c_count (w := 11) hb hS hB (by decide) (by omega)
  have el : f_X10_lane N z Y (nI k) 6 x = some (nI (m_Q m k).length, x) := c_lane (w := 6) hb hS hk (by decide)
  have e2 : f_X10_lane N z Y (nI k) 2 x = some (m_A m k 84, x) := c_lane (w := 2) hb hS hk (by decide)
  rw [obj_s hb.1, ec, bnd_s, hV, pk_sub sw]
  by_cases c1 : w - s = 0
  · rw [c1, if_pos (by decide)]
  · rw [if_neg (nI_nle (by omega) (by omega)), obj_s hb.1, el, bnd_s]
    by_cases c2 : (m_Q m k).length = 0
    · rw [c2, if_pos (by decide)]
    · rw [if_neg (nI_nle (by omega) (by omega))]
      by_cases c3 : lend m k = some k
      · have e3 : lendI m k = nI k := by unfold lendI; rw [c3]
        rw [if_pos e3]
        match hOv : m_O m k with
        | some j =>
          have e4 : ovM m k = nI j := by unfold ovM; rw [hOv]
          have := hS.o hk hOv
          rw [e4, if_pos (nI_pos' (by omega))]
        | none =>
          have e4 : ovM m k = -1 := by unfold ovM; rw [hOv]
          rw [e4, if_neg (by decide), obj_s hb.1, e2, bnd_s, a3]
          by_cases c5 : M ≤ a
          · rw [if_pos (nI_le c5 (by omega))]
          · rw [if_neg (nI_ge (by omega) (by omega)), hasShut_s hR (by omega) hO (a5 (by omega) (fun q => c2 (by rw [q]; rfl)) c3 hOv (by omega)) hN, bnd_s, if_neg (by decide)]
      · rw [if_neg]
        intro e
        unfold lendI at e
        match hl : lend m k with
        | none => rw [hl] at e; exact m1_lt (by omega) e
        | some j =>
          rw [hl] at e
          have := lendN_le hS.2.2.2.2.2.2.2.1 6 k j hk hl
          have e' : j = k := (nI_eq (by omega) (by omega)).mp e
          exact c3 (by rw [hl, e'])
theorem chk_526 {k a M w s q1 : Nat} (h : Wd b L xs Y o os x m) (i : IInv mi m) (hk : k < m_n m) (hn : m_n m = m_n m0) (hOv : m_O m = m_O m0) (hL : LaneK os m0 m w s k a M) (hV : m_V m 168 = nI w - nI s) (sw : s ≤ w) (w30 : w ≤ 30) (hq : h_k x q1 = 101 ∧ h_n x q1 = m_n m ∧ ∀ j, j < m_n m → h_ai x q1 j = m_A m0 j 86) (hN : 401 ≤ N) : ∀ (n r t : Nat) (v16 : Int32), t + r = m_n m → r < n → sumG (fun i => if und m0 i k = true then m_A m i 86 - m_A m0 i 86 else 0) r t v16 = undS m0 m k → f_L_law_b526 N z k28 k309 n v0 (some Y) (some o) v3 (nI (m_n m)) (some q1) v10 v11 v12 v13 (nI k) (ovM m k) v16 (nI t) x = k309 v0 (some Y) (some o) v3 (nI (m_n m)) (some q1) v10 v11 v12 v13 (nI k + 1) x
  | 0, r, t, v16, ht, hr, hs => absurd hr (by omega)
  | n + 1, 0, t, v16, ht, hr, hs => by
    have hb := h.2.1
    have hS := h.2.2.1
    have h6 := hS.2.1
    have hL' := hL
    obtain ⟨a1, a2, a3, a4, a5⟩ := hL
    have ho : OvI m := i.2.1
    have e16 : v16 = nI a := hs.trans a4
    have e2 : f_X10_lane N z Y (nI k) 2 x = some (m_A m k 84, x) := c_lane (w := 2) hb hS hk (by decide)
    have fin := chk_624 (k28 := k28) (k309 := k309) (v0 := v0) (v6 := some q1) (v3 := v3) (v5 := nI (m_n m)) (v10 := v10) (v11 := v11) (v12 := v12) (v13 := v13) (z := z) h i hk hL' hV sw w30 hN
    rw [f_L_law_b526, if_pos (nI_le (by omega) (by omega)), obj_s hb.1, e2, bnd_s, e16, a3, if_pos (nI_le a1 (by omega)), obj_s hb.1, c_lender hb hS hk (by omega), bnd_s]
    match hl : lend m k with
    | none =>
      have e5 : lendI m k = -1 := by unfold lendI; rw [hl]
      rw [e5] at fin ⊢
      rw [if_pos (by decide)]
      exact fin
    | some j =>
      have e5 : lendI m k = nI j := by unfold lendI; rw [hl]
      have hj := lendN_le hS.2.2.2.2.2.2.2.1 6 k j hk hl
      have hj2 : j < m_n m := by omega
      obtain ⟨⟨t0, b0, t1, t2, t3, t4⟩, -⟩ := i.2.2.2.1 j hj2
      have t5 := (lendN_tok 6 _ j hl).1
      have t6 : t0 ≠ 0 := fun q => t5 (by rw [t3, q]; decide)
      have e6 : f_X10_lane N z Y (nI j) 5 x = some (m_A m j 85, x) := c_lane (w := 5) hb hS hj2 (by decide)
      rw [e5] at fin ⊢
      rw [if_neg (nI_pos (by omega)), obj_s hb.1, e6, bnd_s, t3, if_neg (show ¬ nI t0 < (1 : Int32) from nI_nlt (b := 1) (by omega) (by omega)), obj_s hb.1, c_common hb hS hk hj2 (by omega), bnd_s, if_pos ((com_und h6 ho hj2 hk).mpr (lendN_und 6 _ hl))]
      exact fin
  | n + 1, r + 1, t, v16, ht, hr, hs => by
    have hb := h.2.1
    have hS := h.2.2.1
    have h6 := hS.2.1
    have ho : OvI m := i.2.1
    have t1 : t < m_n m := by omega
    have e8 : f_X10_lane N z Y (nI t) 8 x = some (m_A m t 86, x) := c_lane (w := 8) hb hS t1 (by decide)
    rw [sumG] at hs
    rw [f_L_law_b526, if_neg (nI_ge t1 (by omega)), obj_s hb.1, c_common hb hS t1 hk (by omega), bnd_s]
    by_cases c : und m t k = true
    · rw [if_pos ((com_und h6 ho hk t1).mpr c), obj_s hb.1, e8, bnd_s, aldi_s hq.1 (by omega) (by omega), hq.2.2 t t1]
      rw [if_pos (by rw [← und_O hOv]; exact c)] at hs
      unfold f_L_law_b565
      rw [nI_1]
      exact chk_526 h i hk hn hOv hL hV sw w30 hq hN n r (t + 1) _ (by omega) (by omega) hs
    · rw [if_neg (fun q => c ((com_und h6 ho hk t1).mp q))]
      rw [if_neg (by rw [← und_O hOv]; exact c), Int32.add_zero] at hs
      unfold f_L_law_b565
      rw [nI_1]
      exact chk_526 h i hk hn hOv hL hV sw w30 hq hN n r (t + 1) _ (by omega) (by omega) hs
theorem chk_457 {k a M w s q1 mj : Nat} (h : Wd b L xs Y o os x m) (i : IInv mi m) (hk : k < m_n m) (hn : m_n m = m_n m0) (hOv : m_O m = m_O m0) (hL : LaneK os m0 m w s k a M) (hV : m_V m 168 = nI w - nI s) (sw : s ≤ w) (w30 : w ≤ 30) (hq : h_k x q1 = 101 ∧ h_n x q1 = m_n m ∧ ∀ j, j < m_n m → h_ai x q1 j = m_A m0 j 86) (hQ : QuI mj m) (hj : mj < mi) (hmi : mi < 2 ^ 20) (hN : 401 ≤ N) : ∀ (n r p : Nat), p + r = (m_Q m k).length → r < n → f_L_law_b457 N z k28 k309 n v0 (some Y) (some o) v3 (nI (m_n m)) (some q1) v10 v11 v12 v13 (nI k) (ovM m k) (nI p) x = k309 v0 (some Y) (some o) v3 (nI (m_n m)) (some q1) v10 v11 v12 v13 (nI k + 1) x
  | 0, r, p, hp, hr => absurd hr (by omega)
  | n + 1, 0, p, hp, hr => by
    have hb := h.2.1
    have hS := h.2.2.1
    have h6 := hS.2.1
    have hl := hS.l hk
    have hq60 := hl.q.2.1
    have el : f_X10_lane N z Y (nI k) 6 x = some (nI (m_Q m k).length, x) := c_lane (w := 6) hb hS hk (by decide)
    rw [f_L_law_b457, obj_s hb.1, el, bnd_s, if_pos (nI_le (by omega) (by omega)), show (0 : Int32) = nI 0 from rfl]
    exact chk_526 h i hk hn hOv hL hV sw w30 hq hN N (m_n m) 0 (nI 0) (by omega) (by omega) (by rw [hn]; rfl)
  | n + 1, r + 1, p, hp, hr => by
    have hb := h.2.1
    have hS := h.2.2.1
    have hB := h.2.2.2.2.1
    have hl := hS.l hk
    have hq60 := hl.q.2.1
    have el : f_X10_lane N z Y (nI k) 6 x = some (nI (m_Q m k).length, x) := c_lane (w := 6) hb hS hk (by decide)
    have e0 : f_X10_count N z Y 0 x = some (m_V m 161, x) := c_count (w := 0) hb hS hB (by decide) (by omega)
    obtain ⟨l, l1, l2, l3⟩ := hQ k hk
    have hlen : (m_Q m k).length = l.length := by rw [l1]; simp
    have gp : ∀ p, p < l.length → (m_Q m k).getD p 0 = nI (l.getD p 0) := by
      intro p hp
      rw [l1]
      simp [List.getD_eq_getElem?_getD, hp]
    have lp : ∀ p, p < l.length → l.getD p 0 ≤ mj := by
      intro p hp
      have : l.getD p 0 = l[p] := by simp [List.getD_eq_getElem?_getD, hp]
      rw [this]
      exact l2 _ (List.getElem_mem hp)
    have hV1 : m_V m 161 = nI mi := i.2.2.2.2.2.2.1
    have hp2 : p < l.length := by omega
    have := lp p hp2
    have next := chk_457 h i hk hn hOv hL hV sw w30 hq hQ hj hmi hN n r (p + 1) (by omega) (by omega)
    rw [f_L_law_b457, obj_s hb.1, el, bnd_s, if_neg (nI_ge (by omega) (by omega)), obj_s hb.1, c_pail hb hS hk (by omega), bnd_s, obj_s hb.1, e0, bnd_s, hV1, gp p hp2, if_neg (nI_ge (by omega) (by omega))]
    unfold f_L_law_b514
    rw [nI_1]
    by_cases c : p = 0
    · subst c
      rw [if_pos (by decide)]
      exact next
    · have ep : nI p - 1 = nI (p - 1) := by
        rw [show (1 : Int32) = nI 1 from rfl, pk_sub (by omega)]
      have hsort : l.getD (p - 1) 0 ≤ l.getD p 0 := by
        have h1 : l.getD p 0 = l[p] := by simp [List.getD_eq_getElem?_getD, hp2]
        have h2 : l.getD (p - 1) 0 = l[p - 1] := by simp [List.getD_eq_getElem?_getD, show p - 1 < l.length by omega]
        rw [h1, h2]
        exact List.pairwise_iff_getElem.mp l3 (p - 1) p (by omega) hp2 (by omega)
      rw [if_neg (nI_nle (by omega) (by omega)), obj_s hb.1, c_pail hb hS hk (by omega), bnd_s, obj_s hb.1, ep, c_pail hb hS hk (by omega), bnd_s, gp p hp2, gp (p - 1) (by omega), if_pos (nI_le hsort (by omega))]
      exact next
end CK
section CL
variable {N : Nat} {z : Nat → Nat} {b L : Nat} {xs : Nat → Int32} {Y o : Nat} {os : List (Nat → Nat)} {x : Hp} {m m0 : Md} {mi : Nat}
variable {k28 : Option Nat → Option Nat → Option Nat → Int32 → Hp → Option (Int32 × Hp)} {v0 : Option Nat} {v3 : Int32}
theorem chk_309 {w s q1 mj : Nat} (h : Wd b L xs Y o os x m) (i : IInv mi m) (hn : m_n m = m_n m0) (hOv : m_O m = m_O m0) (hL : ∀ k, k < m_n m → ∃ a M, LaneK os m0 m w s k a M) (hV : m_V m 168 = nI w - nI s) (sw : s ≤ w) (w30 : w ≤ 30) (hq : h_k x q1 = 101 ∧ h_n x q1 = m_n m ∧ ∀ j, j < m_n m → h_ai x q1 j = m_A m0 j 86) (hQ : QuI mj m) (hj : mj < mi) (hmi : mi ≤ 1000) (hN : 401 ≤ N) : ∀ (n r k : Nat) (v10 v11 v12 v13 : Int32), k + r = m_n m → r < n → sumG (fun k => nI (m_Q m k).length) r k v10 = sumG (fun k => nI (m_Q m k).length) (m_n m) 0 0 → sumG (fun k => m_A m k 87) r k v11 = sumG (fun k => m_A m k 87) (m_n m) 0 0 → sumG (fun k => m_A m k 95) r k v12 = sumG (fun k => m_A m k 95) (m_n m) 0 0 → sumG (fun k => m_A m k 88) r k v13 = sumG (fun k => m_A m k 88) (m_n m) 0 0 → f_L_law_b309 N z k28 n v0 (some Y) (some o) v3 (nI (m_n m)) (some q1) v10 v11 v12 v13 (nI k) x = k28 v0 (some Y) (some o) (v3 + 1) x
  | 0, r, k, v10, v11, v12, v13, hk, hr, s10, s11, s12, s13 => absurd hr (by omega)
  | n + 1, 0, k, v10, v11, v12, v13, hk, hr, s10, s11, s12, s13 => by
    have hb := h.2.1
    have hS := h.2.2.1
    have hB := h.2.2.2.2.1
    have h6 := hS.2.1
    have e5 : f_X10_count N z Y 5 x = some (sumM m 5 (m_n m) 0 0, x) := c_count (w := 5) hb hS hB (by decide) (by omega)
    have e8 : f_X10_count N z Y 8 x = some (sumM m 8 (m_n m) 0 0, x) := c_count (w := 8) hb hS hB (by decide) (by omega)
    have e9 : f_X10_count N z Y 9 x = some (sumM m 9 (m_n m) 0 0, x) := c_count (w := 9) hb hS hB (by decide) (by omega)
    have q10 : v10 = sumM m 5 (m_n m) 0 0 := by rw [sumM_G]; exact s10
    have q11 : v11 = sumM m 8 (m_n m) 0 0 := by rw [sumM_G]; exact s11
    have q13 : v13 = sumM m 9 (m_n m) 0 0 := by rw [sumM_G]; exact s13
    have hLen : Len m := i.2.2.2.2.2.2.2.2.2.2
    have q12 : v12 = v13 := by
      have a : v12 = sumG (fun k => m_A m k 95) (m_n m) 0 0 := s12
      have c : v13 = sumG (fun k => m_A m k 88) (m_n m) 0 0 := s13
      rw [a, c]
      exact hLen
    rw [f_L_law_b309, if_pos (nI_le (by omega) (by omega)), obj_s hb.1, e5, bnd_s, if_pos q10, obj_s hb.1, e8, bnd_s, if_pos q11, if_pos q12, obj_s hb.1, e9, bnd_s, if_pos q13]
  | n + 1, r + 1, k, v10, v11, v12, v13, hk, hr, s10, s11, s12, s13 => by
    have hb := h.2.1
    have hS := h.2.2.1
    have h6 := hS.2.1
    have hk2 : k < m_n m := by omega
    have hl := hS.l hk2
    have hq60 := hl.q.2.1
    obtain ⟨a, M, hLK⟩ := hL k hk2
    obtain ⟨⟨t, b', t1, t2, t3, t4⟩, -⟩ := i.2.2.2.1 k hk2
    obtain ⟨H, w1, w2, w3, w4⟩ := i.2.2.1 k hk2
    obtain ⟨u, u1, u2⟩ := i.2.2.2.2.2.2.2.2.1 k hk2
    have hmm : 30 * mi * mi ≤ 30 * 1000 * 1000 := Nat.mul_le_mul (Nat.mul_le_mul_left 30 hmi) hmi
    have f : ∀ w, w < 13 → f_X10_lane N z Y (nI k) (nI w) x = some (factM (m_A m k) (m_Q m k) (ovM m k) w, x) := fun w hw => c_lane hb hS hk2 hw
    have f0 : f_X10_lane N z Y (nI k) 0 x = some (ovM m k, x) := f 0 (by decide)
    have f5 : f_X10_lane N z Y (nI k) 5 x = some (nI t, x) := by rw [← t3]; exact f 5 (by decide)
    have f3 : f_X10_lane N z Y (nI k) 3 x = some (nI b', x) := by rw [← t4]; exact f 3 (by decide)
    have f6 : f_X10_lane N z Y (nI k) 6 x = some (nI (m_Q m k).length, x) := f 6 (by decide)
    have f7 : f_X10_lane N z Y (nI k) 7 x = some (nI H, x) := by rw [← w3]; exact f 7 (by decide)
    have f12 : f_X10_lane N z Y (nI k) 12 x = some (nI u, x) := by rw [← u2]; exact f 12 (by decide)
    have f9 : f_X10_lane N z Y (nI k) 9 x = some (m_A m k 87, x) := f 9 (by decide)
    have f10 : f_X10_lane N z Y (nI k) 10 x = some (m_A m k 95, x) := f 10 (by decide)
    have f11 : f_X10_lane N z Y (nI k) 11 x = some (m_A m k 88, x) := f 11 (by decide)
    rw [sumG] at s10 s11 s12 s13
    have ih := chk_309 h i hn hOv hL hV sw w30 hq hQ hj hmi hN n r (k + 1) _ _ _ _ (by omega) (by omega) s10 s11 s12 s13
    rw [f_L_law_b309, if_neg (nI_ge hk2 (by omega)), obj_s hb.1, f0, bnd_s, if_neg (ovM_lt i.2.1 hk2 h6), obj_s hb.1, f5, bnd_s, if_neg (nI_pos (by omega)), obj_s hb.1, f5, bnd_s, obj_s hb.1, f3, bnd_s, if_neg (nI_nlt t1 (by omega)), obj_s hb.1, f6, bnd_s, if_neg (nI_pos (by omega)), obj_s hb.1, f6, bnd_s, obj_s hb.1, f7, bnd_s, if_neg (nI_nlt w4 (by omega)), obj_s hb.1, f12, bnd_s, if_pos (nI_pos' (by omega)), obj_s hb.1, f6, bnd_s, obj_s hb.1, f9, bnd_s, obj_s hb.1, f10, bnd_s, obj_s hb.1, f11, bnd_s, show (0 : Int32) = nI 0 from rfl, chk_457 h i hk2 hn hOv hLK hV sw w30 hq hQ hj (by omega) hN N (m_Q m k).length 0 (by omega) (by omega), nI_1]
    exact ih
theorem chk_194 {w s q1 q2 mj : Nat} {v8 : Int32} (h : Wd b L xs Y o os x m) (i : IInv mi m) (hn : m_n m = m_n m0) (hOv : m_O m = m_O m0) (hL : ∀ k, k < m_n m → ∃ a M, LaneK os m0 m w s k a M) (hV : m_V m 168 = nI w - nI s) (hw : m_V m 162 = nI w) (h86 : s86 m = v8 + nI s) (sw : s ≤ w) (w30 : w ≤ 30) (hq : h_k x q1 = 101 ∧ h_n x q1 = m_n m ∧ ∀ j, j < m_n m → h_ai x q1 j = m_A m0 j 86) (hq2 : h_k x q2 = 101 ∧ h_n x q2 = 12 ∧ ∀ j, 5 ≤ j → j < 12 → h_ai x q2 j = tallyM m os.length j) (hQ : QuI mj m) (hj : mj < mi) (hmi : mi ≤ 1000) (hN : 401 ≤ N) : ∀ (n r c : Nat), c + r = 12 → 5 ≤ c → r < n → f_L_law_b194 N z k28 n v0 (some Y) (some o) v3 (nI (m_n m)) (some q1) (some q2) v8 (nI s) (nI c) x = k28 v0 (some Y) (some o) (v3 + 1) x
  | 0, r, c, hc, h5, hr => absurd hr (by omega)
  | n + 1, 0, c, hc, h5, hr => by
    have hb := h.2.1
    have hS := h.2.2.1
    have hB := h.2.2.2.2.1
    have h6 := hS.2.1
    have ct : ∀ w, w < 12 → f_X10_count N z Y (nI w) x = some (tallyM m (os.map odOf).length w, x) := fun w hw => c_count hb hS hB hw (by omega)
    have e7 : f_X10_count N z Y 7 x = some (s86 m, x) := by rw [← s86_7 m (os.map odOf).length]; exact ct 7 (by decide)
    have e1 : f_X10_count N z Y 1 x = some (nI w, x) := by rw [← hw]; exact ct 1 (by decide)
    have e11 : f_X10_count N z Y 11 x = some (m_V m 168, x) := ct 11 (by decide)
    have e6 : f_X10_count N z Y 6 x = some (m_V m 169, x) := ct 6 (by decide)
    have e5 : f_X10_count N z Y 5 x = some (sumM m 5 (m_n m) 0 0, x) := ct 5 (by decide)
    have e8 : f_X10_count N z Y 8 x = some (sumM m 8 (m_n m) 0 0, x) := ct 8 (by decide)
    have hBal : Bal m := i.2.2.2.2.2.2.2.2.2.1
    have bal : m_V m 169 = sumM m 5 (m_n m) 0 0 + s86 m + sumM m 8 (m_n m) 0 0 := by
      rw [hBal, sumM_G, sumM_G]
      unfold s86
      have a1 := sumG_add (fun k => nI (m_Q m k).length + m_A m k 86) (fun k => m_A m k 87) (m_n m) 0 0 0
      have a2 := sumG_add (fun k => nI (m_Q m k).length) (fun k => m_A m k 86) (m_n m) 0 0 0
      rw [Int32.add_zero] at a1 a2
      rw [a2] at a1
      exact a1
    have hlt : ¬ nI w < nI s := nI_nlt sw (by omega)
    rw [f_L_law_b194, show (12 : Int32) = nI 12 from rfl, if_pos (nI_le (by omega) (by omega)), obj_s hb.1, e7, bnd_s, if_pos h86, obj_s hb.1, e1, bnd_s, if_neg hlt, obj_s hb.1, e11, bnd_s, obj_s hb.1, e1, bnd_s, if_pos hV, obj_s hb.1, e6, bnd_s, obj_s hb.1, e5, bnd_s, obj_s hb.1, e7, bnd_s, obj_s hb.1, e8, bnd_s, if_pos bal]
    exact chk_309 (k28 := k28) (v0 := v0) (v3 := v3) h i hn hOv hL hV sw w30 hq hQ hj hmi hN N (m_n m) 0 0 0 0 0 (by omega) (by omega) rfl rfl rfl rfl
  | n + 1, r + 1, c, hc, h5, hr => by
    have hb := h.2.1
    have hS := h.2.2.1
    have hB := h.2.2.2.2.1
    have e : f_X10_count N z Y (nI c) x = some (tallyM m os.length c, x) := by
      have := c_count (N := N) (z := z) (w := c) hb hS hB (by omega) (by omega)
      rw [List.length_map] at this
      exact this
    rw [f_L_law_b194, show (12 : Int32) = nI 12 from rfl, if_neg (nI_ge (by omega) (by omega)), obj_s hb.1, e, bnd_s, aldi_s hq2.1 (by omega) (by omega), hq2.2.2 c h5 (by omega), if_pos rfl, nI_1]
    exact chk_194 h i hn hOv hL hV hw h86 sw w30 hq hq2 hQ hj hmi hN n r (c + 1) (by omega) (by omega) (by omega)
end CL
