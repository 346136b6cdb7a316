/-! ===== both are told alike; the law's hours ===== -/
section ES
variable {N : Nat} {z : Nat → Nat} {b L : Nat} {xs : Nat → Int32} {Y o : Nat} {os : List (Nat → Nat)}
theorem lb_fI {x : Hp} {m : Md} {lim : Nat → Nat} (h : SimR x o m os lim) (hlim : ∀ k, 96 ≤ lim k) {j : Nat} (hj : j < m_n m) : h_i x 261 (o + 5 + 2 * j) = nI j := by
  have hl := h.l hj
  have h96 := hlim j
  rw [hl.g 80 261 rfl (by decide) (by omega)]
  exact h.2.2.2.2.2.2 j hj
theorem same_289 {x : Hp} {m : Md} {k : Nat} {f : Option Nat} {v2 s0 : Int32} {K : Nat → Option Nat → Int32 → Int32 → Int32 → Hp → Option (Int32 × Hp)} (h : Wd b L xs Y o os x m) (hk : k < m_n m) (hf : ∀ j, f = some j → j < m_n m ∧ ne0 m j) : f_X12_isSame_b289 N z K o (some Y) v2 (fI f) (nI k) (some (o + 5 + 2 * k)) s0 s0 x = K o (some Y) (v2 + m_A m k 89) (fI (if (m_Q m k).length = 0 then f else some (dnP m k f))) (nI k + (-1)) x := by
  have hR := h.2.2.2.2.2.1
  have h6 := hR.n6
  have hl := hR.l hk
  have hq := hl.2.2.2.2.2.1
  have e275 := hl.g 89 275 rfl (by decide) (show 89 < 96 by decide)
  unfold f_X12_isSame_b289
  rw [if_pos rfl, geti_s hl.1, e275, geti_s hl.1, hl.2.2.2.2.2.2.1]
  unfold f_X12_isSame_b335 f_X12_isSame_b338
  by_cases c : (m_Q m k).length = 0
  · rw [c, if_pos (by decide), if_pos rfl]
  · rw [if_neg (nI_nle (by omega) (by omega)), if_neg c]
    have p0 := hl.2.2.2.2.2.2.2.1 0 (by omega)
    match f, hf with
    | none, hf =>
      rw [show fI none = -1 from rfl, if_pos (by decide)]
      rfl
    | some j, hf =>
      obtain ⟨hj, nj⟩ := hf j rfl
      have hlj := hR.l hj
      have hqj := hlj.2.2.2.2.2.1
      unfold ne0 at nj
      have p1 := hlj.2.2.2.2.2.2.2.1 0 (by omega)
      rw [show fI (some j) = nI j from rfl, if_neg (nI_pos (by omega)), getr_s hl.1, hl.2.1, aldi_0 hl.2.2.2.1 (by rw [hl.2.2.2.2.1]; decide) (by rw [hl.2.2.2.2.1]; decide), getr_s hR.k, hR.rl, hR.al hj, getr_s hlj.1, hlj.2.1, aldi_0 hlj.2.2.2.1 (by rw [hlj.2.2.2.2.1]; decide) (by rw [hlj.2.2.2.2.1]; decide), p0, p1, dnP]
      by_cases d : (m_Q m j).getD 0 0 < (m_Q m k).getD 0 0
      · rw [if_pos d, if_pos d]
        rfl
      · rw [if_neg d, if_neg d]
        rfl
theorem same_225 {x : Hp} {m : Md} {k : Nat} {f : Option Nat} {v2 : Int32} {K : Nat → Option Nat → Int32 → Int32 → Int32 → Hp → Option (Int32 × Hp)} (h : Wd b L xs Y o os x m) (hk : k < m_n m) (hf : ∀ j, f = some j → j < m_n m ∧ ne0 m j) (hN : 401 ≤ N) : ∀ (n r p : Nat), p + r = (m_Q m k).length → r < n → f_X12_isSame_b225 N z K n o (some Y) v2 (fI f) (nI k) (some (o + 5 + 2 * k)) (nI p) x = K o (some Y) (v2 + m_A m k 89) (fI (if (m_Q m k).length = 0 then f else some (dnP m k f))) (nI k + (-1)) x
  | 0, r, p, hp, hr => absurd hr (by omega)
  | n + 1, 0, p, hp, hr => by
    have hb := h.2.1
    have hS := h.2.2.1
    have hR := h.2.2.2.2.2.1
    have hl := hR.l hk
    have hq := hl.2.2.2.2.2.1
    rw [f_X12_isSame_b225, geti_s hl.1, hl.2.2.2.2.2.2.1, if_pos (nI_le (by omega) (by omega)), obj_s hl.1, law_lender hR (fun _ => Nat.le_refl 96) hk (by omega), bnd_s, obj_s hb.1, c_lender hb hS hk (by omega), bnd_s]
    match hL : lend m k with
    | none =>
      rw [show lb o none = none from rfl, if_pos rfl, show lendI m k = -1 by unfold lendI; rw [hL]]
      exact same_289 h hk hf
    | some j =>
      have hj := lendN_le hS.2.2.2.2.2.2.2.1 6 k j hk hL
      have hlj := hR.l (k := j) (by omega)
      rw [show lb o (some j) = some (o + 5 + 2 * j) from rfl, if_neg (by simp), geti_s hlj.1, lb_fI hR (fun _ => Nat.le_refl 96) (by omega), show lendI m k = nI j by unfold lendI; rw [hL]]
      exact same_289 h hk hf
  | n + 1, r + 1, p, hp, hr => by
    have hb := h.2.1
    have hS := h.2.2.1
    have hR := h.2.2.2.2.2.1
    have hl := hR.l hk
    have hq := hl.2.2.2.2.2.1
    rw [f_X12_isSame_b225, geti_s hl.1, hl.2.2.2.2.2.2.1, if_neg (nI_ge (by omega) (by omega)), obj_s hb.1, c_pail hb hS hk (by omega), bnd_s, getr_s hl.1, hl.2.1, aldi_s hl.2.2.2.1 (by rw [hl.2.2.2.2.1]; omega) (by rw [hl.2.2.2.2.1]; decide), hl.2.2.2.2.2.2.2.1 p (by omega), if_pos rfl, nI_1]
    exact same_225 h hk hf hN n r (p + 1) (by omega) (by omega)
theorem same_191 {x : Hp} {m : Md} {k q : Nat} {f : Option Nat} {v2 : Int32} {K : Nat → Option Nat → Int32 → Int32 → Int32 → Hp → Option (Int32 × Hp)} (h : Wd b L xs Y o os x m) (hk : k < m_n m) (hf : ∀ j, f = some j → j < m_n m ∧ ne0 m j) (hq : h_k x q = 101 ∧ h_n x q = 13 ∧ ∀ w, w < 13 → h_ai x q w = factM (m_A m k) (m_Q m k) (ovM m k) w) (hN : 401 ≤ N) : ∀ (n r w : Nat), w + r = 13 → r < n → f_X12_isSame_b191 N z K n o (some Y) v2 (fI f) (nI k) (some (o + 5 + 2 * k)) (some q) (nI w) x = K o (some Y) (v2 + m_A m k 89) (fI (if (m_Q m k).length = 0 then f else some (dnP m k f))) (nI k + (-1)) x
  | 0, r, w, hw, hr => absurd hr (by omega)
  | n + 1, 0, w, hw, hr => by
    have hq60 := (h.2.2.2.2.2.1.l hk).2.2.2.2.2.1
    rw [f_X12_isSame_b191, show (13 : Int32) = nI 13 from rfl, if_pos (nI_le (by omega) (by omega)), show (0 : Int32) = nI 0 from rfl]
    exact same_225 h hk hf hN N (m_Q m k).length 0 (by omega) (by omega)
  | n + 1, r + 1, w, hw, hr => by
    have hb := h.2.1
    have hS := h.2.2.1
    rw [f_X12_isSame_b191, show (13 : Int32) = nI 13 from rfl, if_neg (nI_ge (by omega) (by omega)), obj_s hb.1, c_lane hb hS hk (by omega), bnd_s, aldi_s hq.1 (by omega) (by omega), hq.2.2 w (by omega), if_pos rfl, nI_1]
    exact same_191 h hk hf hq hN n r (w + 1) (by omega) (by omega)
theorem same_42 {m : Md} (hN : 401 ≤ N) : ∀ (r n : Nat) (x : Hp) (f : Option Nat) (v2 : Int32), Wd b L xs Y o os x m → r ≤ m_n m → r < n → (∀ j, f = some j → j < m_n m ∧ ne0 m j) → dnN m r f = dnN m (m_n m) none → dsum (fun k => m_A m k 89) r v2 = dsum (fun k => m_A m k 89) (m_n m) 0 → ∃ y, f_X12_isSame_b42 N z n o (some Y) v2 (fI f) (nI r + (-1)) x = some (1, y) ∧ h_sz y ≤ h_sz x + r + 2 ∧ h_sl y ≤ h_sl x + 13 * r + 26
  | r, 0, x, f, v2, h, hr, hn, hf, hd, hs => absurd hn (by omega)
  | 0, n + 1, x, f, v2, h, hr, hn, hf, hd, hs => by
    have m8 := h.2.2.2.2.2.1.m8
    have hd' : f = dnN m (m_n m) none := hd
    have hs' : v2 = dsum (fun k => m_A m k 89) (m_n m) 0 := hs
    obtain ⟨y, e1, e2, e3⟩ := same_347 (z := z) h hN N (m_m m) 0 (by omega) (by omega)
    refine ⟨y, ?_, by omega, by omega⟩
    rw [f_X12_isSame_b42, if_pos (by decide), hd', hs']
    exact e1
  | r + 1, n + 1, x, f, v2, h, hr, hn, hf, hd, hs => by
    have hR := h.2.2.2.2.2.1
    have h6 := hR.n6
    have w9 := h.2.2.2.2.2.2.2.2.1
    have hk : r < m_n m := by omega
    have ag : Ag x (p_n x 101 13 13) 0 (h_sz x) := pn_ag (Nat.le_refl _)
    have h1 := h.nw ag (Nat.le_succ _)
    have hR1 := h1.2.2.2.2.2.1
    have hl := hR1.l hk
    obtain ⟨q, hq⟩ : ∃ q, q = h_sz x := ⟨_, rfl⟩
    have kq : h_k (p_n x 101 13 13) q = 101 := by rw [hq]; exact pn_k
    have nq : h_n (p_n x 101 13 13) q = 13 := by rw [hq]; exact pn_n
    rw [dnN] at hd
    rw [dsum] at hs
    have f2 : ∀ j, (if (m_Q m r).length = 0 then f else some (dnP m r f)) = some j → j < m_n m ∧ ne0 m j := by
      intro j hj
      by_cases c : (m_Q m r).length = 0
      · rw [if_pos c] at hj
        exact hf j hj
      · rw [if_neg c] at hj
        injection hj with e
        match f, hf with
        | none, hf =>
          rw [dnP] at e
          rw [← e]
          exact ⟨hk, c⟩
        | some i, hf =>
          rw [dnP] at e
          split at e
          · rw [← e]; exact hf i rfl
          · rw [← e]; exact ⟨hk, c⟩
    have hd2 : dnN m r (if (m_Q m r).length = 0 then f else some (dnP m r f)) = dnN m (m_n m) none := by
      rw [← hd]
      split <;> rfl
    -- the row of facts
    have fin : ∀ s0, s0 = ovM m r → ∃ y, f_X12_isSame_b82 N z (f_X12_isSame_b42 N z n) o (some Y) v2 (fI f) (nI r) (some (o + 5 + 2 * r)) s0 0 (some q) (some q) (p_n x 101 13 13) = some (1, y) ∧ h_sz y ≤ h_sz x + (r + 1) + 2 ∧ h_sl y ≤ h_sl x + 13 * (r + 1) + 26 := by
      intro s0 hs0
      have st : ∀ (u : Hp) (j : Nat) (F v : Int32) (K : Hp → Option (Int32 × Hp)), F = nI j → j < 13 → h_k u = h_k (p_n x 101 13 13) → h_n u = h_n (p_n x 101 13 13) → asti (some q) u 101 F v K = K (p_ai u q j v) := by
        intro u j F v K hF hj e1 e2
        subst hF
        exact asti_s (by rw [e1]; exact kq) (by rw [e2, nq]; exact hj) (by rw [e2, nq]; decide)
      have gl : ∀ (f n : Nat) (u : Hp) (K : Int32 → Option (Int32 × Hp)), n = lf f → (f = 80 ∨ (83 ≤ f ∧ f < 98)) → f < 96 → h_k u = h_k (p_n x 101 13 13) → h_i u = h_i (p_n x 101 13 13) → geti (some (o + 5 + 2 * r)) u 14 n K = K (m_A m r f) := by
        intro f n u K e1 e2 e3 e4 e5
        rw [geti_s (by rw [e4]; exact hl.1), e5, hl.g f n e1 e2 e3]
      have gw : ∀ (u : Hp) (K : Int32 → Option (Int32 × Hp)), h_k u = h_k (p_n x 101 13 13) → h_i u = h_i (p_n x 101 13 13) → geti (some (o + 5 + 2 * r)) u 14 270 K = K (nI (m_Q m r).length) := by
        intro u K e4 e5
        rw [geti_s (by rw [e4]; exact hl.1), e5, hl.2.2.2.2.2.2.1]
      unfold f_X12_isSame_b82
      rw [st _ 0 0 _ _ rfl (by decide) (by exact rfl) (by exact rfl), gl 83 262 _ _ rfl (by decide) (by decide) (by exact rfl) (by exact rfl), st _ 1 1 _ _ rfl (by decide) (by exact rfl) (by exact rfl), gl 84 263 _ _ rfl (by decide) (by decide) (by exact rfl) (by exact rfl), st _ 2 2 _ _ rfl (by decide) (by exact rfl) (by exact rfl), gl 91 264 _ _ rfl (by decide) (by decide) (by exact rfl) (by exact rfl), st _ 3 3 _ _ rfl (by decide) (by exact rfl) (by exact rfl), gl 92 265 _ _ rfl (by decide) (by decide) (by exact rfl) (by exact rfl), st _ 4 4 _ _ rfl (by decide) (by exact rfl) (by exact rfl), gl 85 266 _ _ rfl (by decide) (by decide) (by exact rfl) (by exact rfl), st _ 5 5 _ _ rfl (by decide) (by exact rfl) (by exact rfl), gw _ _ (by exact rfl) (by exact rfl), st _ 6 6 _ _ rfl (by decide) (by exact rfl) (by exact rfl), gl 93 267 _ _ rfl (by decide) (by decide) (by exact rfl) (by exact rfl), st _ 7 7 _ _ rfl (by decide) (by exact rfl) (by exact rfl), gl 86 271 _ _ rfl (by decide) (by decide) (by exact rfl) (by exact rfl), st _ 8 8 _ _ rfl (by decide) (by exact rfl) (by exact rfl), gl 87 272 _ _ rfl (by decide) (by decide) (by exact rfl) (by exact rfl), st _ 9 9 _ _ rfl (by decide) (by exact rfl) (by exact rfl), gl 95 273 _ _ rfl (by decide) (by decide) (by exact rfl) (by exact rfl), st _ 10 10 _ _ rfl (by decide) (by exact rfl) (by exact rfl), gl 88 274 _ _ rfl (by decide) (by decide) (by exact rfl) (by exact rfl), st _ 11 11 _ _ rfl (by decide) (by exact rfl) (by exact rfl), gl 89 275 _ _ rfl (by decide) (by decide) (by exact rfl) (by exact rfl), st _ 12 12 _ _ rfl (by decide) (by exact rfl) (by exact rfl)]
      obtain ⟨u, hu⟩ : ∃ u, u = p_ai (p_ai (p_ai (p_ai (p_ai (p_ai (p_ai (p_ai (p_ai (p_ai (p_ai (p_ai (p_ai (p_n x 101 13 13) q 0 s0) q 1 (m_A m r 83)) q 2 (m_A m r 84)) q 3 (m_A m r 91)) q 4 (m_A m r 92)) q 5 (m_A m r 85)) q 6 (nI (m_Q m r).length)) q 7 (m_A m r 93)) q 8 (m_A m r 86)) q 9 (m_A m r 87)) q 10 (m_A m r 95)) q 11 (m_A m r 88)) q 12 (m_A m r 89) := ⟨_, rfl⟩
      rw [← hu]
      have pa : ∀ (w : Hp) (j : Nat) (v : Int32), Ag w (p_ai w q j v) 0 q := fun w j v => pai_ag (Or.inl (Nat.le_refl _))
      have gu : Ag (p_n x 101 13 13) u 0 q := by
        rw [hu]
        exact (((((((((((((pa _ 0 _).tr (pa _ 1 _)).tr (pa _ 2 _)).tr (pa _ 3 _)).tr (pa _ 4 _)).tr (pa _ 5 _)).tr (pa _ 6 _)).tr (pa _ 7 _)).tr (pa _ 8 _)).tr (pa _ 9 _)).tr (pa _ 10 _)).tr (pa _ 11 _)).tr (pa _ 12 _))
      have su : h_sz u = h_sz x + 1 ∧ h_sl u = h_sl x + 13 := by rw [hu]; exact ⟨rfl, rfl⟩
      have hWu : Wd b L xs Y o os u m := h1.nq gu (by rw [hq]; exact w9) (by rw [su.1]; exact Nat.le_refl _)
      have hqu : h_k u q = 101 ∧ h_n u q = 13 ∧ ∀ w, w < 13 → h_ai u q w = factM (m_A m r) (m_Q m r) (ovM m r) w := by
        refine ⟨by rw [hu]; exact kq, by rw [hu]; exact nq, fun w hw => ?_⟩
        rw [hu]
        have c : w = 0 ∨ w = 1 ∨ w = 2 ∨ w = 3 ∨ w = 4 ∨ w = 5 ∨ w = 6 ∨ w = 7 ∨ w = 8 ∨ w = 9 ∨ w = 10 ∨ w = 11 ∨ w = 12 := by omega
        rcases c with c | c | c | c | c | c | c | c | c | c | c | c | c <;> subst c <;> simp [HPAI, factM, hs0]
      obtain ⟨y, e1, e2, e3⟩ := same_42 hN r n u (if (m_Q m r).length = 0 then f else some (dnP m r f)) (v2 + m_A m r 89) hWu (by omega) (by omega) f2 hd2 hs
      refine ⟨y, ?_, by omega, by omega⟩
      rw [show (0 : Int32) = nI 0 from rfl, same_191 (z := z) hWu hk hf hqu hN N 13 0 (by omega) (by omega)]
      exact e1
    rw [← hq] at fin
    rw [pk_m1, f_X12_isSame_b42, if_neg (nI_pos (by omega)), getr_s hR.k, hR.rl, hR.al hk, show (13 : Int32) = nI 13 from rfl, newa_s (by decide), ← hq, getr_s hl.1, hl.2.2.1]
    match hOv : m_O m r with
    | none =>
      rw [show lb o none = none from rfl, if_pos rfl]
      exact fin (-1) (by unfold ovM; rw [hOv])
    | some j =>
      have hj := hR1.ov hk hOv
      have hlj := hR1.l (k := j) (by omega)
      rw [show lb o (some j) = some (o + 5 + 2 * j) from rfl, if_neg (by simp), getr_s hl.1, hl.2.2.1, hOv, show lb o (some j) = some (o + 5 + 2 * j) from rfl, geti_s hlj.1, lb_fI hR1 (fun _ => Nat.le_refl 96) (by omega)]
      exact fin (nI j) (by unfold ovM; rw [hOv])
theorem same_2 {m : Md} (hN : 401 ≤ N) : ∀ (r n w : Nat) (x : Hp), Wd b L xs Y o os x m → w + r = 13 → r < n → ∃ y, f_X12_isSame_b2 N z n o (some Y) (nI w) x = some (1, y) ∧ h_sz y ≤ h_sz x + r + 8 ∧ h_sl y ≤ h_sl x + 13 * r + 104
  | r, 0, w, x, h, hw, hr => absurd hr (by omega)
  | 0, n + 1, w, x, h, hw, hr => by
    have hR := h.2.2.2.2.2.1
    have h6 := hR.n6
    have h1 := h.2.2.2.2.2.2.2.2.2.2
    obtain ⟨y, e1, e2, e3⟩ := same_42 (z := z) hN (m_n m) N x none 0 h (Nat.le_refl _) (by omega) (fun j hj => by simp at hj) rfl rfl
    refine ⟨y, ?_, by omega, by omega⟩
    rw [f_X12_isSame_b2, show (13 : Int32) = nI 13 from rfl, if_pos (nI_le (by omega) (by omega)), getr_s hR.k, hR.rl, hR.an]
    have : nI (m_n m) - 1 = nI (m_n m) + (-1) := by grind
    rw [this]
    exact e1
  | r + 1, n + 1, w, x, h, hw, hr => by
    have hb := h.2.1
    have hS := h.2.2.1
    have hR := h.2.2.2.2.2.1
    have w9 := h.2.2.2.2.2.2.2.2.1
    have ec : f_X10_count N z Y (nI w) x = some (cntM m os.length w, x) := by
      unfold cntM
      by_cases c : w = 12
      · subst c
        rw [if_pos rfl]
        exact c_count12 hb
      · rw [if_neg c]
        have := c_count (N := N) (z := z) (w := w) hb hS h.bk (by omega) (by omega)
        rw [List.length_map] at this
        exact this
    obtain ⟨u, a1, a2, a3, a4⟩ := counted_s (N := N) (z := z) (w := w) (by omega) hR w9 (by omega)
    obtain ⟨y, e1, e2, e3⟩ := same_2 hN r n (w + 1) u (h.nw a2 (by omega)) (by omega) (by omega)
    refine ⟨y, ?_, by omega, by omega⟩
    rw [f_X12_isSame_b2, show (13 : Int32) = nI 13 from rfl, if_neg (nI_ge (by omega) (by omega)), obj_s hb.1, ec, bnd_s, obj_s hR.k, a1, bnd_s, if_pos rfl, nI_1]
    exact e1
theorem law_28 (hN : 401 ≤ N) : ∀ (r n t : Nat) (x : Hp) (m : Md) (mi : Nat), Wd b L xs Y o os x m → IInv mi m → mi + 13 * r ≤ 980 → t + r = 24 → r < n → ∃ y, f_L_law_b28 N z n (some b) (some Y) (some o) (nI t) x = some (1, y) ∧ h_sz y ≤ h_sz x + 6 * r + 21 ∧ h_sl y ≤ h_sl x + 70 * r + 273
  | r, 0, t, x, m, mi, h, i, hmi, ht, hr => absurd hr (by omega)
  | 0, n + 1, t, x, m, mi, h, i, hmi, ht, hr => by
    have hR := h.2.2.2.2.2.1
    obtain ⟨y, e1, e2, e3⟩ := same_2 (z := z) hN 13 N 0 x h (by omega) (by omega)
    refine ⟨y, ?_, by omega, by omega⟩
    have e1' : f_X12_isSame N z o (some Y) x = some (1, y) := e1
    rw [f_L_law_b28, show (24 : Int32) = nI 24 from rfl, if_pos (nI_le (by omega) (by omega)), obj_s hR.k, e1', bnd_s, bool, if_pos (Or.inr rfl)]
  | r + 1, n + 1, t, x, m, mi, h, i, hmi, ht, hr => by
    obtain ⟨s1, s2, s3, s4⟩ := h.1
    obtain ⟨c, c1⟩ := cell_s (N := N) (z := z) (k := t % 16) s2 s3 s4 (by omega)
    obtain ⟨y, m', mi', e1, e2, e3, e4, e5, e6, e7, e8⟩ := min_60 (N := N) (z := z) (k28 := f_L_law_b28 N z n) (v0 := some b) (v3 := nI t) (v4 := (c >>> (((nI t / (16 : Int32)) * (3 : Int32)) &&& 31)) + ((421 : Int32) * nI t)) hN N 2 0 x m mi h i (by omega) (by omega) (by omega)
    obtain ⟨u, d1, d2, d3⟩ := law_28 hN r n (t + 1) y m' mi' e2 e3 (by omega) (by omega) (by omega)
    refine ⟨u, ?_, by omega, by omega⟩
    have er : nI t - nI t / (16 : Int32) * (16 : Int32) = nI (t % 16) := pk_rem (d := 16) (by omega) (by decide) (by decide)
    rw [f_L_law_b28, show (24 : Int32) = nI 24 from rfl, if_neg (nI_ge (by omega) (by omega)), nz, if_neg (by decide), er, c1, bnd_s, nz, if_neg (by decide), show (0 : Int32) = nI 0 from rfl, e1, nI_1]
    exact d1
end ES
