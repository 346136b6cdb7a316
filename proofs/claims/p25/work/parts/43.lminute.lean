/-! ===== the law's minute from the tokens on ===== -/
theorem aldi_0 {β : Type} {x : Hp} {o kd : Nat} {k : Int32 → Option β} (h : h_k x o = kd) (hj : 0 < h_n x o) (hn : h_n x o < 2 ^ 31) : aldi (some o) x kd 0 k = k (h_ai x o 0) := aldi_s (j := 0) h hj hn
theorem sA_A {m : Md} {k f : Nat} {v : Int32} (i g : Nat) : m_A (sA m k f v) i g = if i = k ∧ g = f then v else m_A m i g := by
  by_cases c : i = k
  · subst c
    by_cases d : g = f
    · rw [if_pos ⟨rfl, d⟩, d, sA, (sL_x m _ _ _).1, up1_eq, up1_eq]
    · rw [if_neg (fun q => d q.2), sA, (sL_x m _ _ _).1, up1_eq, up1_ne d]
  · rw [if_neg (fun q => c q.1), sA, (sL_x m _ _ _).1, up1_ne c]
theorem sA_Q {m : Md} {k f : Nat} {v : Int32} : m_Q (sA m k f v) = m_Q m := (sA_x (m := m) (k := k) (f := f) (v := v)).2.2.2.2.2.1
theorem sL_A {m : Md} {k : Nat} {A : Nat → Int32} {Q : List Int32} (i g : Nat) : m_A (sL m k A Q) i g = if i = k then A g else m_A m i g := by
  simp only [sL_x, up1]
  split <;> rfl
theorem allN_A : ∀ (n : Nat) (m : Md) (p : Option Nat) (i f : Nat), f ≠ 97 → m_A (allN n m p) i f = m_A m i f
  | 0, m, p, i, f, hf => rfl
  | n + 1, m, none, i, f, hf => rfl
  | n + 1, m, some k, i, f, hf => by
    rw [allN, allN_A n (inc m k 97) (m_O m k) i f hf, inc, sA_A, if_neg (fun q => hf q.2)]
theorem allN_Q : ∀ (n : Nat) (m : Md) (p : Option Nat), m_Q (allN n m p) = m_Q m
  | 0, m, p => rfl
  | n + 1, m, none => rfl
  | n + 1, m, some k => by rw [allN, allN_Q n (inc m k 97) (m_O m k), inc, sA_Q]
theorem snd1_A {m : Md} {k : Nat} {mi : Int32} (i f : Nat) : m_A (snd1 m k mi) i f = if i = k ∧ f = 89 then m_A m k 89 + (mi - (m_Q m k).getD 0 0) else m_A m i f := by
  rw [snd1, sL_A]
  by_cases c : i = k
  · subst c
    by_cases d : f = 89
    · rw [if_pos rfl, if_pos ⟨rfl, d⟩, d, up1_eq]
    · rw [if_pos rfl, if_neg (fun q => d q.2), up1_ne d]
  · rw [if_neg c, if_neg (fun q => c q.1)]
theorem snd3_A {a : Md} {k j : Nat} (i f : Nat) : m_A (snd3 a k j) i f = if j ≠ k ∧ i = k ∧ f = 88 then m_A a i f + 1 else if j ≠ k ∧ i = j ∧ f = 95 then m_A a i f + 1 else m_A a i f := by
  unfold snd3
  by_cases c : j = k
  · rw [if_pos c, if_neg (fun q => q.1 c), if_neg (fun q => q.1 c)]
  · have hc : ¬ k = j := fun q => c q.symm
    rw [if_neg c, inc, inc]
    simp only [sA_A]
    by_cases d : i = k
    · subst d
      by_cases e4 : f = 88
      · subst e4; simp [c]
      · simp [e4, hc]
    · by_cases d2 : i = j
      · subst d2
        by_cases e5 : f = 95
        · subst e5; simp [c]
        · simp [e5, c]
      · simp [d, d2]
/-- what sending does to the numbers, the lanes' sums of the minute aside -/
theorem sendM_A {m : Md} {k j : Nat} {mi : Int32} (hj : lend m k = some j) (i f : Nat) (hf : f ≠ 97) : m_A (sendM m k mi) i f = if i = k ∧ f = 96 then m_A m i f + 1 else if i = k ∧ f = 86 then m_A m i f + 1 else if i = k ∧ f = 89 then m_A m i f + (mi - (m_Q m k).getD 0 0) else if j ≠ k ∧ i = k ∧ f = 88 then m_A m i f + 1 else if j ≠ k ∧ i = j ∧ f = 95 then m_A m i f + 1 else if i = j ∧ f = 85 then m_A m i f - 1 else m_A m i f := by
  unfold sendM
  rw [hj]
  simp only
  rw [allN_A _ _ _ _ _ hf]
  simp only [inc, snd2, sA_A, snd3_A, snd1_A]
  by_cases d : i = k
  · subst d
    by_cases e1 : f = 96
    · subst e1; simp
    · by_cases e2 : f = 86
      · subst e2; simp
      · by_cases e3 : f = 89
        · subst e3; simp
        · by_cases e4 : f = 88
          · subst e4; simp
          · by_cases e5 : f = 85
            · subst e5
              by_cases c : i = j
              · subst c; simp
              · simp [c]
            · by_cases e6 : f = 95
              · subst e6
                by_cases c : i = j
                · subst c; simp
                · simp [c]
              · simp [e1, e2, e3, e4, e5, e6]
  · by_cases d2 : i = j
    · subst d2
      by_cases e5 : f = 95
      · subst e5; simp [d]
      · by_cases e4 : f = 85
        · subst e4; simp [d]
        · simp [d, e5, e4]
    · simp [d, d2]
theorem sendM_Q {m : Md} {k j : Nat} {mi : Int32} (hj : lend m k = some j) : m_Q (sendM m k mi) = up1 (m_Q m) k ((m_Q m k).drop 1) := by
  unfold sendM
  rw [hj]
  simp only
  rw [allN_Q, inc, inc, sA_Q, sA_Q, snd3]
  by_cases c : j = k
  · rw [if_pos c, snd2, sA_Q, snd1]
    rfl
  · rw [if_neg c, inc, inc, sA_Q, sA_Q, snd2, sA_Q, snd1]
    rfl
theorem Sm9.sd {m : Md} {c k : Nat} {mi : Int32} (h : Sm9 m c) : Sm9 (sendM m k mi) (c + 1) := by
  obtain ⟨x1, x2, x3, x4, x5⟩ := sendM_x m k mi
  intro i hi
  rw [x3] at hi
  obtain ⟨⟨r, hr, er⟩, w, hw, ew⟩ := h i hi
  match hL : lend m k with
  | none =>
    have e : sendM m k mi = m := by unfold sendM; rw [hL]
    rw [e]
    exact ⟨⟨r, hr, er⟩, w, by omega, ew⟩
  | some j =>
    rw [sendM_A hL i 92 (by decide), sendM_A hL i 96 (by decide)]
    refine ⟨⟨r, hr, by simp [er]⟩, ?_⟩
    by_cases d : i = k
    · refine ⟨w + 1, by omega, ?_⟩
      rw [if_pos ⟨d, rfl⟩, ew, nI_1]
    · exact ⟨w, by omega, by simp [d, ew]⟩
section LS
theorem law_pop2 {N : Nat} {z : Nat → Nat} {L a : Nat} {x : Hp} {A : Nat → Int32} {Q : List Int32} {q : Int32} {r : List Int32} {O : Option Nat} (h : LawL L x a A Q O) (hQ : Q = q :: r) (hN : 61 ≤ N) : ∃ y, f_X11_pop N z a x = some ((), y) ∧ LawL L y a A r O ∧ Fr x y a (a + 2) := by
  subst hQ
  exact law_pop h hN
variable {N : Nat} {z : Nat → Nat} {o : Nat} {os : List (Nat → Nat)}
theorem lwho_l {x : Hp} {m : Md} {c : Nat} {K : Nat → Int32 → Hp → Option (Unit × Hp)} {v1 : Int32} (h : SimR x o m os L98) (hs : Sm9 m c) (hc : c ≤ 100) (hN : 8 ≤ N) : ∀ (r i n : Nat) (b : Option Nat), i + r = m_n m → (∀ j, b = some j → j < m_n m ∧ can m j = true) → f_X12_pass_b469 N z K (n + r) o v1 (lb o b) (some (o + 4)) (nI (m_n m)) (nI i) x = f_X12_pass_b469 N z K n o v1 (lb o (whoN m r i b)) (some (o + 4)) (nI (m_n m)) (nI (m_n m)) x
  | 0, i, n, b, hi, hb => by
    rw [show i = m_n m by omega]
    rfl
  | r + 1, i, n, b, hi, hb => by
    have h6 := h.n6
    have hi2 : i < m_n m := by omega
    have hl := h.l hi2
    rw [show n + (r + 1) = (n + r) + 1 by omega, f_X12_pass_b469, if_neg (nI_ge hi2 (by omega)), h.al hi2, obj_s hl.1, law_can h hi2 hN, bnd_s, whoN]
    by_cases d : can m i = true
    · rw [if_pos d, if_pos d, if_neg (by decide)]
      match b, hb with
      | none, hb =>
        rw [show lb o none = none from rfl, if_pos rfl, pick]
        unfold f_X12_pass_b506 f_X12_pass_b509
        rw [nI_1]
        exact lwho_l h hs hc hN r (i + 1) n (some i) (by omega) (fun j hj => by injection hj with e; subst e; exact ⟨hi2, d⟩)
      | some j, hb =>
        obtain ⟨hj, cj⟩ := hb j rfl
        have hlj := h.l hj
        have eo := ord_lt hs hc hi2 hj d cj
        rw [show lb o (some j) = some (o + 5 + 2 * j) from rfl, if_neg (by simp), obj_s hl.1, law_order h hi2 hN, bnd_s, obj_s hlj.1, law_order h hj hN, bnd_s, pick]
        by_cases e : ahd (m_A m i) (m_A m j) = 0
        · rw [if_pos (eo.mpr e), if_pos e]
          unfold f_X12_pass_b509
          rw [nI_1]
          exact lwho_l h hs hc hN r (i + 1) n (some j) (by omega) hb
        · rw [if_neg (fun q => e (eo.mp q)), if_neg e]
          unfold f_X12_pass_b506 f_X12_pass_b509
          rw [nI_1]
          exact lwho_l h hs hc hN r (i + 1) n (some i) (by omega) (fun j hj => by injection hj with e; subst e; exact ⟨hi2, d⟩)
    · rw [if_neg d, if_neg d, if_pos rfl]
      unfold f_X12_pass_b509
      rw [nI_1]
      exact lwho_l h hs hc hN r (i + 1) n b (by omega) hb
theorem lall_l {K : Nat → Int32 → Hp → Option (Unit × Hp)} {v1 : Int32} : ∀ (n k : Nat) (x : Hp) (m : Md), SimR x o m os L98 → k + 1 < n → k < m_n m → ∃ y, f_X12_pass_b609 N z K n o v1 (some (o + 5 + 2 * k)) x = K o (v1 + (-1)) y ∧ SimR y o (allN n m (some k)) os L98 ∧ Fr x y o (simE o m os)
  | 0, k, x, m, h, h1, h2 => absurd h1 (by omega)
  | n + 1, k, x, m, h, h1, h2 => by
    have hl := h.l h2
    obtain ⟨g, gf⟩ := h.wr (k := k) (n := 278) (f := 97) (v := m_A m k 97 + 1) h2 rfl (by decide)
    unfold f_X12_pass_b609
    rw [if_neg (by simp), geti_s hl.1, puti_s hl.1, getr_s (by exact hl.1), hl.g 97 278 rfl (by decide) (show _ < 98 by decide), allN]
    have gl := (g.l (k := k) h2).2.2.1
    rw [gl]
    show ∃ y, f_X12_pass_b609 N z K n o v1 (lb o (m_O m k)) (p_i x 278 (o + 5 + 2 * k) (m_A m k 97 + 1)) = K o (v1 + (-1)) y ∧ SimR y o (allN n (inc m k 97) (m_O m k)) os L98 ∧ Fr x y o (simE o m os)
    match n, h1, hO : m_O m k with
    | 0, h1, _ => exact absurd h1 (by omega)
    | n + 1, h1, none =>
      rw [show lb o none = none from rfl]
      unfold f_X12_pass_b609
      rw [if_pos rfl]
      exact ⟨_, rfl, g, gf⟩
    | n + 1, h1, some j =>
      have hj := h.ov h2 hO
      obtain ⟨y, e1, e2, e3⟩ := lall_l (K := K) (v1 := v1) (n + 1) j _ _ g (by omega) (show j < m_n m by omega)
      exact ⟨y, e1, e2, gf.tr e3⟩
/-- the law's order of writes -/
def lsnd0 (m : Md) (k j : Nat) : Md := if j = k then sA m j 85 (m_A m j 85 - 1) else inc (inc (sA m j 85 (m_A m j 85 - 1)) j 95) k 88
def lsnd1 (m : Md) (k : Nat) (mi : Int32) : Md := inc (inc (sL (sA m k 89 (m_A m k 89 + (mi - (m_Q m k).getD 0 0))) k (m_A (sA m k 89 (m_A m k 89 + (mi - (m_Q m k).getD 0 0))) k) ((m_Q m k).drop 1)) k 86) k 96
theorem lsnd_alk {m : Md} {k j : Nat} {mi : Int32} : Alk (lsnd1 (lsnd0 m k j) k mi) (inc (inc (snd3 (snd2 (snd1 m k mi) j) k j) k 86) k 96) := by
  have q0 : m_Q (lsnd0 m k j) = m_Q m := by
    unfold lsnd0
    split
    · exact sA_Q
    · rw [inc, inc, sA_Q, sA_Q, sA_Q]
  have q1 : m_Q (snd3 (snd2 (snd1 m k mi) j) k j) = up1 (m_Q m) k ((m_Q m k).drop 1) := by
    unfold snd3
    split
    · rw [snd2, sA_Q]; rfl
    · rw [inc, inc, sA_Q, sA_Q, snd2, sA_Q]; rfl
  have l0 : ∀ i f, m_A (lsnd0 m k j) i f = if j ≠ k ∧ i = k ∧ f = 88 then m_A m i f + 1 else if j ≠ k ∧ i = j ∧ f = 95 then m_A m i f + 1 else if i = j ∧ f = 85 then m_A m i f - 1 else m_A m i f := by
    intro i f
    unfold lsnd0
    by_cases c : j = k
    · rw [if_pos c, if_neg (fun q => q.1 c), if_neg (fun q => q.1 c), sA_A]
      by_cases d : i = j ∧ f = 85
      · rw [if_pos d, if_pos d, d.1, d.2]
      · rw [if_neg d, if_neg d]
    · have hc : ¬ k = j := fun q => c q.symm
      rw [if_neg c, inc, inc]
      simp only [sA_A]
      by_cases d : i = k
      · subst d
        by_cases e4 : f = 88
        · subst e4; simp [c]
        · simp [e4, hc]
      · by_cases d2 : i = j
        · subst d2
          by_cases e5 : f = 95
          · subst e5; simp [c]
          · by_cases e6 : f = 85
            · subst e6; simp [c]
            · simp [e5, e6, c]
        · simp [d, d2]
  have hx : ∀ i f, m_A (inc (inc (snd3 (snd2 (snd1 m k mi) j) k j) k 86) k 96) i f = m_A (lsnd1 (lsnd0 m k j) k mi) i f := by
    intro i f
    unfold lsnd1
    rw [q0]
    simp only [inc, snd2, sA_A, sL_A, snd3_A, snd1_A, l0]
    by_cases d : i = k
    · subst d
      by_cases e1 : f = 96
      · subst e1; simp
      · by_cases e2 : f = 86
        · subst e2; simp
        · by_cases e3 : f = 89
          · subst e3; simp
          · by_cases e4 : f = 88
            · subst e4; simp
            · by_cases e5 : f = 85
              · subst e5
                by_cases c : i = j
                · subst c; simp
                · simp [c]
              · by_cases e6 : f = 95
                · subst e6
                  by_cases c : i = j
                  · subst c; simp
                  · simp [c]
                · simp [e1, e2, e3, e4, e5, e6]
    · by_cases d2 : i = j
      · subst d2
        by_cases e5 : f = 95
        · subst e5; simp [d]
        · by_cases e4 : f = 85
          · subst e4; simp [d]
          · simp [d, e5, e4]
      · simp [d, d2]
  have hr : ∀ a : Md, m_n (lsnd1 a k mi) = m_n a ∧ m_m (lsnd1 a k mi) = m_m a ∧ m_O (lsnd1 a k mi) = m_O a ∧ m_F (lsnd1 a k mi) = m_F a ∧ m_V (lsnd1 a k mi) = m_V a := fun a => ⟨rfl, rfl, rfl, rfl, rfl⟩
  have h0 : m_n (lsnd0 m k j) = m_n m ∧ m_m (lsnd0 m k j) = m_m m ∧ m_O (lsnd0 m k j) = m_O m ∧ m_F (lsnd0 m k j) = m_F m ∧ m_V (lsnd0 m k j) = m_V m := by
    unfold lsnd0
    split <;> exact ⟨rfl, rfl, rfl, rfl, rfl⟩
  have h3 : ∀ a : Md, m_n (snd3 a k j) = m_n a ∧ m_m (snd3 a k j) = m_m a ∧ m_O (snd3 a k j) = m_O a ∧ m_F (snd3 a k j) = m_F a ∧ m_V (snd3 a k j) = m_V a := by
    intro a
    unfold snd3
    split <;> exact ⟨rfl, rfl, rfl, rfl, rfl⟩
  obtain ⟨a1, a2, a3, a4, a5⟩ := hr (lsnd0 m k j)
  obtain ⟨b1, b2, b3, b4, b5⟩ := h0
  obtain ⟨c1, c2, c3, c4, c5⟩ := h3 (snd2 (snd1 m k mi) j)
  unfold Alk
  rw [a1, b1, a2, b2, a3, b3, a4, b4, a5, b5]
  refine ⟨c1, c2, fun i hi => ?_, fun i hi => ?_, fun i hi f hf => hx i f, fun i hi f f1 f2 => ?_, fun f f1 => ?_⟩
  · exact congrFun c3 i
  · have e1 : m_Q (inc (inc (snd3 (snd2 (snd1 m k mi) j) k j) k 86) k 96) = m_Q (snd3 (snd2 (snd1 m k mi) j) k j) := by rw [inc, inc, sA_Q, sA_Q]
    rw [e1, q1]
    unfold lsnd1
    show up1 (m_Q m) k ((m_Q m k).drop 1) i = m_Q (inc (inc (sL _ k _ ((m_Q (lsnd0 m k j) k).drop 1)) k 86) k 96) i
    rw [inc, inc, sA_Q, sA_Q, (sL_x _ _ _ _).2.1, sA_Q, q0]
  · exact congrFun (congrFun c4 i) f
  · exact congrFun c5 f
theorem law_562 {x : Hp} {m : Md} {k : Nat} {mi : Int32} {K : Nat → Int32 → Hp → Option (Unit × Hp)} {v1 q : Int32} {r : List Int32} (h : SimR x o m os L98) (hk : k < m_n m) (hQ : m_Q m k = q :: r) (h1 : m_V m 161 = mi) (hN : 61 ≤ N) : ∃ y, f_X12_pass_b562 N z K o v1 (some (o + 5 + 2 * k)) x = f_X12_pass_b609 N z K N o v1 (some (o + 5 + 2 * k)) y ∧ SimR y o (lsnd1 m k mi) os L98 ∧ Fr x y o (simE o m os) := by
  have hl := h.l hk
  have hq := hl.2.2.2.2.2.2.2.1 0 (by rw [hQ]; simp)
  obtain ⟨g, gf⟩ := h.wr (k := k) (n := 275) (f := 89) (v := m_A m k 89 + (mi - (m_Q m k).getD 0 0)) hk rfl (by decide)
  have gl := g.l (k := k) hk
  have hQ2 : m_Q (sA m k 89 (m_A m k 89 + (mi - (m_Q m k).getD 0 0))) k = q :: r := by rw [sA_Q]; exact hQ
  obtain ⟨y, e1, e2, e3⟩ := law_pop2 (N := N) (z := z) gl hQ2 hN
  have g2 := g.up' (k := k) hk e3 e2 (by rw [sA_A, if_neg (fun q => absurd q.2 (by decide))]; exact h.2.2.2.2.2.2 k hk)
  have f2' := g.fw (k := k) hk e3
  have f2 : Fr x y o (simE o m os) := gf.tr f2'
  have g2l := g2.l (k := k) hk
  obtain ⟨g3, f3⟩ := g2.wr (k := k) (n := 271) (f := 86) (v := m_A _ k 86 + 1) hk rfl (by decide)
  have g3l := g3.l (k := k) hk
  obtain ⟨g4, f4⟩ := g3.wr (k := k) (n := 277) (f := 96) (v := m_A _ k 96 + 1) hk rfl (by decide)
  refine ⟨_, ?_, ?_, (f2.tr f3).tr f4⟩
  rotate_left
  · unfold lsnd1
    rw [show (m_Q m k).drop 1 = r by rw [hQ]; rfl]
    exact g4
  · unfold f_X12_pass_b562
    rw [geti_s hl.1, geti_s h.k, getr_s hl.1, hl.2.1, aldi_0 hl.2.2.2.1 (by rw [hl.2.2.2.2.1]; decide) (by rw [hl.2.2.2.2.1]; decide), hq, hl.g 89 275 rfl (by decide) (show _ < 98 by decide), h.2.1.1, h1, puti_s hl.1, obj_s gl.1, e1, bnd_s, geti_s g2l.1, g2l.g 86 271 rfl (by decide) (show _ < 98 by decide), puti_s g2l.1, geti_s g3l.1, g3l.g 96 277 rfl (by decide) (show _ < 98 by decide), puti_s g3l.1]
    rfl
theorem law_send {x : Hp} {m : Md} {k j : Nat} {mi : Int32} {n : Nat} {K : Nat → Int32 → Hp → Option (Unit × Hp)} {v1 : Int32} {v3 : Option Nat} (h : SimR x o m os L98) (hk : k < m_n m) (hj : lend m k = some j) (hQ : ∃ q r, m_Q m k = q :: r) (h1 : m_V m 161 = mi) (hN : 61 ≤ N) : ∃ y, f_X12_pass_b469 N z K (n + 1) o v1 (some (o + 5 + 2 * k)) v3 (nI (m_n m)) (nI (m_n m)) x = K o (v1 + (-1)) y ∧ SimR y o (sendM m k mi) os L98 ∧ Fr x y o (simE o m os) := by
  have hn := h.n6
  have hl := h.l hk
  obtain ⟨q, r, hQ⟩ := hQ
  have hjk := lendN_le h.st 6 k j hk hj
  have hj2 : j < m_n m := by omega
  have hlj := h.l hj2
  obtain ⟨g, gf⟩ := h.wr (k := j) (n := 266) (f := 85) (v := m_A m j 85 - 1) hj2 rfl (by decide)
  have fin : ∀ (x' : Hp), SimR x' o (lsnd0 m k j) os L98 → Fr x x' o (simE o m os) → ∃ y, f_X12_pass_b562 N z K o v1 (some (o + 5 + 2 * k)) x' = K o (v1 + (-1)) y ∧ SimR y o (sendM m k mi) os L98 ∧ Fr x y o (simE o m os) := by
    intro x' hx' fx'
    have q0 : m_Q (lsnd0 m k j) k = q :: r := by
      unfold lsnd0
      split
      · rw [sA_Q]; exact hQ
      · rw [inc, inc, sA_Q, sA_Q, sA_Q]; exact hQ
    have b : m_n (lsnd0 m k j) = m_n m ∧ m_V (lsnd0 m k j) = m_V m ∧ m_m (lsnd0 m k j) = m_m m := by
      unfold lsnd0
      split <;> exact ⟨rfl, rfl, rfl⟩
    obtain ⟨y, e1, e2, e3⟩ := law_562 (N := N) (z := z) (K := K) (v1 := v1) (mi := mi) hx' (by rw [b.1]; exact hk) q0 (by rw [b.2.1]; exact h1) hN
    have e2' := e2.cg lsnd_alk
    have n1 : m_n (inc (inc (snd3 (snd2 (snd1 m k mi) j) k j) k 86) k 96) = m_n m := by
      show m_n (snd3 (snd2 (snd1 m k mi) j) k j) = m_n m
      unfold snd3
      split <;> rfl
    have o1 : m_O (inc (inc (snd3 (snd2 (snd1 m k mi) j) k j) k 86) k 96) = m_O m := by
      show m_O (snd3 (snd2 (snd1 m k mi) j) k j) = m_O m
      unfold snd3
      split <;> rfl
    have m1 : m_m (inc (inc (snd3 (snd2 (snd1 m k mi) j) k j) k 86) k 96) = m_m m := by
      show m_m (snd3 (snd2 (snd1 m k mi) j) k j) = m_m m
      unfold snd3
      split <;> rfl
    obtain ⟨w, d1, d2, d3⟩ := lall_l (N := N) (z := z) (K := K) (v1 := v1) N k y _ e2' (by omega) (by rw [n1]; exact hk)
    rw [allN_st (n := N) (n' := 6) e2'.st (by omega) (by omega) (by rw [n1]; exact hk)] at d2
    refine ⟨w, e1.trans d1, ?_, ?_⟩
    · unfold sendM
      rw [hj]
      exact d2
    · have t3 : Fr x' y o (simE o m os) := by unfold simE at e3 ⊢; rw [b.1, b.2.2] at e3; exact e3
      have t4 : Fr y w o (simE o m os) := by unfold simE at d3 ⊢; rw [n1, m1] at d3; exact d3
      exact (fx'.tr t3).tr t4
  rw [f_X12_pass_b469, if_pos (nI_le (by omega) (by omega)), if_neg (by simp), obj_s hl.1, law_lender h l98 hk (by omega), bnd_s, hj, show lb o (some j) = some (o + 5 + 2 * j) from rfl, geti_s hlj.1, hlj.g 85 266 rfl (by decide) (show _ < 98 by decide), puti_s hlj.1]
  by_cases c : j = k
  · rw [if_pos (by rw [c])]
    refine fin _ ?_ gf
    unfold lsnd0
    rw [if_pos c]
    exact g
  · have gl := g.l (k := j) hj2
    obtain ⟨g2, f2⟩ := g.wr (k := j) (n := 273) (f := 95) (v := m_A _ j 95 + 1) hj2 rfl (by decide)
    have g2l := g2.l (k := k) hk
    obtain ⟨g3, f3⟩ := g2.wr (k := k) (n := 274) (f := 88) (v := m_A _ k 88 + 1) hk rfl (by decide)
    rw [if_neg (by simp; omega), geti_s gl.1, gl.g 95 273 rfl (by decide) (show _ < 98 by decide), puti_s gl.1, geti_s g2l.1, g2l.g 88 274 rfl (by decide) (show _ < 98 by decide), puti_s g2l.1]
    refine fin _ ?_ ((gf.tr f2).tr f3)
    unfold lsnd0
    rw [if_neg c]
    exact g3
end LS
