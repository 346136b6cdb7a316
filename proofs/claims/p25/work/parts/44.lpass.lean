/-! ===== the law's minute: sending, tokens, folk, orders ===== -/
theorem sendsN_le {mi : Int32} : ∀ (r : Nat) (m : Md), (sendsN mi r m).2 ≤ r
  | 0, m => Nat.le_refl _
  | r + 1, m => by
    rw [sendsN]
    match who m with
    | none => exact Nat.zero_le _
    | some k => exact Nat.succ_le_succ (sendsN_le r (sendM m k mi))
section LP
variable {N : Nat} {z : Nat → Nat} {o : Nat} {os : List (Nat → Nat)}
theorem simE_x {m m' : Md} (h1 : m_n m' = m_n m) (h2 : m_m m' = m_m m) : simE o m' os = simE o m os := by
  unfold simE
  rw [h1, h2]
theorem law_sends {mi : Int32} (hN : 61 ≤ N) : ∀ (r n c : Nat) (x : Hp) (m : Md), SimR x o m os L98 → Sm9 m c → c + r ≤ 100 → m_V m 161 = mi → r < n → ∃ y, f_X12_pass_b451 N z n o (nI r) x = f_X12_pass_b641 N z o (nI (r - (sendsN mi r m).2)) y ∧ SimR y o (sendsN mi r m).1 os L98 ∧ Fr x y o (simE o m os)
  | 0, 0, c, x, m, h, hs, hc, h1, hn => absurd hn (by omega)
  | 0, n + 1, c, x, m, h, hs, hc, h1, hn => by
    rw [f_X12_pass_b451, if_pos (by decide)]
    exact ⟨x, rfl, h, Fr.rf⟩
  | r + 1, 0, c, x, m, h, hs, hc, h1, hn => absurd hn (by omega)
  | r + 1, n + 1, c, x, m, h, hs, hc, h1, hn => by
    have h6 := h.n6
    obtain ⟨N', hN'⟩ : ∃ N', N = (N' + 1) + m_n m := ⟨N - 1 - m_n m, by omega⟩
    have e0 := lwho_l (N := N) (z := z) (K := f_X12_pass_b451 N z n) (v1 := nI (r + 1)) h hs (by omega) (by omega) (m_n m) 0 (N' + 1) none (by omega) (fun j hj => by simp at hj)
    rw [← hN'] at e0
    rw [f_X12_pass_b451, if_neg (nI_nle (by omega) (by omega)), getr_s h.k, h.rl, h.an, show (none : Option Nat) = lb o none from rfl, show (0 : Int32) = nI 0 from rfl, e0, sendsN]
    rw [show whoN m (m_n m) 0 none = who m from rfl]
    match hW : who m with
    | none =>
      rw [show lb o none = none from rfl, f_X12_pass_b469, if_pos (nI_le (by omega) (by omega)), if_pos rfl]
      exact ⟨x, rfl, h, Fr.rf⟩
    | some k =>
      obtain ⟨hk, hcn⟩ := who_can hW
      obtain ⟨j, q, t, e1, e2⟩ := can_x hcn
      obtain ⟨y, d1, d2, d3⟩ := law_send (N := N) (z := z) (n := N') (mi := mi) (K := f_X12_pass_b451 N z n) (v1 := nI (r + 1)) (v3 := some (o + 4)) h hk e1 ⟨q, t, e2⟩ h1 hN
      obtain ⟨x1, x2, x3, x4, x5⟩ := sendM_x m k mi
      obtain ⟨w, b1, b2, b3⟩ := law_sends (mi := mi) hN r n (c + 1) y (sendM m k mi) d2 hs.sd (by omega) (by rw [x2]; exact h1) (by omega)
      rw [simE_x x3 x5] at b3
      rw [show lb o (some k) = some (o + 5 + 2 * k) from rfl, d1, pk_m1, b1]
      refine ⟨w, ?_, b2, d3.tr b3⟩
      have := sendsN_le (mi := mi) r (sendM m k mi)
      simp only
      rw [show r + 1 - ((sendsN mi r (sendM m k mi)).2 + 1) = r - (sendsN mi r (sendM m k mi)).2 by omega]
/-- shut lanes are opened -/
def opnA (A : Nat → Int32) : Nat → Int32 := up1 A 90 0
def opnN : Nat → Nat → Md → Md
  | 0, _, m => m
  | r + 1, k, m => opnN r (k + 1) (sA m k 90 0)
theorem lopen_l {lim : Nat → Nat} : ∀ (n r k : Nat) (x : Hp) (m : Md), SimR x o m os lim → k + r = m_n m → r < n → ∃ y, f_X12_pass_b667 N z n (some (o + 4)) (nI (m_n m)) (nI k) x = some ((), y) ∧ SimR y o (opnN r k m) os lim ∧ Fr x y o (simE o m os)
  | 0, r, k, x, m, h, hk, hn => absurd hn (by omega)
  | n + 1, 0, k, x, m, h, hk, hn => by
    have h6 := h.n6
    unfold f_X12_pass_b667
    rw [if_pos (nI_le (by omega) (by omega))]
    exact ⟨x, rfl, h, Fr.rf⟩
  | n + 1, r + 1, k, x, m, h, hk, hn => by
    have h6 := h.n6
    have k2 : k < m_n m := by omega
    obtain ⟨g, gf⟩ := h.wr (k := k) (n := 276) (f := 90) (v := 0) k2 rfl (by decide)
    obtain ⟨y, e1, e2, e3⟩ := lopen_l n r (k + 1) _ _ g (by show k + 1 + r = m_n m; omega) (by omega)
    unfold f_X12_pass_b667
    rw [if_neg (nI_ge k2 (by omega)), h.al k2, puti_s (h.l k2).1, nI_1]
    exact ⟨y, e1, e2, gf.tr e3⟩
theorem opnN_x : ∀ (r k : Nat) (m : Md), m_n (opnN r k m) = m_n m ∧ m_m (opnN r k m) = m_m m ∧ m_O (opnN r k m) = m_O m ∧ m_V (opnN r k m) = m_V m ∧ m_F (opnN r k m) = m_F m ∧ m_Q (opnN r k m) = m_Q m ∧ ∀ i f, m_A (opnN r k m) i f = if k ≤ i ∧ i < k + r ∧ f = 90 then 0 else m_A m i f
  | 0, k, m => ⟨rfl, rfl, rfl, rfl, rfl, rfl, fun i f => by rw [if_neg (by omega)]; rfl⟩
  | r + 1, k, m => by
    obtain ⟨a1, a2, a3, a4, a5, a6, a7⟩ := opnN_x r (k + 1) (sA m k 90 0)
    refine ⟨a1, a2, a3, a4, a5, a6.trans sA_Q, fun i f => ?_⟩
    rw [opnN, a7, sA_A]
    by_cases c : f = 90
    · by_cases d : i = k
      · rw [if_neg (by omega), if_pos ⟨d, c⟩, if_pos (by omega)]
      · rw [if_neg (show ¬ (i = k ∧ f = 90) by omega)]
        by_cases e : k + 1 ≤ i ∧ i < k + 1 + r
        · rw [if_pos (by omega), if_pos (by omega)]
        · rw [if_neg (by omega), if_neg (by omega)]
    · rw [if_neg (by omega), if_neg (by omega), if_neg (by omega)]
/-- what every lane's numbers become at the end of a minute -/
theorem begN_A : ∀ (r k : Nat) (m : Md), m_Q (begN r k m) = m_Q m ∧ ∀ i f, m_A (begN r k m) i f = if k ≤ i ∧ i < k + r ∧ (f = 90 ∨ f = 96 ∨ f = 97) then 0 else m_A m i f
  | 0, k, m => ⟨rfl, fun i f => by rw [if_neg (by omega)]; rfl⟩
  | r + 1, k, m => by
    obtain ⟨a1, a2⟩ := begN_A r (k + 1) (sL m k (bgA (m_A m k)) (m_Q m k))
    refine ⟨a1.trans up1_id, fun i f => ?_⟩
    rw [begN, a2, sL_A]
    by_cases d : i = k
    · subst d
      rw [if_neg (by omega), if_pos rfl]
      simp only [bgA, up1]
      by_cases c1 : f = 97
      · rw [if_pos c1, if_pos (by omega)]
      · by_cases c2 : f = 96
        · rw [if_neg c1, if_pos c2, if_pos (by omega)]
        · by_cases c3 : f = 90
          · rw [if_neg c1, if_neg c2, if_pos c3, if_pos (by omega)]
          · rw [if_neg c1, if_neg c2, if_neg c3, if_neg (by omega)]
    · rw [if_neg d]
      by_cases e : k + 1 ≤ i ∧ i < k + 1 + r ∧ (f = 90 ∨ f = 96 ∨ f = 97)
      · rw [if_pos e, if_pos (by omega)]
      · rw [if_neg e, if_neg (by omega)]
def L96 : Nat → Nat := fun _ => 96
theorem SimR.limi {x : Hp} {m : Md} {lim lim' : Nat → Nat} (h : SimR x o m os lim) (e : ∀ k, lim' k ≤ lim k) : SimR x o m os lim' := by
  obtain ⟨a1, a2, a3, a4, l1, l2, l3⟩ := h
  exact ⟨a1, a2, a3, a4, fun k hk => (l1 k hk).lim (e k), l2, l3⟩
/-- the numbers that a picture must share with what the law knows between minutes -/
def Alk6 (m m' : Md) : Prop := m_n m' = m_n m ∧ m_m m' = m_m m ∧ (∀ k, k < m_n m → m_O m' k = m_O m k) ∧ (∀ k, k < m_n m → m_Q m' k = m_Q m k) ∧ (∀ k, k < m_n m → ∀ f, fl f → f < 96 → m_A m' k f = m_A m k f) ∧ (∀ j, j < m_m m → ∀ f, 60 ≤ f → f < 65 → m_F m' j f = m_F m j f) ∧ ∀ f, (161 ≤ f ∧ f < 165) ∨ (168 ≤ f ∧ f < 171) → m_V m' f = m_V m f
theorem SimR.cg6 {x : Hp} {m m' : Md} (h : SimR x o m os L96) (e : Alk6 m m') : SimR x o m' os L96 := by
  obtain ⟨e1, e2, e3, e4, e5, e6, e7⟩ := e
  obtain ⟨a1, ⟨b1, b2, b3, b4, b5⟩, a3, a4, l1, l2, l3⟩ := h
  unfold SimR SimS SimV SimF SimL at *
  rw [e1, e2]
  refine ⟨a1, ⟨b1.trans (e7 161 (by omega)).symm, b2.trans (e7 162 (by omega)).symm, b3.trans (e7 169 (by omega)).symm, b4.trans (e7 170 (by omega)).symm, b5.trans (e7 168 (by omega)).symm⟩, fun j hj => ?_, a4, fun k hk => ?_, fun k hk j hj => l2 k hk j (by rw [← e3 k hk]; exact hj), fun k hk => ?_⟩
  · rw [e6 j hj 60 (by omega) (by omega), e6 j hj 61 (by omega) (by omega), e6 j hj 62 (by omega) (by omega), e6 j hj 63 (by omega) (by omega), e6 j hj 64 (by omega) (by omega)]
    exact a3 j hj
  · rw [e3 k hk, e4 k hk]
    exact (l1 k hk).cg (fun f hf => e5 k hk f hf.1 hf.2)
  · rw [e5 k hk 80 (Or.inl rfl) (by decide)]
    exact l3 k hk
theorem law_641 {x : Hp} {m : Md} {v : Int32} (h : SimR x o m os L98) (hN : 8 ≤ N) : ∃ y, f_X12_pass_b641 N z o v x = some ((), y) ∧ SimR y o (begN (m_n m) 0 (sV (sV m 168 v) 161 (m_V m 161 + 1))) os L96 ∧ Fr x y o (simE o m os) := by
  have h6 := h.n6
  obtain ⟨g, gf⟩ := h.wv (n := 284) (f := 168) (v := v) (by decide)
  obtain ⟨g2, f2⟩ := g.wv (n := 280) (f := 161) (v := m_V m 161 + 1) (by decide)
  obtain ⟨y, e1, e2, e3⟩ := lopen_l (N := N) (z := z) N (m_n m) 0 _ _ (g2.limi (lim' := L96) (fun _ => show 96 ≤ 98 by decide)) (by show 0 + m_n m = m_n m; omega) (by omega)
  refine ⟨y, ?_, ?_, (gf.tr f2).tr e3⟩
  · unfold f_X12_pass_b641
    rw [puti_s h.k, geti_s (by exact h.k), p_i_ne (by decide), h.2.1.1, puti_s (by exact h.k), getr_s (by exact h.k), g2.rl, g2.an]
    exact e1
  · refine e2.cg6 ?_
    obtain ⟨a1, a2, a3, a4, a5, a6, a7⟩ := opnN_x (m_n m) 0 (sV (sV m 168 v) 161 (m_V m 161 + 1))
    obtain ⟨b1, b2, b3, b4, b5⟩ := begN_x (m_n m) 0 (sV (sV m 168 v) 161 (m_V m 161 + 1))
    obtain ⟨c1, c2⟩ := begN_A (m_n m) 0 (sV (sV m 168 v) 161 (m_V m 161 + 1))
    unfold Alk6
    rw [a1, a2, a3, a4, a5, a6, b1, b2, b3, b4, b5, c1]
    refine ⟨rfl, rfl, fun _ _ => rfl, fun _ _ => rfl, fun i hi f hf f96 => ?_, fun _ _ _ _ _ => rfl, fun _ _ => rfl⟩
    have hi : i < m_n m := by
      first
        | exact hi
        | (rw [b1] at hi; exact hi)
    rw [a7, c2]
    by_cases c : f = 90
    · rw [if_pos (by omega), if_pos (by omega)]
    · rw [if_neg (by omega), if_neg (by omega)]
/-! tokens -/
theorem tok_eq (a b : Int32) : (if a ≤ b then a else b) = if a < b then a else b := by
  by_cases c : a < b
  · rw [if_pos c, if_pos (Int32.le_of_lt c)]
  · rw [if_neg c]
    split
    · rename_i d
      exact Int32.le_antisymm d (Int32.not_lt.mp c)
    · rfl
theorem ltok_l {w : Nat} (hN : 61 ≤ N) (hw : w ≤ 30) : ∀ (n r k : Nat) (x : Hp) (m : Md), SimR x o m os (fun i => if i < k then 98 else 96) → (∀ i, i < m_n m → m_A m i 96 = 0 ∧ m_A m i 97 = 0) → (∀ i, i < m_n m → ∃ q, q ≤ 9 ∧ m_A m i 92 = nI q) → m_V m 162 = nI w → k + r = m_n m → r < n → ∃ y, f_X12_pass_b375 N z n o (some (o + 4)) (nI (m_n m)) (nI k) x = some ((), y) ∧ SimR y o (laterN r k m).1 os L96 ∧ Fr x y o (simE o m os)
  | 0, r, k, x, m, h, hz, hr, h2, hk, hn => absurd hn (by omega)
  | n + 1, 0, k, x, m, h, hz, hr, h2, hk, hn => by
    have h6 := h.n6
    have hk' : k = m_n m := by omega
    have h98 : SimR x o m os L98 := by
      obtain ⟨a1, a2, a3, a4, l1, l2, l3⟩ := h
      refine ⟨a1, a2, a3, a4, fun i hi => ?_, l2, l3⟩
      have := l1 i hi
      simp only at this
      rw [if_pos (by omega)] at this
      exact this
    have hs : Sm9 m 0 := fun i hi => ⟨hr i hi, 0, Nat.le_refl _, (hz i hi).1⟩
    obtain ⟨y, e1, e2, e3⟩ := law_sends (N := N) (z := z) (mi := m_V m 161) hN w N 0 x m h98 hs (by omega) rfl (by omega)
    obtain ⟨x1, x2, x3, x4, x5⟩ := sendsN_x (mi := m_V m 161) w m
    obtain ⟨u, d1, d2, d3⟩ := law_641 (N := N) (z := z) (v := nI (w - (sendsN (m_V m 161) w m).2)) e2 (by omega)
    have hle := sendsN_le (mi := m_V m 161) w m
    refine ⟨u, ?_, ?_, e3.tr (by rw [simE_x x1 x2] at d3; exact d3)⟩
    · rw [f_X12_pass_b375, if_pos (nI_le (by omega) (by omega)), geti_s h.k, h.2.1.2.1, h2, e1]
      exact d1
    · unfold laterN
      simp only [tokN, h2, nI_clamp (show w < 2 ^ 31 by omega)]
      rw [x1, x4] at d2
      rw [pk_sub hle]
      exact d2
  | n + 1, r + 1, k, x, m, h, hz, hr, h2, hk, hn => by
    have h6 := h.n6
    have k2 : k < m_n m := by omega
    have hl := h.l k2
    simp only [show ¬ k < k by omega, if_false] at hl
    have e266 := hl.g 85 266 rfl (by decide) (by decide)
    have e262 := hl.g 83 (n := 262) rfl (by decide) (by decide)
    have e264 := hl.g 91 (n := 264) rfl (by decide) (by decide)
    have main : ∀ v, v = (if m_A m k 85 + m_A m k 83 < m_A m k 91 then m_A m k 85 + m_A m k 83 else m_A m k 91) → ∃ y, f_X12_pass_b425 N z (f_X12_pass_b375 N z n) o (some (o + 4)) (nI (m_n m)) (nI k) (some (o + 5 + 2 * k)) v (some (o + 5 + 2 * k)) x = some ((), y) ∧ SimR y o (laterN (r + 1) k m).1 os L96 ∧ Fr x y o (simE o m os) := by
      intro v hv
      have g1 := hl.pi (f := 85) (n := 266) (v := v) rfl (by decide)
      have g2 := g1.pn (n := 277) (v := 0) rfl (by decide)
      have g3 := g2.pn (n := 278) (v := 0) rfl (by decide)
      have f1 : ∀ (w : Hp) (q : Nat) (u : Int32), Fr w (p_i w q (o + 5 + 2 * k) u) (o + 5 + 2 * k) (o + 5 + 2 * k + 2) := fun w q u => Fr.pi ⟨by omega, by omega⟩
      have ff := ((f1 x 266 v).tr (f1 _ 277 0)).tr (f1 _ 278 0)
      have g4 : LawL 98 (p_i (p_i (p_i x 266 (o + 5 + 2 * k) v) 277 (o + 5 + 2 * k) 0) 278 (o + 5 + 2 * k) 0) (o + 5 + 2 * k) (tokA (m_A m k)) (m_Q m k) (lb o (m_O m k)) := by
        refine LawL.cg g3 (fun f hf => ?_)
        unfold tokA
        rw [← hv]
        by_cases c1 : f = 97
        · subst c1
          rw [up1_ne (by decide), up1_eq]
          exact (hz k k2).2
        · by_cases c2 : f = 96
          · subst c2
            rw [up1_ne (by decide), up1_ne (by decide), up1_eq]
            exact (hz k k2).1
          · rw [up1_ne c1, up1_ne c2]
      have g5 := h.up k2 ff g4 (by rw [tokA, up1_ne (by decide)]; exact h.2.2.2.2.2.2 k k2)
      have elim : (up1 (fun i => if i < k then 98 else 96) k 98 : Nat → Nat) = fun i => if i < k + 1 then 98 else 96 := by
        funext i
        simp only [up1]
        by_cases c : i = k
        · rw [if_pos c, if_pos (by omega)]
        · rw [if_neg c]
          by_cases d : i < k
          · rw [if_pos d, if_pos (by omega)]
          · rw [if_neg d, if_neg (by omega)]
      rw [elim] at g5
      have eA : ∀ i f, f ≠ 85 → m_A (sL m k (tokA (m_A m k)) (m_Q m k)) i f = m_A m i f := by
        intro i f hf
        rw [sL_A]
        split
        · rename_i c
          rw [c, tokA, up1_ne hf]
        · rfl
      obtain ⟨y, e1, e2, e3⟩ := ltok_l hN hw n r (k + 1) _ _ g5 (fun i hi => by rw [eA i 96 (by decide), eA i 97 (by decide)]; exact hz i hi) (fun i hi => by rw [eA i 92 (by decide)]; exact hr i hi) h2 (by show k + 1 + r = m_n m; omega) (by omega)
      refine ⟨y, ?_, e2, (h.fw k2 ff).tr e3⟩
      unfold f_X12_pass_b425
      rw [puti_s hl.1, puti_s (by exact hl.1), puti_s (by exact hl.1), nI_1]
      exact e1
    rw [f_X12_pass_b375, if_neg (nI_ge k2 (by omega)), h.al k2, geti_s hl.1, geti_s hl.1, geti_s hl.1, e266, e262, e264]
    by_cases c : m_A m k 85 + m_A m k 83 ≤ m_A m k 91
    · rw [if_pos c, geti_s hl.1, geti_s hl.1, e266, e262]
      exact main _ (by rw [← tok_eq, if_pos c])
    · rw [if_neg c, geti_s hl.1, e264]
      exact main _ (by rw [← tok_eq, if_neg c])
end LP
