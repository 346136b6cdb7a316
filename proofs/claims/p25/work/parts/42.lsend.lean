/-! ===== the law's lender, its choice, its sending ===== -/
theorem i_lt1 (v : Int32) : v < 1 ↔ v ≤ 0 := by
  rw [Int32.lt_iff_toInt_lt, Int32.le_iff_toInt_le]
  have h1 : (1 : Int32).toInt = 1 := by decide
  have h0 : (0 : Int32).toInt = 0 := by decide
  rw [h1, h0]
  omega
section LD
variable {x : Hp} {N : Nat} {z : Nat → Nat} {o : Nat} {m : Md} {os : List (Nat → Nat)}
theorem SimR.st {lim : Nat → Nat} (h : SimR x o m os lim) : ∀ k, k < m_n m → ∀ j, m_O m k = some j → j < k := h.2.2.2.2.2.1
theorem law_lends {lim : Nat → Nat} (h : SimR x o m os lim) (hlim : ∀ k, 96 ≤ lim k) : ∀ (n k : Nat), k + 1 < n → k < m_n m → f_X11_lender_b2 N z n (some (o + 5 + 2 * k)) x = some (lb o (lendN m n (some k)), x)
  | 0, k, h1, h2 => absurd h1 (by omega)
  | n + 1, k, h1, h2 => by
    have hl := h.l h2
    have h96 := hlim k
    have hu : f_X11_lender_b21 N z (f_X11_lender_b2 N z n) (some (o + 5 + 2 * k)) x = some (lb o (lendN m n (m_O m k)), x) := by
      unfold f_X11_lender_b21
      rw [getr_s hl.1, hl.2.2.1]
      match n, h1, hO : m_O m k with
      | 0, h1, _ => exact absurd h1 (by omega)
      | n + 1, h1, none => rfl
      | n + 1, h1, some j =>
        have hj := h.ov h2 hO
        exact law_lends h hlim (n + 1) j (by omega) (by omega)
    unfold f_X11_lender_b2
    rw [if_neg (by simp), geti_s hl.1, hl.g 85 266 rfl (by decide) (by omega), lendN]
    by_cases c : m_A m k 85 ≤ 0
    · rw [if_pos ((i_lt1 _).mpr c), if_pos c]
      exact hu
    · rw [if_neg (fun q => c ((i_lt1 _).mp q)), if_neg c, geti_s hl.1, hl.g 90 276 rfl (by decide) (by omega)]
      by_cases d : m_A m k 90 = 0
      · rw [if_pos d, if_pos d]
        rfl
      · rw [if_neg d, if_neg d]
        exact hu
theorem law_lender {lim : Nat → Nat} (h : SimR x o m os lim) (hlim : ∀ k, 96 ≤ lim k) {k : Nat} (hk : k < m_n m) (hN : 8 ≤ N) : f_X11_lender N z (o + 5 + 2 * k) x = some (lb o (lend m k), x) := by
  have hn := h.n6
  unfold f_X11_lender
  rw [law_lends h hlim N k (by omega) hk, lend, lendN_st h.st N 6 k (by omega) (by omega) hk]
/-- all is known in a minute -/
def L98 : Nat → Nat := fun _ => 98
theorem l98 (k : Nat) : 96 ≤ L98 k := by show 96 ≤ 98; decide
theorem law_can2 (h : SimR x o m os L98) {k : Nat} (hk : k < m_n m) (hN : 8 ≤ N) : ∀ (n i : Nat), i + 1 < n → i < m_n m → f_X11_can_b2 N z n (o + 5 + 2 * k) (some (o + 5 + 2 * i)) x = some (if letN m n (some i) = true ∧ (m_Q m k).length ≠ 0 ∧ m_A m k 90 = 0 ∧ lend m k ≠ none then 1 else 0, x)
  | 0, i, h1, h2 => absurd h1 (by omega)
  | n + 1, i, h1, h2 => by
    have hl := h.l h2
    have hk' := h.l hk
    unfold f_X11_can_b2
    rw [if_neg (by simp), geti_s hl.1, hl.g 97 278 rfl (by decide) (show _ < 98 by decide), geti_s hl.1, hl.g 84 263 rfl (by decide) (show _ < 98 by decide), letN]
    by_cases c : m_A m i 97 < m_A m i 84
    · rw [if_pos c, if_pos c, getr_s hl.1, hl.2.2.1]
      match n, h1, hO : m_O m i with
      | 0, h1, _ => exact absurd h1 (by omega)
      | n + 1, h1, none =>
        rw [show lb o none = none from rfl]
        unfold f_X11_can_b2
        rw [if_pos rfl, geti_s hk'.1, hk'.2.2.2.2.2.2.1]
        have hq := hk'.2.2.2.2.2.1
        by_cases c1 : (m_Q m k).length = 0
        · rw [c1, if_pos (by decide), if_neg (fun q => q.2.1 rfl)]
        · rw [if_neg (nI_nle (by omega) (by omega)), geti_s hk'.1, hk'.g 90 276 rfl (by decide) (show _ < 98 by decide)]
          by_cases c2 : m_A m k 90 = 0
          · rw [if_pos c2, obj_s hk'.1, law_lender h l98 hk hN, bnd_s]
            match hL : lend m k with
            | none => simp [lb]
            | some j => simp [lb, letN, c1, c2]
          · rw [if_neg c2, if_neg (fun q => c2 q.2.2.1)]
      | n + 1, h1, some j =>
        have hj := h.ov h2 hO
        exact law_can2 h hk hN (n + 1) j (by omega) (by omega)
    · rw [if_neg c, if_neg c, if_neg (fun q => absurd q.1 (by simp))]
theorem law_can (h : SimR x o m os L98) {k : Nat} (hk : k < m_n m) (hN : 8 ≤ N) : f_X11_can N z (o + 5 + 2 * k) x = some (if can m k = true then 1 else 0, x) := by
  have hn := h.n6
  unfold f_X11_can
  rw [law_can2 h hk hN N k (by omega) hk, letN_st h.st N 6 k (by omega) (by omega) hk]
  have e : (letN m 6 (some k) = true ∧ (m_Q m k).length ≠ 0 ∧ m_A m k 90 = 0 ∧ lend m k ≠ none) ↔ can m k = true := by
    unfold can lets
    cases m_Q m k <;> cases lend m k <;> simp [and_comm]
  by_cases c : can m k = true
  · rw [if_pos c, if_pos (e.mpr c)]
  · rw [if_neg c, if_neg (fun q => c (e.mp q))]
/-- the number by which the law chooses -/
def ordM (m : Md) (k : Nat) : Int32 := ((if lend m k = some k then (0 : Int32) else 1) * 10 + m_A m k 92) * 1000 + m_A m k 96
theorem law_order (h : SimR x o m os L98) {k : Nat} (hk : k < m_n m) (hN : 8 ≤ N) : f_X11_order N z (o + 5 + 2 * k) x = some (ordM m k, x) := by
  have hl := h.l hk
  unfold f_X11_order
  rw [obj_s hl.1, law_lender h l98 hk hN, bnd_s]
  unfold f_X11_order_b13 ordM
  rw [geti_s hl.1, geti_s hl.1, hl.g 92 265 rfl (by decide) (show _ < 98 by decide), hl.g 96 277 rfl (by decide) (show _ < 98 by decide), geti_s hl.1, geti_s hl.1, hl.g 92 265 rfl (by decide) (show _ < 98 by decide), hl.g 96 277 rfl (by decide) (show _ < 98 by decide)]
  by_cases c : lend m k = some k
  · rw [if_pos c, c, if_pos (show lb o (some k) = some (o + 5 + 2 * k) from rfl)]
  · rw [if_neg c, if_neg]
    intro q
    apply c
    match hL : lend m k with
    | none => rw [hL] at q; exact absurd q (by simp [lb])
    | some j =>
      rw [hL] at q
      simp only [lb, Option.map_some, Option.some.injEq] at q
      rw [show j = k by omega]
end LD
/-- what is small: ranks and what was sent in the minute -/
def Sm9 (m : Md) (c : Nat) : Prop := ∀ k, k < m_n m → (∃ r, r ≤ 9 ∧ m_A m k 92 = nI r) ∧ ∃ w, w ≤ c ∧ m_A m k 96 = nI w
theorem ord_lt {m : Md} {c i j : Nat} (hs : Sm9 m c) (hc : c ≤ 100) (hi : i < m_n m) (hj : j < m_n m) (ci : can m i = true) (cj : can m j = true) : ordM m j ≤ ordM m i ↔ ahd (m_A m i) (m_A m j) = 0 := by
  have own : ∀ k, can m k = true → (lend m k = some k ↔ ¬ m_A m k 85 ≤ 0) := by
    intro k hk
    unfold can at hk
    simp only [Bool.and_eq_true, decide_eq_true_eq] at hk
    obtain ⟨⟨⟨-, h90⟩, -⟩, -⟩ := hk
    constructor
    · intro h q
      unfold lend at h
      rw [lendN, if_pos q] at h
      -- the lanes over it are others
      exact absurd h (fun h => by
        have : ∀ (n : Nat) (p : Option Nat) (t : Nat), lendN m n p = some t → ¬ m_A m t 85 ≤ 0 := by
          intro n
          induction n with
          | zero => intro p t h; simp [lendN] at h
          | succ n ih =>
            intro p t h
            match p with
            | none => simp [lendN] at h
            | some p =>
              rw [lendN] at h
              split at h
              · exact ih _ _ h
              · rename_i c1
                split at h
                · injection h with e
                  rw [← e]
                  exact c1
                · exact ih _ _ h
        exact this _ _ _ h q)
    · intro q
      unfold lend
      rw [lendN, if_neg q, if_pos h90]
  obtain ⟨⟨r1, hr1, er1⟩, w1, hw1, ew1⟩ := hs i hi
  obtain ⟨⟨r2, hr2, er2⟩, w2, hw2, ew2⟩ := hs j hj
  have hO : ∀ (k r w : Nat), can m k = true → m_A m k 92 = nI r → m_A m k 96 = nI w → ordM m k = nI (((if m_A m k 85 ≤ 0 then 1 else 0) * 10 + r) * 1000 + w) := by
    intro k r w ck e1 e2
    unfold ordM
    rw [e1, e2]
    by_cases q : m_A m k 85 ≤ 0
    · rw [if_neg (fun e => ((own k ck).mp e) q), if_pos q]
      rw [show ((1 : Int32) * 10 : Int32) = nI 10 from rfl, nI_add, show (1000 : Int32) = nI 1000 from rfl, pk_mul, nI_add]
    · rw [if_pos ((own k ck).mpr q), if_neg q]
      rw [show ((0 : Int32) * 10 : Int32) = nI 0 from rfl, nI_add, show (1000 : Int32) = nI 1000 from rfl, pk_mul, nI_add]
  rw [hO i r1 w1 ci er1 ew1, hO j r2 w2 cj er2 ew2]
  unfold ahd
  rw [er1, er2, ew1, ew2]
  have a1 : (nI r1 = nI r2) ↔ r1 = r2 := nI_eq (by omega) (by omega)
  have a2 : (nI r2 ≤ nI r1) ↔ r2 ≤ r1 := nI_leI (by omega) (by omega)
  have a3 : (nI w2 ≤ nI w1) ↔ w2 ≤ w1 := nI_leI (by omega) (by omega)
  have t01 : ¬ (0 : Int32) = 1 := by decide
  have t10 : ¬ (1 : Int32) = 0 := by decide
  by_cases p : m_A m i 85 ≤ 0 <;> by_cases q : m_A m j 85 ≤ 0
  · rw [if_pos p, if_pos q, if_pos p, if_pos q, if_pos rfl, nI_leI (by omega) (by omega)]
    by_cases b : r1 = r2
    · rw [if_pos (a1.mpr b)]
      by_cases d : w2 ≤ w1
      · rw [if_pos (a3.mpr d)]; simp; omega
      · rw [if_neg (fun e => d (a3.mp e))]; simp [t10]; omega
    · rw [if_neg (fun e => b (a1.mp e))]
      by_cases d : r2 ≤ r1
      · rw [if_pos (a2.mpr d)]; simp; omega
      · rw [if_neg (fun e => d (a2.mp e))]; simp [t10]; omega
  · rw [if_pos p, if_neg q, if_pos p, if_neg q, if_neg t01, nI_leI (by omega) (by omega)]
    simp; omega
  · rw [if_neg p, if_pos q, if_neg p, if_pos q, if_neg t10, nI_leI (by omega) (by omega)]
    simp [t10]; omega
  · rw [if_neg p, if_neg q, if_neg p, if_neg q, if_pos rfl, nI_leI (by omega) (by omega)]
    by_cases b : r1 = r2
    · rw [if_pos (a1.mpr b)]
      by_cases d : w2 ≤ w1
      · rw [if_pos (a3.mpr d)]; simp; omega
      · rw [if_neg (fun e => d (a3.mp e))]; simp [t10]; omega
    · rw [if_neg (fun e => b (a1.mp e))]
      by_cases d : r2 ≤ r1
      · rw [if_pos (a2.mpr d)]; simp; omega
      · rw [if_neg (fun e => d (a2.mp e))]; simp [t10]; omega
