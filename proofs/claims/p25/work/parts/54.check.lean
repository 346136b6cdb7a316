/-! ===== what the law looks at behind a minute ===== -/
theorem comN_und {m : Md} {t : Nat} (ht : t < 2 ^ 31) (h6 : m_n m ≤ 6) (ho : OvI m) (htn : t < m_n m) : ∀ (n k : Nat), k < m_n m → (comN m t n (some k) = nI t ↔ undN m t n (some k) = true)
  | 0, k, hk => by
    rw [comN, undN]
    exact ⟨fun q => absurd q.symm (by
      intro e
      have := congrArg Int32.toInt e
      rw [nI_toInt ht] at this
      have h1 : (-1 : Int32).toInt = -1 := by decide
      rw [h1] at this
      omega), fun q => absurd q (by decide)⟩
  | n + 1, k, hk => by
    rw [comN, undN]
    by_cases d : k = t
    · subst d
      have : und m k k = true := by unfold und; rw [undN, if_pos rfl]
      rw [if_pos this, if_pos rfl]
      simp
    · rw [if_neg d]
      have hr : comN m t n (m_O m k) = nI t ↔ undN m t n (m_O m k) = true := by
        match hO : m_O m k with
        | none =>
          have e1 : comN m t n none = -1 := by cases n <;> rfl
          have e2 : undN m t n none = false := by cases n <;> rfl
          rw [e1, e2]
          exact ⟨fun q => absurd q.symm (by
            intro e
            have := congrArg Int32.toInt e
            rw [nI_toInt ht] at this
            have h1 : (-1 : Int32).toInt = -1 := by decide
            rw [h1] at this
            omega), fun q => absurd q (by decide)⟩
        | some j =>
          have := ho k hk j hO
          exact comN_und ht h6 ho htn n j (by omega)
      by_cases c : und m t k = true
      · rw [if_pos c]
        have hle := undN_le ho 6 t htn c
        constructor
        · intro q
          exact absurd ((nI_eq (by omega) ht).mp q) d
        · intro q
          exfalso
          match hO : m_O m k with
          | none => rw [hO] at q; cases n <;> simp [undN] at q
          | some j =>
            rw [hO] at q
            have h1 := ho k hk j hO
            have h2 := undN_le ho n j (by omega) q
            omega
      · rw [if_neg c]
        exact hr
theorem com_und {m : Md} {t k : Nat} (h6 : m_n m ≤ 6) (ho : OvI m) (ht : t < m_n m) (hk : k < m_n m) : com m k t = nI t ↔ und m k t = true := comN_und (by omega) h6 ho ht 6 k hk
theorem lendN_und {m : Md} {j : Nat} : ∀ (n : Nat) (p : Option Nat), lendN m n p = some j → undN m j n p = true
  | 0, p, h => by simp [lendN] at h
  | n + 1, none, h => by simp [lendN] at h
  | n + 1, some k, h => by
    rw [lendN] at h
    rw [undN]
    by_cases d : k = j
    · rw [if_pos d]
    · rw [if_neg d]
      split at h
      · exact lendN_und n _ h
      · split at h
        · injection h with e
          exact absurd e d
        · exact lendN_und n _ h
theorem pass_qu {mi W : Nat} {m : Md} (ods : List Od) (h : Inv mi W m) : QuI mi (passM ods m).1 := by
  have i1 := Inv.fsN (m_m m) 0 (h.obN ods) (by rw [(obeyN_x ods m).2.1]; omega)
  obtain ⟨m1, hm1⟩ : ∃ m1, m1 = folkN (m_m m) 0 (obeyN ods m) := ⟨_, rfl⟩
  rw [← hm1] at i1
  obtain ⟨w, w1, w2⟩ := i1.2.2.2.2.2.1
  have hV : m_V m1 161 = nI mi := i1.2.2.2.2.2.2.1
  have b := Inv.sds w (Inv.tkkN (m_n m1) 0 i1 (by omega))
  unfold passM laterM
  rw [← hm1]
  simp only
  rw [hV, w2, nI_clamp (show w < 2 ^ 31 by omega)]
  obtain ⟨p, hp⟩ : ∃ p, p = sendsN (nI mi) w (tokN (m_n m1) 0 m1) := ⟨_, rfl⟩
  rw [← hp] at b ⊢
  obtain ⟨bQ, bA⟩ := begN_A (m_n m1) 0 (sV (sV p.1 168 (nI w - nI p.2)) 161 (nI mi + 1))
  obtain ⟨b1, -⟩ := begN_x (m_n m1) 0 (sV (sV p.1 168 (nI w - nI p.2)) 161 (nI mi + 1))
  intro k hk
  rw [bQ]
  exact b.2.2.2.2.2.2.2.1 k (by rw [b1] at hk; exact hk)
section AS
variable {N : Nat} {z : Nat → Nat} {b L : Nat} {xs : Nat → Int32} {Y o : Nat} {os : List (Nat → Nat)}
theorem act_s {x : Hp} {m : Md} {mi : Nat} (v : Int32) (h : Wd b L xs Y o os x m) (i : IInv mi m) (hmi : mi < 2 ^ 20) (hN : 401 ≤ N) : ∃ y, f_L_act N z (some Y) (some o) v x = some (1, y) ∧ Dn b L xs Y o os x y m mi 2 26 6 := by
  have hR := h.2.2.2.2.2.1
  have h6 := hR.n6
  have h1 := h.2.2.2.2.2.2.2.2.2.2
  obtain ⟨k, k1, k2⟩ := below_s (N := N) (z := z) (v >>> ((1 : Int32) &&& 31)) (k := m_n m) (by omega) (by omega)
  obtain ⟨c, c1, c2⟩ := below_s (N := N) (z := z) (v >>> ((7 : Int32) &&& 31)) (k := 9) (by decide) (by decide)
  have c2' : ∀ x : Hp, f_L_below N z (v >>> ((7 : Int32) &&& 31)) (9 : Int32) x = some (nI c, x) := c2
  obtain ⟨e, e1, e2⟩ := below_s (N := N) (z := z) v (k := 2) (by decide) (by decide)
  have e2' : ∀ x : Hp, f_L_below N z v (2 : Int32) x = some (nI e, x) := e2
  obtain ⟨f, f1, f2⟩ := below_s (N := N) (z := z) v (k := 3) (by decide) (by decide)
  have f2' : ∀ x : Hp, f_L_below N z v (3 : Int32) x = some (nI f, x) := f2
  unfold f_L_act
  rw [getr_s hR.k, hR.rl, hR.an, k2, bnd_s, getr_s hR.k, hR.rl, hR.al k1, c2', bnd_s]
  have cc : c = 0 ∨ c = 1 ∨ c = 2 ∨ c = 3 ∨ c = 4 ∨ c = 5 ∨ (6 ≤ c ∧ c < 9) := by omega
  rcases cc with d | d | d | d | d | d | d
  · subst d
    rw [if_pos (by decide), e2', bnd_s]
    by_cases g : nI e = 0
    · rw [if_pos g]; exact act_86 h i k1 (q := 30) rfl (by decide) (by decide) hN
    · rw [if_neg g]; exact act_86 h i k1 (q := 5) rfl (by decide) (by decide) hN
  · subst d
    rw [if_neg (by decide), if_pos (by decide), e2', bnd_s]
    by_cases g : nI e = 0
    · rw [if_pos g]; exact act_86 h i k1 (q := 30) rfl (by decide) (by decide) hN
    · rw [if_neg g]; exact act_86 h i k1 (q := 5) rfl (by decide) (by decide) hN
  · subst d
    rw [if_neg (by decide), if_neg (by decide), if_pos (by decide), e2', bnd_s]
    by_cases g : nI e = 0
    · rw [if_pos g]; exact act_134 h i k1 (q := 99) rfl (by decide) (by decide) hN
    · rw [if_neg g]; exact act_134 h i k1 (q := 5) rfl (by decide) (by decide) hN
  · subst d
    rw [if_neg (by decide), if_neg (by decide), if_neg (by decide), if_pos (by decide)]
    exact act_rate h i k1 hN
  · subst d
    rw [if_neg (by decide), if_neg (by decide), if_neg (by decide), if_neg (by decide), if_pos (by decide)]
    exact act_most h i k1 hN
  · subst d
    rw [if_neg (by decide), if_neg (by decide), if_neg (by decide), if_neg (by decide), if_neg (by decide), if_pos (by decide), f2', bnd_s]
    by_cases g : nI f ≤ 0
    · rw [if_pos g]
      exact act_well h i hN
    · rw [if_neg g]
      exact ⟨x, rfl, m, mi, h, i, Nat.le_refl _, by omega, rfl, rfl, by omega, by omega⟩
  · have n : ∀ q, q < 6 → ¬ nI c = nI q := fun q hq e => absurd ((nI_eq (by omega) (by omega)).mp e) (by omega)
    rw [if_neg (show ¬ nI c = (0 : Int32) from n 0 (by decide)), if_neg (show ¬ nI c = (1 : Int32) from n 1 (by decide)), if_neg (show ¬ nI c = (2 : Int32) from n 2 (by decide)), if_neg (show ¬ nI c = (3 : Int32) from n 3 (by decide)), if_neg (show ¬ nI c = (4 : Int32) from n 4 (by decide)), if_neg (show ¬ nI c = (5 : Int32) from n 5 (by decide))]
    exact act_pass h i hmi hN
theorem hasShut_l {x : Hp} {m : Md} {k : Nat} (h : SimR x o m os L96) (hk : k < 2 ^ 20) (hO : ∀ r ∈ os, RawO (m_n m) r) : ∀ (t pre : List (Nat → Nat)) (n : Nat), os = pre ++ t → (∃ r ∈ t, r 0 = 2 ∧ r 1 = k) → t.length < n → f_L_hasShut_b11 N z n (nI k) (some (o + 6 + 2 * m_n m + m_m m)) (nI os.length) (nI pre.length) x = some (1, x)
  | [], pre, n, e, hr, hn => by
    obtain ⟨r, h1, -⟩ := hr
    exact absurd h1 (by simp)
  | r :: t, pre, 0, e, hr, hn => absurd hn (by omega)
  | r :: t, pre, n + 1, e, hr, hn => by
    have h6 := h.n6
    have o20 := h.2.2.2.1.2.2.1
    have hi : pre.length < os.length := by rw [e]; simp
    have eg : os.getD pre.length (fun _ => 0) = r := by rw [e]; simp [List.getD_eq_getElem?_getD]
    obtain ⟨b1, b2, b3, b4⟩ := h.2.2.2.1
    have r0 : ∀ (K : Int32 → Option (Int32 × Hp)), aldi (some (o + 6 + 2 * m_n m + m_m m + 1 + pre.length)) x 101 (0 : Int32) K = K (nI (r 0)) := fun K => by
      rw [h.2.2.2.1.rd (F := 0) (f := 0) hi rfl (by decide), eg]
    have r1 : ∀ (K : Int32 → Option (Int32 × Hp)), aldi (some (o + 6 + 2 * m_n m + m_m m + 1 + pre.length)) x 101 (1 : Int32) K = K (nI (r 1)) := fun K => by
      rw [h.2.2.2.1.rd (F := 1) (f := 1) hi rfl (by decide), eg]
    obtain ⟨q1, q2, -⟩ := hO r (by rw [e]; simp)
    have next : ¬ (r 0 = 2 ∧ r 1 = k) → f_L_hasShut_b11 N z n (nI k) (some (o + 6 + 2 * m_n m + m_m m)) (nI os.length) (nI pre.length + 1) x = some (1, x) := by
      intro hne
      have := hasShut_l h hk hO t (pre ++ [r]) n (by rw [e]; simp) (by
        obtain ⟨u, u1, u2⟩ := hr
        rcases List.mem_cons.mp u1 with c | c
        · rw [c] at u2; exact absurd u2 hne
        · exact ⟨u, c, u2⟩) (by simp at hn; omega)
      rw [List.length_append, List.length_singleton] at this
      rw [nI_1]
      exact this
    unfold f_L_hasShut_b11
    rw [if_neg (nI_ge hi (by omega)), aldr_s b1 (by omega) (by omega), (b4 _ hi).1, r0]
    by_cases c : r 0 = 2
    · rw [if_pos (by rw [c]; rfl), r1]
      by_cases d : r 1 = k
      · rw [if_pos (by rw [d])]
      · rw [if_neg (fun q => d ((nI_eq (by omega) (by omega)).mp q))]
        exact next (fun q => d q.2)
    · rw [if_neg (show ¬ nI (r 0) = (2 : Int32) from fun q => c ((nI_eq (b := 2) (by omega) (by omega)).mp q))]
      exact next (fun q => c q.1)
theorem hasShut_s {x : Hp} {m : Md} {k : Nat} (h : SimR x o m os L96) (hk : k < 2 ^ 20) (hO : ∀ r ∈ os, RawO (m_n m) r) (hs : ∃ od ∈ os.map odOf, od.1 = 18 ∧ od.2.1 = k) (hN : 401 ≤ N) : f_L_hasShut N z (some o) (nI k) x = some (1, x) := by
  have o20 := h.2.2.2.1.2.2.1
  obtain ⟨od, h1, h2, h3⟩ := hs
  obtain ⟨r, r1, r2⟩ := List.mem_map.mp h1
  rw [← r2] at h2 h3
  have e0 : 16 + r 0 = 18 := h2
  unfold f_L_hasShut
  rw [getr_s h.k, h.1.2.2.2.1, alen_s h.2.2.2.1.1, h.2.2.2.1.2.1]
  exact hasShut_l h hk hO os [] N rfl ⟨r, r1, by omega, h3⟩ (by omega)
end AS
