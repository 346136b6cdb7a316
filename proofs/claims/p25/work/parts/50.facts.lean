/-! ===== what a minute shows ===== -/
theorem undN_O {m m' : Md} (e : m_O m' = m_O m) (t : Nat) : ∀ (n : Nat) (p : Option Nat), undN m' t n p = undN m t n p
  | 0, p => rfl
  | n + 1, none => rfl
  | n + 1, some k => by rw [undN, undN, e, undN_O e t n (m_O m k)]
theorem und_O {m m' : Md} (e : m_O m' = m_O m) (k t : Nat) : und m' k t = und m k t := undN_O e t 6 (some k)
theorem undN_le {m : Md} (ho : OvI m) {t : Nat} : ∀ (n k : Nat), k < m_n m → undN m t n (some k) = true → t ≤ k
  | 0, k, hk, h => by simp [undN] at h
  | n + 1, k, hk, h => by
    rw [undN] at h
    split at h
    · rename_i c; omega
    · match hO : m_O m k with
      | none => rw [hO] at h; cases n <;> simp [undN] at h
      | some j =>
        rw [hO] at h
        have := ho k hk j hO
        have := undN_le ho n j (by omega) h
        omega
theorem allN_97 : ∀ (n : Nat) (m : Md) (k : Nat), OvI m → k < m_n m → ∀ i, m_A (allN n m (some k)) i 97 = if undN m i n (some k) = true then m_A m i 97 + 1 else m_A m i 97
  | 0, m, k, ho, hk, i => by rw [undN, if_neg (by decide)]; rfl
  | n + 1, m, k, ho, hk, i => by
    rw [allN, undN]
    match hO : m_O m k with
    | none =>
      have e1 : allN n (inc m k 97) none = inc m k 97 := by cases n <;> rfl
      have e2 : undN m i n none = false := by cases n <;> rfl
      rw [e1, e2, inc, sA_A]
      by_cases c : k = i
      · rw [if_pos ⟨c.symm, rfl⟩, if_pos c, if_pos rfl, c]
      · rw [if_neg (fun q => c q.1.symm), if_neg c, if_neg (by decide)]
    | some j =>
      have hj := ho k hk j hO
      rw [allN_97 n (inc m k 97) j ho (by show j < m_n m; omega) i, undN_O (m := m) (m' := inc m k 97) rfl i n (some j), inc, sA_A]
      by_cases c : k = i
      · have : ¬ undN m i n (some j) = true := fun q => by
          have := undN_le ho n j (by omega) q
          omega
        rw [if_neg this, if_pos ⟨c.symm, rfl⟩, if_pos c, if_pos rfl, c]
      · rw [if_neg (show ¬ (i = k ∧ 97 = 97) from fun q => c q.1.symm), if_neg c]
theorem lets_und {m : Md} {i : Nat} : ∀ (n : Nat) (p : Option Nat), letN m n p = true → undN m i n p = true → m_A m i 97 < m_A m i 84
  | 0, p, h1, h2 => by simp [undN] at h2
  | n + 1, none, h1, h2 => by simp [undN] at h2
  | n + 1, some k, h1, h2 => by
    rw [letN] at h1
    rw [undN] at h2
    split at h1
    · rename_i c
      split at h2
      · rename_i d
        rw [← d]
        exact c
      · exact lets_und n _ h1 h2
    · exact absurd h1 (by decide)
theorem sumG_const (v : Int32) : ∀ (r k : Nat), sumG (fun _ => 0) r k v = v
  | 0, k => rfl
  | r + 1, k => by rw [sumG, Int32.add_zero, sumG_const v r (k + 1)]
/-- what a lane and those under it have sent in the minute -/
def undS (m0 m : Md) (k : Nat) : Int32 := sumG (fun i => if und m0 i k = true then m_A m i 86 - m_A m0 i 86 else 0) (m_n m0) 0 0
def UnI (m0 m : Md) : Prop := m_n m = m_n m0 ∧ m_O m = m_O m0 ∧ ∀ k, k < m_n m0 → m_A m k 97 = undS m0 m k ∧ ∃ a M, a ≤ M ∧ M ≤ 30 ∧ m_A m k 97 = nI a ∧ m_A m k 84 = nI M
theorem UnI.sd {m0 m : Md} {k : Nat} {mi : Int32} (h : UnI m0 m) (ho : OvI m0) (hk : k < m_n m) (hc : can m k = true) : UnI m0 (sendM m k mi) := by
  obtain ⟨h1, h2, h3⟩ := h
  obtain ⟨j, q, r, e1, e2⟩ := can_x hc
  obtain ⟨x1, x2, x3, x4, x5⟩ := sendM_x m k mi
  have ho' : OvI m := fun i hi t ht => ho i (by rw [← h1]; exact hi) t (by rw [← h2]; exact ht)
  have hl : letN m 6 (some k) = true := by
    unfold can at hc
    simp only [Bool.and_eq_true] at hc
    exact hc.1.2
  have e97 : ∀ i, m_A (sendM m k mi) i 97 = if und m k i = true then m_A m i 97 + 1 else m_A m i 97 := by
    intro i
    unfold sendM
    rw [e1]
    simp only
    have n1 : m_n (inc (inc (snd3 (snd2 (snd1 m k mi) j) k j) k 86) k 96) = m_n m := by
      show m_n (snd3 (snd2 (snd1 m k mi) j) k j) = m_n m
      unfold snd3
      split <;> rfl
    have o1 : m_O (inc (inc (snd3 (snd2 (snd1 m k mi) j) k j) k 86) k 96) = m_O m := by
      show m_O (snd3 (snd2 (snd1 m k mi) j) k j) = m_O m
      unfold snd3
      split <;> rfl
    have ho2 : OvI (inc (inc (snd3 (snd2 (snd1 m k mi) j) k j) k 86) k 96) := fun i hi t ht => ho' i (by rw [← n1]; exact hi) t (by rw [← o1]; exact ht)
    have a1 : m_A (inc (inc (snd3 (snd2 (snd1 m k mi) j) k j) k 86) k 96) i 97 = m_A m i 97 := by
      simp only [inc, snd2, sA_A, snd3_A, snd1_A]
      simp
    rw [allN_97 6 _ k ho2 (by rw [n1]; exact hk) i, a1, undN_O o1]
    rfl
  have e86 : ∀ i, m_A (sendM m k mi) i 86 = if i = k then m_A m i 86 + 1 else m_A m i 86 := by
    intro i
    rw [sendM_A e1 i 86 (by decide)]
    simp
  have e84 : ∀ i, m_A (sendM m k mi) i 84 = m_A m i 84 := by
    intro i
    rw [sendM_A e1 i 84 (by decide)]
    simp
  refine ⟨x3.trans h1, x1.trans h2, fun t ht => ?_⟩
  obtain ⟨g1, a, M, a1, a2, a3, a4⟩ := h3 t ht
  rw [e97 t, e84 t]
  by_cases c : und m k t = true
  · rw [if_pos c]
    refine ⟨?_, a + 1, M, ?_, a2, by rw [a3, nI_1], a4⟩
    · rw [g1]
      unfold undS
      refine (sumG_up (i := k) (fun i hi => ?_) ?_ (m_n m0) 0 0 (by omega) (by omega)).symm
      · rw [e86, if_neg hi]
      · rw [← und_O h2] at *
        rw [if_pos c, if_pos c, e86, if_pos rfl]
        grind
    · have := lets_und 6 (some k) hl c
      rw [a3, a4] at this
      have := (nI_ltI (by omega) (by omega)).mp this
      omega
  · rw [if_neg c]
    refine ⟨?_, a, M, a1, a2, a3, a4⟩
    rw [g1]
    unfold undS
    refine (sumG_cg (m_n m0) 0 0 (fun i _ hi => ?_)).symm
    by_cases d : i = k
    · subst d
      rw [← und_O h2, if_neg c, if_neg c]
    · rw [e86, if_neg d]
theorem UnI.sds {m0 : Md} {mi : Int32} (ho : OvI m0) : ∀ (r : Nat) (m : Md), UnI m0 m → UnI m0 (sendsN mi r m).1
  | 0, m, h => h
  | r + 1, m, h => by
    rw [sendsN]
    match hW : who m with
    | none => exact h
    | some k =>
      obtain ⟨hk, hc⟩ := who_can hW
      exact UnI.sds ho r _ (h.sd ho hk hc)
theorem whoN_none {m : Md} : ∀ (r i : Nat) (b : Option Nat), whoN m r i b = none → b = none ∧ ∀ k, i ≤ k → k < i + r → ¬ can m k = true
  | 0, i, b, h => ⟨h, fun k h1 h2 => absurd h2 (by omega)⟩
  | r + 1, i, b, h => by
    rw [whoN] at h
    obtain ⟨h1, h2⟩ := whoN_none r (i + 1) _ h
    by_cases c : can m i = true
    · rw [if_pos c] at h1
      match b, h1 with
      | none, h1 => exact absurd h1 (by simp [pick])
      | some j, h1 =>
        rw [pick] at h1
        split at h1 <;> exact absurd h1 (by simp)
    · rw [if_neg c] at h1
      refine ⟨h1, fun k k1 k2 => ?_⟩
      by_cases d : k = i
      · rw [d]; exact c
      · exact h2 k (by omega) (by omega)
theorem sendsN_end {mi : Int32} : ∀ (r : Nat) (m : Md), (sendsN mi r m).2 < r → ∀ k, k < m_n m → ¬ can (sendsN mi r m).1 k = true
  | 0, m, h => absurd h (by omega)
  | r + 1, m, h => by
    rw [sendsN] at h ⊢
    match hW : who m with
    | none => exact fun k hk => (whoN_none (m_n m) 0 none hW).2 k (by omega) (by omega)
    | some k =>
      rw [hW] at h
      simp only at h ⊢
      intro i hi
      exact sendsN_end r (sendM m k mi) (by omega) i (by rw [(sendM_x m k mi).2.2.1]; exact hi)
theorem sendsN_86 {mi : Int32} : ∀ (r : Nat) (m : Md), sumG (fun i => m_A (sendsN mi r m).1 i 86) (m_n m) 0 0 = sumG (fun i => m_A m i 86) (m_n m) 0 0 + nI (sendsN mi r m).2
  | 0, m => by rw [sendsN, nI_0, Int32.add_zero]
  | r + 1, m => by
    rw [sendsN]
    match hW : who m with
    | none =>
      simp only
      rw [nI_0, Int32.add_zero]
    | some k =>
      obtain ⟨hk, hc⟩ := who_can hW
      obtain ⟨j, q, t, e1, e2⟩ := can_x hc
      simp only
      have ih := sendsN_86 (mi := mi) r (sendM m k mi)
      rw [(sendM_x m k mi).2.2.1] at ih
      have s1 : sumG (fun i => m_A (sendM m k mi) i 86) (m_n m) 0 0 = sumG (fun i => m_A m i 86) (m_n m) 0 0 + 1 := sumG_up (i := k) (fun i hi => by
          rw [sendM_A e1 i 86 (by decide)]
          simp [hi]) (by
          rw [sendM_A e1 k 86 (by decide)]
          simp) (m_n m) 0 0 (by omega) (by omega)
      rw [ih, s1, ← nI_1]
      grind
theorem tokN_A : ∀ (r k : Nat) (m : Md), m_Q (tokN r k m) = m_Q m ∧ ∀ i f, f ≠ 85 → m_A (tokN r k m) i f = m_A m i f
  | 0, k, m => ⟨rfl, fun _ _ _ => rfl⟩
  | r + 1, k, m => by
    obtain ⟨a1, a2⟩ := tokN_A r (k + 1) (sL m k (tokA (m_A m k)) (m_Q m k))
    refine ⟨a1.trans up1_id, fun i f hf => ?_⟩
    rw [tokN, a2 i f hf, sL_A]
    split
    · rename_i c
      rw [tokA, up1_ne hf, c]
    · rfl
theorem sendsN_f {mi : Int32} {f : Nat} (hf : f ≠ 97 ∧ f ≠ 96 ∧ f ≠ 86 ∧ f ≠ 89 ∧ f ≠ 88 ∧ f ≠ 95 ∧ f ≠ 85) : ∀ (r : Nat) (m : Md) (i : Nat), m_A (sendsN mi r m).1 i f = m_A m i f
  | 0, m, i => rfl
  | r + 1, m, i => by
    rw [sendsN]
    match hW : who m with
    | none => rfl
    | some k =>
      obtain ⟨hk, hc⟩ := who_can hW
      obtain ⟨j, q, t, e1, e2⟩ := can_x hc
      simp only
      rw [sendsN_f hf r (sendM m k mi) i, sendM_A e1 i f hf.1]
      simp [hf]
/-- which orders shut -/
theorem obeyN_90 : ∀ (l : List Od) (m : Md) (k : Nat), m_A (obeyN l m) k 90 ≠ m_A m k 90 → ∃ o ∈ l, o.1 = 18 ∧ o.2.1 = k
  | [], m, k, h => absurd rfl h
  | o :: t, m, k, h => by
    rw [obeyN] at h
    by_cases c : m_A (obeyM m o.1 o.2.1 o.2.2.1 o.2.2.2) k 90 = m_A m k 90
    · rw [← c] at h
      obtain ⟨q, q1, q2⟩ := obeyN_90 t _ k h
      exact ⟨q, List.mem_cons_of_mem _ q1, q2⟩
    · refine ⟨o, by simp, ?_⟩
      unfold obeyM at c
      split at c
      · exact absurd rfl c
      · split at c
        · rename_i e
          refine ⟨e, ?_⟩
          rw [doneM_x.2.2.2.2.1, sA_A] at c
          by_cases d : k = o.2.1
          · exact d.symm
          · exact absurd (if_neg (fun q => d q.1)) c
        · split at c
          · rw [doneM_x.2.2.2.2.1, sA_A] at c
            exact absurd (if_neg (fun q => absurd q.2 (by decide))) c
          · rw [doneM_x.2.2.2.2.1, sA_A] at c
            exact absurd (if_neg (fun q => absurd q.2 (by decide))) c
theorem pass_facts {mi W : Nat} {m : Md} (ods : List Od) (h : Inv mi W m) (hc : Cpy m) : ∃ w, w ≤ 30 ∧ m_V m 162 = nI w ∧ m_V (passM ods m).1 162 = nI w ∧ (passM ods m).2 ≤ w ∧ m_V (passM ods m).1 168 = nI w - nI (passM ods m).2 ∧ sumG (fun i => m_A (passM ods m).1 i 86) (m_n m) 0 0 = sumG (fun i => m_A m i 86) (m_n m) 0 0 + nI (passM ods m).2 ∧ m_n (passM ods m).1 = m_n m ∧ m_m (passM ods m).1 = m_m m ∧ m_O (passM ods m).1 = m_O m ∧ Cpy (passM ods m).1 ∧ ∀ k, k < m_n m → ∃ a M, a ≤ M ∧ M ≤ 30 ∧ m_A (passM ods m).1 k 84 = nI M ∧ undS m (passM ods m).1 k = nI a ∧ ((passM ods m).2 < w → m_Q (passM ods m).1 k ≠ [] → lend (passM ods m).1 k = some k → m_O m k = none → a < M → ∃ o ∈ ods, o.1 = 18 ∧ o.2.1 = k) := by
  have ho := h.2.1
  have h6 := h.1
  have i1 := Inv.fsN (m_m m) 0 (h.obN ods) (by rw [(obeyN_x ods m).2.1]; omega)
  obtain ⟨p1, p2, p3, p4, p5, p6, p7⟩ := obeyN_x ods m
  obtain ⟨q1, q2, q3, q4, q5⟩ := folkN_x (m_m m) 0 (obeyN ods m)
  have qA := folkN_A (m_m m) 0 (obeyN ods m)
  obtain ⟨m1, hm1⟩ : ∃ m1, m1 = folkN (m_m m) 0 (obeyN ods m) := ⟨_, rfl⟩
  rw [← hm1] at i1 q1 q2 q3 q4 q5 qA
  obtain ⟨w, w1, w2⟩ := i1.2.2.2.2.2.1
  have hV : m_V m1 161 = nI mi := i1.2.2.2.2.2.2.1
  have hw : m_V m 162 = nI w := by rw [← w2, q5, p6 162 (by decide)]
  obtain ⟨t1, t2, t3, t4, t5⟩ := tokN_x (m_n m1) 0 m1
  obtain ⟨tQ, tA⟩ := tokN_A (m_n m1) 0 m1
  have i2 := Inv.tkkN (m_n m1) 0 i1 (by omega)
  obtain ⟨m2, hm2⟩ : ∃ m2, m2 = tokN (m_n m1) 0 m1 := ⟨_, rfl⟩
  rw [← hm2] at t1 t2 t3 t4 t5 tQ tA i2
  have n2 : m_n m2 = m_n m := t1.trans (q1.trans p1)
  have o2 : m_O m2 = m_O m := t3.trans (q3.trans p3)
  have eA : ∀ i f, f ≠ 85 → f ≠ 87 → f ≠ 83 → f ≠ 84 → f ≠ 90 → m_A m2 i f = m_A m i f := fun i f f1 f2 f3 f4 f5 => (tA i f f1).trans ((qA i f f2).trans (p7 i f f3 f4 f5))
  have e90 : ∀ i, m_A m2 i 90 = m_A (obeyN ods m) i 90 := fun i => (tA i 90 (by decide)).trans (qA i 90 (by decide))
  have u0 : UnI m m2 := by
    refine ⟨n2, o2, fun k hk => ?_⟩
    have e97 : m_A m2 k 97 = 0 := by rw [eA k 97 (by decide) (by decide) (by decide) (by decide) (by decide)]; exact (hc k hk).2.2.2
    obtain ⟨-, -, ⟨M, M1, M2⟩, -⟩ := i2.2.2.2.1 k (by rw [n2]; exact hk)
    refine ⟨?_, 0, M, by omega, M1, e97, M2⟩
    rw [e97]
    unfold undS
    have := sumG_cg (f := fun _ => 0) (g := fun i => if und m i k = true then m_A m2 i 86 - m_A m i 86 else 0) (m_n m) 0 0 (fun i _ _ => by
      rw [eA i 86 (by decide) (by decide) (by decide) (by decide) (by decide)]
      split
      · grind
      · rfl)
    rw [this, sumG_const]
  have u1 := u0.sds (mi := nI mi) ho w
  have sx := sendsN_x (mi := nI mi) w m2
  have s86 := sendsN_86 (mi := nI mi) w m2
  have sle := sendsN_le (mi := nI mi) w m2
  have send := sendsN_end (mi := nI mi) w m2
  have sf := fun f hf => sendsN_f (mi := nI mi) (f := f) hf w m2
  obtain ⟨p, hp⟩ : ∃ p, p = sendsN (nI mi) w m2 := ⟨_, rfl⟩
  rw [← hp] at u1 sx s86 sle send sf
  have ep : passM ods m = (begN (m_n m) 0 (sV (sV p.1 168 (nI w - nI p.2)) 161 (nI mi + 1)), p.2) := by
    unfold passM laterM
    rw [← hm1]
    simp only
    rw [← hm2, hV, w2, nI_clamp (show w < 2 ^ 31 by omega), ← hp, q1, p1]
  rw [ep]
  simp only
  obtain ⟨b1, b2, b3, b4, b5⟩ := begN_x (m_n m) 0 (sV (sV p.1 168 (nI w - nI p.2)) 161 (nI mi + 1))
  obtain ⟨bQ, bA⟩ := begN_A (m_n m) 0 (sV (sV p.1 168 (nI w - nI p.2)) 161 (nI mi + 1))
  obtain ⟨m3, hm3⟩ : ∃ m3, m3 = begN (m_n m) 0 (sV (sV p.1 168 (nI w - nI p.2)) 161 (nI mi + 1)) := ⟨_, rfl⟩
  rw [← hm3] at b1 b2 b3 b4 b5 bQ bA ⊢
  have bA' : ∀ i f, f ≠ 90 → f ≠ 96 → f ≠ 97 → m_A m3 i f = m_A p.1 i f := fun i f f1 f2 f3 => by
    rw [bA, if_neg (by omega)]
    rfl
  refine ⟨w, w1, hw, ?_, sle, ?_, ?_, b1.trans (sx.1.trans n2), b2.trans (sx.2.1.trans (t2.trans (q2.trans p2))), b3.trans (sx.2.2.1.trans o2), ?_, fun k hk => ?_⟩
  · rw [b4]
    show up1 (up1 (m_V p.1) 168 (nI w - nI p.2)) 161 (nI mi + 1) 162 = nI w
    rw [up1_ne (by decide), up1_ne (by decide), sx.2.2.2.1, t4]
    exact w2
  · rw [b4]
    show up1 (up1 (m_V p.1) 168 (nI w - nI p.2)) 161 (nI mi + 1) 168 = nI w - nI p.2
    rw [up1_ne (by decide), up1_eq]
  · rw [n2] at s86
    have e1 : sumG (fun i => m_A m3 i 86) (m_n m) 0 0 = sumG (fun i => m_A p.1 i 86) (m_n m) 0 0 := sumG_cg _ _ _ (fun i _ _ => bA' i 86 (by decide) (by decide) (by decide))
    have e2 : sumG (fun i => m_A m2 i 86) (m_n m) 0 0 = sumG (fun i => m_A m i 86) (m_n m) 0 0 := sumG_cg _ _ _ (fun i _ _ => eA i 86 (by decide) (by decide) (by decide) (by decide) (by decide))
    rw [e1, s86, e2]
  · intro k hk
    rw [b1] at hk
    have hk2 : k < m_n m := by
      have : k < m_n p.1 := hk
      rw [sx.1, n2] at this
      exact this
    refine ⟨?_, ?_, ?_, ?_⟩
    · rw [bA' k 94 (by decide) (by decide) (by decide), sf 94 (by decide) k, eA k 94 (by decide) (by decide) (by decide) (by decide) (by decide)]
      exact (hc k hk2).1
    · rw [bA, if_pos (by omega)]
    · rw [bA, if_pos (by omega)]
    · rw [bA, if_pos (by omega)]
  · obtain ⟨g1, a, M, a1, a2, a3, a4⟩ := u1.2.2 k hk
    have e84 : m_A m3 k 84 = nI M := by rw [bA' k 84 (by decide) (by decide) (by decide)]; exact a4
    have eU : undS m m3 k = nI a := by
      rw [← a3, g1]
      unfold undS
      exact sumG_cg _ _ _ (fun i _ _ => by rw [bA' i 86 (by decide) (by decide) (by decide)])
    refine ⟨a, M, a1, a2, e84, eU, fun hs hq hl hO ha => ?_⟩
    have nc := send (by omega) k (by rw [n2]; exact hk)
    have hq2 : m_Q p.1 k ≠ [] := by rw [bQ] at hq; exact hq
    have t85 : ¬ m_A p.1 k 85 ≤ 0 := by
      have := (lendN_tok 6 (some k) k hl).1
      rw [bA' k 85 (by decide) (by decide) (by decide)] at this
      exact this
    have hO2 : m_O p.1 k = none := by rw [sx.2.2.1, o2]; exact hO
    have n90 : m_A p.1 k 90 ≠ 0 := by
      intro h90
      apply nc
      unfold can
      have l1 : lets p.1 k = true := by
        unfold lets
        rw [letN, if_pos (by rw [a3, a4]; exact nI_lt ha (by omega)), hO2]
        rfl
      have l2 : lend p.1 k = some k := by
        unfold lend
        rw [lendN, if_neg t85, if_pos h90]
      rw [l1, l2]
      cases hQ : m_Q p.1 k with
      | nil => exact absurd hQ hq2
      | cons c t => simp [h90]
    rw [sf 90 (by decide) k, e90] at n90
    exact obeyN_90 ods m k (by rw [(hc k hk).2.1]; exact n90)
