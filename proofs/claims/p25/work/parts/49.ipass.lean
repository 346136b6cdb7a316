/-! ===== what holds through a minute ===== -/
theorem lendN_tok {m : Md} : ∀ (n : Nat) (p : Option Nat) (t : Nat), lendN m n p = some t → ¬ m_A m t 85 ≤ 0 ∧ m_A m t 90 = 0
  | 0, p, t, h => by simp [lendN] at h
  | n + 1, none, t, h => by simp [lendN] at h
  | n + 1, some p, t, h => by
    rw [lendN] at h
    split at h
    · exact lendN_tok n _ t h
    · rename_i c1
      split at h
      · rename_i c2
        injection h with e
        rw [← e]
        exact ⟨c1, c2⟩
      · exact lendN_tok n _ t h
theorem sL_sL (m : Md) (k : Nat) (A A' : Nat → Int32) (Q Q' : List Int32) : sL (sL m k A Q) k A' Q' = sL m k A' Q' := by
  have e : ∀ {α : Type} (B : Nat → α) (a b : α), up1 (up1 B k a) k b = up1 B k b := fun B a b => by
    funext g
    simp only [up1]
    split <;> rfl
  show (up1 (up1 (m_A m) k A) k A', up1 (up1 (m_Q m) k Q) k Q', m_O m, m_F m, m_V m, m_n m, m_m m) = _
  rw [e, e]
  rfl
theorem bg_eq (m : Md) (k : Nat) : sL m k (bgA (m_A m k)) (m_Q m k) = sA (sA (sA m k 90 0) k 96 0) k 97 0 := by
  unfold sA bgA
  simp only [sL_x, up1_eq, sL_sL]
theorem clp_n (v : Int32) : ∃ r, r ≤ 30 ∧ clp v = nI r := by
  rw [clp_eq]
  by_cases c : 0 ≤ v
  · rw [if_pos c]
    by_cases d : v ≤ 30
    · rw [if_pos d]
      exact nI_of2 (M := 30) (n := 30) (by decide) (Int32.not_lt.mpr c) d
    · rw [if_neg d]
      exact ⟨30, Nat.le_refl _, rfl⟩
  · rw [if_neg c]
    exact ⟨0, by omega, rfl⟩
theorem Inv.dn {mi W : Nat} {m : Md} {c : Prop} [Decidable c] (h : Inv mi W m) : Inv mi W (doneM m c) := by
  unfold doneM
  split
  · exact h.iv (Or.inr (Or.inl rfl))
  · exact h
theorem Inv.ob {mi W : Nat} {m : Md} {kd ln : Nat} {S T : List (Nat × Nat)} (h : Inv mi W m) : Inv mi W (obeyM m kd ln S T) := by
  unfold obeyM
  split
  · exact h
  · split
    · exact Inv.dn (h.ia (by omega) (fun q => absurd q (by omega)))
    · split
      · exact Inv.dn (h.ia (by omega) (fun _ => clp_n _))
      · exact Inv.dn (h.ia (by omega) (fun _ => clp_n _))
theorem Inv.obN {mi W : Nat} : ∀ (l : List Od) {m : Md}, Inv mi W m → Inv mi W (obeyN l m)
  | [], m, h => h
  | o :: t, m, h => Inv.obN t h.ob
theorem Inv.fs {mi W : Nat} {m : Md} {j : Nat} (h : Inv mi W m) (hj : j < m_m m) : Inv mi W (folkS m j) := by
  obtain ⟨ln, c, ev, fr, f1, f2, f3, f4, f5, f6, f7, f8, f9⟩ := h.2.2.2.2.1 j hj
  have n6 := h.1
  unfold folkS
  split
  · exact h
  · rw [f6, f7, nI_clamp (by omega), nI_clamp (by omega)]
    exact (h.tkN c f1).jf
theorem Inv.fsN {mi W : Nat} : ∀ (r j : Nat) {m : Md}, Inv mi W m → j + r ≤ m_m m → Inv mi W (folkN r j m)
  | 0, j, m, h, hj => h
  | r + 1, j, m, h, hj => by
    have k2 := (folkS_x m j).2.1
    exact Inv.fsN r (j + 1) (h.fs (by omega)) (by omega)
theorem Inv.tkk {mi W : Nat} {m : Md} {k : Nat} (h : Inv mi W m) (hk : k < m_n m) : Inv mi W (sL m k (tokA (m_A m k)) (m_Q m k)) := by
  obtain ⟨⟨t, b, a1, a2, a3, a4⟩, ⟨r, r1, r2⟩, -, -⟩ := h.2.2.2.1 k hk
  show Inv mi W (sA m k 85 (if m_A m k 85 + m_A m k 83 < m_A m k 91 then m_A m k 85 + m_A m k 83 else m_A m k 91))
  rw [a3, a4, r2, nI_add]
  by_cases c : nI (t + r) < nI b
  · rw [if_pos c]
    have := (nI_ltI (by omega) (by omega)).mp c
    exact h.tok (t := t + r) (fun _ => ⟨b, by omega, a2, a4⟩) rfl
  · rw [if_neg c]
    exact h.tok (t := b) (fun _ => ⟨b, by omega, a2, a4⟩) rfl
theorem Inv.tkkN {mi W : Nat} : ∀ (r k : Nat) {m : Md}, Inv mi W m → k + r ≤ m_n m → Inv mi W (tokN r k m)
  | 0, k, m, h, hk => h
  | r + 1, k, m, h, hk => Inv.tkkN r (k + 1) (h.tkk (by omega)) (by show k + 1 + r ≤ m_n m; omega)
theorem Inv.bgN {mi W : Nat} : ∀ (r k : Nat) {m : Md}, Inv mi W m → Inv mi W (begN r k m)
  | 0, k, m, h => h
  | r + 1, k, m, h => by
    rw [begN, bg_eq]
    exact Inv.bgN r (k + 1) (((h.ia (by omega) (fun q => absurd q (by omega))).ia (by omega) (fun q => absurd q (by omega))).ia (by omega) (fun q => absurd q (by omega)))
/-- who can send has a lender with a token, and a pail -/
theorem Inv.cn {mi W : Nat} {m : Md} {k : Nat} (h : Inv mi W m) (hk : k < m_n m) (hc : can m k = true) : ∃ (j t b p : Nat) (l : List Nat), lend m k = some j ∧ j ≤ k ∧ 1 ≤ t ∧ t ≤ b ∧ b ≤ 99 ∧ m_A m j 85 = nI t ∧ m_A m j 91 = nI b ∧ m_Q m k = nI p :: l.map nI ∧ p ≤ mi ∧ (∀ q ∈ l, q ≤ mi) ∧ l.Pairwise (· ≤ ·) := by
  obtain ⟨j, q, r, e1, e2⟩ := can_x hc
  have hjk := lendN_le h.2.1 6 k j hk e1
  obtain ⟨⟨t, b, a1, a2, a3, a4⟩, -⟩ := h.2.2.2.1 j (by omega)
  have ht := (lendN_tok 6 _ j e1).1
  obtain ⟨l, l1, l2, l3⟩ := h.2.2.2.2.2.2.2.1 k hk
  match l, l1, l2, l3 with
  | [], l1, l2, l3 => rw [e2] at l1; exact absurd l1 (by simp)
  | p :: l, l1, l2, l3 =>
    refine ⟨j, t, b, p, l, e1, hjk, ?_, a1, a2, a3, a4, l1, l2 p (by simp), fun q hq => l2 q (by simp [hq]), (List.pairwise_cons.mp l3).2⟩
    by_cases c : t = 0
    · rw [a3, c] at ht
      exact absurd (by decide) ht
    · omega
theorem Inv.sd {mi W : Nat} {m : Md} {k : Nat} (h : Inv mi W m) (hk : k < m_n m) (hc : can m k = true) : Inv mi (W + mi) (sendM m k (nI mi)) := by
  obtain ⟨j, t, b, p, l, e1, hjk, t1, tb, b99, ej, eb, eQ, pm, lm, ls⟩ := h.cn hk hc
  obtain ⟨h0, h1, h2, h3, h4, h5, h6, h7, h8, h9, h10⟩ := h
  obtain ⟨x1, x2, x3, x4, x5⟩ := sendM_x m k (nI mi)
  have qx := sendM_Q (mi := nI mi) e1
  have qk : m_Q (sendM m k (nI mi)) k = l.map nI := by rw [qx, up1_eq, eQ]; rfl
  have qn : ∀ i, i ≠ k → m_Q (sendM m k (nI mi)) i = m_Q m i := fun i hi => by rw [qx, up1_ne hi]
  have eA := fun i f (hf : f ≠ 97) => sendM_A (mi := nI mi) e1 i f hf
  have len : (m_Q m k).length = l.length + 1 := by rw [eQ]; simp
  refine ⟨by rw [x3]; exact h0, fun i hi => ?_, fun i hi => ?_, fun i hi => ?_, fun i hi => ?_, by rw [x2]; exact h5, by rw [x2]; exact h6, fun i hi => ?_, fun i hi => ?_, ?_, ?_⟩
  · rw [x1]; rw [x3] at hi; exact h1 i hi
  · rw [x3] at hi
    obtain ⟨H, w1, w2, w3, w4⟩ := h2 i hi
    refine ⟨H, w1, w2, by rw [eA i 93 (by decide)]; simpa using w3, ?_⟩
    by_cases c : i = k
    · subst c
      rw [qk]
      simp
      omega
    · rw [qn i c]
      exact w4
  · rw [x3] at hi
    obtain ⟨⟨t0, b0, a1, a2, a3, a4⟩, ⟨r, r1, r2⟩, ⟨u, u1, u2⟩, ⟨q, q1, q2⟩⟩ := h3 i hi
    rw [eA i 85 (by decide), eA i 91 (by decide), eA i 83 (by decide), eA i 84 (by decide), eA i 92 (by decide)]
    refine ⟨?_, ⟨r, r1, by simpa using r2⟩, ⟨u, u1, by simpa using u2⟩, ⟨q, q1, by simpa using q2⟩⟩
    by_cases c : i = j
    · subst c
      refine ⟨t - 1, b, by omega, b99, ?_, by simpa using eb⟩
      simp [ej]
      rw [show (1 : Int32) = nI 1 from rfl, pk_sub t1]
    · exact ⟨t0, b0, a1, a2, by simpa [c] using a3, by simpa using a4⟩
  · rw [x5] at hi
    rw [x4, x3]
    exact h4 i hi
  · rw [x3] at hi
    by_cases c : i = k
    · subst c
      rw [qk]
      exact ⟨l, rfl, lm, ls⟩
    · rw [qn i c]
      exact h7 i hi
  · rw [x3] at hi
    obtain ⟨w, w1, w2⟩ := h8 i hi
    rw [eA i 89 (by decide)]
    by_cases c : i = k
    · subst c
      refine ⟨w + (mi - p), by omega, ?_⟩
      rw [eQ]
      simp [w2]
      rw [pk_sub pm, nI_add]
    · exact ⟨w, by omega, by simpa [c] using w2⟩
  · unfold Bal
    rw [x2, x3]
    refine h9.trans (sumG_cg (m_n m) 0 0 (fun i _ hi => ?_)).symm
    unfold bs
    rw [eA i 86 (by decide), eA i 87 (by decide)]
    by_cases c : i = k
    · subst c
      rw [qk, len, List.length_map, ← nI_1]
      simp
      grind
    · rw [qn i c]
      simp [c]
  · unfold Len at h10 ⊢
    rw [x3]
    have e95 : ∀ i, m_A (sendM m k (nI mi)) i 95 = if j ≠ k ∧ i = j then m_A m i 95 + 1 else m_A m i 95 := fun i => by
      rw [eA i 95 (by decide)]
      simp
    have e88 : ∀ i, m_A (sendM m k (nI mi)) i 88 = if j ≠ k ∧ i = k then m_A m i 88 + 1 else m_A m i 88 := fun i => by
      rw [eA i 88 (by decide)]
      simp
    by_cases c : j = k
    · have s1 : sumG (fun i => m_A (sendM m k (nI mi)) i 95) (m_n m) 0 0 = sumG (fun i => m_A m i 95) (m_n m) 0 0 := sumG_cg _ _ _ (fun i _ _ => by rw [e95 i, if_neg (fun q => q.1 c)])
      have s2 : sumG (fun i => m_A (sendM m k (nI mi)) i 88) (m_n m) 0 0 = sumG (fun i => m_A m i 88) (m_n m) 0 0 := sumG_cg _ _ _ (fun i _ _ => by rw [e88 i, if_neg (fun q => q.1 c)])
      rw [s1, s2]
      exact h10
    · have s1 : sumG (fun i => m_A (sendM m k (nI mi)) i 95) (m_n m) 0 0 = sumG (fun i => m_A m i 95) (m_n m) 0 0 + 1 := sumG_up (i := j) (fun i hi => by rw [e95 i, if_neg (fun q => hi q.2)]) (by rw [e95 j, if_pos ⟨c, rfl⟩]) (m_n m) 0 0 (by omega) (by omega)
      have s2 : sumG (fun i => m_A (sendM m k (nI mi)) i 88) (m_n m) 0 0 = sumG (fun i => m_A m i 88) (m_n m) 0 0 + 1 := sumG_up (i := k) (fun i hi => by rw [e88 i, if_neg (fun q => hi q.2)]) (by rw [e88 k, if_pos ⟨c, rfl⟩]) (m_n m) 0 0 (by omega) (by omega)
      rw [s1, s2, h10]
theorem Inv.sds {mi : Nat} : ∀ (r : Nat) {W : Nat} {m : Md}, Inv mi W m → Inv mi (W + r * mi) (sendsN (nI mi) r m).1
  | 0, W, m, h => by
    rw [Nat.zero_mul]
    exact h
  | r + 1, W, m, h => by
    rw [sendsN]
    match hW : who m with
    | none =>
      obtain ⟨h0, h1, h2, h3, h4, h5, h6, h7, h8, h9, h10⟩ := h
      exact ⟨h0, h1, h2, h3, h4, h5, h6, h7, fun i hi => by
        obtain ⟨w, w1, w2⟩ := h8 i hi
        exact ⟨w, by omega, w2⟩, h9, h10⟩
    | some k =>
      obtain ⟨hk, hc⟩ := who_can hW
      have := Inv.sds r (h.sd hk hc)
      rw [show W + (r + 1) * mi = W + mi + r * mi by rw [Nat.add_mul]; omega]
      exact this
theorem Inv.ps {mi W : Nat} {m : Md} (ods : List Od) (h : Inv mi W m) : Inv (mi + 1) (W + 30 * mi) (passM ods m).1 := by
  have a := Inv.fsN (m_m m) 0 (h.obN ods) (by rw [(obeyN_x ods m).2.1]; omega)
  obtain ⟨m1, hm1⟩ : ∃ m1, m1 = folkN (m_m m) 0 (obeyN ods m) := ⟨_, rfl⟩
  rw [← hm1] at a
  unfold passM laterM
  rw [← hm1]
  simp only
  obtain ⟨w, w1, w2⟩ := a.2.2.2.2.2.1
  have hV : m_V m1 161 = nI mi := a.2.2.2.2.2.2.1
  rw [hV, w2, nI_clamp (show w < 2 ^ 31 by omega)]
  have b := Inv.sds w (Inv.tkkN (m_n m1) 0 a (by omega))
  obtain ⟨m2, hm2⟩ : ∃ m2, m2 = sendsN (nI mi) w (tokN (m_n m1) 0 m1) := ⟨_, rfl⟩
  rw [← hm2] at b ⊢
  have c := b.iv (f := 168) (v := nI w - nI m2.2) (Or.inl rfl)
  obtain ⟨h0, h1, h2, h3, h4, h5, h6, h7, h8, h9, h10⟩ := c
  refine Inv.bgN (m_n m1) 0 ⟨h0, h1, h2, h3, h4, ?_, ?_, fun i hi => (h7 i hi).mono (by omega), fun i hi => ?_, ?_, h10⟩
  · show ∃ w, w ≤ 30 ∧ up1 (m_V (sV m2.1 168 (nI w - nI m2.2))) 161 (nI mi + 1) 162 = nI w
    obtain ⟨u, u1, u2⟩ := h5
    exact ⟨u, u1, (up1_ne (by decide)).trans u2⟩
  · show up1 (m_V (sV m2.1 168 (nI w - nI m2.2))) 161 (nI mi + 1) 161 = nI (mi + 1)
    rw [up1_eq, nI_1]
  · obtain ⟨u, u1, u2⟩ := h8 i hi
    refine ⟨u, ?_, u2⟩
    have : w * mi ≤ 30 * mi := Nat.mul_le_mul_right mi w1
    omega
  · show up1 (m_V (sV m2.1 168 (nI w - nI m2.2))) 161 (nI mi + 1) 169 = _
    rw [up1_ne (by decide)]
    exact h9
