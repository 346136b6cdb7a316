/-! ===== what holds of a picture at all times ===== -/
theorem sumG_acc (f : Nat → Int32) : ∀ (r k : Nat) (v d : Int32), sumG f r k (v + d) = sumG f r k v + d
  | 0, k, v, d => rfl
  | r + 1, k, v, d => by
    rw [sumG, sumG, show v + d + f k = v + f k + d by grind, sumG_acc f r (k + 1) (v + f k) d]
theorem sumG_cg {f g : Nat → Int32} : ∀ (r k : Nat) (v : Int32), (∀ j, k ≤ j → j < k + r → g j = f j) → sumG g r k v = sumG f r k v
  | 0, k, v, h => rfl
  | r + 1, k, v, h => by
    rw [sumG, sumG, h k (by omega) (by omega), sumG_cg r (k + 1) (v + f k) (fun j h1 h2 => h j (by omega) (by omega))]
theorem sumG_up {f g : Nat → Int32} {i : Nat} {d : Int32} (h : ∀ j, j ≠ i → g j = f j) (hd : g i = f i + d) : ∀ (r k : Nat) (v : Int32), k ≤ i → i < k + r → sumG g r k v = sumG f r k v + d
  | 0, k, v, h1, h2 => absurd h2 (by omega)
  | r + 1, k, v, h1, h2 => by
    rw [sumG, sumG]
    by_cases c : k = i
    · subst c
      rw [hd, show v + (f k + d) = v + f k + d by grind, sumG_acc, sumG_cg r (k + 1) (v + f k) (fun j h3 h4 => h j (by omega))]
    · rw [h k c, sumG_up h hd r (k + 1) (v + f k) (by omega) (by omega)]
theorem sumG_add (f g : Nat → Int32) : ∀ (r k : Nat) (v w : Int32), sumG (fun j => f j + g j) r k (v + w) = sumG f r k v + sumG g r k w
  | 0, k, v, w => rfl
  | r + 1, k, v, w => by
    rw [sumG, sumG, sumG, show v + w + (f k + g k) = (v + f k) + (w + g k) by grind, sumG_add f g r (k + 1)]
theorem sumM_G (m : Md) (w : Nat) : ∀ (r k : Nat) (v : Int32), sumM m w r k v = sumG (fun k => shareM m k w) r k v
  | 0, k, v => rfl
  | r + 1, k, v => by rw [sumM, sumG, sumM_G m w r (k + 1)]
/-- a row of pails: of minutes up to one, none earlier than the one in front of it -/
def QI (mi : Nat) (Q : List Int32) : Prop := ∃ l : List Nat, Q = l.map nI ∧ (∀ p ∈ l, p ≤ mi) ∧ l.Pairwise (· ≤ ·)
theorem QI.mono {mi mj : Nat} {Q : List Int32} (h : QI mi Q) (e : mi ≤ mj) : QI mj Q := by
  obtain ⟨l, h1, h2, h3⟩ := h
  exact ⟨l, h1, fun p hp => Nat.le_trans (h2 p hp) e, h3⟩
theorem QI.drop1 {mi : Nat} {Q : List Int32} (h : QI mi Q) : QI mi (Q.drop 1) := by
  obtain ⟨l, h1, h2, h3⟩ := h
  refine ⟨l.drop 1, by rw [h1, List.map_drop], fun p hp => h2 p (List.mem_of_mem_drop hp), ?_⟩
  cases l with
  | nil => exact List.Pairwise.nil
  | cons a t => exact (List.pairwise_cons.mp h3).2
theorem QI.put {mi : Nat} {Q : List Int32} (h : QI mi Q) : QI mi (Q ++ [nI mi]) := by
  obtain ⟨l, h1, h2, h3⟩ := h
  refine ⟨l ++ [mi], by rw [h1]; simp, fun p hp => ?_, ?_⟩
  · rcases List.mem_append.mp hp with c | c
    · exact h2 p c
    · rw [List.mem_singleton.mp c]
      exact Nat.le_refl _
  · rw [List.pairwise_append]
    refine ⟨h3, by simp, fun a ha b hb => ?_⟩
    rw [List.mem_singleton.mp hb]
    exact h2 a ha
/-- the numbers of a lane -/
def TokI (m : Md) : Prop := ∀ k, k < m_n m → (∃ t b, t ≤ b ∧ b ≤ 99 ∧ m_A m k 85 = nI t ∧ m_A m k 91 = nI b) ∧ (∃ r, r ≤ 30 ∧ m_A m k 83 = nI r) ∧ (∃ r, r ≤ 30 ∧ m_A m k 84 = nI r) ∧ ∃ q, q ≤ 9 ∧ m_A m k 92 = nI q
def bs (m : Md) (k : Nat) : Int32 := nI (m_Q m k).length + m_A m k 86 + m_A m k 87
def Bal (m : Md) : Prop := m_V m 169 = sumG (bs m) (m_n m) 0 0
def Len (m : Md) : Prop := sumG (fun k => m_A m k 95) (m_n m) 0 0 = sumG (fun k => m_A m k 88) (m_n m) 0 0
def WaI (W : Nat) (m : Md) : Prop := ∀ k, k < m_n m → ∃ w, w ≤ W ∧ m_A m k 89 = nI w
def QuI (mi : Nat) (m : Md) : Prop := ∀ k, k < m_n m → QI mi (m_Q m k)
def OvI (m : Md) : Prop := ∀ k, k < m_n m → ∀ j, m_O m k = some j → j < k
def Inv (mi W : Nat) (m : Md) : Prop := m_n m ≤ 6 ∧ OvI m ∧ WfQ m ∧ TokI m ∧ FkX m ∧ (∃ w, w ≤ 30 ∧ m_V m 162 = nI w) ∧ m_V m 161 = nI mi ∧ QuI mi m ∧ WaI W m ∧ Bal m ∧ Len m
/-- a rate or a most is at most 30 -/
def Rt (f : Nat) (v : Int32) : Prop := (f = 83 ∨ f = 84) → ∃ r, r ≤ 30 ∧ v = nI r
/-- numbers that no sum and no row looks at -/
theorem Inv.ia {mi W : Nat} {m : Md} {k f : Nat} {v : Int32} (h : Inv mi W m) (hf : f = 90 ∨ f = 96 ∨ f = 97 ∨ f = 83 ∨ f = 84) (hv : Rt f v) : Inv mi W (sA m k f v) := by
  obtain ⟨h0, h1, h2, h3, h4, h5, h6, h7, h8, h9, h10⟩ := h
  have eA : ∀ i g, g ≠ f → m_A (sA m k f v) i g = m_A m i g := fun i g hg => by rw [sA_A, if_neg (fun q => hg q.2)]
  have n83 : f ≠ 85 ∧ f ≠ 91 ∧ f ≠ 92 ∧ f ≠ 93 ∧ f ≠ 86 ∧ f ≠ 87 ∧ f ≠ 88 ∧ f ≠ 89 ∧ f ≠ 95 := by omega
  refine ⟨h0, h1, fun i hi => ?_, fun i hi => ?_, h4, h5, h6, fun i hi => ?_, fun i hi => ?_, ?_, ?_⟩
  · rw [sA_Q, eA i 93 (by omega)]
    exact h2 i hi
  · obtain ⟨a1, a2, a3, a4⟩ := h3 i hi
    rw [eA i 85 (by omega), eA i 91 (by omega), eA i 92 (by omega)]
    refine ⟨a1, ?_, ?_, a4⟩
    · rw [sA_A]
      split
      · rename_i c
        exact hv (by omega)
      · exact a2
    · rw [sA_A]
      split
      · rename_i c
        exact hv (by omega)
      · exact a3
  · rw [sA_Q]
    exact h7 i hi
  · rw [eA i 89 (by omega)]
    exact h8 i hi
  · have : bs (sA m k f v) = bs m := by
      funext i
      unfold bs
      rw [sA_Q, eA i 86 (by omega), eA i 87 (by omega)]
    unfold Bal
    rw [this]
    exact h9
  · have e1 : (fun i => m_A (sA m k f v) i 95) = fun i => m_A m i 95 := by funext i; exact eA i 95 (by omega)
    have e2 : (fun i => m_A (sA m k f v) i 88) = fun i => m_A m i 88 := by funext i; exact eA i 88 (by omega)
    unfold Len
    rw [e1, e2]
    exact h10
theorem Inv.iv {mi W : Nat} {m : Md} {f : Nat} {v : Int32} (h : Inv mi W m) (hf : f = 168 ∨ f = 170 ∨ (f = 162 ∧ ∃ w, w ≤ 30 ∧ v = nI w)) : Inv mi W (sV m f v) := by
  obtain ⟨h0, h1, h2, h3, h4, h5, h6, h7, h8, h9, h10⟩ := h
  refine ⟨h0, h1, h2, h3, h4, ?_, ?_, h7, h8, ?_, h10⟩
  · show ∃ w, w ≤ 30 ∧ up1 (m_V m) f v 162 = nI w
    by_cases c : f = 162
    · subst c
      rw [up1_eq]
      rcases hf with d | d | ⟨d, e⟩
      · omega
      · omega
      · exact e
    · rw [up1_ne (fun q => c q.symm)]
      exact h5
  · show up1 (m_V m) f v 161 = nI mi
    rw [up1_ne (by omega)]
    exact h6
  · show up1 (m_V m) f v 169 = _
    rw [up1_ne (by omega)]
    exact h9
theorem Inv.jf {mi W : Nat} {m : Md} {j : Nat} {v : Int32} (h : Inv mi W m) : Inv mi W (sF m j 62 v) := by
  obtain ⟨h0, h1, h2, h3, h4, h5, h6, h7, h8, h9, h10⟩ := h
  refine ⟨h0, h1, h2, h3, fun i hi => ?_, h5, h6, h7, h8, h9, h10⟩
  have e : ∀ f, f ≠ 62 → m_F (sF m j 62 v) i f = m_F m i f := fun f hf => by
    simp only [sF_x]
    by_cases c : i = j
    · subst c
      rw [up1_eq, up1_ne hf]
    · rw [up1_ne c]
  rw [e 60 (by decide), e 61 (by decide), e 63 (by decide), e 64 (by decide)]
  exact h4 i hi
/-- one pail comes -/
theorem Inv.tk {mi W : Nat} {m : Md} {k : Nat} (h : Inv mi W m) (hk : k < m_n m) : Inv mi W (sV (tkP m k) 169 (m_V m 169 + 1)) := by
  obtain ⟨h0, h1, h2, h3, h4, h5, h6, h7, h8, h9, h10⟩ := h
  have eA : ∀ i g, g ≠ 87 → m_A (tkP m k) i g = m_A m i g := fun i g hg => by
    rw [tkP, sL_A]
    split
    · rename_i c
      rw [tkA_ne hg, c]
    · rfl
  obtain ⟨H, w1, w2, w3, w4⟩ := h2 k hk
  have eQ : ∀ i, i ≠ k → m_Q (tkP m k) i = m_Q m i := fun i hi => by
    rw [tkP, (sL_x _ _ _ _).2.1, up1_ne hi]
  have eQk : m_Q (tkP m k) k = tkQ (m_V m 161) (m_A m k) (m_Q m k) := by
    rw [tkP, (sL_x _ _ _ _).2.1, up1_eq]
  have e87 : m_A (tkP m k) k 87 = tkA (m_A m k) (m_Q m k) 87 := by rw [tkP, sL_A, if_pos rfl]
  have hnf : ¬ nI (m_Q m k).length < m_A m k 93 → (m_Q m k).length = H := fun c => by
    rw [w3] at c
    have := mt (nI_ltI (a := (m_Q m k).length) (b := H) (by omega) (by omega)).mpr c
    omega
  refine ⟨h0, h1, WfQ.sv (WfQ.tk h2 hk), fun i hi => ?_, h4, ?_, ?_, fun i hi => ?_, fun i hi => ?_, ?_, ?_⟩
  · show (∃ t b, t ≤ b ∧ b ≤ 99 ∧ m_A (tkP m k) i 85 = nI t ∧ m_A (tkP m k) i 91 = nI b) ∧ (∃ r, r ≤ 30 ∧ m_A (tkP m k) i 83 = nI r) ∧ (∃ r, r ≤ 30 ∧ m_A (tkP m k) i 84 = nI r) ∧ ∃ q, q ≤ 9 ∧ m_A (tkP m k) i 92 = nI q
    rw [eA i 85 (by decide), eA i 91 (by decide), eA i 83 (by decide), eA i 84 (by decide), eA i 92 (by decide)]
    exact h3 i hi
  · show ∃ w, w ≤ 30 ∧ up1 (m_V m) 169 (m_V m 169 + 1) 162 = nI w
    rw [up1_ne (by decide)]
    exact h5
  · show up1 (m_V m) 169 (m_V m 169 + 1) 161 = nI mi
    rw [up1_ne (by decide)]
    exact h6
  · show QI mi (m_Q (tkP m k) i)
    by_cases c : i = k
    · subst c
      rw [eQk, h6]
      unfold tkQ
      split
      · exact (h7 i hi).put
      · split
        · exact h7 i hi
        · exact (h7 i hi).drop1.put
    · rw [eQ i c]
      exact h7 i hi
  · show ∃ w, w ≤ W ∧ m_A (tkP m k) i 89 = nI w
    rw [eA i 89 (by decide)]
    exact h8 i hi
  · show up1 (m_V m) 169 (m_V m 169 + 1) 169 = sumG (bs (tkP m k)) (m_n m) 0 0
    rw [up1_eq, h9]
    refine (sumG_up (i := k) (fun j hj => ?_) ?_ (m_n m) 0 0 (by omega) (by omega)).symm
    · unfold bs
      rw [eQ j hj, eA j 86 (by decide), tkP, sL_A, if_neg hj]
    · unfold bs
      rw [eQk, eA k 86 (by decide), e87, tkA_87]
      unfold tkQ
      by_cases c : nI (m_Q m k).length < m_A m k 93
      · rw [if_pos c, if_pos c, List.length_append, List.length_singleton, ← nI_1]
        grind
      · rw [if_neg c, if_neg c]
        have hl := hnf c
        by_cases d : m_A m k 94 = 0
        · rw [if_pos d]
          grind
        · rw [if_neg d, List.length_append, List.length_singleton, List.length_drop, show (m_Q m k).length - 1 + 1 = (m_Q m k).length by omega]
          grind
  · show sumG (fun i => m_A (tkP m k) i 95) (m_n m) 0 0 = sumG (fun i => m_A (tkP m k) i 88) (m_n m) 0 0
    have e1 : (fun i => m_A (tkP m k) i 95) = fun i => m_A m i 95 := by funext i; exact eA i 95 (by decide)
    have e2 : (fun i => m_A (tkP m k) i 88) = fun i => m_A m i 88 := by funext i; exact eA i 88 (by decide)
    rw [e1, e2]
    exact h10
theorem Inv.tkN {mi W : Nat} : ∀ (c : Nat) {m : Md} {k : Nat}, Inv mi W m → k < m_n m → Inv mi W (takeI m k c)
  | 0, m, k, h, hk => by
    unfold takeI
    rw [takeN, nI_0, Int32.add_zero]
    have : sV m 169 (m_V m 169) = m := by
      show (m_A m, m_Q m, m_O m, m_F m, up1 (m_V m) 169 (m_V m 169), m_n m, m_m m) = _
      rw [up1_id]
      rfl
    rw [this]
    exact h
  | c + 1, m, k, h, hk => by
    have := Inv.tkN c (h.tk hk) hk
    unfold takeI at this ⊢
    rw [takeN_sV, sV_sV] at this
    rw [takeN, show m_V m 169 + nI (c + 1) = m_V (sV (tkP m k) 169 (m_V m 169 + 1)) 169 + nI c by rw [(sV_x _ _ _).2.2.2.2.1, up1_eq, ← nI_1, r_add1]]
    exact this
/-- a lane gets tokens -/
theorem Inv.tok {mi W : Nat} {m : Md} {k t : Nat} {v : Int32} (h : Inv mi W m) (hv : k < m_n m → ∃ b, t ≤ b ∧ b ≤ 99 ∧ m_A m k 91 = nI b) (e : v = nI t) : Inv mi W (sA m k 85 v) := by
  obtain ⟨h0, h1, h2, h3, h4, h5, h6, h7, h8, h9, h10⟩ := h
  have eA : ∀ i g, g ≠ 85 → m_A (sA m k 85 v) i g = m_A m i g := fun i g hg => by rw [sA_A, if_neg (fun q => hg q.2)]
  refine ⟨h0, h1, fun i hi => ?_, fun i hi => ?_, h4, h5, h6, fun i hi => ?_, fun i hi => ?_, ?_, ?_⟩
  · rw [sA_Q, eA i 93 (by decide)]
    exact h2 i hi
  · obtain ⟨⟨t0, b0, a0, a1, a2, a3⟩, a4⟩ := h3 i hi
    rw [eA i 91 (by decide), eA i 83 (by decide), eA i 84 (by decide), eA i 92 (by decide)]
    refine ⟨?_, a4⟩
    rw [sA_A]
    split
    · rename_i c
      have c1 := c.1
      subst c1
      obtain ⟨b, b1, b3, b2⟩ := hv hi
      have hb : nI b = nI b0 := b2.symm.trans a3
      have hb2 := (nI_eq (by omega) (by omega)).mp hb
      exact ⟨t, b0, by omega, a1, e, a3⟩
    · exact ⟨t0, b0, a0, a1, a2, a3⟩
  · rw [sA_Q]
    exact h7 i hi
  · rw [eA i 89 (by decide)]
    exact h8 i hi
  · have : bs (sA m k 85 v) = bs m := by
      funext i
      unfold bs
      rw [sA_Q, eA i 86 (by decide), eA i 87 (by decide)]
    unfold Bal
    rw [this]
    exact h9
  · have e1 : (fun i => m_A (sA m k 85 v) i 95) = fun i => m_A m i 95 := by funext i; exact eA i 95 (by decide)
    have e2 : (fun i => m_A (sA m k 85 v) i 88) = fun i => m_A m i 88 := by funext i; exact eA i 88 (by decide)
    unfold Len
    rw [e1, e2]
    exact h10
