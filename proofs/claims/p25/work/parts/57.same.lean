/-! ===== in the end all is as by hand ===== -/
/-- the first of the eldest, from the last lane down -/
def dnP (m : Md) (r : Nat) : Option Nat → Nat
  | none => r
  | some j => if (m_Q m j).getD 0 0 < (m_Q m r).getD 0 0 then j else r
def dnN (m : Md) : Nat → Option Nat → Option Nat
  | 0, f => f
  | r + 1, f => if (m_Q m r).length = 0 then dnN m r f else dnN m r (some (dnP m r f))
def fI (f : Option Nat) : Int32 := match f with
  | none => -1
  | some j => nI j
def hd0 (m : Md) (k : Nat) : Int32 := (m_Q m k).getD 0 0
def ne0 (m : Md) (k : Nat) : Prop := (m_Q m k).length ≠ 0
theorem eldN_b {m : Md} (h6 : m_n m ≤ 6) : ∀ (r k : Nat) (f : Option Nat) (e : Int32), k + r = m_n m → (∀ j, f = some j → j < k ∧ ne0 m j ∧ e = hd0 m j ∧ ∀ i, i < k → ne0 m i → hd0 m j ≤ hd0 m i ∧ (i < j → hd0 m j < hd0 m i)) → (f = none → ∀ i, i < k → ¬ ne0 m i) → ∃ g, eldN m r k (fI f) e = fI g ∧ (∀ j, g = some j → j < m_n m ∧ ne0 m j ∧ ∀ i, i < m_n m → ne0 m i → hd0 m j ≤ hd0 m i ∧ (i < j → hd0 m j < hd0 m i)) ∧ (g = none → ∀ i, i < m_n m → ¬ ne0 m i)
  | 0, k, f, e, hk, h1, h2 => ⟨f, rfl, fun j hj => by
      obtain ⟨a1, a2, a3, a4⟩ := h1 j hj
      exact ⟨by omega, a2, fun i hi => a4 i (by omega)⟩, fun hf i hi => h2 hf i (by omega)⟩
  | r + 1, k, f, e, hk, h1, h2 => by
    rw [eldN]
    by_cases c : (m_Q m k).length = 0
    · rw [if_pos c]
      exact eldN_b h6 r (k + 1) f e (by omega) (fun j hj => by
        obtain ⟨a1, a2, a3, a4⟩ := h1 j hj
        refine ⟨by omega, a2, a3, fun i hi ni => ?_⟩
        by_cases d : i = k
        · rw [d] at ni; exact absurd c ni
        · exact a4 i (by omega) ni) (fun hf i hi => by
        by_cases d : i = k
        · rw [d]; exact fun q => q c
        · exact h2 hf i (by omega))
    · rw [if_neg c]
      match f, h1, h2 with
      | none, h1, h2 =>
        rw [if_pos (Or.inl (show fI none = -1 from rfl))]
        exact eldN_b h6 r (k + 1) (some k) (hd0 m k) (by omega) (fun j hj => by
          injection hj with e
          subst e
          refine ⟨by omega, c, rfl, fun i hi ni => ?_⟩
          by_cases d : i = k
          · rw [d]; exact ⟨Int32.le_refl _, fun q => absurd q (by omega)⟩
          · exact absurd ni (h2 rfl i (by omega))) (fun hf => by simp at hf)
      | some j, h1, h2 =>
        obtain ⟨a1, a2, a3, a4⟩ := h1 j rfl
        have hne : ¬ fI (some j) = -1 := fun q => m1_lt (k := j) (by omega) q.symm
        by_cases d : (m_Q m k).getD 0 0 < e
        · rw [if_pos (Or.inr d)]
          rw [a3] at d
          exact eldN_b h6 r (k + 1) (some k) (hd0 m k) (by omega) (fun j' hj => by
            injection hj with e'
            subst e'
            refine ⟨by omega, c, rfl, fun i hi ni => ?_⟩
            by_cases g : i = k
            · rw [g]; exact ⟨Int32.le_refl _, fun q => absurd q (by omega)⟩
            · have := (a4 i (by omega) ni).1
              have d' : hd0 m k < hd0 m j := d
              exact ⟨Int32.le_of_lt (Int32.lt_of_lt_of_le d' this), fun _ => Int32.lt_of_lt_of_le d' this⟩) (fun hf => by simp at hf)
        · rw [if_neg (fun q => q.elim hne d)]
          rw [a3] at d
          exact eldN_b h6 r (k + 1) (some j) e (by omega) (fun j' hj => by
            injection hj with e'
            subst e'
            refine ⟨by omega, a2, a3, fun i hi ni => ?_⟩
            by_cases g : i = k
            · rw [g]; exact ⟨Int32.not_lt.mp d, fun q => absurd q (by omega)⟩
            · exact a4 i (by omega) ni) (fun hf => by simp at hf)
theorem dnN_b {m : Md} (h6 : m_n m ≤ 6) : ∀ (r : Nat) (f : Option Nat), r ≤ m_n m → (∀ j, f = some j → r ≤ j ∧ j < m_n m ∧ ne0 m j ∧ ∀ i, r ≤ i → i < m_n m → ne0 m i → hd0 m j ≤ hd0 m i ∧ (i < j → hd0 m j < hd0 m i)) → (f = none → ∀ i, r ≤ i → i < m_n m → ¬ ne0 m i) → (∀ j, dnN m r f = some j → j < m_n m ∧ ne0 m j ∧ ∀ i, i < m_n m → ne0 m i → hd0 m j ≤ hd0 m i ∧ (i < j → hd0 m j < hd0 m i)) ∧ (dnN m r f = none → ∀ i, i < m_n m → ¬ ne0 m i)
  | 0, f, hr, h1, h2 => ⟨fun j hj => by
      obtain ⟨a1, a2, a3, a4⟩ := h1 j hj
      exact ⟨a2, a3, fun i hi => a4 i (by omega) hi⟩, fun hf i hi => h2 hf i (by omega) hi⟩
  | r + 1, f, hr, h1, h2 => by
    rw [dnN]
    by_cases c : (m_Q m r).length = 0
    · rw [if_pos c]
      exact dnN_b h6 r f (by omega) (fun j hj => by
        obtain ⟨a1, a2, a3, a4⟩ := h1 j hj
        refine ⟨by omega, a2, a3, fun i i1 i2 ni => ?_⟩
        by_cases d : i = r
        · rw [d] at ni; exact absurd c ni
        · exact a4 i (by omega) i2 ni) (fun hf i i1 i2 => by
        by_cases d : i = r
        · rw [d]; exact fun q => q c
        · exact h2 hf i (by omega) i2)
    · rw [if_neg c]
      match f, h1, h2 with
      | none, h1, h2 =>
        exact dnN_b h6 r (some r) (by omega) (fun j hj => by
          injection hj with e
          subst e
          refine ⟨by omega, by omega, c, fun i i1 i2 ni => ?_⟩
          by_cases d : i = r
          · rw [d]; exact ⟨Int32.le_refl _, fun q => absurd q (by omega)⟩
          · exact absurd ni (h2 rfl i (by omega) i2)) (fun hf => by simp at hf)
      | some j, h1, h2 =>
        obtain ⟨a1, a2, a3, a4⟩ := h1 j rfl
        rw [dnP]
        by_cases d : (m_Q m j).getD 0 0 < (m_Q m r).getD 0 0
        · rw [if_pos d]
          exact dnN_b h6 r (some j) (by omega) (fun j' hj => by
            injection hj with e'
            subst e'
            refine ⟨by omega, a2, a3, fun i i1 i2 ni => ?_⟩
            by_cases g : i = r
            · rw [g]; exact ⟨Int32.le_of_lt d, fun _ => d⟩
            · exact a4 i (by omega) i2 ni) (fun hf => by simp at hf)
        · rw [if_neg d]
          exact dnN_b h6 r (some r) (by omega) (fun j' hj => by
            injection hj with e'
            subst e'
            refine ⟨by omega, by omega, c, fun i i1 i2 ni => ?_⟩
            by_cases g : i = r
            · rw [g]; exact ⟨Int32.le_refl _, fun q => absurd q (by omega)⟩
            · have h3 := (a4 i (by omega) i2 ni).1
              exact ⟨Int32.le_trans (Int32.not_lt.mp d) h3, fun q => absurd q (by omega)⟩) (fun hf => by simp at hf)
theorem eld_dn {m : Md} (h6 : m_n m ≤ 6) : eldN m (m_n m) 0 (-1) 0 = fI (dnN m (m_n m) none) := by
  obtain ⟨g, g1, g2, g3⟩ := eldN_b (m := m) h6 (m_n m) 0 none 0 (by omega) (fun j hj => by simp at hj) (fun _ i hi => absurd hi (by omega))
  obtain ⟨d2, d3⟩ := dnN_b (m := m) h6 (m_n m) none (Nat.le_refl _) (fun j hj => by simp at hj) (fun _ i i1 i2 => absurd i2 (by omega))
  have e : g = dnN m (m_n m) none := by
    match hg : g, hd : dnN m (m_n m) none with
    | none, none => rfl
    | none, some j =>
      obtain ⟨a1, a2, a3⟩ := d2 j hd
      exact absurd a2 (g3 rfl j a1)
    | some j, none =>
      obtain ⟨a1, a2, a3⟩ := g2 j rfl
      exact absurd a2 (d3 hd j a1)
    | some j, some j' =>
      obtain ⟨a1, a2, a3⟩ := g2 j rfl
      obtain ⟨b1, b2, b3⟩ := d2 j' hd
      have x1 := a3 j' b1 b2
      have x2 := b3 j a1 a2
      by_cases c : j = j'
      · rw [c]
      · by_cases c2 : j < j'
        · exact absurd (x2.2 c2) (Int32.not_lt.mpr x1.1)
        · exact absurd (x1.2 (by omega)) (Int32.not_lt.mpr x2.1)
  rw [← e]
  exact g1
theorem sumG_last (f : Nat → Int32) : ∀ (r k : Nat) (v : Int32), sumG f (r + 1) k v = sumG f r k v + f (k + r)
  | 0, k, v => rfl
  | r + 1, k, v => by
    rw [sumG, sumG_last f r (k + 1) (v + f k), sumG, show k + 1 + r = k + (r + 1) by omega]
def dsum (f : Nat → Int32) : Nat → Int32 → Int32
  | 0, v => v
  | r + 1, v => dsum f r (v + f r)
theorem dsum_s (f : Nat → Int32) : ∀ (r : Nat) (v : Int32), dsum f r v = sumG f r 0 v
  | 0, v => rfl
  | r + 1, v => by rw [dsum, dsum_s f r, sumG_acc, sumG_last, Nat.zero_add]
section IS
variable {N : Nat} {z : Nat → Nat} {b L : Nat} {xs : Nat → Int32} {Y o : Nat} {os : List (Nat → Nat)}
theorem same_436 {x : Hp} {v : UInt64} (h : FP.dcmp v v = some .eq) : f_X12_isSame_b436 N z v v x = some (1, x) := by
  unfold f_X12_isSame_b436
  rw [h]
  rfl
/-- the end: the eldest, the mean -/
theorem same_end {x : Hp} {m : Md} (h : Wd b L xs Y o os x m) (hN : 401 ≤ N) : ∃ y, (obj (some Y) x 13 fun q61 => bnd (f_X10_eldest N z q61 x) fun i60 x59 => if i60 = fI (dnN m (m_n m) none) then (obj (some Y) x59 13 fun q64 => bnd (f_X10_mean N z q64 x59) fun i63 x62 => obj (some o) x62 15 fun q67 => bnd (f_X12_counted N z q67 (7 : Int32) x62) fun i66 x65 => if i66 = 0 then (f_X12_isSame_b436 N z FP.dconst0 i63 x65) else (obj (some o) x65 15 fun q70 => bnd (f_X12_counted N z q70 (7 : Int32) x65) fun i69 x68 => nnan (FP.ddiv (FP.i2d (dsum (fun k => m_A m k 89) (m_n m) 0)) (FP.i2d i69)) <| f_X12_isSame_b436 N z (FP.ddiv (FP.i2d (dsum (fun k => m_A m k 89) (m_n m) 0)) (FP.i2d i69)) i63 x68)) else (some ((0 : Int32), x59))) = some (1, y) ∧ h_sz y ≤ h_sz x + 2 ∧ h_sl y ≤ h_sl x + 26 := by
  have hb := h.2.1
  have hS := h.2.2.1
  have h6 := hS.2.1
  have hR := h.2.2.2.2.2.1
  have w9 := h.2.2.2.2.2.2.2.2.1
  obtain ⟨y, a1, a2, a3, a4⟩ := counted_s (N := N) (z := z) (w := 7) (by decide) hR w9 (by omega)
  have q7 : cntM m os.length 7 = s86 m := s86_7 m os.length
  rw [q7] at a1
  have a1' : f_X12_counted N z o 7 x = some (s86 m, y) := a1
  have hy := h.nw a2 (by omega)
  obtain ⟨u, b1, b2, b3, b4⟩ := counted_s (N := N) (z := z) (w := 7) (by decide) hy.2.2.2.2.2.1 hy.2.2.2.2.2.2.2.2.1 (by omega)
  rw [q7] at b1
  have b1' : f_X12_counted N z o 7 y = some (s86 m, u) := b1
  rw [obj_s hb.1, c_eldest hb hS (by omega), bnd_s, if_pos (eld_dn h6), obj_s hb.1, c_mean hb hS (by omega), bnd_s, obj_s hR.k, a1', bnd_s]
  by_cases c : s86 m = 0
  · rw [if_pos c]
    have e : meanM m = FP.dconst0 := if_pos c
    rw [e]
    exact ⟨y, same_436 zero_same, by omega, by omega⟩
  · have e : meanM m = FP.ddiv (FP.i2d (dsum (fun k => m_A m k 89) (m_n m) 0)) (FP.i2d (s86 m)) := by
      rw [dsum_s]
      exact if_neg c
    rw [if_neg c, obj_s hy.2.2.2.2.2.1.k, b1', bnd_s, nnan, if_pos (mean_num _ _ c), e]
    exact ⟨u, same_436 (mean_same _ _ c), by omega, by omega⟩
theorem folkI_rd {x : Hp} {m : Md} {lim : Nat → Nat} (h : SimR x o m os lim) {j w : Nat} (hj : j < m_m m) (hw : w < 5) {β : Type} (K : Int32 → Option β) : aldi (some (o + 6 + 2 * m_n m + j)) x 101 (nI w) K = K (folkI m j w) := by
  have c : w = 0 ∨ w = 1 ∨ w = 2 ∨ w = 3 ∨ w = 4 := by omega
  rcases c with c | c | c | c | c <;> subst c
  · exact h.rf (f := 60) hj rfl (by decide)
  · exact h.rf (f := 61) hj rfl (by decide)
  · exact h.rf (f := 63) hj rfl (by decide)
  · exact h.rf (f := 64) hj rfl (by decide)
  · exact h.rf (f := 62) hj rfl (by decide)
theorem same_360 {x : Hp} {m : Md} {j : Nat} {K : Nat → Option Nat → Int32 → Int32 → Int32 → Hp → Option (Int32 × Hp)} {v2 v3 : Int32} (h : Wd b L xs Y o os x m) (hj : j < m_m m) : ∀ (n r w : Nat), w + r = 5 → r < n → f_X12_isSame_b360 N z K n o (some Y) v2 v3 (nI j) (nI w) x = K o (some Y) v2 v3 (nI (j + 1)) x
  | 0, r, w, hw, hr => absurd hr (by omega)
  | n + 1, 0, w, hw, hr => by
    rw [f_X12_isSame_b360, show (5 : Int32) = nI 5 from rfl, if_pos (nI_le (by omega) (by omega)), nI_1]
  | n + 1, r + 1, w, hw, hr => by
    have hb := h.2.1
    have hS := h.2.2.1
    have hR := h.2.2.2.2.2.1
    rw [f_X12_isSame_b360, show (5 : Int32) = nI 5 from rfl, if_neg (nI_ge (by omega) (by omega)), obj_s hb.1, c_folk hb hS hj (by omega), bnd_s, getr_s hR.k, hR.1.2.2.1, hR.fa hj, folkI_rd hR hj (by omega), if_pos rfl, nI_1]
    exact same_360 h hj n r (w + 1) (by omega) (by omega)
theorem same_347 {x : Hp} {m : Md} (h : Wd b L xs Y o os x m) (hN : 401 ≤ N) : ∀ (n r j : Nat), j + r = m_m m → r < n → ∃ y, f_X12_isSame_b347 N z n o (some Y) (dsum (fun k => m_A m k 89) (m_n m) 0) (fI (dnN m (m_n m) none)) (nI j) x = some (1, y) ∧ h_sz y ≤ h_sz x + 2 ∧ h_sl y ≤ h_sl x + 26
  | 0, r, j, hj, hr => absurd hr (by omega)
  | n + 1, 0, j, hj, hr => by
    have hR := h.2.2.2.2.2.1
    have m8 := hR.m8
    obtain ⟨a1, a2, a3, a4, a5, a6, a7, a8, a9, a10, -⟩ := hR.1
    obtain ⟨y, e1, e2, e3⟩ := same_end (z := z) h hN
    refine ⟨y, ?_, e2, e3⟩
    rw [f_X12_isSame_b347, getr_s hR.k, a3, alen_s a9, a10, if_pos (nI_le (by omega) (by omega))]
    exact e1
  | n + 1, r + 1, j, hj, hr => by
    have hR := h.2.2.2.2.2.1
    have m8 := hR.m8
    obtain ⟨a1, a2, a3, a4, a5, a6, a7, a8, a9, a10, -⟩ := hR.1
    obtain ⟨y, e1, e2, e3⟩ := same_347 h hN n r (j + 1) (by omega) (by omega)
    refine ⟨y, ?_, e2, e3⟩
    rw [f_X12_isSame_b347, getr_s hR.k, a3, alen_s a9, a10, if_neg (nI_ge (by omega) (by omega)), show (0 : Int32) = nI 0 from rfl, same_360 (N := N) (z := z) h (j := j) (by omega) N 5 0 (by omega) (by omega)]
    exact e1
end IS
