/-! ===== a whole minute of a site ===== -/
/-- a code that the stack bears, from so many numbers on, over n lanes -/
def okL (n : Nat) : List (Nat × Nat) → Nat → Prop
  | [], l => 0 < l
  | c :: t, l => l < 400 ∧ (((c.1 = 35 ∨ c.1 = 20 ∨ c.1 = 21 ∨ (22 ≤ c.1 ∧ c.1 < 29 ∧ c.2 < n)) ∧ okL n t (l + 1)) ∨ (c.1 = 29 ∧ 0 < l ∧ okL n t l) ∨ (isB c.1 ∧ 2 ≤ l ∧ okL n t (l - 1)))
theorem okL_R {m : Md} : ∀ (C : List (Nat × Nat)) (l : List Int32), okL (m_n m) C l.length → okR m C l
  | [], l, h => fun e => by rw [e] at h; exact absurd h (by simp [okL])
  | c :: t, l, h => by
    obtain ⟨h1, h2⟩ := h
    rw [okR]
    rcases h2 with ⟨h2, h3⟩ | ⟨h2, h3, h4⟩ | ⟨h2, h3, h4⟩
    · refine ⟨⟨h1, ?_⟩, okL_R t _ ?_⟩
      · rcases h2 with h2 | h2 | h2 | h2
        · exact Or.inl h2
        · exact Or.inr (Or.inl h2)
        · exact Or.inr (Or.inr (Or.inl h2))
        · exact Or.inr (Or.inr (Or.inr (Or.inl h2)))
      · have : (stepM m c.1 c.2 l).length = l.length + 1 := by
          unfold stepM
          by_cases a1 : c.1 = 35
          · rw [if_pos a1]; rfl
          · rw [if_neg a1]
            by_cases a2 : c.1 = 20
            · rw [if_pos a2]; rfl
            · rw [if_neg a2]
              by_cases a3 : c.1 = 21
              · rw [if_pos a3]; rfl
              · rw [if_neg a3, if_pos (by omega)]; rfl
        rw [this]
        exact h3
    · refine ⟨⟨h1, Or.inr (Or.inr (Or.inr (Or.inr (Or.inl ⟨h2, fun e => by rw [e] at h3; simp at h3⟩))))⟩, okL_R t _ ?_⟩
      have : (stepM m c.1 c.2 l).length = l.length := by
        unfold stepM
        rw [if_neg (by omega), if_neg (by omega), if_neg (by omega), if_neg (by omega), if_pos h2]
        simp
        omega
      rw [this]
      exact h4
    · refine ⟨⟨h1, Or.inr (Or.inr (Or.inr (Or.inr (Or.inr ⟨h2, h3⟩))))⟩, okL_R t _ ?_⟩
      have : (stepM m c.1 c.2 l).length = l.length - 1 := by
        unfold stepM
        unfold isB at h2
        rw [if_neg (by omega), if_neg (by omega), if_neg (by omega), if_neg (by omega), if_neg (by omega)]
        simp
        omega
      rw [this]
      exact h4
/-- an order that can be obeyed over n lanes -/
def okO (n : Nat) (o : Od) : Prop := o.2.1 < n ∧ (o.1 ≠ 18 → okL n o.2.2.1 0) ∧ (o.2.2.2 ≠ [] → okL n o.2.2.2 0)
theorem doneM_x {m : Md} {c : Prop} [Decidable c] : m_n (doneM m c) = m_n m ∧ m_m (doneM m c) = m_m m ∧ m_O (doneM m c) = m_O m ∧ m_F (doneM m c) = m_F m ∧ m_A (doneM m c) = m_A m ∧ m_Q (doneM m c) = m_Q m ∧ ∀ f, f ≠ 170 → m_V (doneM m c) f = m_V m f := by
  unfold doneM
  split
  · exact ⟨rfl, rfl, rfl, rfl, rfl, rfl, fun f hf => up1_ne hf⟩
  · exact ⟨rfl, rfl, rfl, rfl, rfl, rfl, fun f hf => rfl⟩
theorem sA_x {m : Md} {k f : Nat} {v : Int32} : m_n (sA m k f v) = m_n m ∧ m_m (sA m k f v) = m_m m ∧ m_O (sA m k f v) = m_O m ∧ m_F (sA m k f v) = m_F m ∧ m_V (sA m k f v) = m_V m ∧ m_Q (sA m k f v) = m_Q m ∧ (∀ j g, g ≠ f → m_A (sA m k f v) j g = m_A m j g) := by
  refine ⟨rfl, rfl, rfl, rfl, rfl, ?_, fun j g hg => ?_⟩
  · funext j
    simp only [sA, sL_x, up1]
    split
    · rename_i h; rw [h]
    · rfl
  · simp only [sA, sL_x]
    by_cases c : j = k
    · subst c
      rw [up1_eq, up1_ne hg]
    · rw [up1_ne c]
theorem obeyM_x {m : Md} {kd ln : Nat} {S T : List (Nat × Nat)} : m_n (obeyM m kd ln S T) = m_n m ∧ m_m (obeyM m kd ln S T) = m_m m ∧ m_O (obeyM m kd ln S T) = m_O m ∧ m_F (obeyM m kd ln S T) = m_F m ∧ m_Q (obeyM m kd ln S T) = m_Q m ∧ (∀ f, f ≠ 170 → m_V (obeyM m kd ln S T) f = m_V m f) ∧ ∀ j g, g ≠ 83 → g ≠ 84 → g ≠ 90 → m_A (obeyM m kd ln S T) j g = m_A m j g := by
  unfold obeyM
  split
  · exact ⟨rfl, rfl, rfl, rfl, rfl, fun _ _ => rfl, fun _ _ _ _ _ => rfl⟩
  · split
    · obtain ⟨h1, h2, h3, h4, h5, h6, h7⟩ := doneM_x (m := sA m ln 90 1) (c := m_A m ln 90 = 0)
      obtain ⟨k1, k2, k3, k4, k5, k6, k7⟩ := sA_x (m := m) (k := ln) (f := 90) (v := 1)
      exact ⟨h1.trans k1, h2.trans k2, h3.trans k3, h4.trans k4, h6.trans k6, fun f hf => (h7 f hf).trans (by rw [k5]), fun j g g1 g2 g3 => by rw [h5]; exact k7 j g g3⟩
    · split
      · obtain ⟨h1, h2, h3, h4, h5, h6, h7⟩ := doneM_x (m := sA m ln 83 (clp (valM m S))) (c := m_A m ln 83 ≠ clp (valM m S))
        obtain ⟨k1, k2, k3, k4, k5, k6, k7⟩ := sA_x (m := m) (k := ln) (f := 83) (v := clp (valM m S))
        exact ⟨h1.trans k1, h2.trans k2, h3.trans k3, h4.trans k4, h6.trans k6, fun f hf => (h7 f hf).trans (by rw [k5]), fun j g g1 g2 g3 => by rw [h5]; exact k7 j g g1⟩
      · obtain ⟨h1, h2, h3, h4, h5, h6, h7⟩ := doneM_x (m := sA m ln 84 (clp (valM m S))) (c := m_A m ln 84 ≠ clp (valM m S))
        obtain ⟨k1, k2, k3, k4, k5, k6, k7⟩ := sA_x (m := m) (k := ln) (f := 84) (v := clp (valM m S))
        exact ⟨h1.trans k1, h2.trans k2, h3.trans k3, h4.trans k4, h6.trans k6, fun f hf => (h7 f hf).trans (by rw [k5]), fun j g g1 g2 g3 => by rw [h5]; exact k7 j g g2⟩
theorem WfQ.ob {m : Md} {kd ln : Nat} {S T : List (Nat × Nat)} (h : WfQ m) : WfQ (obeyM m kd ln S T) := by
  obtain ⟨h1, h2, h3, h4, h5, h6, h7⟩ := obeyM_x (m := m) (kd := kd) (ln := ln) (S := S) (T := T)
  intro k hk
  rw [h1] at hk
  rw [h5, h7 k 93 (by decide) (by decide) (by decide)]
  exact h k hk
theorem FkW.ob {m : Md} {kd ln : Nat} {S T : List (Nat × Nat)} (h : FkW m) : FkW (obeyM m kd ln S T) := by
  obtain ⟨h1, h2, h3, h4, h5, h6, h7⟩ := obeyM_x (m := m) (kd := kd) (ln := ln) (S := S) (T := T)
  intro k hk
  rw [h2] at hk
  rw [h4, h1]
  exact h k hk
theorem folkN_x : ∀ (r j : Nat) (m : Md), m_n (folkN r j m) = m_n m ∧ m_m (folkN r j m) = m_m m ∧ m_O (folkN r j m) = m_O m ∧ m_V (folkN r j m) 161 = m_V m 161 ∧ m_V (folkN r j m) 162 = m_V m 162
  | 0, j, m => ⟨rfl, rfl, rfl, rfl, rfl⟩
  | r + 1, j, m => by
    obtain ⟨h1, h2, h3, h4, h5⟩ := folkN_x r (j + 1) (folkS m j)
    obtain ⟨k1, k2, k3, k4, k5, -⟩ := folkS_x m j
    exact ⟨h1.trans k1, h2.trans k2, h3.trans k3, h4.trans k4, h5.trans k5⟩
/-- what a minute needs of a picture -/
def WfM (m : Md) : Prop := WfQ m ∧ FkW m ∧ ∃ w, w ≤ 30 ∧ m_V m 162 = nI w
section GP
variable {N : Nat} {z : Nat → Nat} {s B : Nat}
theorem go_l {C : List (Nat × Nat)} {os : List (Nat → Nat)} (hd : B + 24 ≤ s ∨ s + 31 ≤ B) (hN : 401 ≤ N) : ∀ (ods : List Od) (n i : Nat) (x : Hp) (m : Md), Site x s B m → Bk x B C os → WfM m → i + ods.length = os.length → (∀ j, j < ods.length → ∀ o, ods[j]? = some o → OdR C (os.getD (i + j) (fun _ => 0)) o.1 o.2.1 o.2.2.1 o.2.2.2 ∧ okO (m_n m) o) → ods.length < n → ∃ y, f_X6_goOneMinute_b2 N z n s (nI i) x = some (nI (passM ods m).2, y) ∧ Site y s B (passM ods m).1 ∧ Fr x y s (s + 31)
  | ods, 0, i, x, m, h, hb, hw, hi, ho, hn => absurd hn (by omega)
  | [], n + 1, i, x, m, h, hb, hw, hi, ho, hn => by
    obtain ⟨h1, h2, h3, h4, h5, h6, h7, h8, h9, h10, h11, h12, h13, h14, h15, h16, h17⟩ := id hb
    obtain ⟨w1, w2, w, w3, w4⟩ := hw
    have hm := h.2.2.1
    have hn6 := h.2.1
    obtain ⟨y, e1, e2, e3, e4, e5⟩ := folk_l (N := N) (z := z) (by omega) N (m_m m) 0 x m h w1 w2 (by omega) (by omega)
    obtain ⟨x1, x2, x3, x4, x5⟩ := folkN_x (m_m m) 0 m
    obtain ⟨u, d1, d2, d3⟩ := later_l (N := N) (z := z) (by omega) w3 N (m_n m) 0 y _ e2 (x5.trans w4) (by rw [x1]; omega) (by omega)
    unfold f_X6_goOneMinute_b2
    rw [getr_s h.k, h.1.2.1, geti_s h1, h14, if_pos (nI_le (by simp at hi; omega) (by omega)), obj_s h.k]
    unfold f_X6_letFolkCome
    rw [show (0 : Int32) = nI 0 from rfl, e1, bnd_s, d1]
    have ep : passM [] m = laterN (m_n m) 0 (folkN (m_m m) 0 m) := by
      unfold passM laterM laterN
      rw [obeyN, x1]
    rw [ep]
    exact ⟨u, rfl, d2, e5.tr d3⟩
  | o :: t, n + 1, i, x, m, h, hb, hw, hi, ho, hn => by
    obtain ⟨h1, h2, h3, h4, h5, h6, h7, h8, h9, h10, h11, h12, h13, h14, h15, h16, h17⟩ := id hb
    simp only [List.length_cons] at hi hn
    obtain ⟨o1, o2, o3, o4⟩ := ho 0 (by simp) o rfl
    rw [Nat.add_zero] at o1
    obtain ⟨y, e1, e2, e3⟩ := obey_s (N := N) (z := z) hd h hb (by omega) o1 o2 (fun q => okL_R _ _ (o3 q)) (fun q => okL_R _ _ (o4 q)) hN
    obtain ⟨x1, x2, x3, x4, x5, x6, x7⟩ := obeyM_x (m := m) (kd := o.1) (ln := o.2.1) (S := o.2.2.1) (T := o.2.2.2)
    obtain ⟨w1, w2, w, w3, w4⟩ := hw
    unfold f_X6_goOneMinute_b2
    rw [getr_s h.k, h.1.2.1, geti_s h1, h14, if_neg (nI_ge (by omega) (by omega)), getr_s h.k, h.1.2.1, obj_s h1, order_at hb (by omega), bnd_s, if_neg (by simp), obj_s h.k, e1, bnd_s]
    unfold f_X6_goOneMinute_b31
    rw [nI_1]
    obtain ⟨u, d1, d2, d3⟩ := go_l hd hN t n (i + 1) y _ e2 (hb.fr e3 (by omega)) ⟨w1.ob, w2.ob, w, w3, (x6 162 (by decide)).trans w4⟩ (by omega) (fun j hj o' ho' => by
      have := ho (j + 1) (by simp; omega) o' (by simpa using ho')
      rw [x1, show i + 1 + j = i + (j + 1) by omega]
      exact this) (by omega)
    have ep : passM (o :: t) m = passM t (obeyM m o.1 o.2.1 o.2.2.1 o.2.2.2) := by
      unfold passM
      rw [obeyN, x2]
    rw [ep]
    exact ⟨u, d1, d2, e3.tr d3⟩
/-- the book holds these orders -/
def BkO (x : Hp) (B n : Nat) (ods : List Od) : Prop := ∃ C os, Bk x B C os ∧ os.length = ods.length ∧ ∀ j, j < ods.length → ∀ o, ods[j]? = some o → OdR C (os.getD j (fun _ => 0)) o.1 o.2.1 o.2.2.1 o.2.2.2 ∧ okO n o
theorem go_minute {x : Hp} {m : Md} {ods : List Od} (hd : B + 24 ≤ s ∨ s + 31 ≤ B) (hN : 401 ≤ N) (h : Site x s B m) (hb : BkO x B (m_n m) ods) (hw : WfM m) : ∃ y, f_X6_goOneMinute N z s x = some (nI (passM ods m).2, y) ∧ Site y s B (passM ods m).1 ∧ Fr x y s (s + 31) := by
  obtain ⟨C, os, b1, b2, b3⟩ := hb
  have := b1.2.2.2.2.2.2.2.2.2.2.2.2.2.2.1
  unfold f_X6_goOneMinute
  exact go_l hd hN ods N 0 x m h b1 hw (by omega) (fun j hj o ho => by rw [Nat.zero_add]; exact b3 j hj o ho) (by omega)
end GP
