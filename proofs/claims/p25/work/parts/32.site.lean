/-! ===== a site of the class and its picture: lanes A, Q, O; folk F; numbers V; how many lanes and folk ===== -/
abbrev Md : Type := (Nat → Nat → Int32) × (Nat → List Int32) × (Nat → Option Nat) × (Nat → Nat → Int32) × (Nat → Int32) × Nat × Nat
def m_A (m : Md) : Nat → Nat → Int32 := m.1
def m_Q (m : Md) : Nat → List Int32 := m.2.1
def m_O (m : Md) : Nat → Option Nat := m.2.2.1
def m_F (m : Md) : Nat → Nat → Int32 := m.2.2.2.1
def m_V (m : Md) : Nat → Int32 := m.2.2.2.2.1
def m_n (m : Md) : Nat := m.2.2.2.2.2.1
def m_m (m : Md) : Nat := m.2.2.2.2.2.2
def sL (m : Md) (k : Nat) (A : Nat → Int32) (Q : List Int32) : Md := (up1 (m_A m) k A, up1 (m_Q m) k Q, m_O m, m_F m, m_V m, m_n m, m_m m)
def sA (m : Md) (k f : Nat) (v : Int32) : Md := sL m k (up1 (m_A m k) f v) (m_Q m k)
def sV (m : Md) (f : Nat) (v : Int32) : Md := (m_A m, m_Q m, m_O m, m_F m, up1 (m_V m) f v, m_n m, m_m m)
def sF (m : Md) (j f : Nat) (v : Int32) : Md := (m_A m, m_Q m, m_O m, up1 (m_F m) j (up1 (m_F m j) f v), m_V m, m_n m, m_m m)
theorem sL_x (m : Md) (k : Nat) (A : Nat → Int32) (Q : List Int32) : m_A (sL m k A Q) = up1 (m_A m) k A ∧ m_Q (sL m k A Q) = up1 (m_Q m) k Q ∧ m_O (sL m k A Q) = m_O m ∧ m_F (sL m k A Q) = m_F m ∧ m_V (sL m k A Q) = m_V m ∧ m_n (sL m k A Q) = m_n m ∧ m_m (sL m k A Q) = m_m m := ⟨rfl, rfl, rfl, rfl, rfl, rfl, rfl⟩
theorem sV_x (m : Md) (f : Nat) (v : Int32) : m_A (sV m f v) = m_A m ∧ m_Q (sV m f v) = m_Q m ∧ m_O (sV m f v) = m_O m ∧ m_F (sV m f v) = m_F m ∧ m_V (sV m f v) = up1 (m_V m) f v ∧ m_n (sV m f v) = m_n m ∧ m_m (sV m f v) = m_m m := ⟨rfl, rfl, rfl, rfl, rfl, rfl, rfl⟩
theorem sF_x (m : Md) (j f : Nat) (v : Int32) : m_A (sF m j f v) = m_A m ∧ m_Q (sF m j f v) = m_Q m ∧ m_O (sF m j f v) = m_O m ∧ m_F (sF m j f v) = up1 (m_F m) j (up1 (m_F m j) f v) ∧ m_V (sF m j f v) = m_V m ∧ m_n (sF m j f v) = m_n m ∧ m_m (sF m j f v) = m_m m := ⟨rfl, rfl, rfl, rfl, rfl, rfl, rfl⟩
theorem up1_eq {α : Type} {A : Nat → α} {f : Nat} {v : α} : up1 A f v f = v := if_pos rfl
theorem up1_ne {α : Type} {A : Nat → α} {f g : Nat} {v : α} (h : g ≠ f) : up1 A f v g = A g := if_neg h
def SiteS (x : Hp) (s B : Nat) : Prop := h_k x s = 9 ∧ h_r x 160 s = some B ∧ h_r x 165 s = some (s + 1) ∧ h_r x 166 s = some (s + 2) ∧ h_r x 167 s = some (s + 3) ∧ h_k x (s + 1) = 104 ∧ h_n x (s + 1) = 6 ∧ (∀ k, k < 6 → h_ar x (s + 1) k = some (s + 5 + 3 * k)) ∧ h_k x (s + 2) = 103 ∧ h_n x (s + 2) = 8 ∧ (∀ j, j < 8 → h_ar x (s + 2) j = some (s + 23 + j)) ∧ h_k x (s + 3) = 10 ∧ h_r x 180 (s + 3) = some (s + 4) ∧ h_k x (s + 4) = 101 ∧ h_n x (s + 4) = 400 ∧ (∀ k, k < 6 → LaneS x (s + 5 + 3 * k) ∧ h_i x 80 (s + 5 + 3 * k) = nI k) ∧ (∀ j, j < 8 → h_k x (s + 23 + j) = 4)
def la (s : Nat) (o : Option Nat) : Option Nat := o.map fun k => s + 5 + 3 * k
def Site (x : Hp) (s B : Nat) (m : Md) : Prop := SiteS x s B ∧ m_n m ≤ 6 ∧ m_m m ≤ 8 ∧ m_V m 163 = nI (m_n m) ∧ m_V m 164 = nI (m_m m) ∧ (∀ f, (161 ≤ f ∧ f < 165) ∨ (168 ≤ f ∧ f < 171) → h_i x f s = m_V m f) ∧ (∀ k, k < m_n m → LaneR x (s + 5 + 3 * k) (m_A m k) (m_Q m k) (la s (m_O m k))) ∧ (∀ k, k < m_n m → ∀ j, m_O m k = some j → j < k) ∧ ∀ j, j < m_m m → ∀ f, 60 ≤ f → f < 65 → h_i x f (s + 23 + j) = m_F m j f
theorem SiteS.fr {x y : Hp} {s B lo hi : Nat} (h : SiteS x s B) (g : Fr x y lo hi) (hd : s + 31 ≤ lo ∨ hi ≤ s) : SiteS y s B := by
  obtain ⟨h1, h2, h3, h4, h5, h6, h7, h8, h9, h10, h11, h12, h13, h14, h15, h16, h17⟩ := h
  exact ⟨g.k.trans h1, (g.r (by omega)).trans h2, (g.r (by omega)).trans h3, (g.r (by omega)).trans h4, (g.r (by omega)).trans h5, g.k.trans h6, g.n.trans h7, fun k hk => by rw [g.ar (by omega)]; exact h8 k hk, g.k.trans h9, g.n.trans h10, fun k hk => by rw [g.ar (by omega)]; exact h11 k hk, g.k.trans h12, (g.r (by omega)).trans h13, g.k.trans h14, g.n.trans h15, fun k hk => ⟨(h16 k hk).1.fr g (by omega), (g.i (by omega)).trans (h16 k hk).2⟩, fun j hj => g.k.trans (h17 j hj)⟩
theorem Site.fr {x y : Hp} {s B lo hi : Nat} {m : Md} (h : Site x s B m) (g : Fr x y lo hi) (hd : s + 31 ≤ lo ∨ hi ≤ s) : Site y s B m := by
  obtain ⟨h1, h2, h3, h4, h5, h6, h7, h8, h9⟩ := h
  exact ⟨h1.fr g hd, h2, h3, h4, h5, fun f f1 => (g.i (by omega)).trans (h6 f f1), fun k hk => (h7 k hk).fr g (by omega), h8, fun j hj f f1 f2 => (g.i (by omega)).trans (h9 j hj f f1 f2)⟩
/-- a change of one lane -/
theorem Site.up {x y : Hp} {s B k : Nat} {m : Md} {A : Nat → Int32} {Q : List Int32} (h : Site x s B m) (hk : k < m_n m) (g : Fr x y (s + 5 + 3 * k) (s + 5 + 3 * k + 3)) (hl : LaneR y (s + 5 + 3 * k) A Q (la s (m_O m k))) (h80 : A 80 = nI k) : Site y s B (sL m k A Q) := by
  obtain ⟨⟨h1, h2, h3, h4, h5, h6, h7, h8, h9, h10, h11, h12, h13, h14, h15, h16, h17⟩, i2, i3, i4, i5, i6, i7, i8, i9⟩ := h
  refine ⟨⟨g.k.trans h1, (g.r (by omega)).trans h2, (g.r (by omega)).trans h3, (g.r (by omega)).trans h4, (g.r (by omega)).trans h5, g.k.trans h6, g.n.trans h7, fun k hk => by rw [g.ar (by omega)]; exact h8 k hk, g.k.trans h9, g.n.trans h10, fun k hk => by rw [g.ar (by omega)]; exact h11 k hk, g.k.trans h12, (g.r (by omega)).trans h13, g.k.trans h14, g.n.trans h15, fun j hj => ?_, fun j hj => g.k.trans (h17 j hj)⟩, i2, i3, i4, i5, fun f f1 => (g.i (by omega)).trans (i6 f f1), fun j hj => ?_, i8, fun j hj f f1 f2 => (g.i (by omega)).trans (i9 j hj f f1 f2)⟩
  · by_cases c : j = k
    · subst c
      exact ⟨hl.s, (hl.a (by decide)).trans h80⟩
    · exact ⟨(h16 j hj).1.fr g (by omega), (g.i (by omega)).trans (h16 j hj).2⟩
  · by_cases c : j = k
    · subst c
      simp only [sL_x, up1_eq]
      exact hl
    · simp only [sL_x, up1_ne c]
      exact (i7 j hj).fr g (by omega)
/-- a write of a number of a lane -/
theorem Site.wr {x : Hp} {s B k f : Nat} {v : Int32} {m : Md} (h : Site x s B m) (hk : k < m_n m) (hf : 83 ≤ f ∧ f < 98) : Site (p_i x f (s + 5 + 3 * k) v) s B (sA m k f v) ∧ Fr x (p_i x f (s + 5 + 3 * k) v) s (s + 31) := by
  have hl := h.2.2.2.2.2.2.1 k hk
  have h16 := (h.1.2.2.2.2.2.2.2.2.2.2.2.2.2.2.2.1 k (Nat.lt_of_lt_of_le hk h.2.1)).2
  have hn := h.2.1
  refine ⟨h.up hk (Fr.pi ⟨by omega, by omega⟩) (hl.pi (by omega)) ?_, Fr.pi ⟨by omega, by omega⟩⟩
  rw [up1_ne (by omega), ← hl.a (by decide)]
  exact h16
/-- a write of a number of the site -/
theorem Site.wv {x : Hp} {s B f : Nat} {v : Int32} {m : Md} (h : Site x s B m) (hf : f = 161 ∨ f = 162 ∨ (168 ≤ f ∧ f < 171)) : Site (p_i x f s v) s B (sV m f v) ∧ Fr x (p_i x f s v) s (s + 31) := by
  obtain ⟨⟨h1, h2, h3, h4, h5, h6, h7, h8, h9, h10, h11, h12, h13, h14, h15, h16, h17⟩, i2, i3, i4, i5, i6, i7, i8, i9⟩ := h
  have g : Fr x (p_i x f s v) s (s + 1) := Fr.pi ⟨by omega, by omega⟩
  refine ⟨⟨⟨h1, h2, h3, h4, h5, h6, h7, h8, h9, h10, h11, h12, h13, h14, h15, fun j hj => ⟨(h16 j hj).1.fr g (by omega), (g.i (by omega)).trans (h16 j hj).2⟩, h17⟩, i2, i3, ?_, ?_, fun f' f1 => ?_, fun j hj => (i7 j hj).fr g (by omega), i8, fun j hj f f1 f2 => (g.i (by omega)).trans (i9 j hj f f1 f2)⟩, g.wd (by omega) (by omega)⟩
  · simp only [sV_x]
    rw [up1_ne (by omega)]
    exact i4
  · simp only [sV_x]
    rw [up1_ne (by omega)]
    exact i5
  · simp only [sV_x]
    rw [p_i_i, up1]
    by_cases c : f' = f
    · rw [if_pos ⟨c, rfl⟩, if_pos c]
    · rw [if_neg (fun e => c e.1), if_neg c]
      exact i6 f' f1
/-- a write of a number of folk -/
theorem Site.wf {x : Hp} {s B j f : Nat} {v : Int32} {m : Md} (h : Site x s B m) (hj : j < m_m m) (hf : 60 ≤ f ∧ f < 65) : Site (p_i x f (s + 23 + j) v) s B (sF m j f v) ∧ Fr x (p_i x f (s + 23 + j) v) s (s + 31) := by
  obtain ⟨⟨h1, h2, h3, h4, h5, h6, h7, h8, h9, h10, h11, h12, h13, h14, h15, h16, h17⟩, i2, i3, i4, i5, i6, i7, i8, i9⟩ := h
  have g : Fr x (p_i x f (s + 23 + j) v) (s + 23 + j) (s + 23 + j + 1) := Fr.pi ⟨by omega, by omega⟩
  refine ⟨⟨⟨h1, h2, h3, h4, h5, h6, h7, h8, h9, h10, h11, h12, h13, h14, h15, fun j hj => ⟨(h16 j hj).1.fr g (by omega), (g.i (by omega)).trans (h16 j hj).2⟩, h17⟩, i2, i3, i4, i5, fun f' f1 => (g.i (by omega)).trans (i6 f' f1), fun k hk => (i7 k hk).fr g (by have : k < m_n m := hk; omega), i8, fun j' hj' f' f1 f2 => ?_⟩, g.wd (by omega) (by omega)⟩
  simp only [sF_x]
  rw [p_i_i]
  by_cases c : j' = j
  · subst c
    rw [up1_eq, up1]
    by_cases d : f' = f
    · rw [if_pos ⟨d, rfl⟩, if_pos d]
    · rw [if_neg (fun e => d e.1), if_neg d]
      exact i9 j' hj' f' f1 f2
  · rw [if_neg (fun e => c (by omega)), up1_ne c]
    exact i9 j' hj' f' f1 f2
section ST
variable {x : Hp} {N : Nat} {z : Nat → Nat} {s B : Nat} {m : Md}
theorem Site.k (h : Site x s B m) : h_k x s = 9 := h.1.1
theorem Site.v (h : Site x s B m) {f : Nat} (hf : (161 ≤ f ∧ f < 165) ∨ (168 ≤ f ∧ f < 171)) : h_i x f s = m_V m f := h.2.2.2.2.2.1 f hf
theorem Site.l (h : Site x s B m) {k : Nat} (hk : k < m_n m) : LaneR x (s + 5 + 3 * k) (m_A m k) (m_Q m k) (la s (m_O m k)) := h.2.2.2.2.2.2.1 k hk
theorem Site.o (h : Site x s B m) {k j : Nat} (hk : k < m_n m) (hj : m_O m k = some j) : j < k := h.2.2.2.2.2.2.2.1 k hk j hj
theorem Site.f (h : Site x s B m) {j f : Nat} (hj : j < m_m m) (hf : 60 ≤ f ∧ f < 65) : h_i x f (s + 23 + j) = m_F m j f := h.2.2.2.2.2.2.2.2 j hj f hf.1 hf.2
theorem Site.n80 (h : Site x s B m) {k : Nat} (hk : k < m_n m) : m_A m k 80 = nI k := by
  rw [← (h.l hk).a (by decide)]
  exact (h.1.2.2.2.2.2.2.2.2.2.2.2.2.2.2.2.1 k (Nat.lt_of_lt_of_le hk h.2.1)).2
theorem lane_at (h : Site x s B m) {k : Nat} (hk : k < m_n m) : f_X6_laneAt N z s (nI k) x = some (some (s + 5 + 3 * k), x) := by
  have hn := h.2.1
  obtain ⟨h1, h2, h3, h4, h5, h6, h7, h8, -⟩ := h.1
  unfold f_X6_laneAt
  rw [if_neg (nI_pos (by omega)), geti_s h1, h.v (by decide), h.2.2.2.1, if_neg (nI_ge hk (by omega)), getr_s h1, h3, alen_s h6, h7, if_neg (nI_ge (by omega) (by omega)), getr_s h1, h3, aldr_s h6 (by omega) (by omega), h8 k (by omega)]
theorem lane_no (h : Site x s B m) {k : Nat} (hk : m_n m ≤ k) (hk2 : k < 2 ^ 31) : f_X6_laneAt N z s (nI k) x = some (none, x) := by
  have hn := h.2.1
  obtain ⟨h1, h2, h3, h4, h5, h6, h7, h8, -⟩ := h.1
  unfold f_X6_laneAt
  rw [if_neg (nI_pos (by omega)), geti_s h1, h.v (by decide), h.2.2.2.1, if_pos (nI_le hk (by omega))]
theorem folk_at (h : Site x s B m) {j : Nat} (hj : j < m_m m) : f_X6_folkAt N z s (nI j) x = some (some (s + 23 + j), x) := by
  have hn := h.2.2.1
  obtain ⟨h1, h2, h3, h4, h5, h6, h7, h8, h9, h10, h11, -⟩ := h.1
  unfold f_X6_folkAt
  rw [if_neg (nI_pos (by omega)), geti_s h1, h.v (by decide), h.2.2.2.2.1, if_neg (nI_ge hj (by omega)), getr_s h1, h4, alen_s h9, h10, if_neg (nI_ge (by omega) (by omega)), getr_s h1, h4, aldr_s h9 (by omega) (by omega), h11 j (by omega)]
/-- who lends to a lane: it or the first above it that has tokens and isn't shut -/
def lendN (m : Md) : Nat → Option Nat → Option Nat
  | 0, _ => none
  | _ + 1, none => none
  | n + 1, some k => if m_A m k 85 ≤ 0 then lendN m n (m_O m k) else if m_A m k 90 = 0 then some k else lendN m n (m_O m k)
theorem lends_l (h : Site x s B m) : ∀ (n k : Nat), k + 1 < n → k < m_n m → f_X2_whoLends_b2 N z n (some (s + 5 + 3 * k)) x = some (la s (lendN m n (some k)), x)
  | 0, k, h1, h2 => absurd h1 (by omega)
  | n + 1, k, h1, h2 => by
    have hl := h.l h2
    have hu : f_X2_whoLends_b22 N z (f_X2_whoLends_b2 N z n) (some (s + 5 + 3 * k)) x = some (la s (lendN m n (m_O m k)), x) := by
      unfold f_X2_whoLends_b22
      rw [getr_s hl.1, hl.2.2.1]
      match n, h1, hO : m_O m k with
      | 0, h1, _ => exact absurd h1 (by omega)
      | n + 1, h1, none => rfl
      | n + 1, h1, some j =>
        have hj := h.o h2 hO
        exact lends_l h (n + 1) j (by omega) (by omega)
    unfold f_X2_whoLends_b2
    rw [if_neg (by simp), geti_s hl.1, hl.a (by decide), lendN]
    by_cases c : m_A m k 85 ≤ 0
    · rw [if_pos c, if_pos c]
      exact hu
    · rw [if_neg c, if_neg c, geti_s hl.1, hl.a (by decide)]
      by_cases d : m_A m k 90 = 0
      · rw [if_pos d, if_pos d]
        rfl
      · rw [if_neg d, if_neg d]
        exact hu
theorem lendN_st (ho : ∀ k, k < m_n m → ∀ j, m_O m k = some j → j < k) : ∀ (n n' k : Nat), k < n → k < n' → k < m_n m → lendN m n (some k) = lendN m n' (some k)
  | 0, _, k, h1, _, _ => absurd h1 (by omega)
  | n + 1, 0, k, _, h2, _ => absurd h2 (by omega)
  | n + 1, n' + 1, k, h1, h2, h3 => by
    have hu : lendN m n (m_O m k) = lendN m n' (m_O m k) := by
      match hO : m_O m k with
      | none => cases n <;> cases n' <;> rfl
      | some j =>
        have hj := ho k h3 j hO
        exact lendN_st ho n n' j (by omega) (by omega) (by omega)
    rw [lendN, lendN, hu]
def lend (m : Md) (k : Nat) : Option Nat := lendN m 6 (some k)
theorem who_lends (h : Site x s B m) {k : Nat} (hk : k < m_n m) (hN : 8 ≤ N) : f_X2_whoLends N z (s + 5 + 3 * k) x = some (la s (lend m k), x) := by
  have hn := h.2.1
  unfold f_X2_whoLends
  rw [lends_l h N k (by omega) hk, lend, lendN_st h.2.2.2.2.2.2.2.1 N 6 k (by omega) (by omega) hk]
/-- whether none of a lane and those above it has sent its most -/
def letN (m : Md) : Nat → Option Nat → Bool
  | 0, _ => true
  | _ + 1, none => true
  | n + 1, some k => if m_A m k 97 < m_A m k 84 then letN m n (m_O m k) else false
theorem lets_l (h : Site x s B m) : ∀ (n k : Nat), k + 1 < n → k < m_n m → f_X2_isLetSend_b2 N z n (some (s + 5 + 3 * k)) x = some (if letN m n (some k) = true then 1 else 0, x)
  | 0, k, h1, h2 => absurd h1 (by omega)
  | n + 1, k, h1, h2 => by
    have hl := h.l h2
    unfold f_X2_isLetSend_b2
    rw [if_neg (by simp), geti_s hl.1, hl.a (by decide), geti_s hl.1, hl.a (by decide), letN]
    by_cases c : m_A m k 97 < m_A m k 84
    · rw [if_pos c, if_pos c, getr_s hl.1, hl.2.2.1]
      match n, h1, hO : m_O m k with
      | 0, h1, _ => exact absurd h1 (by omega)
      | n + 1, h1, none => rfl
      | n + 1, h1, some j =>
        have hj := h.o h2 hO
        exact lets_l h (n + 1) j (by omega) (by omega)
    · rw [if_neg c, if_neg c]
      rfl
theorem letN_st (ho : ∀ k, k < m_n m → ∀ j, m_O m k = some j → j < k) : ∀ (n n' k : Nat), k < n → k < n' → k < m_n m → letN m n (some k) = letN m n' (some k)
  | 0, _, k, h1, _, _ => absurd h1 (by omega)
  | n + 1, 0, k, _, h2, _ => absurd h2 (by omega)
  | n + 1, n' + 1, k, h1, h2, h3 => by
    have hu : letN m n (m_O m k) = letN m n' (m_O m k) := by
      match hO : m_O m k with
      | none => cases n <;> cases n' <;> rfl
      | some j =>
        have hj := ho k h3 j hO
        exact letN_st ho n n' j (by omega) (by omega) (by omega)
    rw [letN, letN, hu]
def lets (m : Md) (k : Nat) : Bool := letN m 6 (some k)
theorem is_let (h : Site x s B m) {k : Nat} (hk : k < m_n m) (hN : 8 ≤ N) : f_X2_isLetSend N z (s + 5 + 3 * k) x = some (if lets m k = true then 1 else 0, x) := by
  have hn := h.2.1
  unfold f_X2_isLetSend
  rw [lets_l h N k (by omega) hk, lets, letN_st h.2.2.2.2.2.2.2.1 N 6 k (by omega) (by omega) hk]
/-- whether a lane is t or under it -/
def undN (m : Md) (t : Nat) : Nat → Option Nat → Bool
  | 0, _ => false
  | _ + 1, none => false
  | n + 1, some k => if k = t then true else undN m t n (m_O m k)
theorem unds_l (h : Site x s B m) {t : Nat} : ∀ (n k : Nat), k + 1 < n → k < m_n m → f_X2_isOrIsUnder_b2 N z n (some (s + 5 + 3 * t)) (some (s + 5 + 3 * k)) x = some (if undN m t n (some k) = true then 1 else 0, x)
  | 0, k, h1, h2 => absurd h1 (by omega)
  | n + 1, k, h1, h2 => by
    have hl := h.l h2
    unfold f_X2_isOrIsUnder_b2
    rw [if_neg (by simp), undN]
    by_cases c : k = t
    · rw [if_pos (by rw [c]), if_pos c]
      rfl
    · rw [if_neg (by simp; omega), if_neg c, getr_s hl.1, hl.2.2.1]
      match n, h1, hO : m_O m k with
      | 0, h1, _ => exact absurd h1 (by omega)
      | n + 1, h1, none => rfl
      | n + 1, h1, some j =>
        have hj := h.o h2 hO
        exact unds_l h (n + 1) j (by omega) (by omega)
theorem undN_st {t : Nat} (ho : ∀ k, k < m_n m → ∀ j, m_O m k = some j → j < k) : ∀ (n n' k : Nat), k < n → k < n' → k < m_n m → undN m t n (some k) = undN m t n' (some k)
  | 0, _, k, h1, _, _ => absurd h1 (by omega)
  | n + 1, 0, k, _, h2, _ => absurd h2 (by omega)
  | n + 1, n' + 1, k, h1, h2, h3 => by
    have hu : undN m t n (m_O m k) = undN m t n' (m_O m k) := by
      match hO : m_O m k with
      | none => cases n <;> cases n' <;> rfl
      | some j =>
        have hj := ho k h3 j hO
        exact undN_st ho n n' j (by omega) (by omega) (by omega)
    rw [undN, undN, hu]
def und (m : Md) (k t : Nat) : Bool := undN m t 6 (some k)
theorem is_under (h : Site x s B m) {k t : Nat} (hk : k < m_n m) (hN : 8 ≤ N) : f_X2_isOrIsUnder N z (s + 5 + 3 * k) (some (s + 5 + 3 * t)) x = some (if und m k t = true then 1 else 0, x) := by
  have hn := h.2.1
  unfold f_X2_isOrIsUnder
  rw [unds_l h N k (by omega) hk, und, undN_st h.2.2.2.2.2.2.2.1 N 6 k (by omega) (by omega) hk]
/-- whether a lane can send -/
def can (m : Md) (k : Nat) : Bool := !(m_Q m k).isEmpty && decide (m_A m k 90 = 0) && lets m k && (lend m k).isSome
theorem can_send (h : Site x s B m) {k : Nat} (hk : k < m_n m) (hN : 8 ≤ N) : f_X2_canSend N z (s + 5 + 3 * k) x = some (if can m k = true then 1 else 0, x) := by
  have hl := h.l hk
  have hq := hl.q
  unfold f_X2_canSend
  rw [getr_s hl.1, hl.2.1, geti_s hq.1.1, hq.2.2.1]
  have hle := hq.2.1
  by_cases c : m_Q m k = []
  · rw [c, if_pos (by decide)]
    simp [can, c]
  · have hc : 0 < (m_Q m k).length := List.length_pos_iff.mpr c
    rw [if_neg (nI_nle hc (by omega)), geti_s hl.1, hl.a (by decide)]
    by_cases d : m_A m k 90 = 0
    · rw [if_pos d, obj_s hl.1, is_let h hk hN, bnd_s]
      by_cases e : lets m k = true
      · rw [if_pos e, if_neg (by decide), obj_s hl.1, who_lends h hk hN, bnd_s]
        match hL : lend m k with
        | none => simp [la, can, hL]
        | some j => simp [la, can, hL, c, d, e]
      · rw [if_neg e, if_pos rfl]
        simp [can, e]
    · rw [if_neg d]
      simp [can, d]
/-- which of two that can send goes ahead -/
def ahd (A A' : Nat → Int32) : Int32 := if (if A 85 ≤ 0 then (0 : Int32) else 1) = (if A' 85 ≤ 0 then 0 else 1) then (if A 92 = A' 92 then (if A' 96 ≤ A 96 then 0 else 1) else if A' 92 ≤ A 92 then 0 else 1) else if A 85 ≤ 0 then 0 else 1
theorem goes_ahead {a a' : Nat} {A A' : Nat → Int32} {Q Q' : List Int32} {O O' : Option Nat} (h : LaneR x a A Q O) (g : LaneR x a' A' Q' O') : f_X2_goesAheadOf N z a (some a') x = some (ahd A A', x) := by
  unfold f_X2_goesAheadOf
  rw [geti_s h.1, h.a (by decide)]
  have e : ∀ v : Int32, v = 0 ∨ v = 1 → f_X2_goesAheadOf_b12 N z a (some a') v x = some (if v = (if A' 85 ≤ 0 then 0 else 1) then (if A 92 = A' 92 then (if A' 96 ≤ A 96 then 0 else 1) else if A' 92 ≤ A 92 then 0 else 1) else v, x) := by
    intro v hv
    unfold f_X2_goesAheadOf_b12
    rw [geti_s g.1, g.a (by decide)]
    have e2 : ∀ w : Int32, f_X2_goesAheadOf_b26 N z a (some a') v w v x = some (if v = w then (if A 92 = A' 92 then (if A' 96 ≤ A 96 then 0 else 1) else if A' 92 ≤ A 92 then 0 else 1) else v, x) := by
      intro w
      unfold f_X2_goesAheadOf_b26
      by_cases c : v = w
      · rw [if_pos c, if_pos c, geti_s h.1, h.a (by decide), geti_s g.1, g.a (by decide)]
        by_cases d : A 92 = A' 92
        · rw [if_pos d, if_pos d, geti_s h.1, h.a (by decide), geti_s g.1, g.a (by decide)]
          split <;> rfl
        · rw [if_neg d, if_neg d, geti_s h.1, h.a (by decide), geti_s g.1, g.a (by decide)]
          split <;> rfl
      · rw [if_neg c, if_neg c, bool, if_pos hv]
    by_cases c : A' 85 ≤ 0
    · rw [if_pos c, if_pos c]
      exact e2 0
    · rw [if_neg c, if_neg c]
      exact e2 1
  unfold ahd
  by_cases c : A 85 ≤ 0
  · rw [if_pos c, if_pos c]
    exact e 0 (Or.inl rfl)
  · rw [if_neg c, if_neg c]
    exact e 1 (Or.inr rfl)
end ST
