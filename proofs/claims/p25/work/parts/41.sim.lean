/-! ===== the law's own lanes and its own site, on the same pictures ===== -/
/-- the law's field that is a field of the class's lane -/
def lf (f : Nat) : Nat := if f = 80 then 261 else if f = 83 then 262 else if f = 84 then 263 else if f = 85 then 266 else if f = 86 then 271 else if f = 87 then 272 else if f = 88 then 274 else if f = 89 then 275 else if f = 90 then 276 else if f = 91 then 264 else if f = 92 then 265 else if f = 93 then 267 else if f = 94 then 268 else if f = 95 then 273 else if f = 96 then 277 else 278
theorem lf_inj : ∀ f, f < 98 → ∀ g, g < 98 → (f = 80 ∨ 83 ≤ f) → (g = 80 ∨ 83 ≤ g) → lf f = lf g → f = g := by decide +kernel
theorem lf_ne : ∀ f, f < 98 → (f = 80 ∨ 83 ≤ f) → lf f ≠ 270 := by decide +kernel
theorem fl_lt {f : Nat} (h : fl f) : f < 98 ∧ (f = 80 ∨ 83 ≤ f) := by unfold fl at h; omega
/-- a field that is known up to a limit -/
def flL (L f : Nat) : Prop := fl f ∧ f < L
theorem flL_lt {L f : Nat} (h : flL L f) : f < 98 ∧ (f = 80 ∨ 83 ≤ f) := fl_lt h.1
def LawL (L : Nat) (x : Hp) (a : Nat) (A : Nat → Int32) (Q : List Int32) (O : Option Nat) : Prop := h_k x a = 14 ∧ h_r x 269 a = some (a + 1) ∧ h_r x 260 a = O ∧ h_k x (a + 1) = 101 ∧ h_n x (a + 1) = 60 ∧ Q.length ≤ 60 ∧ h_i x 270 a = nI Q.length ∧ (∀ j, j < Q.length → h_ai x (a + 1) j = Q.getD j 0) ∧ ∀ f, flL L f → h_i x (lf f) a = A f
section LL
variable {L : Nat} {x y : Hp} {a : Nat} {A A' : Nat → Int32} {Q : List Int32} {O : Option Nat}
theorem LawL.fr {lo hi : Nat} (h : LawL L x a A Q O) (g : Fr x y lo hi) (hd : a + 2 ≤ lo ∨ hi ≤ a) : LawL L y a A Q O := by
  obtain ⟨h1, h2, h3, h4, h5, h6, h7, h8, h9⟩ := h
  exact ⟨g.k.trans h1, (g.r (by omega)).trans h2, (g.r (by omega)).trans h3, g.k.trans h4, g.n.trans h5, h6, (g.i (by omega)).trans h7, fun j hj => by rw [g.ai (by omega)]; exact h8 j hj, fun f hf => (g.i (by omega)).trans (h9 f hf)⟩
theorem LawL.cg (h : LawL L x a A Q O) (e : ∀ f, flL L f → A' f = A f) : LawL L x a A' Q O := by
  obtain ⟨h1, h2, h3, h4, h5, h6, h7, h8, h9⟩ := h
  exact ⟨h1, h2, h3, h4, h5, h6, h7, h8, fun f hf => (h9 f hf).trans (e f hf).symm⟩
theorem LawL.lim {L' : Nat} (h : LawL L x a A Q O) (e : L' ≤ L) : LawL L' x a A Q O := by
  obtain ⟨h1, h2, h3, h4, h5, h6, h7, h8, h9⟩ := h
  exact ⟨h1, h2, h3, h4, h5, h6, h7, h8, fun f hf => h9 f ⟨hf.1, Nat.lt_of_lt_of_le hf.2 e⟩⟩
theorem LawL.pi {n f : Nat} {v : Int32} (h : LawL L x a A Q O) (hn : n = lf f) (hf : f = 80 ∨ (83 ≤ f ∧ f < 98)) : LawL L (p_i x n a v) a (up1 A f v) Q O := by
  subst hn
  obtain ⟨h1, h2, h3, h4, h5, h6, h7, h8, h9⟩ := h
  have c := fl_lt hf
  refine ⟨h1, h2, h3, h4, h5, h6, (p_i_ne (lf_ne f c.1 c.2).symm).trans h7, h8, fun g hg => ?_⟩
  have d := flL_lt hg
  by_cases e : g = f
  · subst e
    rw [p_i_eq, up1_eq]
  · rw [p_i_ne (fun q => e (lf_inj g d.1 f c.1 d.2 c.2 q)), up1_ne e]
    exact h9 g hg
theorem LawL.g (h : LawL L x a A Q O) (f n : Nat) (hn : n = lf f) (hf : f = 80 ∨ (83 ≤ f ∧ f < 98)) (hL : f < L) : h_i x n a = A f := by
  subst hn
  exact h.2.2.2.2.2.2.2.2 f ⟨hf, hL⟩
/-- a field that becomes known -/
theorem LawL.pn {n : Nat} {v : Int32} (h : LawL L x a A Q O) (hn : n = lf L) (hf : L = 80 ∨ (83 ≤ L ∧ L < 98)) : LawL (L + 1) (p_i x n a v) a (up1 A L v) Q O := by
  have k := h.pi (v := v) hn hf
  obtain ⟨h1, h2, h3, h4, h5, h6, h7, h8, h9⟩ := k
  refine ⟨h1, h2, h3, h4, h5, h6, h7, h8, fun g hg => ?_⟩
  by_cases e : g = L
  · subst e
    rw [up1_eq, hn]
    exact p_i_eq
  · exact h9 g ⟨hg.1, by have := hg.2; omega⟩
end LL
/-- the front of a row of pails is taken away -/
theorem law_pop {N : Nat} {z : Nat → Nat} {L a : Nat} {x : Hp} {A : Nat → Int32} {q : Int32} {r : List Int32} {O : Option Nat} (h : LawL L x a A (q :: r) O) (hN : 61 ≤ N) : ∃ y, f_X11_pop N z a x = some ((), y) ∧ LawL L y a A r O ∧ Fr x y a (a + 2) := by
  obtain ⟨h1, h2, h3, h4, h5, h6, h7, h8, h9⟩ := h
  simp only [List.length_cons] at h6 h7 h8
  have loop : ∀ (n d : Nat) (w : Hp), d ≤ r.length → r.length < n + d → h_k w a = 14 → h_r w 269 a = some (a + 1) → h_k w (a + 1) = 101 → h_n w (a + 1) = 60 → h_i w 270 a = nI r.length → (∀ j, j < d → h_ai w (a + 1) j = r.getD j 0) → (∀ j, d < j → j < r.length + 1 → h_ai w (a + 1) j = (q :: r).getD j 0) → ∃ y, f_X11_pop_b12 N z n a (nI d) w = some ((), y) ∧ Fr w y (a + 1) (a + 2) ∧ ∀ j, j < r.length → h_ai y (a + 1) j = r.getD j 0 := by
    intro n
    induction n with
    | zero => intro d w e1 e2; exact absurd e2 (by omega)
    | succ n ih =>
      intro d w e1 e2 k1 k2 k3 k4 k5 k6 k7
      unfold f_X11_pop_b12
      rw [geti_s k1, k5]
      by_cases c : d = r.length
      · rw [if_pos (nI_le (by omega) (by omega))]
        exact ⟨w, rfl, Fr.rf, fun j hj => k6 j (by omega)⟩
      · rw [if_neg (nI_ge (by omega) (by omega)), getr_s k1, getr_s k1, k2, nI_1, aldi_s k3 (by omega) (by omega), asti_s k3 (by omega) (by omega), k7 (d + 1) (by omega) (by omega)]
        have f1 : Fr w (p_ai w (a + 1) d ((q :: r).getD (d + 1) 0)) (a + 1) (a + 2) := Fr.pai ⟨by omega, by omega⟩
        obtain ⟨y, g1, g2, g3⟩ := ih (d + 1) (p_ai w (a + 1) d ((q :: r).getD (d + 1) 0)) (by omega) (by omega) k1 k2 k3 k4 k5 (fun j hj => by
          simp only [HPAI]
          by_cases e : j = d
          · rw [if_pos ⟨trivial, e⟩, e]
            rfl
          · rw [if_neg (fun q => e q.2)]
            exact k6 j (by omega)) (fun j hj hj2 => by
          simp only [HPAI]
          rw [if_neg (fun q => by omega)]
          exact k7 j (by omega) hj2)
        exact ⟨y, g1, f1.tr g2, g3⟩
  unfold f_X11_pop
  rw [geti_s h1, h7, puti_s h1, nI_pred]
  have f0 : Fr x (p_i x 270 a (nI r.length)) a (a + 2) := Fr.pi ⟨by omega, by omega⟩
  obtain ⟨y, g1, g2, g3⟩ := loop N 0 (p_i x 270 a (nI r.length)) (by omega) (by omega) h1 h2 h4 h5 p_i_eq (fun j hj => absurd hj (by omega)) (fun j hj hj2 => h8 j hj2)
  have ff : Fr x y a (a + 2) := f0.tr (g2.wd (by omega) (by omega))
  refine ⟨y, g1, ⟨ff.k.trans h1, (g2.r (by omega)).trans h2, (g2.r (by omega)).trans h3, ff.k.trans h4, ff.n.trans h5, by omega, (g2.i (by omega)).trans p_i_eq, g3, fun f hf => ?_⟩, ff⟩
  have c := flL_lt hf
  exact (g2.i (by omega)).trans ((p_i_ne (lf_ne f c.1 c.2)).trans (h9 f hf))
/-- a pail is put behind a row -/
theorem law_put {L a : Nat} {x : Hp} {A : Nat → Int32} {Q : List Int32} {O : Option Nat} {v : Int32} (h : LawL L x a A Q O) (hl : Q.length < 60) : LawL L (p_i (p_ai x (a + 1) Q.length v) 270 a (nI (Q.length + 1))) a A (Q ++ [v]) O ∧ Fr x (p_i (p_ai x (a + 1) Q.length v) 270 a (nI (Q.length + 1))) a (a + 2) := by
  obtain ⟨h1, h2, h3, h4, h5, h6, h7, h8, h9⟩ := h
  refine ⟨⟨h1, h2, h3, h4, h5, by simp; omega, by rw [p_i_eq]; simp, fun j hj => ?_, fun f hf => ?_⟩, (Fr.pai ⟨by omega, by omega⟩).tr (Fr.pi ⟨by omega, by omega⟩)⟩
  · simp only [HPAI]
    by_cases e : j = Q.length
    · subst e
      rw [if_pos ⟨trivial, rfl⟩]
      simp
    · have hj3 : j < Q.length := by simp at hj; omega
      rw [if_neg (fun q => e q.2), h8 j hj3]
      simp [List.getD_eq_getElem?_getD, List.getElem?_append_left hj3]
  · have c := flL_lt hf
    exact (p_i_ne (lf_ne f c.1 c.2)).trans (h9 f hf)
def lb (o : Nat) (p : Option Nat) : Option Nat := p.map fun k => o + 5 + 2 * k
/-- the law's site at o: its lanes, folk and orders behind it -/
def SimS (x : Hp) (o : Nat) (m : Md) : Prop := h_k x o = 15 ∧ h_r x 285 o = some (o + 4) ∧ h_r x 286 o = some (o + 5 + 2 * m_n m) ∧ h_r x 287 o = some (o + 6 + 2 * m_n m + m_m m) ∧ h_k x (o + 4) = 106 ∧ h_n x (o + 4) = m_n m ∧ m_n m ≤ 6 ∧ (∀ k, k < m_n m → h_ar x (o + 4) k = some (o + 5 + 2 * k)) ∧ h_k x (o + 5 + 2 * m_n m) = 107 ∧ h_n x (o + 5 + 2 * m_n m) = m_m m ∧ m_m m ≤ 8 ∧ (∀ j, j < m_m m → h_ar x (o + 5 + 2 * m_n m) j = some (o + 6 + 2 * m_n m + j) ∧ h_k x (o + 6 + 2 * m_n m + j) = 101 ∧ h_n x (o + 6 + 2 * m_n m + j) = 5)
def SimV (x : Hp) (o : Nat) (m : Md) : Prop := h_i x 280 o = m_V m 161 ∧ h_i x 281 o = m_V m 162 ∧ h_i x 282 o = m_V m 169 ∧ h_i x 283 o = m_V m 170 ∧ h_i x 284 o = m_V m 168
def SimF (x : Hp) (o : Nat) (m : Md) : Prop := ∀ j, j < m_m m → h_ai x (o + 6 + 2 * m_n m + j) 0 = m_F m j 60 ∧ h_ai x (o + 6 + 2 * m_n m + j) 1 = m_F m j 61 ∧ h_ai x (o + 6 + 2 * m_n m + j) 2 = m_F m j 63 ∧ h_ai x (o + 6 + 2 * m_n m + j) 3 = m_F m j 64 ∧ h_ai x (o + 6 + 2 * m_n m + j) 4 = m_F m j 62
def SimO (x : Hp) (q : Nat) (os : List (Nat → Nat)) : Prop := h_k x q = 107 ∧ h_n x q = os.length ∧ os.length ≤ 20 ∧ ∀ i, i < os.length → h_ar x q i = some (q + 1 + i) ∧ h_k x (q + 1 + i) = 101 ∧ h_n x (q + 1 + i) = 8 ∧ ∀ f, f < 8 → h_ai x (q + 1 + i) f = nI (os.getD i (fun _ => 0) f)
def SimL (x : Hp) (o : Nat) (m : Md) (lim : Nat → Nat) : Prop := (∀ k, k < m_n m → LawL (lim k) x (o + 5 + 2 * k) (m_A m k) (m_Q m k) (lb o (m_O m k))) ∧ (∀ k, k < m_n m → ∀ j, m_O m k = some j → j < k) ∧ ∀ k, k < m_n m → m_A m k 80 = nI k
def SimR (x : Hp) (o : Nat) (m : Md) (os : List (Nat → Nat)) (lim : Nat → Nat) : Prop := SimS x o m ∧ SimV x o m ∧ SimF x o m ∧ SimO x (o + 6 + 2 * m_n m + m_m m) os ∧ SimL x o m lim
/-- where it ends -/
def simE (o : Nat) (m : Md) (os : List (Nat → Nat)) : Nat := o + 7 + 2 * m_n m + m_m m + os.length
section SR
variable {x y : Hp} {o : Nat} {m : Md} {os : List (Nat → Nat)} {lim : Nat → Nat}
theorem SimS.fr {lo hi : Nat} (h : SimS x o m) (g : Fr x y lo hi) (h1 : (lo = o ∧ hi = o + 1 ∧ h_r y 285 o = h_r x 285 o ∧ h_r y 286 o = h_r x 286 o ∧ h_r y 287 o = h_r x 287 o) ∨ (o + 5 ≤ lo ∧ hi ≤ o + 5 + 2 * m_n m) ∨ o + 6 + 2 * m_n m ≤ lo ∨ hi ≤ o) : SimS y o m := by
  obtain ⟨a1, a2, a3, a4, a5, a6, a7, a8, a9, a10, a11, a12⟩ := h
  have e : h_r y 285 o = h_r x 285 o ∧ h_r y 286 o = h_r x 286 o ∧ h_r y 287 o = h_r x 287 o := by
    rcases h1 with c | c | c | c
    · exact c.2.2
    · exact ⟨g.r (by omega), g.r (by omega), g.r (by omega)⟩
    · exact ⟨g.r (by omega), g.r (by omega), g.r (by omega)⟩
    · exact ⟨g.r (by omega), g.r (by omega), g.r (by omega)⟩
  exact ⟨g.k.trans a1, e.1.trans a2, e.2.1.trans a3, e.2.2.trans a4, g.k.trans a5, g.n.trans a6, a7, fun k hk => by rw [g.ar (by omega)]; exact a8 k hk, g.k.trans a9, g.n.trans a10, a11, fun j hj => ⟨by rw [g.ar (by omega)]; exact (a12 j hj).1, g.k.trans (a12 j hj).2.1, g.n.trans (a12 j hj).2.2⟩⟩
theorem SimO.fr {q lo hi : Nat} (h : SimO x q os) (g : Fr x y lo hi) (h1 : hi ≤ q ∨ q + 1 + os.length ≤ lo) : SimO y q os := by
  obtain ⟨a1, a2, a3, a4⟩ := h
  exact ⟨g.k.trans a1, g.n.trans a2, a3, fun i hi => ⟨by rw [g.ar (by omega)]; exact (a4 i hi).1, g.k.trans (a4 i hi).2.1, g.n.trans (a4 i hi).2.2.1, fun f hf => by rw [g.ai (by omega)]; exact (a4 i hi).2.2.2 f hf⟩⟩
theorem SimR.fr {lo hi : Nat} (h : SimR x o m os lim) (g : Fr x y lo hi) (h1 : hi ≤ o ∨ simE o m os ≤ lo) : SimR y o m os lim := by
  unfold simE at h1
  obtain ⟨a1, ⟨b1, b2, b3, b4, b5⟩, a3, a4, l1, l2, l3⟩ := h
  exact ⟨a1.fr g (by omega), ⟨(g.i (by omega)).trans b1, (g.i (by omega)).trans b2, (g.i (by omega)).trans b3, (g.i (by omega)).trans b4, (g.i (by omega)).trans b5⟩, fun j hj => by rw [g.ai (by omega)]; exact a3 j hj, a4.fr g (by omega), fun k hk => (l1 k hk).fr g (by omega), l2, l3⟩
theorem SimR.k (h : SimR x o m os lim) : h_k x o = 15 := h.1.1
theorem SimR.l (h : SimR x o m os lim) {k : Nat} (hk : k < m_n m) : LawL (lim k) x (o + 5 + 2 * k) (m_A m k) (m_Q m k) (lb o (m_O m k)) := h.2.2.2.2.1 k hk
theorem SimR.ov (h : SimR x o m os lim) {k j : Nat} (hk : k < m_n m) (hj : m_O m k = some j) : j < k := h.2.2.2.2.2.1 k hk j hj
theorem SimR.n6 (h : SimR x o m os lim) : m_n m ≤ 6 := h.1.2.2.2.2.2.2.1
theorem SimR.m8 (h : SimR x o m os lim) : m_m m ≤ 8 := h.1.2.2.2.2.2.2.2.2.2.2.1
theorem SimR.rl (h : SimR x o m os lim) : h_r x 285 o = some (o + 4) := h.1.2.1
theorem SimR.al {β : Type} {k : Nat} {K : Option Nat → Option β} (h : SimR x o m os lim) (hk : k < m_n m) : aldr (some (o + 4)) x 106 (nI k) K = K (some (o + 5 + 2 * k)) := by
  obtain ⟨a1, a2, a3, a4, a5, a6, a7, a8, -⟩ := h.1
  rw [aldr_s a5 (by omega) (by omega), a8 k hk]
theorem SimR.an {β : Type} {K : Int32 → Option β} (h : SimR x o m os lim) : alen (some (o + 4)) x 106 K = K (nI (m_n m)) := by
  obtain ⟨a1, a2, a3, a4, a5, a6, a7, a8, -⟩ := h.1
  rw [alen_s a5, a6]
/-- a change of one lane -/
theorem SimR.up {k L : Nat} {A : Nat → Int32} {Q : List Int32} (h : SimR x o m os lim) (hk : k < m_n m) (g : Fr x y (o + 5 + 2 * k) (o + 5 + 2 * k + 2)) (hl : LawL L y (o + 5 + 2 * k) A Q (lb o (m_O m k))) (h80 : A 80 = nI k) : SimR y o (sL m k A Q) os (up1 lim k L) := by
  have hn := h.n6
  obtain ⟨a1, ⟨b1, b2, b3, b4, b5⟩, a3, a4, l1, l2, l3⟩ := h
  refine ⟨SimS.fr (m := m) a1 g (by omega), ⟨(g.i (by omega)).trans b1, (g.i (by omega)).trans b2, (g.i (by omega)).trans b3, (g.i (by omega)).trans b4, (g.i (by omega)).trans b5⟩, fun j hj => ?_, SimO.fr (q := o + 6 + 2 * m_n m + m_m m) a4 g (by omega), fun i hi => ?_, l2, fun i hi => ?_⟩
  · have hj : j < m_m m := hj
    simp only [sL_x]
    rw [g.ai (by omega)]
    exact a3 j hj
  · by_cases c : i = k
    · subst c
      simp only [sL_x, up1_eq]
      exact hl
    · simp only [sL_x, up1_ne c]
      exact (l1 i hi).fr g (by omega)
  · by_cases c : i = k
    · subst c
      simp only [sL_x, up1_eq]
      exact h80
    · simp only [sL_x, up1_ne c]
      exact l3 i hi
theorem up1_id {α : Type} {A : Nat → α} {k : Nat} : up1 A k (A k) = A := by
  funext j
  simp only [up1]
  split
  · rename_i c; rw [c]
  · rfl
theorem SimR.up' {k : Nat} {A : Nat → Int32} {Q : List Int32} (h : SimR x o m os lim) (hk : k < m_n m) (g : Fr x y (o + 5 + 2 * k) (o + 5 + 2 * k + 2)) (hl : LawL (lim k) y (o + 5 + 2 * k) A Q (lb o (m_O m k))) (h80 : A 80 = nI k) : SimR y o (sL m k A Q) os lim := by
  have := h.up hk g hl h80
  rw [up1_id] at this
  exact this
theorem SimR.fw {k : Nat} (h : SimR x o m os lim) (hk : k < m_n m) (g : Fr x y (o + 5 + 2 * k) (o + 5 + 2 * k + 2)) : Fr x y o (simE o m os) := by
  unfold simE
  exact g.wd (by omega) (by omega)
/-- a write of a number of a lane -/
theorem SimR.wr {k n f : Nat} {v : Int32} (h : SimR x o m os lim) (hk : k < m_n m) (hn : n = lf f) (hf : 83 ≤ f ∧ f < 98) : SimR (p_i x n (o + 5 + 2 * k) v) o (sA m k f v) os lim ∧ Fr x (p_i x n (o + 5 + 2 * k) v) o (simE o m os) := by
  have g : Fr x (p_i x n (o + 5 + 2 * k) v) (o + 5 + 2 * k) (o + 5 + 2 * k + 2) := Fr.pi ⟨by omega, by omega⟩
  refine ⟨h.up' hk g ((h.l hk).pi hn (Or.inr hf)) ?_, h.fw hk g⟩
  rw [up1_ne (by omega)]
  exact h.2.2.2.2.2.2 k hk
/-- a write of a number of the site -/
theorem SimR.wv {n f : Nat} {v : Int32} (h : SimR x o m os lim) (hf : (n = 280 ∧ f = 161) ∨ (n = 281 ∧ f = 162) ∨ (n = 282 ∧ f = 169) ∨ (n = 283 ∧ f = 170) ∨ (n = 284 ∧ f = 168)) : SimR (p_i x n o v) o (sV m f v) os lim ∧ Fr x (p_i x n o v) o (simE o m os) := by
  have hn := h.n6
  have g : Fr x (p_i x n o v) o (o + 1) := Fr.pi ⟨by omega, by omega⟩
  obtain ⟨a1, ⟨b1, b2, b3, b4, b5⟩, a3, a4, l1, l2, l3⟩ := h
  refine ⟨⟨SimS.fr (m := m) a1 g (Or.inl ⟨rfl, rfl, rfl, rfl, rfl⟩), ?_, fun j hj => ?_, SimO.fr (q := o + 6 + 2 * m_n m + m_m m) a4 g (by omega), fun k hk => LawL.fr (l1 k hk) g (by omega), l2, l3⟩, g.wd (by omega) (by unfold simE; omega)⟩
  · unfold SimV
    simp only [sV_x, p_i_i, up1]
    rcases hf with ⟨c, d⟩ | ⟨c, d⟩ | ⟨c, d⟩ | ⟨c, d⟩ | ⟨c, d⟩ <;> subst c <;> subst d <;> simp [b1, b2, b3, b4, b5]
  · have hj' : j < m_m m := hj
    simp only [sV_x]
    rw [g.ai (by omega)]
    exact a3 j hj'
/-- a write of what folk brought -/
theorem SimR.wf {j : Nat} {v : Int32} (h : SimR x o m os lim) (hj : j < m_m m) : SimR (p_ai x (o + 6 + 2 * m_n m + j) 4 v) o (sF m j 62 v) os lim ∧ Fr x (p_ai x (o + 6 + 2 * m_n m + j) 4 v) o (simE o m os) := by
  have hn := h.n6
  have g : Fr x (p_ai x (o + 6 + 2 * m_n m + j) 4 v) (o + 6 + 2 * m_n m + j) (o + 6 + 2 * m_n m + j + 1) := Fr.pai ⟨by omega, by omega⟩
  obtain ⟨a1, ⟨b1, b2, b3, b4, b5⟩, a3, a4, l1, l2, l3⟩ := h
  refine ⟨⟨SimS.fr (m := m) a1 g (by omega), ⟨b1, b2, b3, b4, b5⟩, fun i hi => ?_, SimO.fr (q := o + 6 + 2 * m_n m + m_m m) a4 g (by omega), fun k hk => LawL.fr (l1 k hk) g (by have : k < m_n m := hk; omega), l2, l3⟩, g.wd (by omega) (by unfold simE; omega)⟩
  have hi' : i < m_m m := hi
  simp only [sF_x, HPAI]
  by_cases c : i = j
  · subst c
    obtain ⟨c1, c2, c3, c4, c5⟩ := a3 i hi'
    simp [up1, c1, c2, c3, c4]
  · obtain ⟨c1, c2, c3, c4, c5⟩ := a3 i hi'
    have d : ¬ o + 6 + 2 * m_n m + i = o + 6 + 2 * m_n m + j := by omega
    simp [up1, c, d, c1, c2, c3, c4, c5]
/-- pictures that agree where they are looked at -/
def Alk (m m' : Md) : Prop := m_n m' = m_n m ∧ m_m m' = m_m m ∧ (∀ k, k < m_n m → m_O m' k = m_O m k) ∧ (∀ k, k < m_n m → m_Q m' k = m_Q m k) ∧ (∀ k, k < m_n m → ∀ f, fl f → m_A m' k f = m_A m k f) ∧ (∀ j, j < m_m m → ∀ f, 60 ≤ f → f < 65 → m_F m' j f = m_F m j f) ∧ ∀ f, (161 ≤ f ∧ f < 165) ∨ (168 ≤ f ∧ f < 171) → m_V m' f = m_V m f
theorem SimR.cg {m' : Md} (h : SimR x o m os lim) (e : Alk m m') : SimR x o m' os lim := by
  obtain ⟨e1, e2, e3, e4, e5, e6, e7⟩ := e
  obtain ⟨a1, ⟨b1, b2, b3, b4, b5⟩, a3, a4, l1, l2, l3⟩ := h
  unfold SimR SimS SimV SimF SimL at *
  rw [e1, e2]
  refine ⟨a1, ⟨b1.trans (e7 161 (by omega)).symm, b2.trans (e7 162 (by omega)).symm, b3.trans (e7 169 (by omega)).symm, b4.trans (e7 170 (by omega)).symm, b5.trans (e7 168 (by omega)).symm⟩, fun j hj => ?_, a4, fun k hk => ?_, fun k hk j hj => l2 k hk j (by rw [← e3 k hk]; exact hj), fun k hk => ?_⟩
  · rw [e6 j hj 60 (by omega) (by omega), e6 j hj 61 (by omega) (by omega), e6 j hj 62 (by omega) (by omega), e6 j hj 63 (by omega) (by omega), e6 j hj 64 (by omega) (by omega)]
    exact a3 j hj
  · rw [e3 k hk, e4 k hk]
    exact (l1 k hk).cg (fun f hf => e5 k hk f hf.1)
  · rw [e5 k hk 80 (Or.inl rfl)]
    exact l3 k hk
end SR
