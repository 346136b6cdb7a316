/-! ===== the draft copied to the site ===== -/
/-- a site whose parts lie elsewhere, and its picture -/
def SdC (x : Hp) (s t B : Nat) (m : Md) : Prop := SiP x s t B 6 8 ∧ m_n m ≤ 6 ∧ m_m m ≤ 8 ∧ m_V m 163 = nI (m_n m) ∧ m_V m 164 = nI (m_m m) ∧ (∀ f, (161 ≤ f ∧ f < 165) ∨ (168 ≤ f ∧ f < 171) → h_i x f s = m_V m f) ∧ (∀ k, k < m_n m → LaneR x (t + 5 + 3 * k) (m_A m k) (m_Q m k) (la t (m_O m k))) ∧ (∀ k, k < m_n m → ∀ j, m_O m k = some j → j < k) ∧ ∀ j, j < m_m m → ∀ f, 60 ≤ f → f < 65 → h_i x f (t + 23 + j) = m_F m j f
section SCC
variable {N : Nat} {z : Nat → Nat} {x y : Hp} {s t B : Nat} {m : Md}
theorem SdC.ag {lo hi : Nat} (h : SdC x s t B m) (g : Ag x y lo hi) (hd : lo ≤ s ∧ s ≤ t ∧ t + 31 ≤ hi) : SdC y s t B m := by
  obtain ⟨h1, h2, h3, h4, h5, h6, h7, h8, h9⟩ := h
  exact ⟨h1.ag2 g hd, h2, h3, h4, h5, fun f f1 => (g.i (by omega)).trans (h6 f f1), fun k hk => (h7 k hk).ag g (by omega), h8, fun j hj f f1 f2 => (g.i (by omega)).trans (h9 j hj f f1 f2)⟩
theorem SdC.fr {lo hi : Nat} (h : SdC x s t B m) (g : Fr x y lo hi) (hd : s < t ∧ t + 31 ≤ lo) : SdC y s t B m := h.ag (lo := s) (hi := t + 31) (fun a _ a2 => g.2.2.2.2 a (by omega)) ⟨Nat.le_refl _, by omega, Nat.le_refl _⟩
theorem SdC.k (h : SdC x s t B m) : h_k x s = 9 := h.1.1
theorem SdC.v (h : SdC x s t B m) {f : Nat} (hf : (161 ≤ f ∧ f < 165) ∨ (168 ≤ f ∧ f < 171)) : h_i x f s = m_V m f := h.2.2.2.2.2.1 f hf
theorem SdC.l (h : SdC x s t B m) {k : Nat} (hk : k < m_n m) : LaneR x (t + 5 + 3 * k) (m_A m k) (m_Q m k) (la t (m_O m k)) := h.2.2.2.2.2.2.1 k hk
theorem SdC.o (h : SdC x s t B m) {k j : Nat} (hk : k < m_n m) (hj : m_O m k = some j) : j < k := h.2.2.2.2.2.2.2.1 k hk j hj
theorem SdC.f (h : SdC x s t B m) {j f : Nat} (hj : j < m_m m) (hf : 60 ≤ f ∧ f < 65) : h_i x f (t + 23 + j) = m_F m j f := h.2.2.2.2.2.2.2.2 j hj f hf.1 hf.2
theorem SdC.n80 (h : SdC x s t B m) {k : Nat} (hk : k < m_n m) : m_A m k 80 = nI k := by
  rw [← (h.l hk).a (by decide)]
  exact (h.1.2.2.2.2.2.2.2.2.2.2.2.2.2.2.2.1 k (Nat.lt_of_lt_of_le hk h.2.1)).2
theorem lane_atC (h : SdC x s t B m) {k : Nat} (hk : k < m_n m) : f_X6_laneAt N z s (nI k) x = some (some (t + 5 + 3 * k), x) := by
  have hn := h.2.1
  obtain ⟨h1, h2, h3, h4, h5, h6, h7, h8, -⟩ := h.1
  unfold f_X6_laneAt
  rw [if_neg (nI_pos (by omega)), geti_s h1, h.v (by decide), h.2.2.2.1, if_neg (nI_ge hk (by omega)), getr_s h1, h3, alen_s h6, h7, if_neg (nI_ge (by omega) (by omega)), getr_s h1, h3, aldr_s h6 (by omega) (by omega), h8 k (by omega)]
theorem folk_atC (h : SdC x s t B m) {j : Nat} (hj : j < m_m m) : f_X6_folkAt N z s (nI j) x = some (some (t + 23 + j), x) := by
  have hn := h.2.2.1
  obtain ⟨h1, h2, h3, h4, h5, h6, h7, h8, h9, h10, h11, -⟩ := h.1
  unfold f_X6_folkAt
  rw [if_neg (nI_pos (by omega)), geti_s h1, h.v (by decide), h.2.2.2.2.1, if_neg (nI_ge hj (by omega)), getr_s h1, h4, alen_s h9, h10, if_neg (nI_ge (by omega) (by omega)), getr_s h1, h4, aldr_s h9 (by omega) (by omega), h11 j (by omega)]
end SCC
section CPC
variable {N : Nat} {z : Nat → Nat} {s B : Nat}
theorem copyf_c {s' t' B' : Nat} {m : Md} (hd : s' < t' ∧ t' + 31 ≤ s) : ∀ (n r j : Nat) (x : Hp), Site x s B (cutM m (m_n m) j) → SdC x s' t' B' m → j + r = m_m m → r < n → ∃ y, f_X6_copyFrom_b107 N z n s (some s') (nI j) x = some ((), y) ∧ Site y s B (cutM m (m_n m) (m_m m)) ∧ Fr x y s (s + 31)
  | 0, r, j, x, h, g, hj, hn => absurd hn (by omega)
  | n + 1, 0, j, x, h, g, hj, hn => by
    have hm := g.2.2.1
    unfold f_X6_copyFrom_b107
    rw [geti_s g.k, g.v (by decide), g.2.2.2.2.1, if_pos (nI_le (by omega) (by omega))]
    have e : j = m_m m := by omega
    subst e
    exact ⟨x, rfl, h, Fr.rf⟩
  | n + 1, r + 1, j, x, h, g, hj, hn => by
    have hm := g.2.2.1
    have hjm : j < m_m m := by omega
    have h4 : h_i x 164 s = nI j := (h.v (f := 164) (by decide)).trans (show up1 (up1 (m_V m) 163 (nI (m_n m))) 164 (nI j) 164 = nI j from up1_eq)
    have kk := g.1.2.2.2.2.2.2.2.2.2.2.2.2.2.2.2.2 j (by omega)
    have kk2 := h.1.2.2.2.2.2.2.2.2.2.2.2.2.2.2.2.2 j (by omega)
    have f0 : Fr x (p_i x 164 s (nI (j + 1))) s (s + 31) := Fr.pi ⟨by omega, by omega⟩
    obtain ⟨y, e1, e2, e3⟩ := folk_tell (N := N) (z := z) (x := p_i x 164 s (nI (j + 1))) (a := s + 23 + j) (a' := t' + 23 + j) kk2 kk (by omega)
    have ff := f0.tr (e3.wd (by omega) (by omega))
    have h2 := h.addf (by omega) e3 (fun f f1 f2 => by
      rw [e2 f f1 f2, f0.i (by omega)]
      exact g.f hjm ⟨f1, f2⟩)
    unfold f_X6_copyFrom_b107
    rw [geti_s g.k, g.v (by decide), g.2.2.2.2.1, if_neg (nI_ge (by omega) (by omega)), obj_s g.k, folk_atC g hjm, bnd_s, obj_s h.k, add_folk h.1 h4 (by omega), bnd_s, if_neg (by simp), if_neg (by simp), obj_s (by exact kk2), e1, bnd_s]
    unfold f_X6_copyFrom_b142
    rw [nI_1]
    obtain ⟨u, d1, d2, d3⟩ := copyf_c (m := m) hd n r (j + 1) y h2 (g.fr ff (by omega)) (by omega) (by omega)
    exact ⟨u, d1, d2, ff.tr d3⟩
theorem copyl_c {s' t' B' : Nat} {m : Md} (hd : s' < t' ∧ t' + 31 ≤ s) (hc : Cpy m) (hN : 61 ≤ N) : ∀ (n r i : Nat) (x : Hp), Site x s B (cutM m i 0) → SdC x s' t' B' m → i + r = m_n m → r < n → ∃ y, f_X6_copyFrom_b42 N z n s (some s') (nI i) x = some ((), y) ∧ Site y s B (cutM m (m_n m) (m_m m)) ∧ Fr x y s (s + 31)
  | 0, r, i, x, h, g, hi, hn => absurd hn (by omega)
  | n + 1, 0, i, x, h, g, hi, hn => by
    have hm := g.2.1
    have hm8 := g.2.2.1
    unfold f_X6_copyFrom_b42
    rw [geti_s g.k, g.v (by decide), g.2.2.2.1, if_pos (nI_le (by omega) (by omega))]
    have e : i = m_n m := by omega
    subst e
    exact copyf_c hd N (m_m m) 0 x h g (by omega) (by omega)
  | n + 1, r + 1, i, x, h, g, hi, hn => by
    have hm := g.2.1
    have him : i < m_n m := by omega
    have h3 : h_i x 163 s = nI i := (h.v (f := 163) (by decide)).trans (show up1 (up1 (m_V m) 163 (nI i)) 164 (nI 0) 163 = nI i by rw [up1_ne (by decide), up1_eq])
    have gl := g.l him
    have f0 : Fr x (p_i x 163 s (nI (i + 1))) s (s + 31) := Fr.pi ⟨by omega, by omega⟩
    have hS := h.1.pv (f := 163) (v := nI (i + 1))
    have h16 := hS.2.2.2.2.2.2.2.2.2.2.2.2.2.2.2.1 i (by omega)
    have g1 := g.fr f0 (by omega)
    have gl1 := g1.l him
    obtain ⟨c1, c2⟩ := hc i him
    obtain ⟨y, e1, e2, e3⟩ := lane_copy (N := N) (z := z) (v2 := la s (m_O m i)) h16.1 gl1 (by omega) (h16.2.trans (g.n80 him).symm) c1 c2 hN
    have ff := f0.tr (e3.wd (lo' := s) (hi' := s + 31) (by omega) (by omega))
    have h2 := h.addl (by omega) e3 e2 (g.n80 him) (fun j hj => g.o him hj)
    obtain ⟨u, d1, d2, d3⟩ := copyl_c hd hc hN n r (i + 1) y h2 (g.fr ff (by omega)) (by omega) (by omega)
    refine ⟨u, ?_, d2, ff.tr d3⟩
    unfold f_X6_copyFrom_b42
    rw [geti_s g.k, g.v (by decide), g.2.2.2.1, if_neg (nI_ge (by omega) (by omega)), obj_s g.k, lane_atC g him, bnd_s, obj_s h.k, add_lane h.1 h3 (by omega), bnd_s, if_neg (by simp), if_neg (by simp), getr_s gl1.1, gl1.2.2.1]
    match hO : m_O m i with
    | none =>
      rw [hO] at e1
      rw [show la t' none = none from rfl, if_pos rfl]
      unfold f_X6_copyFrom_b93
      rw [obj_s hS.1]
      unfold f_X6_laneAt
      rw [if_pos (by decide), bnd_s, obj_s h16.1.1, show la s none = none from rfl] at *
      rw [e1, bnd_s]
      unfold f_X6_copyFrom_b99
      rw [nI_1]
      exact d1
    | some j =>
      rw [hO] at e1
      have hj := g.o him hO
      have gj := g1.l (k := j) (by omega)
      rw [show la t' (some j) = some (t' + 5 + 3 * j) from rfl, if_neg (by simp), getr_s gl1.1, gl1.2.2.1, hO, show la t' (some j) = some (t' + 5 + 3 * j) from rfl, geti_s gj.1, gj.a (by decide), g1.n80 (by omega)]
      unfold f_X6_copyFrom_b93
      rw [obj_s hS.1, lane_atS hS p_i_eq (by omega) (by omega), bnd_s, obj_s h16.1.1]
      rw [show la s (some j) = some (s + 5 + 3 * j) from rfl] at e1
      rw [e1, bnd_s]
      unfold f_X6_copyFrom_b99
      rw [nI_1]
      exact d1
theorem site_copyc {x : Hp} {s' t' B' : Nat} {m : Md} (hd : s' < t' ∧ t' + 31 ≤ s) (hc : Cpy m) (hN : 61 ≤ N) (h : SiteS x s B) (g : SdC x s' t' B' m) : ∃ y, f_X6_copyFrom N z s (some s') x = some ((), y) ∧ Site y s B (cutM m (m_n m) (m_m m)) ∧ Fr x y s (s + 31) := by
  have hm := g.2.1
  have kp : ∀ (w : Hp) (f : Nat) (v : Int32) (f' : Nat), h_i (p_i w f s v) f' s' = h_i w f' s' := fun w f v f' => p_i_na (by omega)
  have fp : ∀ (w : Hp) (f : Nat) (v : Int32), Fr w (p_i w f s v) s (s + 31) := fun w f v => Fr.pi ⟨by omega, by omega⟩
  have h1 := h.1
  have g1 := g.k
  have hs := ((((((((((h.pv (f := 161) (v := m_V m 161)).pv (f := 162) (v := 20)).pv (f := 163) (v := 0)).pv (f := 164) (v := 0)).pv (f := 168) (v := 0)).pv (f := 169) (v := 0)).pv (f := 170) (v := 0)).pv (f := 162) (v := m_V m 162)).pv (f := 168) (v := m_V m 168)).pv (f := 169) (v := m_V m 169)).pv (f := 170) (v := m_V m 170)
  have ff := (((((((((((fp x 161 (m_V m 161))).tr (fp _ 162 20)).tr (fp _ 163 0)).tr (fp _ 164 0)).tr (fp _ 168 0)).tr (fp _ 169 0)).tr (fp _ 170 0)).tr (fp _ 162 (m_V m 162))).tr (fp _ 168 (m_V m 168))).tr (fp _ 169 (m_V m 169))).tr (fp _ 170 (m_V m 170))
  have hS : Site (p_i (p_i (p_i (p_i (p_i (p_i (p_i (p_i (p_i (p_i (p_i x 161 s (m_V m 161)) 162 s 20) 163 s 0) 164 s 0) 168 s 0) 169 s 0) 170 s 0) 162 s (m_V m 162)) 168 s (m_V m 168)) 169 s (m_V m 169)) 170 s (m_V m 170)) s B (cutM m 0 0) := by
    refine ⟨hs, Nat.zero_le _, Nat.zero_le _, rfl, rfl, fun f f1 => ?_, fun k hk => absurd hk (Nat.not_lt_zero _), fun k hk => absurd hk (Nat.not_lt_zero _), fun k hk => absurd hk (Nat.not_lt_zero _)⟩
    have c : f = 161 ∨ f = 162 ∨ f = 163 ∨ f = 164 ∨ f = 168 ∨ f = 169 ∨ f = 170 := by omega
    show _ = up1 (up1 (m_V m) 163 (nI 0)) 164 (nI 0) f
    rcases c with c | c | c | c | c | c | c <;> subst c <;> simp [p_i_i, up1, nI_0]
  obtain ⟨u, d1, d2, d3⟩ := copyl_c (N := N) (z := z) hd hc hN N (m_n m) 0 _ hS (g.fr ff (by omega)) (by omega) (by omega)
  unfold f_X6_copyFrom f_X6_begin
  rw [geti_s g1, g.v (by decide), obj_s h1, puti_s h1, puti_s (by exact h1), puti_s (by exact h1), puti_s (by exact h1), puti_s (by exact h1), puti_s (by exact h1), puti_s (by exact h1), bnd_s, geti_s (by exact g1), puti_s (by exact h1), geti_s (by exact g1), puti_s (by exact h1), geti_s (by exact g1), puti_s (by exact h1), geti_s (by exact g1), puti_s (by exact h1)]
  simp only [kp, g.v (f := 162) (by decide), g.v (f := 168) (by decide), g.v (f := 169) (by decide), g.v (f := 170) (by decide)]
  exact ⟨u, d1, d2, ff.tr d3⟩
end CPC
