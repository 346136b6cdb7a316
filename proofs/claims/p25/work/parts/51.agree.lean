/-! ===== pictures where two heaps agree ===== -/
/-- two heaps agree from lo to hi -/
def Ag (x y : Hp) (lo hi : Nat) : Prop := ∀ a, lo ≤ a → a < hi → Sm y x a
section AG
variable {x y w : Hp} {lo hi a : Nat}
theorem Ag.k (g : Ag x y lo hi) (h : lo ≤ a ∧ a < hi) : h_k y a = h_k x a := (g a h.1 h.2).1
theorem Ag.n (g : Ag x y lo hi) (h : lo ≤ a ∧ a < hi) : h_n y a = h_n x a := (g a h.1 h.2).2.1
theorem Ag.i {f : Nat} (g : Ag x y lo hi) (h : lo ≤ a ∧ a < hi) : h_i y f a = h_i x f a := (g a h.1 h.2).2.2.1 f
theorem Ag.r {f : Nat} (g : Ag x y lo hi) (h : lo ≤ a ∧ a < hi) : h_r y f a = h_r x f a := (g a h.1 h.2).2.2.2.1 f
theorem Ag.ai (g : Ag x y lo hi) (h : lo ≤ a ∧ a < hi) : h_ai y a = h_ai x a := (g a h.1 h.2).2.2.2.2.1
theorem Ag.al (g : Ag x y lo hi) (h : lo ≤ a ∧ a < hi) : h_al y a = h_al x a := (g a h.1 h.2).2.2.2.2.2.1
theorem Ag.ar (g : Ag x y lo hi) (h : lo ≤ a ∧ a < hi) : h_ar y a = h_ar x a := (g a h.1 h.2).2.2.2.2.2.2
theorem Ag.rf : Ag x x lo hi := fun _ _ _ => ⟨rfl, rfl, fun _ => rfl, fun _ => rfl, rfl, rfl, rfl⟩
theorem Ag.tr (h : Ag x y lo hi) (g : Ag y w lo hi) : Ag x w lo hi := fun a h1 h2 => (g a h1 h2).tr (h a h1 h2)
theorem Ag.wd {lo' hi' : Nat} (h : Ag x y lo hi) (h1 : lo ≤ lo') (h2 : hi' ≤ hi) : Ag x y lo' hi' := fun a a1 a2 => h a (Nat.le_trans h1 a1) (Nat.lt_of_lt_of_le a2 h2)
theorem Fr.ag {lo' hi' : Nat} (h : Fr x y lo hi) (h1 : hi' ≤ lo ∨ hi ≤ lo') : Ag x y lo' hi' := fun a a1 a2 => h.2.2.2.2 a (by omega)
end AG
theorem QS.ag {x y : Hp} {q lo hi : Nat} (h : QS x q) (g : Ag x y lo hi) (hd : lo ≤ q ∧ q + 2 ≤ hi) : QS y q := by
  obtain ⟨h1, h2, h3, h4⟩ := h
  exact ⟨(g.k (by omega)).trans h1, (g.r (by omega)).trans h2, (g.k (by omega)).trans h3, (g.n (by omega)).trans h4⟩
theorem QR.ag {x y : Hp} {q lo hi : Nat} {l : List Int32} (h : QR x q l) (g : Ag x y lo hi) (hd : lo ≤ q ∧ q + 2 ≤ hi) : QR y q l := by
  obtain ⟨h0, h5, h6, f, hf, h7, h8⟩ := h
  exact ⟨h0.ag g hd, h5, (g.i (by omega)).trans h6, f, hf, (g.i (by omega)).trans h7, fun j hj => by rw [g.ai (by omega)]; exact h8 j hj⟩
theorem LaneS.ag {x y : Hp} {a lo hi : Nat} (h : LaneS x a) (g : Ag x y lo hi) (hd : lo ≤ a ∧ a + 3 ≤ hi) : LaneS y a := by
  obtain ⟨h1, h2, h3⟩ := h
  exact ⟨(g.k (by omega)).trans h1, (g.r (by omega)).trans h2, h3.ag g (by omega)⟩
theorem LaneR.ag {x y : Hp} {a lo hi : Nat} {A : Nat → Int32} {Q : List Int32} {O : Option Nat} (h : LaneR x a A Q O) (g : Ag x y lo hi) (hd : lo ≤ a ∧ a + 3 ≤ hi) : LaneR y a A Q O := by
  obtain ⟨h1, h2, h3, h4, h5⟩ := h
  exact ⟨(g.k (by omega)).trans h1, (g.r (by omega)).trans h2, (g.r (by omega)).trans h3, fun f hf => (g.i (by omega)).trans (h4 f hf), h5.ag g (by omega)⟩
theorem SiteS.ag {x y : Hp} {s B lo hi : Nat} (h : SiteS x s B) (g : Ag x y lo hi) (hd : lo ≤ s ∧ s + 31 ≤ hi) : SiteS y s B := by
  obtain ⟨h1, h2, h3, h4, h5, h6, h7, h8, h9, h10, h11, h12, h13, h14, h15, h16, h17⟩ := h
  exact ⟨(g.k (by omega)).trans h1, (g.r (by omega)).trans h2, (g.r (by omega)).trans h3, (g.r (by omega)).trans h4, (g.r (by omega)).trans h5, (g.k (by omega)).trans h6, (g.n (by omega)).trans h7, fun k hk => by rw [g.ar (by omega)]; exact h8 k hk, (g.k (by omega)).trans h9, (g.n (by omega)).trans h10, fun k hk => by rw [g.ar (by omega)]; exact h11 k hk, (g.k (by omega)).trans h12, (g.r (by omega)).trans h13, (g.k (by omega)).trans h14, (g.n (by omega)).trans h15, fun k hk => ⟨(h16 k hk).1.ag g (by omega), (g.i (by omega)).trans (h16 k hk).2⟩, fun j hj => (g.k (by omega)).trans (h17 j hj)⟩
theorem Site.ag {x y : Hp} {s B lo hi : Nat} {m : Md} (h : Site x s B m) (g : Ag x y lo hi) (hd : lo ≤ s ∧ s + 31 ≤ hi) : Site y s B m := by
  obtain ⟨h1, h2, h3, h4, h5, h6, h7, h8, h9⟩ := h
  exact ⟨h1.ag g hd, h2, h3, h4, h5, fun f f1 => (g.i (by omega)).trans (h6 f f1), fun k hk => (h7 k hk).ag g (by omega), h8, fun j hj f f1 f2 => (g.i (by omega)).trans (h9 j hj f f1 f2)⟩
theorem Bk.ag {x y : Hp} {B lo hi : Nat} {C : List (Nat × Nat)} {os : List (Nat → Nat)} (h : Bk x B C os) (g : Ag x y lo hi) (hd : lo ≤ B ∧ B + 24 ≤ hi) : Bk y B C os := by
  obtain ⟨h1, h2, h3, h4, h5, h6, h7, h8, h9, h10, h11, h12, h13, h14, h15, h16, h17⟩ := h
  exact ⟨(g.k (by omega)).trans h1, (g.r (by omega)).trans h2, (g.r (by omega)).trans h3, (g.r (by omega)).trans h4, (g.k (by omega)).trans h5, (g.n (by omega)).trans h6, (g.k (by omega)).trans h7, (g.n (by omega)).trans h8, (g.k (by omega)).trans h9, (g.n (by omega)).trans h10, fun i hi => ⟨by rw [g.ar (by omega)]; exact (h11 i hi).1, (g.k (by omega)).trans (h11 i hi).2⟩, (g.i (by omega)).trans h12, h13, (g.i (by omega)).trans h14, h15, fun i hi => ⟨by rw [g.ai (by omega)]; exact (h16 i hi).1, by rw [g.ai (by omega)]; exact (h16 i hi).2⟩, fun i hi f hf => (g.i (by omega)).trans (h17 i hi f hf)⟩
theorem BkO.ag {x y : Hp} {B n lo hi : Nat} {ods : List Od} (h : BkO x B n ods) (g : Ag x y lo hi) (hd : lo ≤ B ∧ B + 24 ≤ hi) : BkO y B n ods := by
  obtain ⟨C, os, b1, b2, b3⟩ := h
  exact ⟨C, os, b1.ag g hd, b2, b3⟩
theorem BrS.ag {x y : Hp} {Y lo hi : Nat} (h : BrS x Y) (g : Ag x y lo hi) (hd : lo ≤ Y ∧ Y + 2 ≤ hi) : BrS y Y := by
  obtain ⟨h1, h2, h3, h4, h5, h6, h7⟩ := h
  exact ⟨(g.k (by omega)).trans h1, (g.r (by omega)).trans h2, (g.r (by omega)).trans h3, (g.r (by omega)).trans h4, (g.r (by omega)).trans h5, (g.k (by omega)).trans h6, (g.i (by omega)).trans h7⟩
section AGL
variable {L : Nat} {x y : Hp} {a : Nat} {A A' : Nat → Int32} {Q : List Int32} {O : Option Nat} {os : List (Nat → Nat)}
theorem LawL.ag {lo hi : Nat} (h : LawL L x a A Q O) (g : Ag x y lo hi) (hd : lo ≤ a ∧ a + 2 ≤ hi) : LawL L y a A Q O := by
  obtain ⟨h1, h2, h3, h4, h5, h6, h7, h8, h9⟩ := h
  exact ⟨(g.k (by omega)).trans h1, (g.r (by omega)).trans h2, (g.r (by omega)).trans h3, (g.k (by omega)).trans h4, (g.n (by omega)).trans h5, h6, (g.i (by omega)).trans h7, fun j hj => by rw [g.ai (by omega)]; exact h8 j hj, fun f hf => (g.i (by omega)).trans (h9 f hf)⟩
theorem SimO.ag {q lo hi : Nat} (h : SimO x q os) (g : Ag x y lo hi) (h1 : lo ≤ q ∧ q + 1 + os.length ≤ hi) : SimO y q os := by
  obtain ⟨a1, a2, a3, a4⟩ := h
  exact ⟨(g.k (by omega)).trans a1, (g.n (by omega)).trans a2, a3, fun i hi => ⟨by rw [g.ar (by omega)]; exact (a4 i hi).1, (g.k (by omega)).trans (a4 i hi).2.1, (g.n (by omega)).trans (a4 i hi).2.2.1, fun f hf => by rw [g.ai (by omega)]; exact (a4 i hi).2.2.2 f hf⟩⟩
end AGL
theorem SimS.ag {x y : Hp} {o lo hi : Nat} {m : Md} (h : SimS x o m) (g : Ag x y lo hi) (h1 : lo ≤ o ∧ o + 6 + 2 * m_n m + m_m m ≤ hi) : SimS y o m := by
  obtain ⟨a1, a2, a3, a4, a5, a6, a7, a8, a9, a10, a11, a12⟩ := h
  exact ⟨(g.k (by omega)).trans a1, (g.r (by omega)).trans a2, (g.r (by omega)).trans a3, (g.r (by omega)).trans a4, (g.k (by omega)).trans a5, (g.n (by omega)).trans a6, a7, fun k hk => by rw [g.ar (by omega)]; exact a8 k hk, (g.k (by omega)).trans a9, (g.n (by omega)).trans a10, a11, fun j hj => ⟨by rw [g.ar (by omega)]; exact (a12 j hj).1, (g.k (by omega)).trans (a12 j hj).2.1, (g.n (by omega)).trans (a12 j hj).2.2⟩⟩
theorem SimR.ag {x y : Hp} {o lo hi : Nat} {m : Md} {os : List (Nat → Nat)} {lim : Nat → Nat} (h : SimR x o m os lim) (g : Ag x y lo hi) (h1 : lo ≤ o ∧ simE o m os ≤ hi) : SimR y o m os lim := by
  unfold simE at h1
  obtain ⟨a1, ⟨b1, b2, b3, b4, b5⟩, a3, a4, l1, l2, l3⟩ := h
  exact ⟨a1.ag g (by omega), ⟨(g.i (by omega)).trans b1, (g.i (by omega)).trans b2, (g.i (by omega)).trans b3, (g.i (by omega)).trans b4, (g.i (by omega)).trans b5⟩, fun j hj => by rw [g.ai (by omega)]; exact a3 j hj, a4.ag g (by omega), fun k hk => (l1 k hk).ag g (by omega), l2, l3⟩
/-- a new cell leaves all else -/
theorem pn_ag {x : Hp} {k n w lo hi : Nat} (h : hi ≤ h_sz x) : Ag x (p_n x k n w) lo hi := fun a h1 h2 => Sm_pn (by omega)
theorem pai_ag {x : Hp} {a j lo hi : Nat} {v : Int32} (h : hi ≤ a ∨ a < lo) : Ag x (p_ai x a j v) lo hi := fun q h1 h2 => Sm_pai (by omega)
theorem newa_s {β : Type} {x : Hp} {kd n : Nat} {k : Option Nat → Hp → Option β} (hn : n < 60000000) : newa x kd (nI n) k = k (some (h_sz x)) (p_n x kd n n) := by
  unfold newa
  rw [if_pos (by rw [nI_toInt (by omega)]; omega), nI_clamp (by omega)]
theorem pn_k {x : Hp} {k n w : Nat} : h_k (p_n x k n w) (h_sz x) = k := by simp [h_k, p_n]
theorem pn_n {x : Hp} {k n w : Nat} : h_n (p_n x k n w) (h_sz x) = n := by simp [h_n, p_n]
theorem pn_sz {x : Hp} {k n w : Nat} : h_sz (p_n x k n w) = h_sz x + 1 ∧ h_sl (p_n x k n w) = h_sl x + w := ⟨rfl, rfl⟩
section BC
variable {N : Nat} {z : Nat → Nat} {x : Hp}
theorem below_s (v : Int32) {k : Nat} (h0 : 0 < k) (hk : k < 2 ^ 31) : ∃ r, r < k ∧ ∀ x : Hp, f_L_below N z v (nI k) x = some (nI r, x) := by
  obtain ⟨j, j1, j2⟩ := pk_andE v (m := (2147483647 : Int32)) 31 (by decide)
  refine ⟨j % k, Nat.mod_lt _ h0, fun x => ?_⟩
  unfold f_L_below
  rw [nz, if_neg (nI_ne0 h0 hk), j2, pk_rem j1 h0 hk]
theorem cell_s {b L : Nat} (h1 : h_k x b = 301) (h2 : h_n x b = L) (hL : L < 2 ^ 31) {k : Nat} (hk : k < 2 ^ 31) : ∃ c, f_L_cell N z (some b) (nI k) x = some (c, x) := by
  unfold f_L_cell
  rw [alen_s h1, h2]
  by_cases c : L ≤ k
  · rw [if_pos (nI_le c hk)]
    exact ⟨_, rfl⟩
  · rw [if_neg (nI_ge (by omega) hL), aldi_s h1 (by omega) (by omega)]
    exact ⟨_, rfl⟩
end BC
/-! the law's counts -/
section CD
variable {N : Nat} {z : Nat → Nat} {o : Nat} {os : List (Nat → Nat)}
def cntM (m : Md) (no w : Nat) : Int32 := if w = 12 then 0 else tallyM m no w
theorem counted_l {w : Nat} (hw : w < 13) : ∀ (n r k : Nat) (v2 v3 v4 v5 : Int32) (x : Hp) (m : Md), SimR x o m os L96 → k + r = m_n m → r < n → simE o m os ≤ h_sz x → sumM m 5 r k v2 = sumM m 5 (m_n m) 0 0 → sumM m 7 r k v3 = sumM m 7 (m_n m) 0 0 → sumM m 8 r k v4 = sumM m 8 (m_n m) 0 0 → sumM m 9 r k v5 = sumM m 9 (m_n m) 0 0 → ∃ y, f_X12_counted_b24 N z n o (nI w) v2 v3 v4 v5 (some (o + 4)) (nI (m_n m)) (nI k) x = some (cntM m os.length w, y) ∧ Ag x y 0 (h_sz x) ∧ h_sz y = h_sz x + 1 ∧ h_sl y = h_sl x + 13
  | 0, r, k, v2, v3, v4, v5, x, m, h, hk, hn, hz, s5, s7, s8, s9 => absurd hn (by omega)
  | n + 1, 0, k, v2, v3, v4, v5, x, m, h, hk, hn, hz, s5, s7, s8, s9 => by
    have h6 := h.n6
    have hz' := hz
    unfold simE at hz'
    have ag : Ag x (p_n x 101 13 13) 0 (h_sz x) := pn_ag (Nat.le_refl _)
    have h2 := h.ag ag ⟨Nat.zero_le _, hz⟩
    have ko := h2.k
    have kq : h_k (p_n x 101 13 13) (h_sz x) = 101 := pn_k
    have nq : h_n (p_n x 101 13 13) (h_sz x) = 13 := pn_n
    have st : ∀ {β : Type} (u : Hp) (j : Nat) (F v : Int32) (K : Hp → Option β), F = nI j → j < 13 → h_k u = h_k (p_n x 101 13 13) → h_n u = h_n (p_n x 101 13 13) → asti (some (h_sz x)) u 101 F v K = K (p_ai u (h_sz x) j v) := by
      intro β u j F v K hF hj e1 e2
      subst hF
      exact asti_s (by rw [e1]; exact kq) (by rw [e2, nq]; exact hj) (by rw [e2, nq]; decide)
    have na : ∀ (K : Int32 → Option (Int32 × Hp)) (u : Hp), h_k u = h_k (p_n x 101 13 13) → h_n u = h_n (p_n x 101 13 13) → alen (some (o + 4)) u 106 K = K (nI (m_n m)) := by
      intro K u e1 e2
      obtain ⟨a1, a2, a3, a4, a5, a6, -⟩ := h2.1
      rw [alen_s (by rw [e1]; exact a5), e2, a6]
    have nf : ∀ (K : Int32 → Option (Int32 × Hp)) (u : Hp), h_k u = h_k (p_n x 101 13 13) → h_n u = h_n (p_n x 101 13 13) → alen (some (o + 5 + 2 * m_n m)) u 107 K = K (nI (m_m m)) := by
      intro K u e1 e2
      obtain ⟨a1, a2, a3, a4, a5, a6, a7, a8, a9, a10, -⟩ := h2.1
      rw [alen_s (by rw [e1]; exact a9), e2, a10]
    have no : ∀ (K : Int32 → Option (Int32 × Hp)) (u : Hp), h_k u = h_k (p_n x 101 13 13) → h_n u = h_n (p_n x 101 13 13) → alen (some (o + 6 + 2 * m_n m + m_m m)) u 107 K = K (nI os.length) := by
      intro K u e1 e2
      obtain ⟨a1, a2, -⟩ := h2.2.2.2.1
      rw [alen_s (by rw [e1]; exact a1), e2, a2]
    have gi : ∀ (f : Nat) (K : Int32 → Option (Int32 × Hp)) (u : Hp), h_k u = h_k (p_n x 101 13 13) → h_i u = h_i (p_n x 101 13 13) → geti (some o) u 15 f K = K (h_i (p_n x 101 13 13) f o) := by
      intro f K u e1 e2
      rw [geti_s (by rw [e1]; exact ko), e2]
    have gr : ∀ (f : Nat) (K : Option Nat → Option (Int32 × Hp)) (u : Hp), h_k u = h_k (p_n x 101 13 13) → h_r u = h_r (p_n x 101 13 13) → getr (some o) u 15 f K = K (h_r (p_n x 101 13 13) f o) := by
      intro f K u e1 e2
      rw [getr_s (by rw [e1]; exact ko), e2]
    obtain ⟨i1, i2, i3, i4, i5⟩ := h2.2.1
    obtain ⟨-, r1, r2, r3, -⟩ := h2.1
    rw [f_X12_counted_b24, if_pos (nI_le (by omega) (by omega)), show (13 : Int32) = nI 13 from rfl, newa_s (by decide), gi _ _ _ (by exact rfl) (by exact rfl), i1, st _ 0 0 _ _ rfl (by decide) (by exact rfl) (by exact rfl), gi _ _ _ (by exact rfl) (by exact rfl), i2, st _ 1 1 _ _ rfl (by decide) (by exact rfl) (by exact rfl), gr _ _ _ (by exact rfl) (by exact rfl), r1, na _ _ (by exact rfl) (by exact rfl), st _ 2 2 _ _ rfl (by decide) (by exact rfl) (by exact rfl), gr _ _ _ (by exact rfl) (by exact rfl), r2, nf _ _ (by exact rfl) (by exact rfl), st _ 3 3 _ _ rfl (by decide) (by exact rfl) (by exact rfl), gr _ _ _ (by exact rfl) (by exact rfl), r3, no _ _ (by exact rfl) (by exact rfl), st _ 4 4 _ _ rfl (by decide) (by exact rfl) (by exact rfl), st _ 5 5 _ _ rfl (by decide) (by exact rfl) (by exact rfl), gi _ _ _ (by exact rfl) (by exact rfl), i3, st _ 6 6 _ _ rfl (by decide) (by exact rfl) (by exact rfl), st _ 7 7 _ _ rfl (by decide) (by exact rfl) (by exact rfl), st _ 8 8 _ _ rfl (by decide) (by exact rfl) (by exact rfl), st _ 9 9 _ _ rfl (by decide) (by exact rfl) (by exact rfl), gi _ _ _ (by exact rfl) (by exact rfl), i4, st _ 10 10 _ _ rfl (by decide) (by exact rfl) (by exact rfl), gi _ _ _ (by exact rfl) (by exact rfl), i5, st _ 11 11 _ _ rfl (by decide) (by exact rfl) (by exact rfl), st _ 12 12 _ _ rfl (by decide) (by exact rfl) (by exact rfl), aldi_s (by exact kq) (by show w < h_n (p_n x 101 13 13) (h_sz x); rw [nq]; exact hw) (by show h_n (p_n x 101 13 13) (h_sz x) < 2 ^ 31; rw [nq]; decide)]
    have pa : ∀ (u : Hp) (j : Nat) (v : Int32), Ag u (p_ai u (h_sz x) j v) 0 (h_sz x) := fun u j v => pai_ag (Or.inl (Nat.le_refl _))
    have key : ∀ (a b : Int32) (h : Hp), a = b → some (a, h) = some (b, h) := fun a b h e => by rw [e]
    refine ⟨_, key _ _ _ ?_, ?_, rfl, rfl⟩
    rotate_left
    · exact (((((((((((((ag.tr (pa _ 0 _)).tr (pa _ 1 _)).tr (pa _ 2 _)).tr (pa _ 3 _)).tr (pa _ 4 _)).tr (pa _ 5 _)).tr (pa _ 6 _)).tr (pa _ 7 _)).tr (pa _ 8 _)).tr (pa _ 9 _)).tr (pa _ 10 _)).tr (pa _ 11 _)).tr (pa _ 12 _))
    have s5' : v2 = sumM m 5 (m_n m) 0 0 := s5
    have s7' : v3 = sumM m 7 (m_n m) 0 0 := s7
    have s8' : v4 = sumM m 8 (m_n m) 0 0 := s8
    have s9' : v5 = sumM m 9 (m_n m) 0 0 := s9
    have c : w = 0 ∨ w = 1 ∨ w = 2 ∨ w = 3 ∨ w = 4 ∨ w = 5 ∨ w = 6 ∨ w = 7 ∨ w = 8 ∨ w = 9 ∨ w = 10 ∨ w = 11 ∨ w = 12 := by omega
    unfold cntM tallyM
    rcases c with c | c | c | c | c | c | c | c | c | c | c | c | c <;> subst c <;> simp [HPAI, s5', s7', s8', s9']
  | n + 1, r + 1, k, v2, v3, v4, v5, x, m, h, hk, hn, hz, s5, s7, s8, s9 => by
    have h6 := h.n6
    have k2 : k < m_n m := by omega
    have hl := h.l k2
    have e86 := hl.g 86 271 rfl (by decide) (show 86 < 96 by decide)
    have e87 := hl.g 87 272 rfl (by decide) (show 87 < 96 by decide)
    have e88 := hl.g 88 274 rfl (by decide) (show 88 < 96 by decide)
    rw [f_X12_counted_b24, if_neg (nI_ge k2 (by omega)), h.al k2, geti_s hl.1, geti_s hl.1, geti_s hl.1, geti_s hl.1, hl.2.2.2.2.2.2.1, e86, e87, e88, nI_1]
    exact counted_l hw n r (k + 1) _ _ _ _ x m h (by omega) (by omega) hz s5 s7 s8 s9
theorem counted_s {x : Hp} {m : Md} {w : Nat} (hw : w < 13) (h : SimR x o m os L96) (hz : simE o m os ≤ h_sz x) (hN : 8 ≤ N) : ∃ y, f_X12_counted N z o (nI w) x = some (cntM m os.length w, y) ∧ Ag x y 0 (h_sz x) ∧ h_sz y = h_sz x + 1 ∧ h_sl y = h_sl x + 13 := by
  have h6 := h.n6
  unfold f_X12_counted
  rw [getr_s h.k, h.rl, h.an]
  exact counted_l hw N (m_n m) 0 0 0 0 0 x m h (by omega) (by omega) hz rfl rfl rfl rfl
end CD
