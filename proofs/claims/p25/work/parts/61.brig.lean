/-! ===== strings, and what the object's constructor makes ===== -/
/-- a String of bytes below 128, its bytes at v -/
def StrR (x : Hp) (a v : Nat) (l : List Nat) : Prop := (h_k x a = 1 ∨ h_k x a = 201) ∧ h_i x 1 a = 0 ∧ h_r x 0 a = some v ∧ (h_k x v = 100 ∨ h_k x v = 300) ∧ h_n x v = l.length ∧ l.length < 2 ^ 20 ∧ (∀ c ∈ l, c < 128) ∧ ∀ j, j < l.length → h_ai x v j = nI (l.getD j 0)
theorem StrR.ag {x y : Hp} {a v lo hi : Nat} {l : List Nat} (h : StrR x a v l) (g : Ag x y lo hi) (h1 : lo ≤ a ∧ a < hi) (h2 : lo ≤ v ∧ v < hi) : StrR y a v l := by
  obtain ⟨s1, s2, s3, s4, s5, s6, s7, s8⟩ := h
  exact ⟨by rw [g.k h1]; exact s1, (g.i h1).trans s2, (g.r h1).trans s3, by rw [g.k h2]; exact s4, (g.n h2).trans s5, s6, s7, fun j hj => by rw [g.ai h2]; exact s8 j hj⟩
section SR
variable {N : Nat} {z : Nat → Nat} {x : Hp} {a v : Nat} {l : List Nat}
theorem StrR.o {β : Type} {k : Nat → Option β} (h : StrR x a v l) : objS (some a) x k = k a := by
  show (if h_k x a = 1 ∨ h_k x a = 201 then k a else none) = k a
  exact if_pos h.1
theorem StrR.b {β : Type} {k : Nat → Option β} (h : StrR x a v l) : objB (some v) x k = k v := by
  show (if h_k x v = 100 ∨ h_k x v = 300 then k v else none) = k v
  exact if_pos h.2.2.2.1
theorem StrR.gr {β : Type} {k : Option Nat → Option β} (h : StrR x a v l) : gsr (some a) x k = k (some v) := by
  have e : gsr (some a) x k = k (h_r x 0 a) := h.o (k := fun b => k (h_r x 0 b))
  rw [e, h.2.2.1]
theorem StrR.gi {β : Type} {k : Int32 → Option β} (h : StrR x a v l) : gsi (some a) x k = k 0 := by
  have e : gsi (some a) x k = k (h_i x 1 a) := h.o (k := fun b => k (h_i x 1 b))
  rw [e, h.2.1]
theorem StrR.al {β : Type} {k : Int32 → Option β} (h : StrR x a v l) : alenB (some v) x k = k (nI l.length) := by
  have e : alenB (some v) x k = k (nI (h_n x v)) := h.b (k := fun b => k (Int32.ofNat (h_n x b)))
  rw [e, h.2.2.2.2.1]
theorem StrR.ld {β : Type} {k : Int32 → Option β} {j : Nat} (h : StrR x a v l) (hj : j < l.length) : aldb (some v) x (nI j) k = k (nI (l.getD j 0)) := by
  have h6 := h.2.2.2.2.2.1
  have e : aldb (some v) x (nI j) k = if 0 ≤ (nI j).toInt ∧ (nI j).toInt < h_n x v then k (h_ai x v (nI j).toNatClampNeg) else none := h.b (k := fun b => if 0 ≤ (nI j).toInt ∧ (nI j).toInt < h_n x b then k (h_ai x b (nI j).toNatClampNeg) else none)
  rw [e, h.2.2.2.2.1, if_pos (nI_ix hj (by omega)), nI_clamp (by omega), h.2.2.2.2.2.2.2 j hj]
theorem shr0 (n : Nat) (h : n < 2 ^ 31) : nI n >>> ((0 : Int32) &&& 31) = nI n := by
  have := pk_shrN h ((0 : Int32) &&& 31) 0 (by decide)
  rw [this]
  simp
theorem str_coder (h : StrR x a v l) : f_J0_coder_7d493 N z a x = some (0, x) := by
  unfold f_J0_coder_7d493
  rw [if_neg (by decide), h.gi]
  rfl
theorem str_len (h : StrR x a v l) : f_J0_length_8abf5 N z a x = some (nI l.length, x) := by
  have h6 := h.2.2.2.2.2.1
  unfold f_J0_length_8abf5
  rw [h.gr, h.al, h.o, str_coder h, bnd_s, shr0 l.length (by omega)]
theorem chr_n {c : Nat} (hc : c < 128) : ((nI c &&& (255 : Int32)).toUInt32 % 65536).toInt32 = nI c := by
  rw [pk_andN (by omega) (m := (255 : Int32)) 8 (by decide), pk_char, pk_tn (by omega)]
  congr 1
  omega
theorem chr_s {β : Type} {c : Nat} {k : Option β} (hc : c < 128) : chr (nI c) k = k := by
  show (if 0 ≤ (nI c).toInt ∧ (nI c).toInt < 65536 then k else none) = k
  exact if_pos (by rw [nI_toInt (by omega)]; omega)
theorem str_char {j : Nat} (h : StrR x a v l) (hj : j < l.length) : f_J0_charAt_5068e N z a (nI j) x = some (nI (l.getD j 0), x) := by
  have h6 := h.2.2.2.2.2.1
  have hc : l.getD j 0 < 128 := by
    have e : l.getD j 0 = l[j] := by simp [List.getD_eq_getElem?_getD, hj]
    rw [e]
    exact h.2.2.2.2.2.2.1 _ (List.getElem_mem hj)
  have e1 : f_J0_isLatin1_aae02 N z a x = some (1, x) := by
    unfold f_J0_isLatin1_aae02
    rw [if_neg (by decide), h.gi, if_pos rfl]
  have e2 : f_J0_checkIndex_df160 N z (nI j) (nI l.length) x = some ((), x) := by
    unfold f_J0_checkIndex_df160 f_J3_checkIndex_8e157
    rw [if_neg (nI_pos (by omega)), if_pos (nI_lt hj (by omega)), bnd_s]
  have e3 : f_J1_charAt_3b067 N z (some v) (nI j) x = some (nI (l.getD j 0), x) := by
    unfold f_J1_charAt_3b067
    rw [h.al, e2, bnd_s, h.ld hj, chr_n hc, chr_s hc]
  unfold f_J0_charAt_5068e
  rw [h.o, e1, bnd_s, if_neg (by decide), h.gr, e3, bnd_s, chr_s hc]
end SR
/-- the bytes of the String constants -/
def sB (k : Nat) : List Nat := (gB.getD k []).map Int32.toNatClampNeg
theorem sB_ok : ∀ k, k < 46 → (gB.getD k []).length = (sB k).length ∧ (sB k).length < 2 ^ 20 ∧ (∀ c ∈ sB k, c < 128) ∧ ∀ j, j < (sB k).length → (gB.getD k []).getD j 0 = nI ((sB k).getD j 0) := by decide +kernel
/-- the constants, all below b0 -/
def Cn (z : Nat → Nat) (b0 : Nat) (x : Hp) : Prop := (∀ k, k < 46 → z k < b0 ∧ z (200 + k) < b0 ∧ StrR x (z k) (z (200 + k)) (sB k)) ∧ (z 100 < b0 ∧ h_k x (z 100) = 300 ∧ h_n x (z 100) = 100 ∧ ∀ j, j < 100 → h_ai x (z 100) j = nI (48 + j / 10)) ∧ (z 101 < b0 ∧ h_k x (z 101) = 300 ∧ h_n x (z 101) = 100 ∧ ∀ j, j < 100 → h_ai x (z 101) j = nI (48 + j % 10))
theorem Cn.ag {z : Nat → Nat} {b0 hi : Nat} {x y : Hp} (h : Cn z b0 x) (g : Ag x y 0 hi) (hb : b0 ≤ hi) : Cn z b0 y := by
  obtain ⟨h1, ⟨a1, a2, a3, a4⟩, ⟨b1, b2, b3, b4⟩⟩ := h
  exact ⟨fun k hk => by
    obtain ⟨c1, c2, c3⟩ := h1 k hk
    exact ⟨c1, c2, c3.ag g ⟨by omega, by omega⟩ ⟨by omega, by omega⟩⟩, ⟨a1, (g.k ⟨by omega, by omega⟩).trans a2, (g.n ⟨by omega, by omega⟩).trans a3, fun j hj => by rw [g.ai ⟨by omega, by omega⟩]; exact a4 j hj⟩, ⟨b1, (g.k ⟨by omega, by omega⟩).trans b2, (g.n ⟨by omega, by omega⟩).trans b3, fun j hj => by rw [g.ai ⟨by omega, by omega⟩]; exact b4 j hj⟩⟩
theorem St0.cn {z : Nat → Nat} {b L : Nat} {xs : Nat → Int32} {x : Hp} (h : St0 z b L xs x) : Cn z (h_sz x) x := by
  obtain ⟨h1, ⟨a1, a2, a3⟩, ⟨b1, b2, b3⟩, -, h5⟩ := h
  refine ⟨fun k hk => ?_, ⟨(h5 _ (by rw [a1]; decide)).2, a1, a2, a3⟩, ⟨(h5 _ (by rw [b1]; decide)).2, b1, b2, b3⟩⟩
  obtain ⟨c1, c2, c3, c4, c5, c6⟩ := h1 k hk
  obtain ⟨d1, d2, d3, d4⟩ := sB_ok k hk
  exact ⟨(h5 _ (by rw [c1]; decide)).2, (h5 _ (by rw [c4]; decide)).2, Or.inr c1, c2, c3, Or.inr c4, c5.trans d1, d2, d3, fun j hj => (c6 j (by omega)).trans (d4 j hj)⟩
section BN
variable {N : Nat} {z : Nat → Nat}
def BoP (x : Hp) (B i : Nat) : Prop := h_k x B = 3 ∧ h_r x 40 B = some (B + 1) ∧ h_r x 41 B = some (B + 2) ∧ h_r x 44 B = some (B + 3) ∧ h_k x (B + 1) = 101 ∧ h_n x (B + 1) = 400 ∧ h_k x (B + 2) = 101 ∧ h_n x (B + 2) = 400 ∧ h_k x (B + 3) = 105 ∧ h_n x (B + 3) = 20 ∧ (∀ j, j < i → h_ar x (B + 3) j = some (B + 4 + j) ∧ h_k x (B + 4 + j) = 6) ∧ h_i x 42 B = 0 ∧ h_i x 43 B = 0
theorem BoP.bk {x : Hp} {B : Nat} (h : BoP x B 20) : Bk x B [] [] := by
  obtain ⟨h1, h2, h3, h4, h5, h6, h7, h8, h9, h10, h11, h12, h13⟩ := h
  exact ⟨h1, h2, h3, h4, h5, h6, h7, h8, h9, h10, h11, h12, by simp, h13, by simp, fun i hi => absurd hi (by simp), fun i hi => absurd hi (by simp)⟩
theorem book_l {B : Nat} : ∀ (r n i : Nat) (x : Hp), BoP x B i → h_sz x = B + 4 + i → i + r = 20 → r < n → ∃ y, f_X0_init_b33 N z n B (nI i) x = some ((), y) ∧ BoP y B 20 ∧ h_sz y = B + 24 ∧ h_sl y = h_sl x + 5 * r ∧ Ag x y 0 B
  | r, 0, i, x, h, hz, hi, hr => absurd hr (by omega)
  | 0, n + 1, i, x, h, hz, hi, hr => by
    have h' := h
    obtain ⟨h1, h2, h3, h4, h5, h6, h7, h8, h9, h10, h11, h12, h13⟩ := h
    have e : i = 20 := by omega
    subst e
    rw [f_X0_init_b33, getr_s h1, h4, alen_s h9, h10, if_pos (nI_le (by omega) (by omega))]
    exact ⟨x, rfl, h', hz, rfl, Ag.rf⟩
  | r + 1, n + 1, i, x, h, hz, hi, hr => by
    obtain ⟨h1, h2, h3, h4, h5, h6, h7, h8, h9, h10, h11, h12, h13⟩ := h
    obtain ⟨u, hu⟩ : ∃ u, u = p_n x 6 0 5 := ⟨_, rfl⟩
    have g : Ag x u 0 (B + 4 + i) := by rw [hu]; exact pn_ag (by omega)
    have ku : h_k u (B + 4 + i) = 6 := by rw [hu, pnk, if_pos hz.symm]
    have k9 : h_k u (B + 3) = 105 := (g.k (by omega)).trans h9
    have n9 : h_n u (B + 3) = 20 := (g.n (by omega)).trans h10
    have hQ : BoP (p_ar u (B + 3) i (some (B + 4 + i))) B (i + 1) := by
      refine ⟨(g.k (by omega)).trans h1, (g.r (by omega)).trans h2, (g.r (by omega)).trans h3, (g.r (by omega)).trans h4, (g.k (by omega)).trans h5, (g.n (by omega)).trans h6, (g.k (by omega)).trans h7, (g.n (by omega)).trans h8, k9, n9, fun j hj => ⟨?_, ?_⟩, (g.i (by omega)).trans h12, (g.i (by omega)).trans h13⟩
      · simp only [HPAR]
        by_cases c : j = i
        · rw [if_pos ⟨trivial, c⟩, c]
        · rw [if_neg (fun q => c q.2), g.ar (by omega)]
          exact (h11 j (by omega)).1
      · by_cases c : j = i
        · rw [c]; exact ku
        · exact (g.k (by omega)).trans (h11 j (by omega)).2
    obtain ⟨y, e1, e2, e3, e4, e5⟩ := book_l r n (i + 1) (p_ar u (B + 3) i (some (B + 4 + i))) hQ (by rw [hu]; show h_sz x + 1 = _; omega) (by omega) (by omega)
    refine ⟨y, ?_, e2, e3, ?_, ((g.wd (Nat.le_refl _) (by omega)).tr (par_ag (by omega))).tr e5⟩
    · rw [f_X0_init_b33, getr_s h1, h4, alen_s h9, h10, if_neg (nI_ge (by omega) (by omega)), getr_s h1, h4, newo_s, hz, ← hu, obj_s ku]
      unfold f_X3_init
      rw [nn_s, bnd_s]
      unfold astr
      rw [idx_s k9 (by omega) (by omega), nI_1]
      simp only [if_pos ku]
      exact e1
    · rw [e4, hu]
      show h_sl x + 5 + 5 * r = _
      omega
theorem book_new {x : Hp} {B : Nat} (hN : 21 ≤ N) (h : h_sz x = B + 1) (hk : h_k x B = 3) (hi : ∀ f, h_i x f B = 0) : ∃ y, f_X0_init N z B x = some ((), y) ∧ Bk y B [] [] ∧ h_sz y = B + 24 ∧ h_sl y = h_sl x + 920 ∧ Ag x y 0 B := by
  obtain ⟨x1, hx1⟩ : ∃ x1, x1 = p_r (p_n x 101 400 400) 40 B (some (B + 1)) := ⟨_, rfl⟩
  obtain ⟨x2, hx2⟩ : ∃ x2, x2 = p_r (p_n x1 101 400 400) 41 B (some (B + 2)) := ⟨_, rfl⟩
  obtain ⟨x3, hx3⟩ : ∃ x3, x3 = p_r (p_n x2 105 20 20) 44 B (some (B + 3)) := ⟨_, rfl⟩
  have z1 : h_sz x1 = B + 2 := by rw [hx1]; show h_sz x + 1 = _; omega
  have z2 : h_sz x2 = B + 3 := by rw [hx2]; show h_sz x1 + 1 = _; omega
  have z3 : h_sz x3 = B + 4 := by rw [hx3]; show h_sz x2 + 1 = _; omega
  have k1' : h_k (p_n x 101 400 400) B = 3 := by rw [pnk, if_neg (by omega)]; exact hk
  have k1 : h_k x1 B = 3 := by rw [hx1]; exact k1'
  have k2' : h_k (p_n x1 101 400 400) B = 3 := by rw [pnk, if_neg (by omega)]; exact k1
  have k2 : h_k x2 B = 3 := by rw [hx2]; exact k2'
  have k3' : h_k (p_n x2 105 20 20) B = 3 := by rw [pnk, if_neg (by omega)]; exact k2
  have g1 : ∀ lo, B < lo → Ag (p_n x 101 400 400) x1 lo (B + 2) := fun lo h => by rw [hx1]; exact pr_ag (by omega)
  have hP : BoP x3 B 0 := by
    have a1 : h_k x1 (B + 1) = 101 := by rw [hx1]; show h_k (p_n x 101 400 400) (B + 1) = 101; rw [pnk, if_pos h.symm]
    have a2 : h_n x1 (B + 1) = 400 := by rw [hx1]; show h_n (p_n x 101 400 400) (B + 1) = 400; rw [pnn, if_pos h.symm]
    have b1 : h_k x2 (B + 1) = 101 := by rw [hx2]; show h_k (p_n x1 101 400 400) (B + 1) = 101; rw [pnk, if_neg (by omega)]; exact a1
    have b2 : h_n x2 (B + 1) = 400 := by rw [hx2]; show h_n (p_n x1 101 400 400) (B + 1) = 400; rw [pnn, if_neg (by omega)]; exact a2
    have b3 : h_k x2 (B + 2) = 101 := by rw [hx2]; show h_k (p_n x1 101 400 400) (B + 2) = 101; rw [pnk, if_pos z1.symm]
    have b4 : h_n x2 (B + 2) = 400 := by rw [hx2]; show h_n (p_n x1 101 400 400) (B + 2) = 400; rw [pnn, if_pos z1.symm]
    have r1 : h_r x1 40 B = some (B + 1) := by rw [hx1]; exact p_r_eq
    have r2 : h_r x2 40 B = some (B + 1) := by rw [hx2, p_r_ne (by decide), pnr, if_neg (by omega)]; exact r1
    have r3 : h_r x2 41 B = some (B + 2) := by rw [hx2]; exact p_r_eq
    have i1 : ∀ f, h_i x1 f B = 0 := fun f => by rw [hx1]; show h_i (p_n x 101 400 400) f B = 0; rw [pni, if_neg (by omega)]; exact hi f
    have i2 : ∀ f, h_i x2 f B = 0 := fun f => by rw [hx2]; show h_i (p_n x1 101 400 400) f B = 0; rw [pni, if_neg (by omega)]; exact i1 f
    rw [hx3]
    refine ⟨k3', ?_, ?_, p_r_eq, ?_, ?_, ?_, ?_, ?_, ?_, fun j hj => absurd hj (by omega), ?_, ?_⟩
    · rw [p_r_ne (by decide), pnr, if_neg (by omega)]; exact r2
    · rw [p_r_ne (by decide), pnr, if_neg (by omega)]; exact r3
    · show h_k (p_n x2 105 20 20) (B + 1) = 101; rw [pnk, if_neg (by omega)]; exact b1
    · show h_n (p_n x2 105 20 20) (B + 1) = 400; rw [pnn, if_neg (by omega)]; exact b2
    · show h_k (p_n x2 105 20 20) (B + 2) = 101; rw [pnk, if_neg (by omega)]; exact b3
    · show h_n (p_n x2 105 20 20) (B + 2) = 400; rw [pnn, if_neg (by omega)]; exact b4
    · show h_k (p_n x2 105 20 20) (B + 3) = 105; rw [pnk, if_pos z2.symm]
    · show h_n (p_n x2 105 20 20) (B + 3) = 20; rw [pnn, if_pos z2.symm]
    · show h_i (p_n x2 105 20 20) 42 B = 0; rw [pni, if_neg (by omega)]; exact i2 42
    · show h_i (p_n x2 105 20 20) 43 B = 0; rw [pni, if_neg (by omega)]; exact i2 43
  obtain ⟨y, e1, e2, e3, e4, e5⟩ := book_l (N := N) (z := z) 20 N 0 x3 hP z3 (by omega) (by omega)
  have g0 : Ag x x3 0 B := by
    rw [hx3, hx2, hx1]
    exact (((((pn_ag (by omega)).tr (pr_ag (by omega))).tr (pn_ag (by show B ≤ h_sz x + 1; omega))).tr (pr_ag (by omega))).tr (pn_ag (by show B ≤ h_sz x + 1 + 1; omega))).tr (pr_ag (by omega))
  refine ⟨y, ?_, e2.bk, e3, ?_, g0.tr e5⟩
  · unfold f_X0_init
    rw [nn_s, show (400 : Int32) = nI 400 from rfl, newa_s (by decide), h, putr_s k1', ← hx1, newa_s (by decide), z1, putr_s k2', ← hx2, show (20 : Int32) = nI 20 from rfl, newa_s (by decide), z2, putr_s k3', ← hx3]
    exact e1
  · rw [e4, hx3]
    show h_sl x2 + 20 + 5 * 20 = _
    rw [hx2]
    show h_sl x1 + 400 + 20 + 5 * 20 = _
    rw [hx1]
    show h_sl x + 400 + 400 + 20 + 5 * 20 = _
    omega
end BN
