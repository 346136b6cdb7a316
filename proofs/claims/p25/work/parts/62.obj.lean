/-! ===== the whole object as it is made ===== -/
def dgt (c : Nat) : Bool := decide (48 ≤ c ∧ c ≤ 57)
/-- a word by its signs so far -/
def lng (w : Int64) (c : Nat) : Int64 := w * 64 + (if dgt c = true then ((nI c - 48) + 1).toInt64 else ((nI c - 97) + 11).toInt64)
def kwsOf : List Nat → Int64 → List Int64
  | [], _ => []
  | c :: t, w => if c = 32 then w :: kwsOf t 0 else kwsOf t (lng w c)
def kws : List Int64 := kwsOf (sB 0) 0
theorem kws_len : kws.length = 34 := by decide +kernel
section TN
variable {N : Nat} {z : Nat → Nat}
theorem isDigit_s {x : Hp} {c : Nat} (hc : c < 2 ^ 20) : f_X9_isDigit N z (nI c) x = some (if dgt c = true then 1 else 0, x) := by
  unfold f_X9_isDigit dgt
  by_cases a : c < 48
  · rw [if_pos (show nI c < (48 : Int32) from nI_lt (b := 48) a (by omega)), if_neg (by simp; omega)]
  · rw [if_neg (show ¬ nI c < (48 : Int32) from nI_nlt (b := 48) (by omega) (by omega))]
    by_cases b : 57 < c
    · rw [if_pos (show (57 : Int32) < nI c from nI_lt (a := 57) b (by omega)), if_neg (by simp; omega)]
    · rw [if_neg (show ¬ (57 : Int32) < nI c from nI_nlt (a := 57) (by omega) (by omega)), if_pos (by simp; omega)]
theorem longer_s {x : Hp} {c : Nat} {w : Int64} (hc : c < 2 ^ 20) : f_X9_longer N z w (nI c) x = some (lng w c, x) := by
  unfold f_X9_longer lng
  rw [isDigit_s hc, bnd_s]
  cases dgt c <;> rfl
/-- tokens, with their keywords -/
def KwP (x : Hp) (T : Nat) : Prop := h_k x T = 12 ∧ h_r x 220 T = some (T + 1) ∧ h_r x 221 T = some (T + 2) ∧ h_r x 222 T = some (T + 3) ∧ h_r x 223 T = some (T + 4) ∧ h_k x (T + 1) = 102 ∧ h_n x (T + 1) = 34 ∧ h_k x (T + 2) = 101 ∧ h_n x (T + 2) = 401 ∧ h_k x (T + 3) = 101 ∧ h_n x (T + 3) = 401 ∧ h_k x (T + 4) = 102 ∧ h_n x (T + 4) = 401
def TkS (x : Hp) (T : Nat) : Prop := KwP x T ∧ ∀ i, i < 34 → h_al x (T + 1) i = kws.getD i 0
theorem KwP.ag {x y : Hp} {T lo hi : Nat} (h : KwP x T) (g : Ag x y lo hi) (h1 : lo ≤ T ∧ T + 5 ≤ hi) : KwP y T := by
  obtain ⟨a1, a2, a3, a4, a5, a6, a7, a8, a9, a10, a11, a12, a13⟩ := h
  exact ⟨(g.k (by omega)).trans a1, (g.r (by omega)).trans a2, (g.r (by omega)).trans a3, (g.r (by omega)).trans a4, (g.r (by omega)).trans a5, (g.k (by omega)).trans a6, (g.n (by omega)).trans a7, (g.k (by omega)).trans a8, (g.n (by omega)).trans a9, (g.k (by omega)).trans a10, (g.n (by omega)).trans a11, (g.k (by omega)).trans a12, (g.n (by omega)).trans a13⟩
theorem TkS.ag {x y : Hp} {T lo hi : Nat} (h : TkS x T) (g : Ag x y lo hi) (h1 : lo ≤ T ∧ T + 5 ≤ hi) : TkS y T := ⟨h.1.ag g h1, fun i hi => by rw [g.al (by omega)]; exact h.2 i hi⟩
theorem kw_l {b0 T : Nat} (hb : b0 ≤ T) : ∀ (l pre : List Nat) (n c : Nat) (w : Int64) (x : Hp), Cn z b0 x → KwP x T → sB 0 = pre ++ l → c + (kwsOf l w).length = 34 → (∀ i, i < c → h_al x (T + 1) i = kws.getD i 0) → (∀ i, i < (kwsOf l w).length → (kwsOf l w).getD i 0 = kws.getD (c + i) 0) → l.length < n → ∃ y, f_X9_init_b46 N z n T (nI c) w (nI pre.length) x = some ((), y) ∧ TkS y T ∧ h_sz y = h_sz x ∧ h_sl y = h_sl x ∧ Ag x y 0 T
  | l, pre, 0, c, w, x, hC, hK, hs, hc, h1, h2, hn => absurd hn (by omega)
  | [], pre, n + 1, c, w, x, hC, hK, hs, hc, h1, h2, hn => by
    have s0 := (hC.1 0 (by decide)).2.2
    have hlen : (sB 0).length = pre.length := by rw [hs]; simp
    have hc34 : c = 34 := hc
    subst hc34
    rw [f_X9_init_b46, s0.o, str_len s0, bnd_s, hlen, if_pos (nI_le (Nat.le_refl _) (by have := s0.2.2.2.2.2.1; omega))]
    exact ⟨x, rfl, ⟨hK, h1⟩, rfl, rfl, Ag.rf⟩
  | d :: l, pre, n + 1, c, w, x, hC, hK, hs, hc, h1, h2, hn => by
    have s0 := (hC.1 0 (by decide)).2.2
    have l20 := s0.2.2.2.2.2.1
    have hlen : pre.length < (sB 0).length := by rw [hs]; simp
    have hget : (sB 0).getD pre.length 0 = d := by rw [hs]; simp [List.getD_eq_getElem?_getD]
    have hd : d < 128 := s0.2.2.2.2.2.2.1 d (by rw [hs]; simp)
    obtain ⟨a1, a2, a3, a4, a5, a6, a7, a8, a9, a10, a11, a12, a13⟩ := id hK
    rw [f_X9_init_b46, s0.o, str_len s0, bnd_s, if_neg (nI_ge hlen (by omega)), getr_s a1, a2, alen_s a6, a7]
    by_cases hc34 : 34 ≤ c
    · rw [if_pos (nI_le hc34 (by omega))]
      have : c = 34 := by omega
      subst this
      exact ⟨x, rfl, ⟨hK, h1⟩, rfl, rfl, Ag.rf⟩
    · rw [if_neg (nI_ge (by omega) (by omega)), s0.o, str_char s0 hlen, bnd_s, hget]
      unfold f_X9_init_b103
      have ep : nI pre.length + 1 = nI (pre ++ [d]).length := by rw [nI_1]; simp
      by_cases e : d = 32
      · subst e
        have hk : kwsOf (32 :: l) w = w :: kwsOf l 0 := by rw [kwsOf, if_pos rfl]
        rw [hk] at hc h2
        simp only [List.length_cons] at hc h2
        have g : Ag x (p_al x (T + 1) c w) 0 T := pal_ag (by omega)
        obtain ⟨y, f1, f2, f3, f4, f5⟩ := kw_l hb l (pre ++ [32]) n (c + 1) 0 (p_al x (T + 1) c w) (hC.ag g hb) ⟨a1, a2, a3, a4, a5, a6, a7, a8, a9, a10, a11, a12, a13⟩ (by rw [hs]; simp) (by omega) (fun i hi => by
          simp only [HPAL]
          by_cases q : i = c
          · rw [if_pos ⟨trivial, q⟩, q]
            have := h2 0 (by omega)
            exact this
          · rw [if_neg (fun p => q p.2)]
            exact h1 i (by omega)) (fun i hi => by
          have := h2 (i + 1) (by omega)
          rw [show c + 1 + i = c + (i + 1) by omega]
          exact this) (by simp at hn; omega)
        rw [if_pos (show nI 32 = (32 : Int32) from rfl), getr_s a1, a2, astl_s a6 (by omega) (by omega), ep, nI_1]
        exact ⟨y, f1, f2, f3, f4, g.tr f5⟩
      · have hk : kwsOf (d :: l) w = kwsOf l (lng w d) := by rw [kwsOf, if_neg e]
        rw [hk] at hc h2
        obtain ⟨y, f1, f2, f3, f4, f5⟩ := kw_l hb l (pre ++ [d]) n c (lng w d) x hC hK (by rw [hs]; simp) hc h1 h2 (by simp at hn; omega)
        rw [if_neg (show ¬ nI d = (32 : Int32) from fun q => e ((nI_eq (b := 32) (by omega) (by omega)).mp q)), longer_s (by omega), bnd_s, ep]
        exact ⟨y, f1, f2, f3, f4, f5⟩
theorem tokens_new {x : Hp} {b0 T : Nat} (hb : b0 ≤ T) (hC : Cn z b0 x) (hN : 401 ≤ N) (h : h_sz x = T + 1) (hk : h_k x T = 12) : ∃ y, f_X9_init N z T x = some ((), y) ∧ TkS y T ∧ h_sz y = T + 5 ∧ h_sl y = h_sl x + 1237 ∧ Ag x y 0 T := by
  obtain ⟨x1, hx1⟩ : ∃ x1, x1 = p_r (p_n x 102 34 34) 220 T (some (T + 1)) := ⟨_, rfl⟩
  obtain ⟨x2, hx2⟩ : ∃ x2, x2 = p_r (p_n x1 101 401 401) 221 T (some (T + 2)) := ⟨_, rfl⟩
  obtain ⟨x3, hx3⟩ : ∃ x3, x3 = p_r (p_n x2 101 401 401) 222 T (some (T + 3)) := ⟨_, rfl⟩
  obtain ⟨x4, hx4⟩ : ∃ x4, x4 = p_r (p_n x3 102 401 401) 223 T (some (T + 4)) := ⟨_, rfl⟩
  have z1 : h_sz x1 = T + 2 := by rw [hx1]; show h_sz x + 1 = _; omega
  have z2 : h_sz x2 = T + 3 := by rw [hx2]; show h_sz x1 + 1 = _; omega
  have z3 : h_sz x3 = T + 4 := by rw [hx3]; show h_sz x2 + 1 = _; omega
  have z4 : h_sz x4 = T + 5 := by rw [hx4]; show h_sz x3 + 1 = _; omega
  have k1' : h_k (p_n x 102 34 34) T = 12 := by rw [pnk, if_neg (by omega)]; exact hk
  have k1 : h_k x1 T = 12 := by rw [hx1]; exact k1'
  have k2' : h_k (p_n x1 101 401 401) T = 12 := by rw [pnk, if_neg (by omega)]; exact k1
  have k2 : h_k x2 T = 12 := by rw [hx2]; exact k2'
  have k3' : h_k (p_n x2 101 401 401) T = 12 := by rw [pnk, if_neg (by omega)]; exact k2
  have k3 : h_k x3 T = 12 := by rw [hx3]; exact k3'
  have k4' : h_k (p_n x3 102 401 401) T = 12 := by rw [pnk, if_neg (by omega)]; exact k3
  have G1 : Ag x x1 0 T := by rw [hx1]; exact (pn_ag (by omega)).tr (pr_ag (by omega))
  have G2 : ∀ lo hi, hi ≤ T + 2 → (hi ≤ T ∨ T < lo) → Ag x1 x2 lo hi := fun lo hi h1 h2 => by rw [hx2]; exact (pn_ag (by omega)).tr (pr_ag h2)
  have G3 : ∀ lo hi, hi ≤ T + 3 → (hi ≤ T ∨ T < lo) → Ag x2 x3 lo hi := fun lo hi h1 h2 => by rw [hx3]; exact (pn_ag (by omega)).tr (pr_ag h2)
  have G4 : ∀ lo hi, hi ≤ T + 4 → (hi ≤ T ∨ T < lo) → Ag x3 x4 lo hi := fun lo hi h1 h2 => by rw [hx4]; exact (pn_ag (by omega)).tr (pr_ag h2)
  have hK : KwP x4 T := by
    have a1 : h_k x1 (T + 1) = 102 ∧ h_n x1 (T + 1) = 34 := by rw [hx1]; exact ⟨by show h_k (p_n x 102 34 34) (T + 1) = 102; rw [pnk, if_pos h.symm], by show h_n (p_n x 102 34 34) (T + 1) = 34; rw [pnn, if_pos h.symm]⟩
    have a2 : h_k x2 (T + 2) = 101 ∧ h_n x2 (T + 2) = 401 := by rw [hx2]; exact ⟨by show h_k (p_n x1 101 401 401) (T + 2) = 101; rw [pnk, if_pos z1.symm], by show h_n (p_n x1 101 401 401) (T + 2) = 401; rw [pnn, if_pos z1.symm]⟩
    have a3 : h_k x3 (T + 3) = 101 ∧ h_n x3 (T + 3) = 401 := by rw [hx3]; exact ⟨by show h_k (p_n x2 101 401 401) (T + 3) = 101; rw [pnk, if_pos z2.symm], by show h_n (p_n x2 101 401 401) (T + 3) = 401; rw [pnn, if_pos z2.symm]⟩
    have a4 : h_k x4 (T + 4) = 102 ∧ h_n x4 (T + 4) = 401 := by rw [hx4]; exact ⟨by show h_k (p_n x3 102 401 401) (T + 4) = 102; rw [pnk, if_pos z3.symm], by show h_n (p_n x3 102 401 401) (T + 4) = 401; rw [pnn, if_pos z3.symm]⟩
    have r1 : h_r x1 220 T = some (T + 1) := by rw [hx1]; exact p_r_eq
    have r2 : h_r x2 220 T = some (T + 1) ∧ h_r x2 221 T = some (T + 2) := by rw [hx2]; exact ⟨by rw [p_r_ne (by decide), pnr, if_neg (by omega)]; exact r1, p_r_eq⟩
    have r3 : h_r x3 220 T = some (T + 1) ∧ h_r x3 221 T = some (T + 2) ∧ h_r x3 222 T = some (T + 3) := by rw [hx3]; exact ⟨by rw [p_r_ne (by decide), pnr, if_neg (by omega)]; exact r2.1, by rw [p_r_ne (by decide), pnr, if_neg (by omega)]; exact r2.2, p_r_eq⟩
    have r4 : h_r x4 220 T = some (T + 1) ∧ h_r x4 221 T = some (T + 2) ∧ h_r x4 222 T = some (T + 3) ∧ h_r x4 223 T = some (T + 4) := by rw [hx4]; exact ⟨by rw [p_r_ne (by decide), pnr, if_neg (by omega)]; exact r3.1, by rw [p_r_ne (by decide), pnr, if_neg (by omega)]; exact r3.2.1, by rw [p_r_ne (by decide), pnr, if_neg (by omega)]; exact r3.2.2, p_r_eq⟩
    have g24 : Ag x2 x4 (T + 2) (T + 3) := (G3 _ _ (by omega) (by omega)).tr (G4 _ _ (by omega) (by omega))
    have g14 : Ag x1 x4 (T + 1) (T + 2) := ((G2 _ _ (by omega) (by omega)).tr (G3 _ _ (by omega) (by omega))).tr (G4 _ _ (by omega) (by omega))
    have g34 : Ag x3 x4 (T + 3) (T + 4) := G4 _ _ (by omega) (by omega)
    exact ⟨by rw [hx4]; exact k4', r4.1, r4.2.1, r4.2.2.1, r4.2.2.2, (g14.k (by omega)).trans a1.1, (g14.n (by omega)).trans a1.2, (g24.k (by omega)).trans a2.1, (g24.n (by omega)).trans a2.2, (g34.k (by omega)).trans a3.1, (g34.n (by omega)).trans a3.2, a4.1, a4.2⟩
  have g0 : Ag x x4 0 T := ((G1.tr (G2 _ _ (by omega) (by omega))).tr (G3 _ _ (by omega) (by omega))).tr (G4 _ _ (by omega) (by omega))
  have hlen : (sB 0).length < N := Nat.lt_of_lt_of_le (by decide +kernel) hN
  obtain ⟨y, e1, e2, e3, e4, e5⟩ := kw_l (N := N) (z := z) hb (sB 0) [] N 0 0 x4 (hC.ag g0 hb) hK rfl (by show 0 + kws.length = 34; rw [kws_len]) (fun i hi => absurd hi (by omega)) (fun i hi => by rw [Nat.zero_add]; rfl) hlen
  refine ⟨y, ?_, e2, e3.trans z4, ?_, g0.tr e5⟩
  · unfold f_X9_init
    rw [nn_s, show (34 : Int32) = nI 34 from rfl, newa_s (by decide), h, putr_s k1', ← hx1, show (401 : Int32) = nI 401 from rfl, newa_s (by decide), z1, putr_s k2', ← hx2, newa_s (by decide), z2, putr_s k3', ← hx3, newa_s (by decide), z3, putr_s k4', ← hx4]
    exact e1
  · rw [e4, hx4]
    show h_sl x3 + 401 = _
    rw [hx3]
    show h_sl x2 + 401 + 401 = _
    rw [hx2]
    show h_sl x1 + 401 + 401 + 401 = _
    rw [hx1]
    show h_sl x + 34 + 401 + 401 + 401 = _
    omega
/-- the reader, apart from its site, book and tokens -/
def RdS (x : Hp) (R : Nat) : Prop := h_k x R = 8 ∧ h_r x 140 R = some (R + 1) ∧ h_r x 142 R = some (R + 56) ∧ h_r x 143 R = some (R + 61) ∧ h_r x 144 R = some (R + 62) ∧ h_k x (R + 61) = 102 ∧ h_n x (R + 61) = 6 ∧ h_k x (R + 62) = 102 ∧ h_n x (R + 62) = 8
theorem reader_new {x : Hp} {b0 R : Nat} (hb : b0 ≤ R) (hC : Cn z b0 x) (hN : 401 ≤ N) (h : h_sz x = R + 1) (hk : h_k x R = 8) : ∃ y, f_X5_init N z R x = some ((), y) ∧ RdS y R ∧ SiP y (R + 1) (R + 25) (R + 2) 6 8 ∧ Bk y (R + 2) [] [] ∧ TkS y (R + 56) ∧ h_sz y = R + 63 ∧ h_sl y = h_sl x + 3134 ∧ Ag x y 0 R := by
  obtain ⟨x1, hx1⟩ : ∃ x1, x1 = p_n (p_n x 9 0 11) 3 0 5 := ⟨_, rfl⟩
  have z1 : h_sz x1 = R + 2 + 1 := by rw [hx1]; show h_sz x + 1 + 1 = _; omega
  have G1 : Ag x x1 0 (R + 1) := by rw [hx1]; exact (pn_ag (by omega)).tr (pn_ag (by show R + 1 ≤ h_sz x + 1; omega))
  have zz : h_sz (p_n x 9 0 11) = R + 2 := by show h_sz x + 1 = _; omega
  have k3 : h_k x1 (R + 2) = 3 := by rw [hx1, pnk, if_pos zz.symm]
  have i3 : ∀ f, h_i x1 f (R + 2) = 0 := fun f => by rw [hx1, pni, if_pos zz.symm]
  have k9 : h_k x1 (R + 1) = 9 := by rw [hx1, pnk, if_neg (by omega), pnk, if_pos h.symm]
  have i9 : ∀ f, h_i x1 f (R + 1) = 0 := fun f => by rw [hx1, pni, if_neg (by omega), pni, if_pos h.symm]
  obtain ⟨x2, a1, a2, a3, a4, a5⟩ := book_new (N := N) (z := z) (by omega) z1 k3 i3
  have k9' : h_k x2 (R + 1) = 9 := (a5.k (by omega)).trans k9
  obtain ⟨x3, b1, b2, b3, b4, b5, b6, b7⟩ := site_new (N := N) (z := z) (x := x2) (s := R + 1) (t := R + 25) (B := R + 2) (by omega) (by omega) (by omega) k9' (fun f => (a5.i (by omega)).trans (i9 f))
  have kR3 : h_k x3 R = 8 := by rw [b6.k (by omega), a5.k (by omega), G1.k (by omega)]; exact hk
  obtain ⟨x4, hx4⟩ : ∃ x4, x4 = p_n (p_r x3 140 R (some (R + 1))) 12 0 5 := ⟨_, rfl⟩
  have z4 : h_sz x4 = R + 56 + 1 := by rw [hx4]; show h_sz x3 + 1 = _; omega
  have G4 : ∀ lo hi, hi ≤ R + 56 → (hi ≤ R ∨ R < lo) → Ag x3 x4 lo hi := fun lo hi h1 h2 => by rw [hx4]; exact (pr_ag h2).tr (pn_ag (by show hi ≤ h_sz x3; omega))
  have k12 : h_k x4 (R + 56) = 12 := by rw [hx4, pnk, if_pos (by show R + 56 = h_sz x3; omega)]
  have hC4 : Cn z b0 x4 := hC.ag (((G1.wd (Nat.le_refl _) (by omega)).tr (a5.wd (Nat.le_refl _) (by omega))).tr ((b6.wd (Nat.le_refl _) (by omega : R ≤ R + 1)).tr (G4 0 R (by omega) (by omega)))) hb
  obtain ⟨x5, c1, c2, c3, c4, c5⟩ := tokens_new (N := N) (z := z) (T := R + 56) (by omega) hC4 hN z4 k12
  have kR4 : h_k x4 R = 8 := by rw [hx4, pnk, if_neg (by show ¬ R = h_sz x3; omega)]; exact kR3
  have r140 : h_r x4 140 R = some (R + 1) := by rw [hx4, pnr, if_neg (by show ¬ R = h_sz x3; omega)]; exact p_r_eq
  have kR5 : h_k x5 R = 8 := (c5.k (by omega)).trans kR4
  obtain ⟨x6, hx6⟩ : ∃ x6, x6 = p_r (p_n (p_r x5 142 R (some (R + 56))) 102 6 6) 143 R (some (R + 61)) := ⟨_, rfl⟩
  have z6 : h_sz x6 = R + 62 := by rw [hx6]; show h_sz x5 + 1 = _; omega
  have G6 : ∀ lo hi, hi ≤ R + 61 → (hi ≤ R ∨ R < lo) → Ag x5 x6 lo hi := fun lo hi h1 h2 => by rw [hx6]; exact ((pr_ag h2).tr (pn_ag (by show hi ≤ h_sz x5; omega))).tr (pr_ag h2)
  have kR6' : h_k (p_n (p_r x5 142 R (some (R + 56))) 102 6 6) R = 8 := by rw [pnk, if_neg (by show ¬ R = h_sz x5; omega)]; exact kR5
  have kR6 : h_k x6 R = 8 := by rw [hx6]; exact kR6'
  obtain ⟨x7, hx7⟩ : ∃ x7, x7 = p_r (p_n x6 102 8 8) 144 R (some (R + 62)) := ⟨_, rfl⟩
  have G7 : ∀ lo hi, hi ≤ R + 62 → (hi ≤ R ∨ R < lo) → Ag x6 x7 lo hi := fun lo hi h1 h2 => by rw [hx7]; exact (pn_ag (by omega)).tr (pr_ag h2)
  have kR7' : h_k (p_n x6 102 8 8) R = 8 := by rw [pnk, if_neg (by omega)]; exact kR6
  refine ⟨x7, ?_, ?_, ?_, ?_, ?_, ?_, ?_, ?_⟩
  · unfold f_X5_init
    rw [nn_s, newo_s, h, newo_s, zz, ← hx1, obj_s k3, a1, bnd_s, obj_s k9', b1, bnd_s, putr_s kR3, newo_s, ← hx4, show h_sz (p_r x3 140 R (some (R + 1))) = R + 56 by show h_sz x3 = _; omega, obj_s k12, c1, bnd_s, putr_s kR5, show (6 : Int32) = nI 6 from rfl, newa_s (by decide), show h_sz (p_r x5 142 R (some (R + 56))) = R + 61 by show h_sz x5 = _; omega, putr_s kR6', ← hx6, show (8 : Int32) = nI 8 from rfl, newa_s (by decide), z6, putr_s kR7', ← hx7]
  · have q1 : h_r x5 140 R = some (R + 1) := (c5.r (by omega)).trans r140
    have q2 : h_r x6 140 R = some (R + 1) ∧ h_r x6 142 R = some (R + 56) ∧ h_r x6 143 R = some (R + 61) := by
      rw [hx6]
      refine ⟨?_, ?_, p_r_eq⟩
      · rw [p_r_ne (by decide), pnr, if_neg (by show ¬ R = h_sz x5; omega), p_r_ne (by decide)]; exact q1
      · rw [p_r_ne (by decide), pnr, if_neg (by show ¬ R = h_sz x5; omega)]; exact p_r_eq
    have q3 : h_k x6 (R + 61) = 102 ∧ h_n x6 (R + 61) = 6 := by
      rw [hx6]
      exact ⟨by show h_k (p_n (p_r x5 142 R (some (R + 56))) 102 6 6) (R + 61) = 102; rw [pnk, if_pos (by show R + 61 = h_sz x5; omega)], by show h_n (p_n (p_r x5 142 R (some (R + 56))) 102 6 6) (R + 61) = 6; rw [pnn, if_pos (by show R + 61 = h_sz x5; omega)]⟩
    have g7 := G7 (R + 61) (R + 62) (by omega) (by omega)
    refine ⟨by rw [hx7]; exact kR7', ?_, ?_, ?_, by rw [hx7]; exact p_r_eq, (g7.k (by omega)).trans q3.1, (g7.n (by omega)).trans q3.2, ?_, ?_⟩
    · rw [hx7, p_r_ne (by decide), pnr, if_neg (by omega)]; exact q2.1
    · rw [hx7, p_r_ne (by decide), pnr, if_neg (by omega)]; exact q2.2.1
    · rw [hx7, p_r_ne (by decide), pnr, if_neg (by omega)]; exact q2.2.2
    · rw [hx7]; show h_k (p_n x6 102 8 8) (R + 62) = 102; rw [pnk, if_pos z6.symm]
    · rw [hx7]; show h_n (p_n x6 102 8 8) (R + 62) = 8; rw [pnn, if_pos z6.symm]
  · have g : Ag x3 x7 (R + 1) (R + 56) := (((G4 _ _ (by omega) (by omega)).tr (c5.wd (by omega) (by omega))).tr (G6 _ _ (by omega) (by omega))).tr (G7 _ _ (by omega) (by omega))
    obtain ⟨h1, h2, h3, h4, h5, h6, h7, h8, h9, h10, h11, h12, h13, h14, h15, h16, h17⟩ := b2
    exact ⟨(g.k (by omega)).trans h1, (g.r (by omega)).trans h2, (g.r (by omega)).trans h3, (g.r (by omega)).trans h4, (g.r (by omega)).trans h5, (g.k (by omega)).trans h6, (g.n (by omega)).trans h7, fun k hk => by rw [g.ar (by omega)]; exact h8 k hk, (g.k (by omega)).trans h9, (g.n (by omega)).trans h10, fun k hk => by rw [g.ar (by omega)]; exact h11 k hk, (g.k (by omega)).trans h12, (g.r (by omega)).trans h13, (g.k (by omega)).trans h14, (g.n (by omega)).trans h15, fun k hk => ⟨(h16 k hk).1.ag g (by omega), (g.i (by omega)).trans (h16 k hk).2⟩, fun j hj => (g.k (by omega)).trans (h17 j hj)⟩
  · have g : Ag x2 x7 (R + 2) (R + 26) := (((b7.wd (by omega) (by omega)).tr (G4 _ _ (by omega) (by omega))).tr (c5.wd (by omega) (by omega))).tr ((G6 _ _ (by omega) (by omega)).tr (G7 _ _ (by omega) (by omega)))
    exact a2.ag g (by omega)
  · have g : Ag x5 x7 (R + 56) (R + 61) := (G6 _ _ (by omega) (by omega)).tr (G7 _ _ (by omega) (by omega))
    exact c2.ag g (by omega)
  · rw [hx7]; show h_sz x6 + 1 = _; omega
  · rw [hx7]
    show h_sl x6 + 8 = _
    rw [hx6]
    show h_sl x5 + 6 + 8 = _
    rw [c4, hx4]
    show h_sl x3 + 5 + 1237 + 6 + 8 = _
    rw [b5, a4, hx1]
    show h_sl x + 11 + 5 + 920 + 942 + 5 + 1237 + 6 + 8 = _
    omega
  · exact (((((G1.wd (Nat.le_refl _) (by omega)).tr (a5.wd (Nat.le_refl _) (by omega))).tr (b6.wd (Nat.le_refl _) (by omega : R ≤ R + 1))).tr (G4 0 R (by omega) (by omega))).tr (c5.wd (Nat.le_refl _) (by omega))).tr ((G6 0 R (by omega) (by omega)).tr (G7 0 R (by omega) (by omega)))
end TN
