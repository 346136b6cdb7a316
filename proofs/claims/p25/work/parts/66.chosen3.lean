/-! ===== folk and orders that cells choose; the whole site chosen ===== -/
section C3
variable {N : Nat} {z : Nat → Nat} {b L : Nat}
/-- a row of ints with so many places -/
def Rw (x : Hp) (q len : Nat) (g : Nat → Int32) : Prop := h_k x q = 101 ∧ h_n x q = len ∧ ∀ j, h_ai x q j = g j
theorem Rw.pi {x : Hp} {q len j : Nat} {g : Nat → Int32} {v : Int32} (h : Rw x q len g) : Rw (p_ai x q j v) q len (up1 g j v) := by
  refine ⟨h.1, h.2.1, fun i => ?_⟩
  simp only [HPAI, up1]
  by_cases c : i = j
  · rw [if_pos ⟨trivial, c⟩, if_pos c]
  · rw [if_neg (fun q => c q.2), if_neg c]
    exact h.2.2 i
theorem Rw.st {β : Type} {x : Hp} {q len j : Nat} {g : Nat → Int32} {F v : Int32} {K : Hp → Option β} (h : Rw x q len g) (hF : F = nI j) (hj : j < len) (hl : len < 100) : asti (some q) x 101 F v K = K (p_ai x q j v) := by
  subst hF
  exact asti_s h.1 (by rw [h.2.1]; exact hj) (by rw [h.2.1]; omega)
theorem Rw.ag {x y : Hp} {q len lo hi : Nat} {g : Nat → Int32} (h : Rw x q len g) (a : Ag x y lo hi) (h1 : lo ≤ q ∧ q < hi) : Rw y q len g := ⟨(a.k h1).trans h.1, (a.n h1).trans h.2.1, fun j => by rw [a.ai h1]; exact h.2.2 j⟩
variable {k315 : Option Nat → Option Nat → Int32 → Int32 → Int32 → Hp → Option (Option Nat × Hp)} {v0 v1 : Option Nat} {v2 v3 v5 : Int32} {j q fa m : Nat}
theorem ch_434 {x : Hp} {g : Nat → Int32} {d : Nat} {s0 s1 : Int32} (h : Rw x q 5 g) (hf : h_k x fa = 107 ∧ h_n x fa = m) (hj : j < m) (hm : m ≤ 6) (h0 : s0 = nI d) (hd : 0 < d) (hd2 : d ≤ 100) : ∃ r y, f_L_chosen_b434 N z k315 v0 v1 v2 v3 (nI j) s0 s1 3 (some q) (some q) (nI j) (some fa) x = k315 v0 v1 v2 v3 (nI (j + 1)) (p_ar y fa j (some q)) ∧ r ≤ 99 ∧ Rw y q 5 (up1 (up1 g 3 (nI r)) 4 0) ∧ y = p_ai (p_ai x q 3 (nI r)) q 4 0 := by
  obtain ⟨r, r1, r2⟩ := below_s (N := N) (z := z) s1 hd (by omega)
  refine ⟨r, _, ?_, by omega, h.pi.pi, rfl⟩
  unfold f_L_chosen_b434
  rw [h0, r2, bnd_s, h.st (F := 3) (j := 3) rfl (by decide) (by decide), (h.pi (j := 3) (v := nI r)).st (F := 4) (j := 4) rfl (by decide) (by decide), nn_s, astr_s (by exact hf.1) (by show j < h_n x fa; omega) (by show h_n x fa < _; omega) (by exact h.1), nI_1]
theorem ch_407 {x : Hp} {g : Nat → Int32} {d : Nat} {s0 s1 : Int32} (h : Rw x q 5 g) (hf : h_k x fa = 107 ∧ h_n x fa = m) (hj : j < m) (hm : m ≤ 6) (h0 : s0 = nI d) (hd : 0 < d) (hd2 : d ≤ 30) : ∃ g2 r y, f_L_chosen_b407 N z k315 v0 v1 v2 v3 (nI j) v5 s0 s1 1 2 (some q) (some q) (nI j) (some fa) x = k315 v0 v1 v2 v3 (nI (j + 1)) (p_ar y fa j (some q)) ∧ 1 ≤ g2 ∧ g2 ≤ 30 ∧ r ≤ 99 ∧ Rw y q 5 (up1 (up1 (up1 g 2 (nI g2)) 3 (nI r)) 4 0) ∧ y = p_ai (p_ai (p_ai x q 2 (nI g2)) q 3 (nI r)) q 4 0 := by
  obtain ⟨e, e1, e2⟩ := below_s (N := N) (z := z) s1 hd (by omega)
  obtain ⟨f, f1, f2⟩ := below_s (N := N) (z := z) v5 (k := 3) (by decide) (by decide)
  have f2' : ∀ x : Hp, f_L_below N z v5 3 x = some (nI f, x) := f2
  have h1 := h.pi (j := 2) (v := nI (1 + e))
  have go : ∀ s (d : Nat), s = nI d → 0 < d → d ≤ 100 → ∃ g2 r y, f_L_chosen_b434 N z k315 v0 v1 v2 v3 (nI j) s (v5 >>> ((4 : Int32) &&& 31)) 3 (some q) (some q) (nI j) (some fa) (p_ai x q 2 (nI (1 + e))) = k315 v0 v1 v2 v3 (nI (j + 1)) (p_ar y fa j (some q)) ∧ 1 ≤ g2 ∧ g2 ≤ 30 ∧ r ≤ 99 ∧ Rw y q 5 (up1 (up1 (up1 g 2 (nI g2)) 3 (nI r)) 4 0) ∧ y = p_ai (p_ai (p_ai x q 2 (nI g2)) q 3 (nI r)) q 4 0 := by
    intro s d a1 a2 a3
    obtain ⟨r, y, b1, b2, b3, b4⟩ := ch_434 (N := N) (z := z) (k315 := k315) (v0 := v0) (v1 := v1) (v2 := v2) (v3 := v3) (s1 := v5 >>> ((4 : Int32) &&& 31)) (fa := fa) h1 hf hj hm a1 a2 a3
    exact ⟨1 + e, r, y, b1, by omega, by omega, b2, b3, b4⟩
  unfold f_L_chosen_b407
  rw [h0, e2, bnd_s, show (1 : Int32) = nI 1 from rfl, nI_add, h.st (F := 2) (j := 2) rfl (by decide) (by decide), f2', bnd_s]
  by_cases c : nI f = 0
  · rw [if_pos c]; exact go 100 100 rfl (by decide) (by decide)
  · rw [if_neg c]; exact go 6 6 rfl (by decide) (by decide)
theorem ch_380 {x : Hp} {g : Nat → Int32} {d : Nat} {s0 s1 : Int32} (h : Rw x q 5 g) (hf : h_k x fa = 107 ∧ h_n x fa = m) (hj : j < m) (hm : m ≤ 6) (h0 : s0 = nI d) (hd : 0 < d) (hd2 : d ≤ 30) : ∃ g1 g2 r y, f_L_chosen_b380 N z k315 v0 v1 v2 v3 (nI j) v5 s0 s1 1 1 (some q) (some q) (nI j) (some fa) x = k315 v0 v1 v2 v3 (nI (j + 1)) (p_ar y fa j (some q)) ∧ 1 ≤ g1 ∧ g1 ≤ 30 ∧ 1 ≤ g2 ∧ g2 ≤ 30 ∧ r ≤ 99 ∧ Rw y q 5 (up1 (up1 (up1 (up1 g 1 (nI g1)) 2 (nI g2)) 3 (nI r)) 4 0) ∧ y = p_ai (p_ai (p_ai (p_ai x q 1 (nI g1)) q 2 (nI g2)) q 3 (nI r)) q 4 0 := by
  obtain ⟨e, e1, e2⟩ := below_s (N := N) (z := z) s1 hd (by omega)
  obtain ⟨f, f1, f2⟩ := below_s (N := N) (z := z) v5 (k := 3) (by decide) (by decide)
  have f2' : ∀ x : Hp, f_L_below N z v5 3 x = some (nI f, x) := f2
  have h1 := h.pi (j := 1) (v := nI (1 + e))
  have go : ∀ s (d : Nat), s = nI d → 0 < d → d ≤ 30 → ∃ g1 g2 r y, f_L_chosen_b407 N z k315 v0 v1 v2 v3 (nI j) v5 s (v5 >>> ((3 : Int32) &&& 31)) 1 2 (some q) (some q) (nI j) (some fa) (p_ai x q 1 (nI (1 + e))) = k315 v0 v1 v2 v3 (nI (j + 1)) (p_ar y fa j (some q)) ∧ 1 ≤ g1 ∧ g1 ≤ 30 ∧ 1 ≤ g2 ∧ g2 ≤ 30 ∧ r ≤ 99 ∧ Rw y q 5 (up1 (up1 (up1 (up1 g 1 (nI g1)) 2 (nI g2)) 3 (nI r)) 4 0) ∧ y = p_ai (p_ai (p_ai (p_ai x q 1 (nI g1)) q 2 (nI g2)) q 3 (nI r)) q 4 0 := by
    intro s d a1 a2 a3
    obtain ⟨g2, r, y, b1, b2, b3, b4, b5, b6⟩ := ch_407 (N := N) (z := z) (k315 := k315) (v0 := v0) (v1 := v1) (v2 := v2) (v3 := v3) (v5 := v5) (s1 := v5 >>> ((3 : Int32) &&& 31)) (fa := fa) h1 hf hj hm a1 a2 a3
    exact ⟨1 + e, g2, r, y, b1, by omega, by omega, b2, b3, b4, b5, b6⟩
  unfold f_L_chosen_b380
  rw [h0, e2, bnd_s, show (1 : Int32) = nI 1 from rfl, nI_add, h.st (j := 1) rfl (by decide) (by decide), f2', bnd_s]
  by_cases c : nI f = 0
  · rw [if_pos c]; exact go 30 30 rfl (by decide) (by decide)
  · rw [if_neg c]; exact go 4 4 rfl (by decide) (by decide)
end C3
section C4
variable {N : Nat} {z : Nat → Nat} {b L : Nat}
def ChF (x : Hp) (fa j n : Nat) (G : Nat → Nat → Nat) : Prop := ∀ i, i < j → h_ar x fa i = some (fa + 1 + i) ∧ h_k x (fa + 1 + i) = 101 ∧ h_n x (fa + 1 + i) = 5 ∧ (h_ai x (fa + 1 + i) 0 = nI (G i 0) ∧ h_ai x (fa + 1 + i) 1 = nI (G i 1) ∧ h_ai x (fa + 1 + i) 2 = nI (G i 2) ∧ h_ai x (fa + 1 + i) 3 = nI (G i 3) ∧ h_ai x (fa + 1 + i) 4 = 0) ∧ FoOk n (G i)
theorem ChF.ag {x y : Hp} {fa j n lo hi : Nat} {G : Nat → Nat → Nat} (h : ChF x fa j n G) (g : Ag x y lo hi) (h1 : lo ≤ fa ∧ fa + 1 + j ≤ hi) : ChF y fa j n G := fun i hi => by
  obtain ⟨a1, a2, a3, ⟨a4, a5, a6, a7, a8⟩, a9⟩ := h i hi
  exact ⟨by rw [g.ar (by omega)]; exact a1, (g.k (by omega)).trans a2, (g.n (by omega)).trans a3, ⟨by rw [g.ai (by omega)]; exact a4, by rw [g.ai (by omega)]; exact a5, by rw [g.ai (by omega)]; exact a6, by rw [g.ai (by omega)]; exact a7, by rw [g.ai (by omega)]; exact a8⟩, a9⟩
def ChO (x : Hp) (oa i n : Nat) (os : List (Nat → Nat)) : Prop := os.length = i ∧ (∀ r ∈ os, RawO n r) ∧ ∀ j, j < i → h_ar x oa j = some (oa + 1 + j) ∧ h_k x (oa + 1 + j) = 101 ∧ h_n x (oa + 1 + j) = 8 ∧ ∀ f, f < 8 → h_ai x (oa + 1 + j) f = nI (os.getD j (fun _ => 0) f)
theorem ord_row {x : Hp} {q n i oa cn : Nat} {c : Int32} {K : Hp → Option (Option Nat × Hp)} (hz : h_sz x = q) (hn : 1 ≤ n) (hn5 : n ≤ 5) (ho : h_k x oa = 107 ∧ h_n x oa = cn) (hi : i < cn) (hc : cn ≤ 6) (hq : oa < q) : ∃ r y, (newa x 101 (8 : Int32) fun r49 x50 => bnd (f_L_below N z (c) (3 : Int32) x50) fun i52 x51 => asti r49 x51 101 (0 : Int32) i52 fun x53 => bnd (f_L_below N z (c >>> ((1 : Int32) &&& 31)) (nI n) x53) fun i55 x54 => asti r49 x54 101 (1 : Int32) i55 fun x56 => bnd (f_L_below N z (c >>> ((2 : Int32) &&& 31)) (7 : Int32) x56) fun i58 x57 => asti r49 x57 101 (2 : Int32) i58 fun x59 => bnd (f_L_below N z (c >>> ((3 : Int32) &&& 31)) (nI n) x59) fun i61 x60 => asti r49 x60 101 (3 : Int32) i61 fun x62 => bnd (f_L_below N z (c >>> ((4 : Int32) &&& 31)) (31 : Int32) x62) fun i64 x63 => asti r49 x63 101 (4 : Int32) i64 fun x65 => bnd (f_L_below N z (c >>> ((5 : Int32) &&& 31)) (7 : Int32) x65) fun i67 x66 => asti r49 x66 101 (5 : Int32) i67 fun x68 => bnd (f_L_below N z (c >>> ((6 : Int32) &&& 31)) (nI n) x68) fun i70 x69 => asti r49 x69 101 (6 : Int32) i70 fun x71 => bnd (f_L_below N z (c >>> ((7 : Int32) &&& 31)) (25 : Int32) x71) fun i73 x72 => asti r49 x72 101 (7 : Int32) i73 fun x74 => nn r49 fun _ => astr (some oa) x74 107 101 (nI i) r49 fun x75 => K x75) = K (p_ar y oa i (some q)) ∧ RawO n r ∧ (h_k y q = 101 ∧ h_n y q = 8 ∧ ∀ f, f < 8 → h_ai y q f = nI (r f)) ∧ Ag x y 0 q ∧ h_sz y = q + 1 ∧ h_sl y = h_sl x + 8 := by
  obtain ⟨a0, b0, c0⟩ := below_s (N := N) (z := z) c (k := 3) (by decide) (by decide)
  obtain ⟨a1, b1, c1⟩ := below_s (N := N) (z := z) (c >>> ((1 : Int32) &&& 31)) (k := n) (by omega) (by omega)
  obtain ⟨a2, b2, c2⟩ := below_s (N := N) (z := z) (c >>> ((2 : Int32) &&& 31)) (k := 7) (by decide) (by decide)
  obtain ⟨a3, b3, c3⟩ := below_s (N := N) (z := z) (c >>> ((3 : Int32) &&& 31)) (k := n) (by omega) (by omega)
  obtain ⟨a4, b4, c4⟩ := below_s (N := N) (z := z) (c >>> ((4 : Int32) &&& 31)) (k := 31) (by decide) (by decide)
  obtain ⟨a5, b5, c5⟩ := below_s (N := N) (z := z) (c >>> ((5 : Int32) &&& 31)) (k := 7) (by decide) (by decide)
  obtain ⟨a6, b6, c6⟩ := below_s (N := N) (z := z) (c >>> ((6 : Int32) &&& 31)) (k := n) (by omega) (by omega)
  obtain ⟨a7, b7, c7⟩ := below_s (N := N) (z := z) (c >>> ((7 : Int32) &&& 31)) (k := 25) (by decide) (by decide)
  have c0' : ∀ x : Hp, f_L_below N z c 3 x = some (nI a0, x) := c0
  have c2' : ∀ x : Hp, f_L_below N z (c >>> ((2 : Int32) &&& 31)) 7 x = some (nI a2, x) := c2
  have c4' : ∀ x : Hp, f_L_below N z (c >>> ((4 : Int32) &&& 31)) 31 x = some (nI a4, x) := c4
  have c5' : ∀ x : Hp, f_L_below N z (c >>> ((5 : Int32) &&& 31)) 7 x = some (nI a5, x) := c5
  have c7' : ∀ x : Hp, f_L_below N z (c >>> ((7 : Int32) &&& 31)) 25 x = some (nI a7, x) := c7
  have w0 : Rw (p_n x 101 8 8) q 8 (fun _ => 0) := ⟨by rw [pnk, if_pos hz.symm], by rw [pnn, if_pos hz.symm], fun j => by show (if q = h_sz x then (0 : Int32) else h_ai x q j) = 0; rw [if_pos hz.symm]⟩
  have w1 := w0.pi (j := 0) (v := nI a0)
  have w2 := w1.pi (j := 1) (v := nI a1)
  have w3 := w2.pi (j := 2) (v := nI a2)
  have w4 := w3.pi (j := 3) (v := nI a3)
  have w5 := w4.pi (j := 4) (v := nI a4)
  have w6 := w5.pi (j := 5) (v := nI a5)
  have w7 := w6.pi (j := 6) (v := nI a6)
  have w8 := w7.pi (j := 7) (v := nI a7)
  have ag : Ag x (p_n x 101 8 8) 0 q := pn_ag (by omega)
  have pa : ∀ (u : Hp) (j : Nat) (v : Int32), Ag u (p_ai u q j v) 0 q := fun u j v => pai_ag (Or.inl (Nat.le_refl _))
  refine ⟨fun f => if f = 0 then a0 else if f = 1 then a1 else if f = 2 then a2 else if f = 3 then a3 else if f = 4 then a4 else if f = 5 then a5 else if f = 6 then a6 else a7, _, ?_, ⟨b0, b1, b2, b3, b4, b5, b6, b7⟩, ⟨w8.1, w8.2.1, fun f hf => ?_⟩, ((((((((ag.tr (pa _ 0 _)).tr (pa _ 1 _)).tr (pa _ 2 _)).tr (pa _ 3 _)).tr (pa _ 4 _)).tr (pa _ 5 _)).tr (pa _ 6 _)).tr (pa _ 7 _)), ?_, rfl⟩
  · rw [show (8 : Int32) = nI 8 from rfl, newa_s (by decide), hz, c0', bnd_s, w0.st (F := 0) (j := 0) rfl (by decide) (by decide), c1, bnd_s, w1.st (F := 1) (j := 1) rfl (by decide) (by decide), c2', bnd_s, w2.st (F := 2) (j := 2) rfl (by decide) (by decide), c3, bnd_s, w3.st (F := 3) (j := 3) rfl (by decide) (by decide), c4', bnd_s, w4.st (F := 4) (j := 4) rfl (by decide) (by decide), c5', bnd_s, w5.st (F := 5) (j := 5) rfl (by decide) (by decide), c6, bnd_s, w6.st (F := 6) (j := 6) rfl (by decide) (by decide), c7', bnd_s, w7.st (F := 7) (j := 7) rfl (by decide) (by decide), nn_s, astr_s (by show h_k (p_n x 101 8 8) oa = 107; rw [pnk, if_neg (by omega)]; exact ho.1) (by show i < h_n (p_n x 101 8 8) oa; rw [pnn, if_neg (by omega)]; omega) (by show h_n (p_n x 101 8 8) oa < _; rw [pnn, if_neg (by omega)]; omega) (by exact w8.1)]
  · rw [w8.2.2]
    have e : f = 0 ∨ f = 1 ∨ f = 2 ∨ f = 3 ∨ f = 4 ∨ f = 5 ∨ f = 6 ∨ f = 7 := by omega
    rcases e with e | e | e | e | e | e | e | e <;> subst e <;> rfl
  · show h_sz x + 1 = q + 1
    omega
theorem ords_l {o n oa cn : Nat} (hb : b < o) (hoa : o < oa) (hn : 1 ≤ n) (hn5 : n ≤ 5) (hc : cn ≤ 6) : ∀ (r fu i : Nat) (x : Hp) (os : List (Nat → Nat)), Scp x b L → h_k x o = 15 → h_r x 287 o = some oa → h_k x oa = 107 ∧ h_n x oa = cn → ChO x oa i n os → h_sz x = oa + 1 + i → i + r = cn → r < fu → ∃ y os, f_L_chosen_b474 N z fu (some b) (some o) (nI n) (nI cn) (nI i) x = some (some o, y) ∧ ChO y oa cn n os ∧ h_sz y = oa + 1 + cn ∧ h_sl y = h_sl x + 8 * r ∧ Ag x y 0 oa ∧ h_k y oa = 107 ∧ h_n y oa = cn
  | r, 0, i, x, os, hs, ko, ro, ha, hO, hz, hi, hr => absurd hr (by omega)
  | 0, fu + 1, i, x, os, hs, ko, ro, ha, hO, hz, hi, hr => by
    have e : i = cn := by omega
    subst e
    rw [f_L_chosen_b474, if_pos (nI_le (Nat.le_refl _) (by omega))]
    exact ⟨x, os, rfl, hO, hz, rfl, Ag.rf, ha⟩
  | r + 1, fu + 1, i, x, os, hs, ko, ro, ha, hO, hz, hi, hr => by
    obtain ⟨c, c1⟩ := hs.cell (N := N) (z := z) (k := 3 + i) (by omega)
    obtain ⟨rw', y, d1, d2, ⟨d3, d4, d5⟩, d6, d7, d8⟩ := ord_row (N := N) (z := z) (c := c + (137 : Int32) * nI i) (K := fun x75 => f_L_chosen_b474 N z fu (some b) (some o) (nI n) (nI cn) (nI i + (1 : Int32)) x75) hz hn hn5 ha (by omega : i < cn) hc (by omega)
    obtain ⟨u, hu⟩ : ∃ u, u = p_ar y oa i (some (oa + 1 + i)) := ⟨_, rfl⟩
    have g : ∀ lo hi', hi' ≤ oa + 1 + i → (hi' ≤ oa ∨ oa < lo) → Ag x u lo hi' := fun lo hi' h1 h2 => by rw [hu]; exact (d6.wd (Nat.zero_le _) h1).tr (par_ag h2)
    have hOu : ChO u oa (i + 1) n (os ++ [rw']) := by
      obtain ⟨o1, o2, o3⟩ := hO
      refine ⟨by simp [o1], fun r hr => ?_, fun j hj => ?_⟩
      · rcases List.mem_append.mp hr with p | p
        · exact o2 r p
        · rw [List.mem_singleton.mp p]; exact d2
      · by_cases q : j = i
        · subst q
          refine ⟨by rw [hu]; simp only [HPAR]; rw [if_pos ⟨trivial, trivial⟩], by rw [hu]; exact d3, by rw [hu]; exact d4, fun f hf => ?_⟩
          rw [hu]
          show h_ai y (oa + 1 + j) f = _
          rw [d5 f hf]
          simp [List.getD_eq_getElem?_getD, ← o1]
        · obtain ⟨a1, a2, a3, a4⟩ := o3 j (by omega)
          have gg := g (oa + 1) (oa + 1 + i) (Nat.le_refl _) (by omega)
          refine ⟨?_, (gg.k (by omega)).trans a2, (gg.n (by omega)).trans a3, fun f hf => ?_⟩
          · rw [hu]
            simp only [HPAR]
            rw [if_neg (fun p => q p.2), d6.ar (by omega)]
            exact a1
          · rw [gg.ai (by omega), a4 f hf]
            simp [List.getD_eq_getElem?_getD, List.getElem?_append_left (show j < os.length by omega)]
    have g0 := g 0 oa (by omega) (by omega)
    obtain ⟨w, os', f1, f2, f3, f4, f5, f6⟩ := ords_l hb hoa hn hn5 hc r fu (i + 1) u (os ++ [rw']) (hs.ag g0 ⟨Nat.zero_le _, by omega⟩) ((g0.k (by omega)).trans ko) ((g0.r (by omega)).trans ro) (by rw [hu]; exact ⟨(d6.k (by omega)).trans ha.1, (d6.n (by omega)).trans ha.2⟩) hOu (by rw [hu]; show h_sz y = _; omega) (by omega) (by omega)
    refine ⟨w, os', ?_, f2, f3, ?_, g0.tr f5, f6⟩
    · rw [f_L_chosen_b474, if_neg (nI_ge (by omega) (by omega)), show (3 : Int32) = nI 3 from rfl, nI_add, c1, bnd_s, getr_s ko, ro]
      refine Eq.trans d1 ?_
      rw [← hu]
      simp only [nI_1]
      exact f1
    · rw [f4, hu]
      show h_sl y + 8 * r = _
      omega
end C4
