/-! ===== the whole site chosen ===== -/
section C5
variable {N : Nat} {z : Nat → Nat} {b L : Nat}
theorem folk_row {x : Hp} {n m j fa : Nat} {c : Int32} {k315 : Option Nat → Option Nat → Int32 → Int32 → Int32 → Hp → Option (Option Nat × Hp)} {v0 v1 : Option Nat} {v3 : Int32} (hz : h_sz x = fa + 1 + j) (hn : 1 ≤ n) (hn5 : n ≤ 5) (hf : h_k x fa = 107 ∧ h_n x fa = m) (hj : j < m) (hm : m ≤ 6) : ∃ g y, (newa x 101 (5 : Int32) fun r86 x87 => bnd (f_L_below N z c (nI n) x87) fun i89 x88 => asti r86 x88 101 (0 : Int32) i89 fun x90 => bnd (f_L_below N z c (2 : Int32) x90) fun i92 x91 => if i92 = 0 then (f_L_chosen_b380 N z k315 v0 v1 (nI n) v3 (nI j) c (30 : Int32) (c >>> ((2 : Int32) &&& 31)) (1 : Int32) (1 : Int32) r86 r86 (nI j) (some fa) x91) else (f_L_chosen_b380 N z k315 v0 v1 (nI n) v3 (nI j) c (6 : Int32) (c >>> ((2 : Int32) &&& 31)) (1 : Int32) (1 : Int32) r86 r86 (nI j) (some fa) x91)) = k315 v0 v1 (nI n) v3 (nI (j + 1)) (p_ar y fa j (some (fa + 1 + j))) ∧ FoOk n g ∧ (h_k y (fa + 1 + j) = 101 ∧ h_n y (fa + 1 + j) = 5 ∧ h_ai y (fa + 1 + j) 0 = nI (g 0) ∧ h_ai y (fa + 1 + j) 1 = nI (g 1) ∧ h_ai y (fa + 1 + j) 2 = nI (g 2) ∧ h_ai y (fa + 1 + j) 3 = nI (g 3) ∧ h_ai y (fa + 1 + j) 4 = 0) ∧ Ag x y 0 (fa + 1 + j) ∧ h_sz y = fa + 2 + j ∧ h_sl y = h_sl x + 5 := by
  obtain ⟨q, hq⟩ : ∃ q, q = fa + 1 + j := ⟨_, rfl⟩
  rw [← hq] at hz ⊢
  obtain ⟨a0, b0, c0⟩ := below_s (N := N) (z := z) c (k := n) (by omega) (by omega)
  obtain ⟨e, e1, e2⟩ := below_s (N := N) (z := z) c (k := 2) (by decide) (by decide)
  have e2' : ∀ x : Hp, f_L_below N z c 2 x = some (nI e, x) := e2
  have w0 : Rw (p_n x 101 5 5) q 5 (fun _ => 0) := ⟨by rw [pnk, if_pos hz.symm], by rw [pnn, if_pos hz.symm], fun j => by show (if q = h_sz x then (0 : Int32) else h_ai x q j) = 0; rw [if_pos hz.symm]⟩
  have w1 := w0.pi (j := 0) (v := nI a0)
  have hf1 : h_k (p_ai (p_n x 101 5 5) q 0 (nI a0)) fa = 107 ∧ h_n (p_ai (p_n x 101 5 5) q 0 (nI a0)) fa = m := ⟨by show h_k (p_n x 101 5 5) fa = 107; rw [pnk, if_neg (by omega)]; exact hf.1, by show h_n (p_n x 101 5 5) fa = m; rw [pnn, if_neg (by omega)]; exact hf.2⟩
  have ag : Ag x (p_n x 101 5 5) 0 q := pn_ag (by omega)
  have pa : ∀ (u : Hp) (j : Nat) (v : Int32), Ag u (p_ai u q j v) 0 q := fun u j v => pai_ag (Or.inl (Nat.le_refl _))
  have go : ∀ (s : Int32) (d : Nat), s = nI d → 0 < d → d ≤ 30 → ∃ g y, f_L_chosen_b380 N z k315 v0 v1 (nI n) v3 (nI j) c s (c >>> ((2 : Int32) &&& 31)) (1 : Int32) (1 : Int32) (some q) (some q) (nI j) (some fa) (p_ai (p_n x 101 5 5) q 0 (nI a0)) = k315 v0 v1 (nI n) v3 (nI (j + 1)) (p_ar y fa j (some q)) ∧ FoOk n g ∧ (h_k y q = 101 ∧ h_n y q = 5 ∧ h_ai y q 0 = nI (g 0) ∧ h_ai y q 1 = nI (g 1) ∧ h_ai y q 2 = nI (g 2) ∧ h_ai y q 3 = nI (g 3) ∧ h_ai y q 4 = 0) ∧ Ag x y 0 q ∧ h_sz y = fa + 2 + j ∧ h_sl y = h_sl x + 5 := by
    intro s d s1 s2 s3
    obtain ⟨g1, g2, r, y, f1, f2, f3, f4, f5, f6, f7, f8⟩ := ch_380 (N := N) (z := z) (k315 := k315) (v0 := v0) (v1 := v1) (v2 := nI n) (v3 := v3) (v5 := c) (j := j) (q := q) (fa := fa) (m := m) (s1 := c >>> ((2 : Int32) &&& 31)) w1 hf1 hj hm s1 s2 s3
    refine ⟨fun i => if i = 0 then a0 else if i = 1 then g1 else if i = 2 then g2 else r, y, f1, ⟨b0, f2, f3, f4, f5, f6⟩, ⟨f7.1, f7.2.1, ?_, ?_, ?_, ?_, ?_⟩, ?_, ?_, ?_⟩
    · rw [f7.2.2]; rfl
    · rw [f7.2.2]; rfl
    · rw [f7.2.2]; rfl
    · rw [f7.2.2]; rfl
    · rw [f7.2.2]; rfl
    · rw [f8]; exact ((((ag.tr (pa _ 0 _)).tr (pa _ 1 _)).tr (pa _ 2 _)).tr (pa _ 3 _)).tr (pa _ 4 _)
    · rw [f8]; show h_sz x + 1 = _; omega
    · rw [f8]; rfl
  rw [show (5 : Int32) = nI 5 from rfl, newa_s (by decide), hz, c0, bnd_s, w0.st (F := 0) (j := 0) rfl (by decide) (by decide), e2', bnd_s]
  by_cases p : nI e = 0
  · rw [if_pos p]; exact go 30 30 rfl (by decide) (by decide)
  · rw [if_neg p]; exact go 6 6 rfl (by decide) (by decide)
theorem folk_l2 {o n m fa : Nat} (hb : b < o) (ho : o < fa) (hn : 1 ≤ n) (hn5 : n ≤ 5) (hm : m ≤ 6) (hN : 401 ≤ N) : ∀ (r fu j : Nat) (x : Hp) (G : Nat → Nat → Nat), Scp x b L → h_k x o = 15 → h_r x 286 o = some fa → (h_k x fa = 107 ∧ h_n x fa = m) → ChF x fa j n G → h_sz x = fa + 1 + j → j + r = m → r < fu → ∃ y G os c, f_L_chosen_b315 N z fu (some b) (some o) (nI n) (nI m) (nI j) x = some (some o, y) ∧ ChF y fa m n G ∧ ChO y (fa + 1 + m) c n os ∧ h_r y 287 o = some (fa + 1 + m) ∧ (h_k y (fa + 1 + m) = 107 ∧ h_n y (fa + 1 + m) = c) ∧ c ≤ 6 ∧ h_sz y = fa + 2 + m + c ∧ h_sl y ≤ h_sl x + 5 * r + 54 ∧ Ag x y 0 o ∧ Ag x y (o + 1) fa ∧ (h_k y o = 15 ∧ (∀ f, h_i y f o = h_i x f o) ∧ ∀ f, f ≠ 287 → h_r y f o = h_r x f o) ∧ h_k y fa = 107 ∧ h_n y fa = m
  | r, 0, j, x, G, hs, ko, ro, hf, hF, hz, hj, hr => absurd hr (by omega)
  | 0, fu + 1, j, x, G, hs, ko, ro, hf, hF, hz, hj, hr => by
    have e : j = m := by omega
    subst e
    obtain ⟨c, c1⟩ := hs.cell (N := N) (z := z) (k := 15) (by decide)
    have c1' : f_L_cell N z (some b) 15 x = some (c, x) := c1
    obtain ⟨q, q1, q2⟩ := below_s (N := N) (z := z) c (k := 7) (by decide) (by decide)
    have q2' : ∀ x : Hp, f_L_below N z c 7 x = some (nI q, x) := q2
    obtain ⟨u, hu⟩ : ∃ u, u = p_r (p_n x 107 q q) 287 o (some (fa + 1 + j)) := ⟨_, rfl⟩
    have g : ∀ lo hi, hi ≤ fa + 1 + j → (hi ≤ o ∨ o < lo) → Ag x u lo hi := fun lo hi h1 h2 => by rw [hu]; exact (pn_ag (by omega)).tr (pr_ag h2)
    have ko' : h_k (p_n x 107 q q) o = 15 := by rw [pnk, if_neg (by omega)]; exact ko
    have ka : h_k u (fa + 1 + j) = 107 ∧ h_n u (fa + 1 + j) = q := by
      rw [hu]
      exact ⟨by show h_k (p_n x 107 q q) (fa + 1 + j) = 107; rw [pnk, if_pos hz.symm], by show h_n (p_n x 107 q q) (fa + 1 + j) = q; rw [pnn, if_pos hz.symm]⟩
    obtain ⟨y, os, d1, d2, d3, d4, d5, d6⟩ := ords_l (N := N) (z := z) (b := b) (L := L) (o := o) (n := n) (oa := fa + 1 + j) (cn := q) hb (by omega) hn hn5 (by omega) q N 0 u [] (hs.ag (g 0 o (by omega) (by omega)) ⟨Nat.zero_le _, hb⟩) (by rw [hu]; exact ko') (by rw [hu]; exact p_r_eq) ka ⟨rfl, fun r hr => absurd hr (by simp), fun j hj => absurd hj (by omega)⟩ (by rw [hu]; show h_sz x + 1 = _; omega) (by omega) (by omega)
    have uo : ∀ f, h_i u f o = h_i x f o := fun f => by rw [hu]; show h_i (p_n x 107 q q) f o = _; rw [pni, if_neg (by omega)]
    have ur : ∀ f, f ≠ 287 → h_r u f o = h_r x f o := fun f hf => by rw [hu, p_r_ne hf, pnr, if_neg (by omega)]
    refine ⟨y, G, os, q, ?_, ?_, d2, ?_, d6, by omega, by omega, ?_, (g 0 o (by omega) (by omega)).tr (d5.wd (Nat.le_refl _) (by omega)), (g (o + 1) fa (by omega) (by omega)).tr (d5.wd (Nat.zero_le _) (by omega)), ⟨?_, fun f => (d5.i (by omega)).trans (uo f), fun f hf => (d5.r (by omega)).trans (ur f hf)⟩, ?_, ?_⟩
    · rw [f_L_chosen_b315, if_pos (nI_le (Nat.le_refl _) (by omega)), c1', bnd_s, q2', bnd_s, newa_s (by omega), hz, putr_s ko', ← hu]
      exact d1
    · exact (hF.ag (g fa (fa + 1 + j) (Nat.le_refl _) (by omega)) ⟨Nat.le_refl _, Nat.le_refl _⟩).ag d5 ⟨Nat.zero_le _, Nat.le_refl _⟩
    · rw [d5.r (by omega), hu]; exact p_r_eq
    · rw [d4, hu]
      show h_sl x + q + 8 * q ≤ _
      omega
    · rw [d5.k (by omega), hu]; exact ko'
    · rw [d5.k (by omega), (g fa (fa + 1) (by omega) (by omega)).k (by omega)]; exact hf.1
    · rw [d5.n (by omega), (g fa (fa + 1) (by omega) (by omega)).n (by omega)]; exact hf.2
  | r + 1, fu + 1, j, x, G, hs, ko, ro, hf, hF, hz, hj, hr => by
    obtain ⟨c, c1⟩ := hs.cell (N := N) (z := z) (k := 9 + j) (by omega)
    obtain ⟨g', y, d1, d2, ⟨d3, d4, d5, d6, d7, d8, d9⟩, d10, d11, d12⟩ := folk_row (N := N) (z := z) (k315 := f_L_chosen_b315 N z fu) (v0 := some b) (v1 := some o) (v3 := nI m) (c := c + (131 : Int32) * nI j) hz hn hn5 hf (by omega : j < m) hm
    obtain ⟨u, hu⟩ : ∃ u, u = p_ar y fa j (some (fa + 1 + j)) := ⟨_, rfl⟩
    have g : ∀ lo hi, hi ≤ fa + 1 + j → (hi ≤ fa ∨ fa < lo) → Ag x u lo hi := fun lo hi h1 h2 => by rw [hu]; exact (d10.wd (Nat.zero_le _) h1).tr (par_ag h2)
    have hFu : ChF u fa (j + 1) n (up1 G j g') := by
      intro i hi
      by_cases q : i = j
      · subst q
        rw [up1_eq]
        refine ⟨by rw [hu]; simp only [HPAR]; rw [if_pos ⟨trivial, trivial⟩], by rw [hu]; exact d3, by rw [hu]; exact d4, ⟨by rw [hu]; exact d5, by rw [hu]; exact d6, by rw [hu]; exact d7, by rw [hu]; exact d8, by rw [hu]; exact d9⟩, d2⟩
      · rw [up1_ne q]
        obtain ⟨a1, a2, a3, ⟨a4, a5, a6, a7, a8⟩, a9⟩ := hF i (by omega)
        have gg := g (fa + 1) (fa + 1 + j) (Nat.le_refl _) (by omega)
        refine ⟨?_, (gg.k (by omega)).trans a2, (gg.n (by omega)).trans a3, ⟨by rw [gg.ai (by omega)]; exact a4, by rw [gg.ai (by omega)]; exact a5, by rw [gg.ai (by omega)]; exact a6, by rw [gg.ai (by omega)]; exact a7, by rw [gg.ai (by omega)]; exact a8⟩, a9⟩
        rw [hu]
        simp only [HPAR]
        rw [if_neg (fun p => q p.2), d10.ar (by omega)]
        exact a1
    have g0 := g 0 fa (by omega) (by omega)
    obtain ⟨w, G', os, c', f1, f2, f3, f4, f5, f6, f7, f8, f9, f10, ⟨f11, f12, f13⟩, f14, f15⟩ := folk_l2 hb ho hn hn5 hm hN r fu (j + 1) u _ (hs.ag g0 ⟨Nat.zero_le _, by omega⟩) ((g0.k (by omega)).trans ko) ((g0.r (by omega)).trans ro) (by rw [hu]; exact ⟨(d10.k (by omega)).trans hf.1, (d10.n (by omega)).trans hf.2⟩) hFu (by rw [hu]; show h_sz y = _; omega) (by omega) (by omega)
    refine ⟨w, G', os, c', ?_, f2, f3, f4, f5, f6, f7, ?_, (g0.wd (Nat.le_refl _) (by omega)).tr f9, (g0.wd (Nat.zero_le _) (Nat.le_refl _)).tr f10, ⟨f11, fun f => (f12 f).trans (g0.i (by omega)), fun f hf => (f13 f hf).trans (g0.r (by omega))⟩, f14, f15⟩
    · rw [f_L_chosen_b315, if_neg (nI_ge (by omega) (by omega)), show (9 : Int32) = nI 9 from rfl, nI_add, c1, bnd_s, getr_s ko, ro]
      refine Eq.trans d1 ?_
      rw [← hu]
      exact f1
    · have : h_sl u = h_sl x + 5 := by rw [hu]; exact d12
      omega
end C5
/-- what was chosen: all within its bounds -/
def DtOk (w n m : Nat) (P : Nat → Nat → Nat) (O : Nat → Option Nat) (G : Nat → Nat → Nat) (os : List (Nat → Nat)) : Prop := w ≤ 30 ∧ 1 ≤ n ∧ n ≤ 5 ∧ 1 ≤ m ∧ m ≤ 6 ∧ (∀ k, k < n → LnOk (P k)) ∧ (∀ k, k < n → ∀ j, O k = some j → j < k) ∧ (∀ j, j < m → FoOk n (G j)) ∧ os.length ≤ 6 ∧ ∀ r ∈ os, RawO n r
section C6
variable {N : Nat} {z : Nat → Nat} {b L : Nat}
theorem chosen_36 {x : Hp} {o w : Nat} (hb : b < o) (hw : w ≤ 30) (hN : 401 ≤ N) (hs : Scp x b L) (hk : h_k x o = 15) (hi : h_i x 280 o = 0 ∧ h_i x 281 o = nI w ∧ h_i x 282 o = 0 ∧ h_i x 283 o = 0 ∧ h_i x 284 o = 0) (hz : h_sz x = o + 4) : ∃ y n m P O G os, f_L_chosen_b36 N z (some b) (some o) x = some (some o, y) ∧ DtOk w n m P O G os ∧ SimR y o (mdOf w n m P O G) os L96 ∧ h_sz y = simE o (mdOf w n m P O G) os ∧ h_sl y ≤ h_sl x + 500 ∧ Ag x y 0 o := by
  obtain ⟨c, c1⟩ := hs.cell (N := N) (z := z) (k := 1) (by decide)
  have c1' : f_L_cell N z (some b) 1 x = some (c, x) := c1
  obtain ⟨q, q1, q2⟩ := below_s (N := N) (z := z) c (k := 5) (by decide) (by decide)
  have q2' : ∀ x : Hp, f_L_below N z c 5 x = some (nI q, x) := q2
  obtain ⟨u, hu⟩ : ∃ u, u = p_r (p_n x 106 (1 + q) (1 + q)) 285 o (some (o + 4)) := ⟨_, rfl⟩
  have ko' : h_k (p_n x 106 (1 + q) (1 + q)) o = 15 := by rw [pnk, if_neg (by omega)]; exact hk
  have gu : Ag x u 0 o := by rw [hu]; exact (pn_ag (by omega)).tr (pr_ag (by omega))
  have iu : ∀ f, h_i u f o = h_i x f o := fun f => by rw [hu]; show h_i (p_n x 106 (1 + q) (1 + q)) f o = _; rw [pni, if_neg (by omega)]
  have hB : ChB u o w (1 + q) := by
    refine ⟨by rw [hu]; exact ko', by rw [hu]; exact p_r_eq, ?_, ?_, (iu _).trans hi.1, (iu _).trans hi.2.1, (iu _).trans hi.2.2.1, (iu _).trans hi.2.2.2.1, (iu _).trans hi.2.2.2.2⟩
    · rw [hu]; show h_k (p_n x 106 (1 + q) (1 + q)) (o + 4) = 106; rw [pnk, if_pos hz.symm]
    · rw [hu]; show h_n (p_n x 106 (1 + q) (1 + q)) (o + 4) = 1 + q; rw [pnn, if_pos hz.symm]
  obtain ⟨y, P, O, m, d1, d2, d3, d4, d5, d6, d7, d8, d9, d10, d11, d12⟩ := lanes_l (N := N) (z := z) (b := b) (L := L) (o := o) (w := w) (n := 1 + q) hb (by omega) (by omega) hN (fun m n x => f_L_chosen_b315 N z N (some b) (some o) (nI (1 + q)) (nI m) (nI 0) x) (fun m x => rfl) (1 + q) N 0 u (fun _ _ => 0) (fun _ => none) (hs.ag gu ⟨Nat.zero_le _, hb⟩) hB (fun i hi => absurd hi (by omega)) (by rw [hu]; show h_sz x + 1 = _; omega) (by omega) (by omega)
  obtain ⟨v, G, os, c', e1, e2, e3, e4, e5, e6, e7, e8, e9, e10, ⟨e11, e12, e13⟩, e14, e15⟩ := folk_l2 (N := N) (z := z) (b := b) (L := L) (o := o) (n := 1 + q) (m := m) (fa := o + 5 + 2 * (1 + q)) hb (by omega) (by omega) (by omega) d3 hN m N 0 y (fun _ _ => 0) d4 d5.1 d7 ⟨d8, d9⟩ (fun i hi => absurd hi (by omega)) (by omega) (by omega) (by omega)
  have hL : ChL v o (1 + q) P O := d6.ag (e10.wd (by omega : o + 1 ≤ o + 4) (Nat.le_refl _)) ⟨Nat.le_refl _, Nat.le_refl _⟩
  obtain ⟨b1, b2, b3, b4, b5, b6, b7, b8, b9⟩ := d5
  have hlen : os.length = c' := e3.1
  refine ⟨v, 1 + q, m, P, O, G, os, ?_, ⟨hw, by omega, by omega, d2, d3, fun k hk => (hL k hk).2.2.1, fun k hk => (hL k hk).2.2.2, fun j hj => (e2 j hj).2.2.2.2, by omega, e3.2.1⟩, ⟨?_, ?_, ?_, ?_, ?_⟩, ?_, ?_, (gu.tr d12).tr e9⟩
  · unfold f_L_chosen_b36
    rw [c1', bnd_s, q2', bnd_s, show (1 : Int32) = nI 1 from rfl, nI_add, newa_s (by omega), hz, putr_s ko', ← hu]
    exact d1.trans e1
  · refine ⟨e11, (e13 285 (by decide)).trans b2, (e13 286 (by decide)).trans d7, ?_, (e10.k (by omega)).trans b3, (e10.n (by omega)).trans b4, by show 1 + q ≤ 6; omega, fun k hk => (hL k hk).1, e14, e15, by show m ≤ 8; omega, fun j hj => ?_⟩
    · rw [e4]
      show some (o + 5 + 2 * (1 + q) + 1 + m) = some (o + 6 + 2 * (1 + q) + m)
      congr 1
      omega
    · obtain ⟨a1, a2, a3, a4, a5⟩ := e2 j hj
      have ej : o + 6 + 2 * (1 + q) + j = o + 5 + 2 * (1 + q) + 1 + j := by omega
      show h_ar v (o + 5 + 2 * (1 + q)) j = some (o + 6 + 2 * (1 + q) + j) ∧ h_k v (o + 6 + 2 * (1 + q) + j) = 101 ∧ h_n v (o + 6 + 2 * (1 + q) + j) = 5
      rw [ej]
      exact ⟨a1, a2, a3⟩
  · exact ⟨(e12 _).trans b5, (e12 _).trans b6, (e12 _).trans b7, (e12 _).trans b8, (e12 _).trans b9⟩
  · intro j hj
    obtain ⟨a1, a2, a3, a4, a5⟩ := e2 j hj
    have ej : o + 6 + 2 * (1 + q) + j = o + 5 + 2 * (1 + q) + 1 + j := by omega
    show h_ai v (o + 6 + 2 * (1 + q) + j) 0 = folkF0 (G j) 60 ∧ h_ai v (o + 6 + 2 * (1 + q) + j) 1 = folkF0 (G j) 61 ∧ h_ai v (o + 6 + 2 * (1 + q) + j) 2 = folkF0 (G j) 63 ∧ h_ai v (o + 6 + 2 * (1 + q) + j) 3 = folkF0 (G j) 64 ∧ h_ai v (o + 6 + 2 * (1 + q) + j) 4 = folkF0 (G j) 62
    rw [ej]
    exact a4
  · show SimO v (o + 6 + 2 * (1 + q) + m) os
    have ej : o + 6 + 2 * (1 + q) + m = o + 5 + 2 * (1 + q) + 1 + m := by omega
    rw [ej]
    refine ⟨e5.1, e5.2.trans hlen.symm, by omega, fun i hi => ?_⟩
    exact e3.2.2 i (by omega)
  · exact ⟨fun k hk => (hL k hk).2.1, fun k hk => (hL k hk).2.2.2, fun k hk => rfl⟩
  · rw [e7]
    show _ = o + 7 + 2 * (1 + q) + m + os.length
    omega
  · have : h_sl u = h_sl x + (1 + q) := by rw [hu]; rfl
    omega
theorem chosen_s {x : Hp} {o : Nat} (hb : b < o) (hN : 401 ≤ N) (hs : Scp x b L) (hz : h_sz x = o) : ∃ y w n m P O G os, f_L_chosen N z (some b) x = some (some o, y) ∧ DtOk w n m P O G os ∧ SimR y o (mdOf w n m P O G) os L96 ∧ h_sz y = simE o (mdOf w n m P O G) os ∧ h_sl y ≤ h_sl x + 508 ∧ Ag x y 0 o := by
  obtain ⟨x1, hx1⟩ : ∃ x1, x1 = p_i (p_n x 15 0 8) 281 o 20 := ⟨_, rfl⟩
  have k0 : h_k (p_n x 15 0 8) o = 15 := by rw [pnk, if_pos hz.symm]
  have k1 : h_k x1 o = 15 := by rw [hx1]; exact k0
  have z1 : h_sz x1 = o + 1 := by rw [hx1]; show h_sz x + 1 = _; omega
  obtain ⟨x2, hx2⟩ : ∃ x2, x2 = p_r (p_n x1 106 0 0) 285 o (some (o + 1)) := ⟨_, rfl⟩
  have k2' : h_k (p_n x1 106 0 0) o = 15 := by rw [pnk, if_neg (by omega)]; exact k1
  have k2 : h_k x2 o = 15 := by rw [hx2]; exact k2'
  have z2 : h_sz x2 = o + 2 := by rw [hx2]; show h_sz x1 + 1 = _; omega
  obtain ⟨x3, hx3⟩ : ∃ x3, x3 = p_r (p_n x2 107 0 0) 286 o (some (o + 2)) := ⟨_, rfl⟩
  have k3' : h_k (p_n x2 107 0 0) o = 15 := by rw [pnk, if_neg (by omega)]; exact k2
  have k3 : h_k x3 o = 15 := by rw [hx3]; exact k3'
  have z3 : h_sz x3 = o + 3 := by rw [hx3]; show h_sz x2 + 1 = _; omega
  obtain ⟨x4, hx4⟩ : ∃ x4, x4 = p_r (p_n x3 107 0 0) 287 o (some (o + 3)) := ⟨_, rfl⟩
  have k4' : h_k (p_n x3 107 0 0) o = 15 := by rw [pnk, if_neg (by omega)]; exact k3
  have k4 : h_k x4 o = 15 := by rw [hx4]; exact k4'
  have z4 : h_sz x4 = o + 4 := by rw [hx4]; show h_sz x3 + 1 = _; omega
  have l4 : h_sl x4 = h_sl x + 8 := by rw [hx4]; show h_sl x3 + 0 = _; rw [hx3]; show h_sl x2 + 0 + 0 = _; rw [hx2]; show h_sl x1 + 0 + 0 + 0 = _; rw [hx1]; rfl
  have i4 : ∀ f, h_i x4 f o = if f = 281 then 20 else 0 := fun f => by
    rw [hx4]
    show h_i (p_n x3 107 0 0) f o = _
    rw [pni, if_neg (by omega), hx3]
    show h_i (p_n x2 107 0 0) f o = _
    rw [pni, if_neg (by omega), hx2]
    show h_i (p_n x1 106 0 0) f o = _
    rw [pni, if_neg (by omega), hx1, p_i_i]
    by_cases c : f = 281
    · rw [if_pos ⟨c, rfl⟩, if_pos c]
    · rw [if_neg (fun q => c q.1), if_neg c, pni, if_pos hz.symm]
  have g4 : Ag x x4 0 o := by
    rw [hx4, hx3, hx2, hx1]
    exact (((((((pn_ag (by omega)).tr (pi_ag (by omega))).tr (pn_ag (by show o ≤ h_sz x + 1; omega))).tr (pr_ag (by omega))).tr (pn_ag (by show o ≤ h_sz x + 1 + 1; omega))).tr (pr_ag (by omega))).tr (pn_ag (by show o ≤ h_sz x + 1 + 1 + 1; omega))).tr (pr_ag (by omega))
  have hs4 := hs.ag g4 ⟨Nat.zero_le _, hb⟩
  obtain ⟨c, c1⟩ := hs4.cell (N := N) (z := z) (k := 0) (by decide)
  have c1' : f_L_cell N z (some b) 0 x4 = some (c, x4) := c1
  obtain ⟨q, q1, q2⟩ := below_s (N := N) (z := z) c (k := 3) (by decide) (by decide)
  have q2' : ∀ x : Hp, f_L_below N z c 3 x = some (nI q, x) := q2
  obtain ⟨r, r1, r2⟩ := below_s (N := N) (z := z) (c >>> ((2 : Int32) &&& 31)) (k := 31) (by decide) (by decide)
  have r2' : ∀ x : Hp, f_L_below N z (c >>> ((2 : Int32) &&& 31)) 31 x = some (nI r, x) := r2
  have init : f_X12_init N z o (p_n x 15 0 8) = some ((), x4) := by
    unfold f_X12_init
    rw [nn_s, puti_s k0, ← hx1, show (0 : Int32) = nI 0 from rfl, newa_s (by decide), z1, putr_s k2', ← hx2, newa_s (by decide), z2, putr_s k3', ← hx3, newa_s (by decide), z3, putr_s k4', ← hx4]
  unfold f_L_chosen
  rw [newo_s, hz, obj_s k0, init, bnd_s, c1', bnd_s, q2', bnd_s]
  by_cases p : nI q ≤ 0
  · rw [if_pos p]
    obtain ⟨y, n, m, P, O, G, os, d1, d2, d3, d4, d5, d6⟩ := chosen_36 (N := N) (z := z) (w := 20) hb (by omega) hN hs4 k4 ⟨(i4 _).trans (if_neg (by decide)), (i4 _).trans (if_pos rfl), (i4 _).trans (if_neg (by decide)), (i4 _).trans (if_neg (by decide)), (i4 _).trans (if_neg (by decide))⟩ z4
    exact ⟨y, 20, n, m, P, O, G, os, d1, d2, d3, d4, by omega, g4.tr d6⟩
  · rw [if_neg p, c1', bnd_s, r2', bnd_s, puti_s k4]
    have g5 : Ag x4 (p_i x4 281 o (nI r)) 0 o := pi_ag (Or.inl (Nat.le_refl _))
    obtain ⟨y, n, m, P, O, G, os, d1, d2, d3, d4, d5, d6⟩ := chosen_36 (N := N) (z := z) (w := r) (x := p_i x4 281 o (nI r)) hb (by omega) hN (hs4.ag g5 ⟨Nat.zero_le _, hb⟩) k4 ⟨by rw [p_i_ne (by decide)]; exact (i4 _).trans (if_neg (by decide)), p_i_eq, by rw [p_i_ne (by decide)]; exact (i4 _).trans (if_neg (by decide)), by rw [p_i_ne (by decide)]; exact (i4 _).trans (if_neg (by decide)), by rw [p_i_ne (by decide)]; exact (i4 _).trans (if_neg (by decide))⟩ z4
    have : h_sl (p_i x4 281 o (nI r)) = h_sl x4 := rfl
    exact ⟨y, r, n, m, P, O, G, os, d1, d2, d3, d4, by omega, (g4.tr g5).tr d6⟩
end C6
