/-! ===== things done by hand, to both ===== -/
section AC
variable {N : Nat} {z : Nat → Nat} {b L : Nat} {xs : Nat → Int32} {Y o : Nat} {os : List (Nat → Nat)}
/-- what a thing that is done to both leaves -/
def Dn (b L : Nat) (xs : Nat → Int32) (Y o : Nat) (os : List (Nat → Nat)) (x y : Hp) (m : Md) (mi c s d : Nat) : Prop := ∃ m' mi', Wd b L xs Y o os y m' ∧ IInv mi' m' ∧ mi ≤ mi' ∧ mi' ≤ mi + d ∧ m_n m' = m_n m ∧ m_m m' = m_m m ∧ h_sz y ≤ h_sz x + c ∧ h_sl y ≤ h_sl x + s
theorem Wd.s1 {x y w : Hp} {m m' : Md} {mi mi' c s d : Nat} (h : Wd b L xs Y o os x m) (f1 : Fr x y (Y + 90) (Y + 121)) (g1 : Site y (Y + 90) (Y + 66) m') (f2 : Fr y w o (simE o m os)) (g2 : SimR w o m' os L96) (h3 : Cpy m') (h4 : m_n m' = m_n m) (h5 : m_m m' = m_m m) (hi : IInv mi' m') (hm : mi ≤ mi') (hd : mi' ≤ mi + d) : Dn b L xs Y o os x w m mi c s d := by
  have w8 := h.2.2.2.2.2.2.2.1
  have a1 : Ag x w 0 (Y + 90) := (f1.ag (by omega)).tr (f2.ag (by omega))
  have a2 : Ag x w (Y + 121) (Y + 152) := (f1.ag (by omega)).tr (f2.ag (by omega))
  exact ⟨m', mi', h.to a1 (h.2.2.2.1.ag a2 ⟨by omega, by omega⟩) (g1.fr f2 (by omega)) g2 h3 h4 h5 (by rw [f2.1, f1.1]; omega), hi, hm, hd, h4, h5, by rw [f2.1, f1.1]; omega, by rw [f2.2.1, f1.2.1]; omega⟩
theorem Wd.s2 {x y w : Hp} {m m' : Md} {mi mi' c s d : Nat} (h : Wd b L xs Y o os x m) (f1 : Fr x y o (simE o m os)) (g1 : SimR y o m' os L96) (f2 : Fr y w (Y + 90) (Y + 121)) (g2 : Site w (Y + 90) (Y + 66) m') (h3 : Cpy m') (h4 : m_n m' = m_n m) (h5 : m_m m' = m_m m) (hi : IInv mi' m') (hm : mi ≤ mi') (hd : mi' ≤ mi + d) : Dn b L xs Y o os x w m mi c s d := by
  have w8 := h.2.2.2.2.2.2.2.1
  have a1 : Ag x w 0 (Y + 90) := (f1.ag (by omega)).tr (f2.ag (by omega))
  have a2 : Ag x w (Y + 121) (Y + 152) := (f1.ag (by omega)).tr (f2.ag (by omega))
  exact ⟨m', mi', h.to a1 (h.2.2.2.1.ag a2 ⟨by omega, by omega⟩) g2 (g1.fr f2 (by omega)) h3 h4 h5 (by rw [f2.1, f1.1]; omega), hi, hm, hd, h4, h5, by rw [f2.1, f1.1]; omega, by rw [f2.2.1, f1.2.1]; omega⟩
theorem Cpy.cg {m m' : Md} (h : Cpy m) (e : m_n m' = m_n m) (eA : ∀ k f, f = 94 ∨ f = 90 ∨ f = 96 ∨ f = 97 → m_A m' k f = m_A m k f) : Cpy m' := fun k hk => by
  rw [eA k 94 (by omega), eA k 90 (by omega), eA k 96 (by omega), eA k 97 (by omega)]
  exact h k (by rw [← e]; exact hk)
theorem act_86 {x : Hp} {m : Md} {mi k q : Nat} {s0 s1 : Int32} (h : Wd b L xs Y o os x m) (i : IInv mi m) (hk : k < m_n m) (h0 : s0 = nI q) (hq : 0 < q) (hq2 : q ≤ 30) (hN : 401 ≤ N) : ∃ y, f_L_act_b86 N z (some Y) (some o) (nI k) (some (o + 5 + 2 * k)) s0 s1 1 x = some (1, y) ∧ Dn b L xs Y o os x y m mi 2 26 6 := by
  have hb := h.2.1
  have hS := h.2.2.1
  have hR := h.2.2.2.2.2.1
  have hC := h.2.2.2.2.2.2.1
  have w8 := h.2.2.2.2.2.2.2.1
  obtain ⟨r, r1, r2⟩ := below_s (N := N) (z := z) s1 hq (by omega)
  have t := takeN_x (1 + r) m k
  obtain ⟨y, e1, e2, e3⟩ := c_bring (N := N) (z := z) (c := 1 + r) hb hS i.2.2.1 hk (by omega) (by omega) (by omega)
  have hRy := hR.fr e3 (by omega)
  obtain ⟨w, d1, d2, d3⟩ := law_bring (N := N) (z := z) (c := 1 + r) hRy (fun _ => Nat.le_refl 96) i.2.2.1 hk (by omega) (by omega)
  refine ⟨w, ?_, h.s1 e3 e2 d3 d2 (hC.cg t.2.1 (fun j f hf => takeN_A _ _ _ _ _ (by omega))) t.2.1 t.2.2.2.2 (mi' := mi) (Inv.tkN (1 + r) i hk) (Nat.le_refl _) (by omega)⟩
  unfold f_L_act_b86
  rw [h0, r2, bnd_s, show (1 : Int32) = nI 1 from rfl, nI_add, obj_s hb.1, e1, bnd_s, obj_s hRy.k, d1, bnd_s, if_pos rfl]
theorem act_134 {x : Hp} {m : Md} {mi k q : Nat} {s0 s1 : Int32} (h : Wd b L xs Y o os x m) (i : IInv mi m) (hk : k < m_n m) (h0 : s0 = nI q) (hq : 0 < q) (hq2 : q ≤ 99) (hN : 401 ≤ N) : ∃ y, f_L_act_b134 N z (some Y) (nI k) (some (o + 5 + 2 * k)) s0 s1 1 x = some (1, y) ∧ Dn b L xs Y o os x y m mi 2 26 6 := by
  have hb := h.2.1
  have hS := h.2.2.1
  have hR := h.2.2.2.2.2.1
  have hC := h.2.2.2.2.2.2.1
  have w8 := h.2.2.2.2.2.2.2.1
  have hl := hR.l hk
  have e264 := hl.g 91 264 rfl (by decide) (show 91 < 96 by decide)
  have e266 := hl.g 85 266 rfl (by decide) (show 85 < 96 by decide)
  obtain ⟨r, r1, r2⟩ := below_s (N := N) (z := z) s1 hq (by omega)
  obtain ⟨v, hv⟩ : ∃ v, v = if m_A m k 85 + nI (1 + r) < m_A m k 91 then m_A m k 85 + nI (1 + r) else m_A m k 91 := ⟨_, rfl⟩
  obtain ⟨g, gf⟩ := hR.wr (k := k) (n := 266) (f := 85) (v := v) hk rfl (by decide)
  obtain ⟨w, d1, d2, d3⟩ := c_give (N := N) (z := z) (c := 1 + r) (hb.fr gf (by omega)) (hS.fr gf (by omega)) hk (by omega) (by omega)
  rw [← hv] at d1 d2
  have g2 := g.fr d3 (by omega)
  have eA : ∀ j f, f ≠ 85 → m_A (sA m k 85 v) j f = m_A m j f := fun j f hf => by rw [sA_A, if_neg (fun q => hf q.2)]
  have ii : IInv mi (sA m k 85 v) := by
    obtain ⟨⟨t, b', a1, a2, a3, a4⟩, -⟩ := i.2.2.2.1 k hk
    by_cases c : nI (t + (1 + r)) < nI b'
    · have c2 := (nI_ltI (by omega) (by omega)).mp c
      exact Inv.tok (t := t + (1 + r)) i (fun _ => ⟨b', by omega, a2, a4⟩) (by rw [hv, a3, a4, nI_add, if_pos c])
    · exact Inv.tok (t := b') i (fun _ => ⟨b', Nat.le_refl _, a2, a4⟩) (by rw [hv, a3, a4, nI_add, if_neg c])
  refine ⟨w, ?_, h.s2 gf g d3 d2 (hC.cg rfl (fun j f hf => eA j f (by omega))) rfl rfl (mi' := mi) ii (Nat.le_refl _) (by omega)⟩
  have gl := (g.fr d3 (by omega)).l (k := k) hk
  have e266' := gl.g 85 266 rfl (by decide) (show 85 < 96 by decide)
  rw [sA_A, if_pos ⟨rfl, rfl⟩] at e266'
  unfold f_L_act_b134
  rw [h0, r2, bnd_s, show (1 : Int32) = nI 1 from rfl, nI_add, geti_s hl.1, geti_s hl.1, e264, e266, ← hv, puti_s hl.1, obj_s (hb.fr gf (by omega)).1, d1, bnd_s, geti_s gl.1, e266', if_pos rfl]
end AC
section AD
variable {N : Nat} {z : Nat → Nat} {b L : Nat} {xs : Nat → Int32} {Y o : Nat} {os : List (Nat → Nat)}
theorem act_rate {x : Hp} {m : Md} {mi k : Nat} {s1 : Int32} (h : Wd b L xs Y o os x m) (i : IInv mi m) (hk : k < m_n m) (hN : 401 ≤ N) : ∃ y, (geti (some (o + 5 + 2 * k)) x 14 262 fun i36 => bnd (f_L_below N z s1 (31 : Int32) x) fun i38 x37 => puti (some (o + 5 + 2 * k)) x37 14 262 i38 fun x39 => geti (some (o + 5 + 2 * k)) x39 14 262 fun i40 => obj (some Y) x39 13 fun q43 => bnd (f_X10_setRate N z q43 (nI k) i40 x39) fun i42 x41 => if i42 = i36 then (some ((1 : Int32), x41)) else (some ((0 : Int32), x41))) = some (1, y) ∧ Dn b L xs Y o os x y m mi 2 26 6 := by
  have hb := h.2.1
  have hS := h.2.2.1
  have hR := h.2.2.2.2.2.1
  have hC := h.2.2.2.2.2.2.1
  have w8 := h.2.2.2.2.2.2.2.1
  have hl := hR.l hk
  have e := hl.g 83 262 rfl (by decide) (show 83 < 96 by decide)
  obtain ⟨r, r1, r2⟩ := below_s (N := N) (z := z) s1 (k := 31) (by decide) (by decide)
  obtain ⟨g, gf⟩ := hR.wr (k := k) (n := 262) (f := 83) (v := nI r) hk rfl (by decide)
  obtain ⟨w, d1, d2, d3⟩ := c_rate (N := N) (z := z) (c := r) (hb.fr gf (by omega)) (hS.fr gf (by omega)) hk (by omega)
  refine ⟨w, ?_, h.s2 gf g d3 d2 (hC.cg rfl (fun j f hf => by rw [sA_A, if_neg (fun q => by omega)])) rfl rfl (mi' := mi) (Inv.ia i (by omega) (fun _ => ⟨r, by omega, rfl⟩)) (Nat.le_refl _) (by omega)⟩
  rw [geti_s hl.1, e, show (31 : Int32) = nI 31 from rfl, r2, bnd_s, puti_s hl.1, geti_s (by exact hl.1), p_i_eq, obj_s (hb.fr gf (by omega)).1, d1, bnd_s, if_pos rfl]
theorem act_most {x : Hp} {m : Md} {mi k : Nat} {s1 : Int32} (h : Wd b L xs Y o os x m) (i : IInv mi m) (hk : k < m_n m) (hN : 401 ≤ N) : ∃ y, (geti (some (o + 5 + 2 * k)) x 14 263 fun i36 => bnd (f_L_below N z s1 (31 : Int32) x) fun i38 x37 => puti (some (o + 5 + 2 * k)) x37 14 263 i38 fun x39 => geti (some (o + 5 + 2 * k)) x39 14 263 fun i40 => obj (some Y) x39 13 fun q43 => bnd (f_X10_setMost N z q43 (nI k) i40 x39) fun i42 x41 => if i42 = i36 then (some ((1 : Int32), x41)) else (some ((0 : Int32), x41))) = some (1, y) ∧ Dn b L xs Y o os x y m mi 2 26 6 := by
  have hb := h.2.1
  have hS := h.2.2.1
  have hR := h.2.2.2.2.2.1
  have hC := h.2.2.2.2.2.2.1
  have w8 := h.2.2.2.2.2.2.2.1
  have hl := hR.l hk
  have e := hl.g 84 263 rfl (by decide) (show 84 < 96 by decide)
  obtain ⟨r, r1, r2⟩ := below_s (N := N) (z := z) s1 (k := 31) (by decide) (by decide)
  obtain ⟨g, gf⟩ := hR.wr (k := k) (n := 263) (f := 84) (v := nI r) hk rfl (by decide)
  obtain ⟨w, d1, d2, d3⟩ := c_most (N := N) (z := z) (c := r) (hb.fr gf (by omega)) (hS.fr gf (by omega)) hk (by omega)
  refine ⟨w, ?_, h.s2 gf g d3 d2 (hC.cg rfl (fun j f hf => by rw [sA_A, if_neg (fun q => by omega)])) rfl rfl (mi' := mi) (Inv.ia i (by omega) (fun _ => ⟨r, by omega, rfl⟩)) (Nat.le_refl _) (by omega)⟩
  rw [geti_s hl.1, e, show (31 : Int32) = nI 31 from rfl, r2, bnd_s, puti_s hl.1, geti_s (by exact hl.1), p_i_eq, obj_s (hb.fr gf (by omega)).1, d1, bnd_s, if_pos rfl]
theorem act_well {x : Hp} {m : Md} {mi : Nat} {s1 : Int32} (h : Wd b L xs Y o os x m) (i : IInv mi m) (hN : 401 ≤ N) : ∃ y, (geti (some o) x 15 281 fun i56 => bnd (f_L_below N z s1 (31 : Int32) x) fun i58 x57 => puti (some o) x57 15 281 i58 fun x59 => geti (some o) x59 15 281 fun i60 => obj (some Y) x59 13 fun q63 => bnd (f_X10_setWell N z q63 i60 x59) fun i62 x61 => if i62 = i56 then (some ((1 : Int32), x61)) else (some ((0 : Int32), x61))) = some (1, y) ∧ Dn b L xs Y o os x y m mi 2 26 6 := by
  have hb := h.2.1
  have hS := h.2.2.1
  have hR := h.2.2.2.2.2.1
  have hC := h.2.2.2.2.2.2.1
  have w8 := h.2.2.2.2.2.2.2.1
  obtain ⟨r, r1, r2⟩ := below_s (N := N) (z := z) s1 (k := 31) (by decide) (by decide)
  obtain ⟨g, gf⟩ := hR.wv (n := 281) (f := 162) (v := nI r) (by decide)
  obtain ⟨w, d1, d2, d3⟩ := c_well (N := N) (z := z) (c := r) (hb.fr gf (by omega)) (hS.fr gf (by omega)) (by omega)
  refine ⟨w, ?_, h.s2 gf g d3 d2 (hC.cg rfl (fun j f hf => rfl)) rfl rfl (mi' := mi) (Inv.iv i (Or.inr (Or.inr ⟨rfl, r, by omega, rfl⟩))) (Nat.le_refl _) (by omega)⟩
  rw [geti_s hR.k, hR.2.1.2.1, show (31 : Int32) = nI 31 from rfl, r2, bnd_s, puti_s hR.k, geti_s (by exact hR.k), p_i_eq, obj_s (hb.fr gf (by omega)).1, d1, bnd_s, if_pos rfl]
theorem act_pass {x : Hp} {m : Md} {mi : Nat} {s1 : Int32} (h : Wd b L xs Y o os x m) (i : IInv mi m) (hmi : mi < 2 ^ 20) (hN : 401 ≤ N) : ∃ y, (bnd (f_L_below N z s1 (6 : Int32) x) fun i65 x64 => obj (some o) x64 15 fun q68 => bnd (f_X12_counted N z q68 (7 : Int32) x64) fun i67 x66 => obj (some o) x66 15 fun q71 => bnd (f_X12_behind N z q71 ((1 : Int32) + i65) x66) fun r70 x69 => obj (some Y) x69 13 fun q74 => bnd (f_X10_pass N z q74 ((1 : Int32) + i65) x69) fun i73 x72 => obj (some o) x72 15 fun q77 => bnd (f_X12_counted N z q77 (7 : Int32) x72) fun i76 x75 => if i73 = (i76 - i67) then (some ((1 : Int32), x75)) else (some ((0 : Int32), x75))) = some (1, y) ∧ Dn b L xs Y o os x y m mi 2 26 6 := by
  obtain ⟨r, r1, r2⟩ := below_s (N := N) (z := z) s1 (k := 6) (by decide) (by decide)
  have hR := h.2.2.2.2.2.1
  have w9 := h.2.2.2.2.2.2.2.2.1
  have w8 := h.2.2.2.2.2.2.2.1
  obtain ⟨x1, a1, a2, a3, a4⟩ := counted_s (N := N) (z := z) (w := 7) (by decide) hR w9 (by omega)
  have h1 := h.nw a2 (by omega)
  have hR1 := h1.2.2.2.2.2.1
  have hC := h1.2.2.2.2.2.2.1
  have hO := h1.2.2.2.2.2.2.2.2.2.1
  obtain ⟨x2, b1, b2, b3⟩ := behind_l (N := N) (z := z) (by omega) N (1 + r) 0 x1 m mi 0 hR1 i hC hO (by omega) (by omega) (by omega)
  obtain ⟨p1, p2, p3, p4, p5⟩ := passN_inv (ods := os.map odOf) (1 + r) (0 : Int32) i hC
  obtain ⟨x3, c1, c2, c3, c4, c5⟩ := c_pass (N := N) (z := z) (c := 1 + r) hN (stay_s hO) (h1.2.1.fr b3 (by omega)) (h1.2.2.1.fr b3 (by omega)) (h1.2.2.2.2.1.fr b3 (by omega)) ⟨⟨mi, _, i⟩, hC, rfl⟩ (by omega) (by omega)
  have D := h1.s2 (c := 0) (s := 0) (d := 6) b3 b2 c5 c2 p2 p3 p4 p1 (mi := mi) (by omega) (by omega)
  obtain ⟨m', mi', e1, e2, e3, e4, e5, e6, e7, e8⟩ := D
  have hR3 := (b2.fr c5 (by omega) : SimR x3 o _ os L96)
  have hE : simE o (passN (os.map odOf) (1 + r) m 0).1 os ≤ h_sz x3 := by
    rw [simE_x p3 p4, c5.1, b3.1]
    omega
  obtain ⟨x4, d1, d2, d3, d4⟩ := counted_s (N := N) (z := z) (w := 7) (by decide) hR3 hE (by omega)
  refine ⟨x4, ?_, m', mi', e1.nw d2 (by omega), e2, e3, e4, e5, e6, by omega, by omega⟩
  have hx3 : h_sz x3 = h_sz x1 := c5.1.trans b3.1
  rw [Nat.zero_add] at b1
  rw [show (6 : Int32) = nI 6 from rfl, r2, bnd_s, obj_s hR.k, show (7 : Int32) = nI 7 from rfl, a1, bnd_s, obj_s hR1.k, show (1 : Int32) = nI 1 from rfl, nI_add]
  unfold f_X12_behind
  rw [show (0 : Int32) = nI 0 from rfl, b1, bnd_s, obj_s (h1.2.1.fr b3 (by omega)).1, c1, bnd_s, obj_s hR3.k, d1, bnd_s, p5]
  have q1 : cntM (passN (os.map odOf) (1 + r) m 0).1 os.length 7 = s86 (passN (os.map odOf) (1 + r) m 0).1 := s86_7 _ os.length
  have q2 : cntM m os.length 7 = s86 m := s86_7 _ os.length
  rw [q1, q2, if_pos (by rw [Int32.zero_add])]
end AD
