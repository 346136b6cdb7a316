/-! ===== the law's world: the object, the law's own site, the script ===== -/
def IInv (mi : Nat) (m : Md) : Prop := Inv mi (30 * mi * mi) m
theorem Inv.mono {mi W W' : Nat} {m : Md} (h : Inv mi W m) (e : W ≤ W') : Inv mi W' m := by
  obtain ⟨h0, h1, h2, h3, h4, h5, h6, h7, h8, h9, h10⟩ := h
  exact ⟨h0, h1, h2, h3, h4, h5, h6, h7, fun i hi => by
    obtain ⟨w, w1, w2⟩ := h8 i hi
    exact ⟨w, by omega, w2⟩, h9, h10⟩
theorem IInv.ps {mi : Nat} {m : Md} (ods : List Od) (h : IInv mi m) : IInv (mi + 1) (passM ods m).1 := by
  have e : 30 * (mi + 1) * (mi + 1) = 30 * mi * mi + 60 * mi + 30 := by grind
  exact (Inv.ps ods h).mono (by rw [e]; omega)
def s86 (m : Md) : Int32 := sumG (fun i => m_A m i 86) (m_n m) 0 0
theorem s86_7 (m : Md) (no : Nat) : tallyM m no 7 = s86 m := sumM_G m 7 (m_n m) 0 0
theorem passN_inv {ods : List Od} : ∀ (r : Nat) {m : Md} {mi : Nat} (v : Int32), IInv mi m → Cpy m → IInv (mi + r) (passN ods r m v).1 ∧ Cpy (passN ods r m v).1 ∧ m_n (passN ods r m v).1 = m_n m ∧ m_m (passN ods r m v).1 = m_m m ∧ (passN ods r m v).2 = v + (s86 (passN ods r m v).1 - s86 m)
  | 0, m, mi, v, h, hc => ⟨h, hc, rfl, rfl, by rw [passN]; exact (r_sub0 v (s86 m)).symm⟩
  | r + 1, m, mi, v, h, hc => by
    obtain ⟨w, a1, a2, a3, a4, a5, a6, a7, a8, a9, a10, -⟩ := pass_facts ods h hc
    obtain ⟨b1, b2, b3, b4, b5⟩ := passN_inv (ods := ods) r (v + nI (passM ods m).2) (h.ps ods) a10
    rw [passN]
    refine ⟨by rw [show mi + (r + 1) = mi + 1 + r by omega]; exact b1, b2, b3.trans a7, b4.trans a8, ?_⟩
    rw [b5]
    have e : s86 (passM ods m).1 = s86 m + nI (passM ods m).2 := by
      unfold s86
      rw [a7]
      exact a6
    rw [e]
    grind
theorem okL_tld {n s l k : Nat} (hs : s < 7) (hl : l < n) : okL n (tldC s l k) 0 := by
  have c : s = 0 ∨ s = 1 ∨ s = 2 ∨ s = 3 ∨ s = 4 ∨ s = 5 ∨ s = 6 := by omega
  rcases c with c | c | c | c | c | c | c <;> subst c <;> simp [tldC, okL, isB, hl]
theorem okL_tst {n s l k : Nat} (hs : s < 7) (hl : l < n) : okL n (tstC s l k) 0 := by
  have c : s = 0 ∨ s = 1 ∨ s = 2 ∨ s = 3 ∨ s = 4 ∨ s = 5 ∨ s = 6 := by omega
  rcases c with c | c | c | c | c | c | c <;> subst c <;> simp [tstC, okL, isB, hl]
theorem okO_od {n : Nat} {r : Nat → Nat} (h : RawO n r) : okO n (odOf r) := by
  obtain ⟨r1, r2, r3, r4, r5, r6, r7, r8⟩ := h
  refine ⟨r2, fun e => ?_, fun e => ?_⟩
  · have e2 : ¬ r 0 = 2 := fun q => e (by show 16 + r 0 = 18; omega)
    show okL n (if r 0 = 2 then [] else tldC (r 2) (r 3) (r 4)) 0
    rw [if_neg e2]
    exact okL_tld r3 r4
  · show okL n (if r 0 = 1 ∧ r 5 = 6 then [] else tstC (r 5) (r 6) (r 7)) 0
    by_cases c : r 0 = 1 ∧ r 5 = 6
    · exact absurd (if_pos c) e
    · rw [if_neg c]
      exact okL_tst r6 r7
def PSt (n : Nat) (m : Md) : Prop := (∃ mi W, Inv mi W m) ∧ Cpy m ∧ m_n m = n
theorem Inv.wf {mi W : Nat} {m : Md} (h : Inv mi W m) : WfM m := ⟨h.2.2.1, h.2.2.2.2.1.w, h.2.2.2.2.2.1⟩
theorem stay_s {n : Nat} {os : List (Nat → Nat)} (hO : ∀ r ∈ os, RawO n r) : Stay (os.map odOf) (PSt n) := by
  intro m ⟨⟨mi, W, h⟩, hc, hn⟩
  obtain ⟨w, a1, a2, a3, a4, a5, a6, a7, a8, a9, a10, -⟩ := pass_facts (os.map odOf) h hc
  refine ⟨h.wf, fun o ho => ?_, a7, ⟨mi + 1, W + 30 * mi, Inv.ps _ h⟩, a10, a7.trans hn⟩
  obtain ⟨r, r1, r2⟩ := List.mem_map.mp ho
  rw [← r2, hn]
  exact okO_od (hO r r1)
theorem Inv.nn {mi W : Nat} {m : Md} (h : Inv mi W m) : nnT m := fun k hk => by
  obtain ⟨⟨t, b, t1, t2, t3, t4⟩, -⟩ := h.2.2.2.1 k hk
  exact ⟨t, by omega, t3⟩
section WD
variable {N : Nat} {z : Nat → Nat} {b L : Nat} {xs : Nat → Int32} {Y o : Nat} {os : List (Nat → Nat)}
theorem law_passI {x : Hp} {m : Md} {mi W : Nat} (h : SimR x o m os L96) (i : Inv mi W m) (hc : Cpy m) (hO : ∀ r ∈ os, RawO (m_n m) r) (hmi : mi < 2 ^ 30) (hN : 61 ≤ N) : ∃ y, f_X12_pass N z o x = some ((), y) ∧ SimR y o (passM (os.map odOf) m).1 os L96 ∧ Fr x y o (simE o m os) := by
  obtain ⟨w, w1, w2⟩ := i.2.2.2.2.2.1
  exact law_pass h hc i.2.2.1 i.nn (fun k hk => (i.2.2.2.1 k hk).2.2.2) i.2.2.2.2.1 hO i.2.2.2.2.2.2.1 hmi w2 w1 hN
theorem behind_l (hN : 61 ≤ N) : ∀ (n r d : Nat) (x : Hp) (m : Md) (mi : Nat) (v : Int32), SimR x o m os L96 → IInv mi m → Cpy m → (∀ r ∈ os, RawO (m_n m) r) → mi + r < 2 ^ 30 → d + r < 2 ^ 31 → r < n → ∃ y, f_X12_behind_b2 N z n o (nI (d + r)) (nI d) x = some (some o, y) ∧ SimR y o (passN (os.map odOf) r m v).1 os L96 ∧ Fr x y o (simE o m os)
  | 0, r, d, x, m, mi, v, h, i, hc, hO, hmi, hd, hn => absurd hn (by omega)
  | n + 1, 0, d, x, m, mi, v, h, i, hc, hO, hmi, hd, hn => by
    rw [f_X12_behind_b2, if_pos (nI_le (by omega) (by omega))]
    exact ⟨x, rfl, h, Fr.rf⟩
  | n + 1, r + 1, d, x, m, mi, v, h, i, hc, hO, hmi, hd, hn => by
    obtain ⟨y, e1, e2, e3⟩ := law_passI (N := N) (z := z) h i hc hO (by omega) hN
    obtain ⟨w, a1, a2, a3, a4, a5, a6, a7, a8, a9, a10, -⟩ := pass_facts (os.map odOf) i hc
    obtain ⟨u, d1, d2, d3⟩ := behind_l hN n r (d + 1) y _ (mi + 1) (v + nI (passM (os.map odOf) m).2) e2 (i.ps _) a10 (fun r hr => by rw [a7]; exact hO r hr) (by omega) (by omega) (by omega)
    rw [simE_x a7 a8] at d3
    rw [f_X12_behind_b2, if_neg (nI_ge (by omega) (by omega)), obj_s h.k, e1, bnd_s, nI_1, show d + (r + 1) = d + 1 + r by omega]
    exact ⟨u, d1, d2, e3.tr d3⟩
def Wd (b L : Nat) (xs : Nat → Int32) (Y o : Nat) (os : List (Nat → Nat)) (x : Hp) (m : Md) : Prop := (b < Y ∧ h_k x b = 301 ∧ h_n x b = L ∧ L < 2 ^ 31) ∧ BrS x Y ∧ Site x (Y + 90) (Y + 66) m ∧ SiteS x (Y + 121) (Y + 66) ∧ BkO x (Y + 66) (m_n m) (os.map odOf) ∧ SimR x o m os L96 ∧ Cpy m ∧ Y + 152 ≤ o ∧ simE o m os ≤ h_sz x ∧ (∀ r ∈ os, RawO (m_n m) r) ∧ 1 ≤ m_n m
/-- the same, of a heap behind it -/
theorem Wd.to {x y : Hp} {m m' : Md} (h : Wd b L xs Y o os x m) (a1 : Ag x y 0 (Y + 90)) (a2 : SiteS y (Y + 121) (Y + 66)) (h1 : Site y (Y + 90) (Y + 66) m') (h2 : SimR y o m' os L96) (h3 : Cpy m') (h4 : m_n m' = m_n m) (h5 : m_m m' = m_m m) (h6 : h_sz x ≤ h_sz y) : Wd b L xs Y o os y m' := by
  obtain ⟨⟨s1, s2, s3, s4⟩, w2, w3, w4, w5, w6, w7, w8, w9, w10, w11⟩ := h
  refine ⟨⟨s1, (a1.k ⟨Nat.zero_le _, by omega⟩).trans s2, (a1.n ⟨Nat.zero_le _, by omega⟩).trans s3, s4⟩, w2.ag a1 ⟨Nat.zero_le _, by omega⟩, h1, a2, ?_, h2, h3, w8, ?_, ?_, by rw [h4]; exact w11⟩
  · rw [h4]
    exact w5.ag a1 ⟨Nat.zero_le _, by omega⟩
  · rw [simE_x h4 h5]
    omega
  · rw [h4]
    exact w10
/-- where only new cells were made -/
theorem Wd.nw {x y : Hp} {m : Md} (h : Wd b L xs Y o os x m) (a : Ag x y 0 (h_sz x)) (h6 : h_sz x ≤ h_sz y) : Wd b L xs Y o os y m := by
  have w8 := h.2.2.2.2.2.2.2.1
  have w9 := h.2.2.2.2.2.2.2.2.1
  have hE : o ≤ simE o m os := by unfold simE; omega
  exact h.to (a.wd (Nat.le_refl _) (by omega)) (h.2.2.2.1.ag a ⟨by omega, by omega⟩) (h.2.2.1.ag a ⟨by omega, by omega⟩) (h.2.2.2.2.2.1.ag a ⟨by omega, w9⟩) h.2.2.2.2.2.2.1 rfl rfl h6
end WD
