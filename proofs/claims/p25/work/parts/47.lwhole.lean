/-! ===== the law's folk, its whole minute ===== -/
/-- folk as they are told -/
def FkX (m : Md) : Prop := ∀ j, j < m_m m → ∃ ln c ev fr, ln < m_n m ∧ c ≤ 30 ∧ 1 ≤ ev ∧ ev ≤ 30 ∧ fr ≤ 99 ∧ m_F m j 60 = nI ln ∧ m_F m j 61 = nI c ∧ m_F m j 63 = nI ev ∧ m_F m j 64 = nI fr
theorem FkX.w {m : Md} (h : FkX m) : FkW m := fun j hj => by
  obtain ⟨ln, c, ev, fr, h1, h2, h3, h4, h5, h6, h7, h8, h9⟩ := h j hj
  exact ⟨ln, c, h1, h2, h6, h7⟩
theorem FkX.fs {m : Md} {j : Nat} (h : FkX m) : FkX (folkS m j) := by
  obtain ⟨h1, h2, h3, h4, h5, h6⟩ := folkS_x m j
  intro i hi
  rw [h2] at hi
  rw [h1, h6 i 60 (by decide), h6 i 61 (by decide), h6 i 63 (by decide), h6 i 64 (by decide)]
  exact h i hi
theorem obeyN_x : ∀ (l : List Od) (m : Md), m_n (obeyN l m) = m_n m ∧ m_m (obeyN l m) = m_m m ∧ m_O (obeyN l m) = m_O m ∧ m_F (obeyN l m) = m_F m ∧ m_Q (obeyN l m) = m_Q m ∧ (∀ f, f ≠ 170 → m_V (obeyN l m) f = m_V m f) ∧ ∀ j g, g ≠ 83 → g ≠ 84 → g ≠ 90 → m_A (obeyN l m) j g = m_A m j g
  | [], m => ⟨rfl, rfl, rfl, rfl, rfl, fun _ _ => rfl, fun _ _ _ _ _ => rfl⟩
  | o :: t, m => by
    obtain ⟨a1, a2, a3, a4, a5, a6, a7⟩ := obeyN_x t (obeyM m o.1 o.2.1 o.2.2.1 o.2.2.2)
    obtain ⟨b1, b2, b3, b4, b5, b6, b7⟩ := obeyM_x (m := m) (kd := o.1) (ln := o.2.1) (S := o.2.2.1) (T := o.2.2.2)
    exact ⟨a1.trans b1, a2.trans b2, a3.trans b3, a4.trans b4, a5.trans b5, fun f hf => (a6 f hf).trans (b6 f hf), fun j g g1 g2 g3 => (a7 j g g1 g2 g3).trans (b7 j g g1 g2 g3)⟩
theorem takeN_A : ∀ (c : Nat) (m : Md) (k i f : Nat), f ≠ 87 → m_A (takeN c m k) i f = m_A m i f
  | 0, m, k, i, f, hf => rfl
  | c + 1, m, k, i, f, hf => by
    rw [takeN, takeN_A c (tkP m k) k i f hf, tkP, sL_A]
    split
    · rename_i e
      rw [tkA_ne hf, e]
    · rfl
theorem folkS_A (m : Md) (j i f : Nat) (hf : f ≠ 87) : m_A (folkS m j) i f = m_A m i f := by
  unfold folkS
  split
  · rfl
  · exact takeN_A _ _ _ _ _ hf
theorem folkN_A : ∀ (r j : Nat) (m : Md) (i f : Nat), f ≠ 87 → m_A (folkN r j m) i f = m_A m i f
  | 0, j, m, i, f, hf => rfl
  | r + 1, j, m, i, f, hf => (folkN_A r (j + 1) (folkS m j) i f hf).trans (folkS_A m j i f hf)
theorem nnT.cg {m m' : Md} (h : nnT m) (e1 : m_n m' = m_n m) (e2 : ∀ k, m_A m' k 85 = m_A m k 85) : nnT m' := fun k hk => by
  rw [e2]
  exact h k (by rw [← e1]; exact hk)
section LW
variable {N : Nat} {z : Nat → Nat} {o : Nat} {os : List (Nat → Nat)}
theorem SimR.rf {β : Type} {x : Hp} {m : Md} {lim : Nat → Nat} {j g f : Nat} {F : Int32} {K : Int32 → Option β} (h : SimR x o m os lim) (hj : j < m_m m) (hF : F = nI g) (hg : (g = 0 ∧ f = 60) ∨ (g = 1 ∧ f = 61) ∨ (g = 2 ∧ f = 63) ∨ (g = 3 ∧ f = 64) ∨ (g = 4 ∧ f = 62)) : aldi (some (o + 6 + 2 * m_n m + j)) x 101 F K = K (m_F m j f) := by
  obtain ⟨a1, a2, a3, a4, a5, a6, a7, a8, a9, a10, a11, a12⟩ := h.1
  obtain ⟨b1, b2, b3⟩ := a12 j hj
  obtain ⟨c1, c2, c3, c4, c5⟩ := h.2.2.1 j hj
  subst hF
  rw [aldi_s b2 (by omega) (by omega)]
  rcases hg with ⟨d, e⟩ | ⟨d, e⟩ | ⟨d, e⟩ | ⟨d, e⟩ | ⟨d, e⟩ <;> subst d <;> subst e
  · rw [c1]
  · rw [c2]
  · rw [c3]
  · rw [c4]
  · rw [c5]
theorem SimR.fa {β : Type} {x : Hp} {m : Md} {lim : Nat → Nat} {j : Nat} {K : Option Nat → Option β} (h : SimR x o m os lim) (hj : j < m_m m) : aldr (some (o + 5 + 2 * m_n m)) x 107 (nI j) K = K (some (o + 6 + 2 * m_n m + j)) := by
  obtain ⟨a1, a2, a3, a4, a5, a6, a7, a8, a9, a10, a11, a12⟩ := h.1
  rw [aldr_s a9 (by omega) (by omega), (a12 j hj).1]
theorem lfolk_l {lim : Nat → Nat} {mi : Nat} (hlim : ∀ k, 96 ≤ lim k) (hN : 61 ≤ N) (hmi : mi < 2 ^ 30) : ∀ (n r j : Nat) (x : Hp) (m : Md), SimR x o m os lim → WfQ m → FkX m → m_V m 161 = nI mi → j + r = m_m m → r < n → ∃ y n', f_X12_pass_b289 N z n o (some (o + 5 + 2 * m_n m)) (nI (m_m m)) (nI j) x = f_X12_pass_b289 N z (n' + 1) o (some (o + 5 + 2 * m_n m)) (nI (m_m m)) (nI (m_m m)) y ∧ SimR y o (folkN r j m) os lim ∧ Fr x y o (simE o m os)
  | 0, r, j, x, m, h, hw, hf, hm, hj, hn => absurd hn (by omega)
  | n + 1, 0, j, x, m, h, hw, hf, hm, hj, hn => by
    rw [show j = m_m m by omega]
    exact ⟨x, n, rfl, h, Fr.rf⟩
  | n + 1, r + 1, j, x, m, h, hw, hf, hm, hj, hn => by
    have m8 := h.m8
    have n6 := h.n6
    have hj2 : j < m_m m := by omega
    obtain ⟨ln, c, ev, fr, f1, f2, f3, f4, f5, f6, f7, f8, f9⟩ := hf j hj2
    obtain ⟨k1, k2, k3, k4, k5, k6⟩ := folkS_x m j
    have fin : ∀ y, SimR y o (folkS m j) os lim → Fr x y o (simE o m os) → ∃ w n', f_X12_pass_b359 N z (f_X12_pass_b289 N z n) o (some (o + 5 + 2 * m_n m)) (nI (m_m m)) (nI j) y = f_X12_pass_b289 N z (n' + 1) o (some (o + 5 + 2 * m_n m)) (nI (m_m m)) (nI (m_m m)) w ∧ SimR w o (folkN (r + 1) j m) os lim ∧ Fr x w o (simE o m os) := by
      intro y hy fy
      obtain ⟨w, n', d1, d2, d3⟩ := lfolk_l hlim hN hmi n r (j + 1) y (folkS m j) hy (hw.fs n6 hf.w hj2) hf.fs (by rw [k4]; exact hm) (by rw [k2]; omega) (by omega)
      rw [k1, k2] at d1
      rw [simE_x k1 k2] at d3
      refine ⟨w, n', ?_, d2, fy.tr d3⟩
      unfold f_X12_pass_b359
      rw [nI_1]
      exact d1
    rw [f_X12_pass_b289, if_neg (nI_ge hj2 (by omega)), h.fa hj2, geti_s h.k, h.2.1.1, h.rf (F := 3) (g := 3) (f := 64) hj2 rfl (by decide), hm, f9]
    by_cases c1 : mi < fr
    · rw [if_pos (nI_lt c1 (by omega))]
      have e0 : folkS m j = m := by
        unfold folkS comeM
        rw [hm, f9, if_pos (nI_lt c1 (by omega)), if_pos rfl]
      exact fin x (by rw [e0]; exact h) Fr.rf
    · have hz : ¬ nI ev = 0 := nI_ne0 (by omega) (by omega)
      have erem : nI mi - nI fr - (nI mi - nI fr) / nI ev * nI ev = nI ((mi - fr) % ev) := by
        rw [pk_sub (by omega), pk_rem (by omega) (by omega) (by omega)]
      have hlt : (mi - fr) % ev < ev := Nat.mod_lt _ (by omega)
      have ecome : comeM (m_F m j) (m_V m 161) = if (mi - fr) % ev = 0 then 1 else 0 := by
        unfold comeM
        rw [hm, f9, f8, if_neg (nI_nlt (by omega) (by omega)), if_neg (nI_nle (by omega) (by omega)), erem]
        by_cases c3 : (mi - fr) % ev = 0
        · rw [c3, if_pos rfl, if_pos (show nI 0 = 0 from rfl)]
        · rw [if_neg c3, if_neg (nI_ne0 (by omega) (by omega))]
      rw [if_neg (nI_nlt (by omega) (by omega)), geti_s h.k, h.2.1.1, h.rf (F := 3) (g := 3) (f := 64) hj2 rfl (by decide), h.rf (F := 2) (g := 2) (f := 63) hj2 rfl (by decide), hm, f9, f8, nz, if_neg hz, erem]
      by_cases c2 : (mi - fr) % ev = 0
      · obtain ⟨y, d1, d2, d3⟩ := law_bring (N := N) (z := z) (k := ln) (c := c) h hlim hw f1 f2 hN
        have t1 := takeN_x c m ln
        have hj3 : j < m_m (takeI m ln c) := by show j < m_m (takeN c m ln); rw [t1.2.2.2.2]; exact hj2
        have en : m_n (takeI m ln c) = m_n m := t1.2.1
        have em : m_m (takeI m ln c) = m_m m := t1.2.2.2.2
        have eF : m_F (takeI m ln c) = m_F m := t1.2.2.2.1
        have r4 := fun (K : Int32 → Option (Unit × Hp)) => d2.rf (F := 4) (g := 4) (f := 62) (K := K) hj3 rfl (by decide)
        have r1 := fun (K : Int32 → Option (Unit × Hp)) => d2.rf (F := 1) (g := 1) (f := 61) (K := K) hj3 rfl (by decide)
        obtain ⟨g, gf⟩ := d2.wf (v := m_F m j 62 + m_F m j 61) hj3
        rw [en] at r4 r1 g gf
        rw [eF] at r4 r1
        have w4 : ∀ (v : Int32) (K : Hp → Option (Unit × Hp)), asti (some (o + 6 + 2 * m_n m + j)) y 101 (4 : Int32) v K = K (p_ai y (o + 6 + 2 * m_n m + j) 4 v) := by
          intro v K
          obtain ⟨a1, a2, a3, a4, a5, a6, a7, a8, a9, a10, a11, a12⟩ := d2.1
          obtain ⟨b1, b2, b3⟩ := a12 j hj3
          rw [en] at b2 b3
          exact asti_s (j := 4) b2 (by omega) (by omega)
        have e1 : folkS m j = sF (takeI m ln c) j 62 (m_F m j 62 + m_F m j 61) := by
          unfold folkS
          rw [ecome, if_pos c2, if_neg (by decide), f6, f7, nI_clamp (by omega), nI_clamp (by omega)]
        rw [c2, if_pos (by decide), getr_s h.k, h.rl, h.rf (F := 0) (g := 0) (f := 60) hj2 rfl (by decide), f6, h.al f1, h.rf (F := 1) (g := 1) (f := 61) hj2 rfl (by decide), f7, obj_s h.k, d1, bnd_s, r4, r1, w4]
        have d3' : Fr x (p_ai y (o + 6 + 2 * m_n m + j) 4 (m_F m j 62 + m_F m j 61)) o (simE o m os) := by
          refine d3.tr ?_
          rw [simE_x en em] at gf
          exact gf
        exact fin _ (by rw [e1]; exact g) d3'
      · rw [if_neg (nI_nle (by omega) (by omega))]
        have e0 : folkS m j = m := by
          unfold folkS
          rw [ecome, if_neg c2, if_pos rfl]
        exact fin x (by rw [e0]; exact h) Fr.rf
theorem lord_l {lim : Nat → Nat} (hlim : ∀ k, 96 ≤ lim k) : ∀ (t pre : List (Nat → Nat)) (n : Nat) (x : Hp) (m : Md), os = pre ++ t → SimR x o m os lim → (∀ r ∈ os, RawO (m_n m) r) → WfQ m → nnT m → t.length < n → ∃ y n', f_X12_pass_b42 N z n o (some (o + 6 + 2 * m_n m + m_m m)) (nI os.length) (nI pre.length) x = f_X12_pass_b42 N z (n' + 1) o (some (o + 6 + 2 * m_n m + m_m m)) (nI os.length) (nI os.length) y ∧ SimR y o (obeyN (t.map odOf) m) os lim ∧ Fr x y o (simE o m os)
  | t, pre, 0, x, m, e, h, hr, hw, ht, hn => absurd hn (by omega)
  | [], pre, n + 1, x, m, e, h, hr, hw, ht, hn => by
    rw [show pre = os by rw [e, List.append_nil]]
    exact ⟨x, n, rfl, h, Fr.rf⟩
  | r :: t, pre, n + 1, x, m, e, h, hr, hw, ht, hn => by
    have hi : pre.length < os.length := by rw [e]; simp
    have eg : os.getD pre.length (fun _ => 0) = r := by rw [e]; simp [List.getD_eq_getElem?_getD]
    obtain ⟨y, d1, d2, d3⟩ := law_obey (N := N) (z := z) (n := n) h hlim hi (by rw [eg]; exact hr r (by rw [e]; simp)) hw ht
    rw [eg] at d2
    obtain ⟨b1, b2, b3, b4, b5, b6, b7⟩ := obeyM_x (m := m) (kd := (odOf r).1) (ln := (odOf r).2.1) (S := (odOf r).2.2.1) (T := (odOf r).2.2.2)
    obtain ⟨w, n', c1, c2, c3⟩ := lord_l hlim t (pre ++ [r]) n y _ (by rw [e]; simp) d2 (fun q hq => by rw [b1]; exact hr q hq) hw.ob (ht.cg b1 (fun k => b7 k 85 (by decide) (by decide) (by decide))) (by simp at hn; omega)
    rw [b1, b2, List.length_append, List.length_singleton] at c1
    rw [simE_x b1 b2] at c3
    exact ⟨w, n', d1.trans c1, c2, d3.tr c3⟩
theorem lopen2_l {lim : Nat → Nat} {v1 : Option Nat} (hv : v1 = some (o + 4)) : ∀ (n r k : Nat) (x : Hp) (m : Md), SimR x o m os lim → k + r = m_n m → r < n → ∃ y n', f_X12_pass_b10 N z n o v1 (nI (m_n m)) (nI k) x = f_X12_pass_b10 N z (n' + 1) o v1 (nI (m_n m)) (nI (m_n m)) y ∧ SimR y o (opnN r k m) os lim ∧ Fr x y o (simE o m os)
  | 0, r, k, x, m, h, hk, hn => absurd hn (by omega)
  | n + 1, 0, k, x, m, h, hk, hn => by
    rw [show k = m_n m by omega]
    exact ⟨x, n, rfl, h, Fr.rf⟩
  | n + 1, r + 1, k, x, m, h, hk, hn => by
    have h6 := h.n6
    have k2 : k < m_n m := by omega
    obtain ⟨g, gf⟩ := h.wr (k := k) (n := 276) (f := 90) (v := 0) k2 rfl (by decide)
    obtain ⟨y, n', e1, e2, e3⟩ := lopen2_l hv n r (k + 1) _ _ g (by show k + 1 + r = m_n m; omega) (by omega)
    rw [f_X12_pass_b10, if_neg (nI_ge k2 (by omega)), hv, h.al k2, puti_s (h.l k2).1, nI_1]
    rw [hv] at e1
    exact ⟨y, n', e1, e2, gf.tr e3⟩
/-- the law's minute is the class's -/
theorem law_pass {x : Hp} {m : Md} {mi w : Nat} (h : SimR x o m os L96) (hc : Cpy m) (hw : WfQ m) (ht : nnT m) (hrk : ∀ i, i < m_n m → ∃ q, q ≤ 9 ∧ m_A m i 92 = nI q) (hf : FkX m) (hO : ∀ r ∈ os, RawO (m_n m) r) (hm : m_V m 161 = nI mi) (hmi : mi < 2 ^ 30) (h2 : m_V m 162 = nI w) (hw30 : w ≤ 30) (hN : 61 ≤ N) : ∃ y, f_X12_pass N z o x = some ((), y) ∧ SimR y o (passM (os.map odOf) m).1 os L96 ∧ Fr x y o (simE o m os) := by
  have n6 := h.n6
  have m8 := h.m8
  have o20 := h.2.2.2.1.2.2.1
  obtain ⟨x1, n1, a1, a2, a3⟩ := lopen2_l (N := N) (z := z) (v1 := some (o + 4)) rfl N (m_n m) 0 x m h (by omega) (by omega)
  have a4 : SimR x1 o m os L96 := by
    obtain ⟨b1, b2, b3, b4, b5, b6, b7⟩ := opnN_x (m_n m) 0 m
    refine a2.cg ⟨b1.symm, b2.symm, fun k _ => by rw [b3], fun k _ => by rw [b6], fun k hk f _ => ?_, fun j _ f _ _ => by rw [b5], fun f _ => by rw [b4]⟩
    rw [b7]
    split
    · rename_i c
      rw [c.2.2]
      exact (hc k (by omega)).2.1
    · rfl
  obtain ⟨x2, n2, c1, c2, c3⟩ := lord_l (N := N) (z := z) (os := os) (fun _ => Nat.le_refl 96) os [] N x1 m rfl a4 hO hw ht (by omega)
  obtain ⟨p1, p2, p3, p4, p5, p6, p7⟩ := obeyN_x (os.map odOf) m
  have wq : WfQ (obeyN (os.map odOf) m) := fun k hk => by
    rw [p5, p7 k 93 (by decide) (by decide) (by decide)]
    exact hw k (by rw [← p1]; exact hk)
  have fx : FkX (obeyN (os.map odOf) m) := fun j hj => by
    rw [p4, p1]
    exact hf j (by rw [← p2]; exact hj)
  obtain ⟨x3, n3, d1, d2, d3⟩ := lfolk_l (N := N) (z := z) (os := os) (fun _ => Nat.le_refl 96) hN hmi N (m_m m) 0 x2 _ c2 wq fx (by rw [p6 161 (by decide)]; exact hm) (by rw [p2]; omega) (by omega)
  rw [p1, p2] at d1
  rw [simE_x p1 p2] at d3
  obtain ⟨q1, q2, q3, q4, q5⟩ := folkN_x (m_m m) 0 (obeyN (os.map odOf) m)
  have eA : ∀ i f, f ≠ 87 → f ≠ 83 → f ≠ 84 → f ≠ 90 → m_A (folkN (m_m m) 0 (obeyN (os.map odOf) m)) i f = m_A m i f := fun i f f1 f2 f3 f4 => (folkN_A _ _ _ i f f1).trans (p7 i f f2 f3 f4)
  have en : m_n (folkN (m_m m) 0 (obeyN (os.map odOf) m)) = m_n m := q1.trans p1
  have em : m_m (folkN (m_m m) 0 (obeyN (os.map odOf) m)) = m_m m := q2.trans p2
  obtain ⟨x4, e1, e2, e3⟩ := ltok_l (N := N) (z := z) (o := o) (os := os) (w := w) hN hw30 N (m_n m) 0 x3 (folkN (m_m m) 0 (obeyN (os.map odOf) m)) (by
      have : (fun i => if i < 0 then 98 else 96 : Nat → Nat) = L96 := by funext i; rw [if_neg (by omega)]; rfl
      rw [this]
      exact d2) (fun i hi => by
      rw [en] at hi
      rw [eA i 96 (by decide) (by decide) (by decide) (by decide), eA i 97 (by decide) (by decide) (by decide) (by decide)]
      exact ⟨(hc i hi).2.2.1, (hc i hi).2.2.2⟩) (fun i hi => by
      rw [en] at hi
      rw [eA i 92 (by decide) (by decide) (by decide) (by decide)]
      exact hrk i hi) (q5.trans ((p6 162 (by decide)).trans h2)) (by rw [en]; omega) (by omega)
  rw [simE_x en em] at e3
  rw [en] at e1
  refine ⟨x4, ?_, ?_, ((a3.tr c3).tr d3).tr e3⟩
  · unfold f_X12_pass
    rw [getr_s h.k, h.rl, h.an, show (0 : Int32) = nI 0 from rfl, a1, f_X12_pass_b10, if_pos (nI_le (Nat.le_refl _) (by omega)), getr_s a4.k, a4.1.2.2.2.1, alen_s a4.2.2.2.1.1, a4.2.2.2.1.2.1, show (0 : Int32) = nI 0 from rfl]
    rw [show ([] : List (Nat → Nat)).length = 0 from rfl] at c1
    rw [c1, f_X12_pass_b42, if_pos (nI_le (Nat.le_refl _) (by omega)), getr_s c2.k, c2.1.2.2.1, p1, alen_s (by have := c2.1.2.2.2.2.2.2.2.2.1; rw [p1] at this; exact this), (by have := c2.1.2.2.2.2.2.2.2.2.2.1; rw [p1, p2] at this; exact this : h_n x2 (o + 5 + 2 * m_n m) = m_m m), show (0 : Int32) = nI 0 from rfl, d1, f_X12_pass_b289, if_pos (nI_le (Nat.le_refl _) (by omega)), getr_s d2.k, d2.rl, d2.an, en, show (0 : Int32) = nI 0 from rfl, e1]
  · have ep : passM (os.map odOf) m = laterN (m_n m) 0 (folkN (m_m m) 0 (obeyN (os.map odOf) m)) := by
      unfold passM laterM laterN
      rw [en]
    rw [ep]
    exact e2
end LW
