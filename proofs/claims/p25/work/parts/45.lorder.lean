/-! ===== the law's orders ===== -/
/-- the code of a sum that the law tells -/
def tldC (s l n : Nat) : List (Nat × Nat) := if s = 0 then [(35, n)] else if s = 1 then [(20, 0), (35, n), (45, 0)] else if s = 2 then [(21, 0), (22, l), (43, 0)] else if s = 3 then [(23, l), (35, 2), (42, 0), (35, n), (45, 0)] else if s = 4 then [(24, l), (35, 2), (47, 0)] else if s = 5 then [(25, l), (26, l), (45, 0)] else [(35, n), (35, 30), (22, l), (45, 0), (32, 0)]
/-- the code of a test that the law tells -/
def tstC (s l n : Nat) : List (Nat × Nat) := if s = 0 then [(27, l)] else if s = 1 then [(28, l), (29, 0)] else if s = 2 then [(20, 0), (35, n), (37, 0)] else if s = 3 then [(28, l), (21, 0), (35, n), (60, 0), (31, 0)] else if s = 4 then [(27, l), (29, 0), (20, 0), (35, 4), (47, 0), (35, 4), (42, 0), (20, 0), (61, 0), (30, 0)] else if s = 5 then [(23, l), (35, 2), (42, 0), (35, n), (45, 0), (21, 0), (22, l), (43, 0), (62, 0)] else [(35, 2), (35, 1), (62, 0)]
/-- an order of the law's as the class's -/
def odOf (r : Nat → Nat) : Od := (16 + r 0, r 1, if r 0 = 2 then [] else tldC (r 2) (r 3) (r 4), if r 0 = 1 ∧ r 5 = 6 then [] else tstC (r 5) (r 6) (r 7))
/-- the numbers of an order of the law's -/
def RawO (n : Nat) (r : Nat → Nat) : Prop := r 0 < 3 ∧ r 1 < n ∧ r 2 < 7 ∧ r 3 < n ∧ r 4 < 31 ∧ r 5 < 7 ∧ r 6 < n ∧ r 7 < 25
def nnT (m : Md) : Prop := ∀ k, k < m_n m → ∃ t, t < 2 ^ 20 ∧ m_A m k 85 = nI t
section LV
variable {x : Hp} {N : Nat} {z : Nat → Nat} {o : Nat} {m : Md} {os : List (Nat → Nat)} {lim : Nat → Nat}
theorem SimO.rd {β : Type} {q i f : Nat} {F : Int32} {K : Int32 → Option β} (h : SimO x q os) (hi : i < os.length) (hF : F = nI f) (hf : f < 8) : aldi (some (q + 1 + i)) x 101 F K = K (nI (os.getD i (fun _ => 0) f)) := by
  obtain ⟨a1, a2, a3, a4⟩ := h
  obtain ⟨b1, b2, b3, b4⟩ := a4 i hi
  subst hF
  rw [aldi_s b2 (by omega) (by omega), b4 f hf]
theorem law_value {s l n : Nat} (h : SimR x o m os lim) (hlim : ∀ k, 96 ≤ lim k) (hl : l < m_n m) (hs : s < 7) : f_X12_value N z o (nI s) (some (o + 5 + 2 * l)) (nI n) x = some (valM m (tldC s l n), x) := by
  have hh := h.l hl
  have h96 := hlim l
  have e85 := hh.g 85 (n := 266) rfl (by decide) (by omega)
  have e86 := hh.g 86 (n := 271) rfl (by decide) (by omega)
  have e87 := hh.g 87 (n := 272) rfl (by decide) (by omega)
  have e95 := hh.g 95 (n := 273) rfl (by decide) (by omega)
  have e270 := hh.2.2.2.2.2.2.1
  have c : s = 0 ∨ s = 1 ∨ s = 2 ∨ s = 3 ∨ s = 4 ∨ s = 5 ∨ s = 6 := by omega
  unfold f_X12_value
  rcases c with c | c | c | c | c | c | c <;> subst c
  · rw [if_pos (by decide)]; rfl
  · rw [if_neg (by decide), if_pos (by decide), geti_s h.k, h.2.1.1]; rfl
  · rw [if_neg (by decide), if_neg (by decide), if_pos (by decide), geti_s h.k, h.2.1.2.2.2.2, geti_s hh.1, e85]; rfl
  · rw [if_neg (by decide), if_neg (by decide), if_neg (by decide), if_pos (by decide), geti_s hh.1, e270]; rfl
  · rw [if_neg (by decide), if_neg (by decide), if_neg (by decide), if_neg (by decide), if_pos (by decide), geti_s hh.1, e86, nz, if_neg (by decide)]; rfl
  · rw [if_neg (by decide), if_neg (by decide), if_neg (by decide), if_neg (by decide), if_neg (by decide), if_pos (by decide), geti_s hh.1, e87, geti_s hh.1, e95]; rfl
  · rw [if_neg (by decide), if_neg (by decide), if_neg (by decide), if_neg (by decide), if_neg (by decide), if_neg (by decide), geti_s hh.1, e85]; rfl
theorem ite01 {p : Prop} [Decidable p] {v : Int32} (h : p ↔ v = 0) : (if p then some ((0 : Int32), x) else some ((1 : Int32), x)) = some (if v = 0 then (0 : Int32) else 1, x) := by
  by_cases c : p
  · rw [if_pos c, if_pos (h.mp c)]
  · rw [if_neg c, if_neg (fun q => c (h.mpr q))]
theorem ite10 {p : Prop} [Decidable p] {v : Int32} (h : p ↔ v ≠ 0) : (if p then some ((1 : Int32), x) else some ((0 : Int32), x)) = some (if v = 0 then (0 : Int32) else 1, x) := by
  by_cases c : p
  · rw [if_pos c, if_neg (h.mp c)]
  · rw [if_neg c, if_pos (Decidable.not_not.mp (fun q => c (h.mpr q)))]
theorem law_holds {s l n : Nat} (h : SimR x o m os lim) (hlim : ∀ k, 96 ≤ lim k) (hl : l < m_n m) (hs : s < 7) (hw : WfQ m) (ht : nnT m) : f_X12_holds N z o (nI s) (nI l) (nI n) x = some (if valM m (tstC s l n) = 0 then 0 else 1, x) := by
  have hh := h.l hl
  have h96 := hlim l
  have e85 := hh.g 85 (n := 266) rfl (by decide) (by omega)
  have e93 := hh.g 93 (n := 267) rfl (by decide) (by omega)
  have e270 := hh.2.2.2.2.2.2.1
  obtain ⟨H, w1, w2, w3, w4⟩ := hw l hl
  obtain ⟨t, t1, t2⟩ := ht l hl
  have c : s = 0 ∨ s = 1 ∨ s = 2 ∨ s = 3 ∨ s = 4 ∨ s = 5 ∨ s = 6 := by omega
  have t01 : ¬ (1 : Int32) = 0 := by decide
  unfold f_X12_holds
  rw [getr_s h.k, h.rl, h.al hl]
  rcases c with c | c | c | c | c | c | c <;> subst c
  · rw [if_pos (by decide), geti_s hh.1, geti_s hh.1, e270, e93]
    refine ite10 ?_
    show _ ↔ (if nI (m_Q m l).length < m_A m l 93 then (0 : Int32) else 1) ≠ 0
    rw [w3, nI_eq (by omega) (by omega)]
    by_cases d : nI (m_Q m l).length < nI H
    · rw [if_pos d]
      have := (nI_ltI (by omega) (by omega)).mp d
      simp
      omega
    · rw [if_neg d]
      have := mt (nI_ltI (a := (m_Q m l).length) (b := H) (by omega) (by omega)).mpr d
      simp [t01]
      omega
  · rw [if_neg (by decide), if_pos (by decide), geti_s hh.1, e85]
    refine ite01 ?_
    show _ ↔ (1 : Int32) - (if m_A m l 85 = 0 then (1 : Int32) else 0) = 0
    rw [t2]
    by_cases d : t = 0
    · subst d
      exact ⟨fun _ => rfl, fun _ => by decide⟩
    · rw [if_neg (show ¬ nI t = (0 : Int32) from fun q => d ((nI_eq (b := 0) (by omega) (by omega)).mp q))]
      exact ⟨fun q => absurd q (nI_nle (by omega) (by omega)), fun q => absurd q (by decide)⟩
  · rw [if_neg (by decide), if_neg (by decide), if_pos (by decide), geti_s h.k, h.2.1.1]
    refine ite01 ?_
    show _ ↔ (if m_V m 161 < nI n then (0 : Int32) else 1) = 0
    by_cases d : m_V m 161 < nI n
    · rw [if_pos d]; exact ⟨fun _ => rfl, fun _ => d⟩
    · rw [if_neg d]; exact ⟨fun q => absurd q d, fun q => absurd q t01⟩
  · rw [if_neg (by decide), if_neg (by decide), if_neg (by decide), if_pos (by decide), geti_s hh.1, e85]
    unfold f_X12_holds_b111
    have ev : valM m (tstC 3 l n) = (if m_A m l 85 = 0 then (1 : Int32) else 0) ||| (if nI n ≤ m_V m 168 then (0 : Int32) else 1) := rfl
    rw [ev]
    by_cases d : m_A m l 85 = 0
    · rw [if_pos d, if_pos d]
      by_cases e : nI n ≤ m_V m 168
      · rw [if_pos e]; rfl
      · rw [if_neg e]; rfl
    · rw [if_neg d, if_neg d, geti_s h.k, h.2.1.2.2.2.2]
      by_cases e : nI n ≤ m_V m 168
      · rw [if_pos e, if_pos e]; rfl
      · rw [if_neg e, if_neg e]; rfl
  · rw [if_neg (by decide), if_neg (by decide), if_neg (by decide), if_neg (by decide), if_pos (by decide), geti_s hh.1, geti_s hh.1, e270, e93]
    have ev : valM m (tstC 4 l n) = ((1 : Int32) - (if nI (m_Q m l).length < m_A m l 93 then (0 : Int32) else 1)) &&& (if m_V m 161 / 4 * 4 = m_V m 161 then (1 : Int32) else 0) := rfl
    rw [ev, w3]
    by_cases d : nI (m_Q m l).length < nI H
    · have := (nI_ltI (by omega) (by omega)).mp d
      rw [if_pos d, if_neg (nI_ge this (by omega)), geti_s h.k, h.2.1.1, nz, if_neg (by decide), geti_s h.k, h.2.1.1]
      by_cases e : m_V m 161 / 4 * 4 = m_V m 161
      · rw [if_pos e, if_pos e]; rfl
      · rw [if_neg e, if_neg e]; rfl
    · have := mt (nI_ltI (a := (m_Q m l).length) (b := H) (by omega) (by omega)).mpr d
      rw [if_neg d, if_pos (nI_le (by omega) (by omega))]
      by_cases e : m_V m 161 / 4 * 4 = m_V m 161
      · rw [if_pos e]; rfl
      · rw [if_neg e]; rfl
  · rw [if_neg (by decide), if_neg (by decide), if_neg (by decide), if_neg (by decide), if_neg (by decide), if_pos (by decide), obj_s h.k, show (3 : Int32) = nI 3 from rfl, law_value h hlim hl (by decide), bnd_s, obj_s h.k, show (2 : Int32) = nI 2 from rfl, law_value h hlim hl (by decide), bnd_s]
    refine ite01 ?_
    show _ ↔ (if valM m (tldC 3 l n) ≤ valM m (tldC 2 l n) then (0 : Int32) else 1) = 0
    by_cases d : valM m (tldC 3 l n) ≤ valM m (tldC 2 l n)
    · rw [if_pos d]; exact ⟨fun _ => rfl, fun _ => d⟩
    · rw [if_neg d]; exact ⟨fun q => absurd q d, fun q => absurd q t01⟩
  · rw [if_neg (by decide), if_neg (by decide), if_neg (by decide), if_neg (by decide), if_neg (by decide), if_neg (by decide)]
    rfl
end LV
section LO
variable {N : Nat} {z : Nat → Nat} {o : Nat} {os : List (Nat → Nat)} {lim : Nat → Nat} {K : Nat → Option Nat → Int32 → Int32 → Hp → Option (Unit × Hp)} {v1 : Option Nat} {v2 v3 : Int32}
theorem law_254 {x : Hp} {m : Md} {v : Int32} {c : Prop} [Decidable c] (h : SimR x o m os lim) (hv : v = if c then 1 else 0) : ∃ y, f_X12_pass_b254 N z K o v1 v2 v3 v x = K o v1 v2 (v3 + 1) y ∧ SimR y o (doneM m c) os lim ∧ Fr x y o (simE o m os) := by
  unfold f_X12_pass_b254 doneM
  rw [geti_s h.k, h.2.1.2.2.2.1]
  by_cases d : c
  · rw [if_pos d] at hv
    obtain ⟨w, wf⟩ := h.wv (n := 283) (f := 170) (v := m_V m 170 + 1) (by decide)
    rw [hv, if_neg (by decide), if_pos d]
    unfold f_X12_pass_b269 f_X12_pass_b273
    rw [puti_s h.k]
    exact ⟨_, rfl, w, wf⟩
  · rw [if_neg d] at hv
    obtain ⟨w, wf⟩ := h.wv (n := 283) (f := 170) (v := m_V m 170 + 0) (by decide)
    rw [hv, if_pos rfl, if_neg d]
    unfold f_X12_pass_b269 f_X12_pass_b273
    rw [puti_s h.k]
    refine ⟨_, rfl, w.cg ⟨rfl, rfl, fun _ _ => rfl, fun _ _ => rfl, fun _ _ _ _ => rfl, fun _ _ _ _ _ => rfl, fun f _ => ?_⟩, wf⟩
    simp only [sV_x, up1]
    by_cases e : f = 170
    · rw [if_pos e, e, Int32.add_zero]
    · rw [if_neg e]
theorem clp_eq (v : Int32) : clp v = if 0 ≤ v then (if v ≤ 30 then v else 30) else 0 := by
  unfold clp
  have h0 : (0 : Int32).toInt = 0 := by decide
  have h30 : (30 : Int32).toInt = 30 := by decide
  by_cases c : v < 30
  · rw [if_pos c]
    have c1 := (Int32.lt_iff_toInt_lt).mp c
    by_cases d : 0 < v
    · rw [if_pos d, if_pos (Int32.le_of_lt d), if_pos (Int32.le_of_lt c)]
    · rw [if_neg d]
      by_cases e : 0 ≤ v
      · rw [if_pos e, if_pos (Int32.le_of_lt c)]
        exact Int32.le_antisymm e (Int32.not_lt.mp d)
      · rw [if_neg e]
  · rw [if_neg c, if_pos (by decide)]
    have c1 := Int32.not_lt.mp c
    have : (0 : Int32) ≤ v := Int32.le_trans (by decide) c1
    rw [if_pos this]
    by_cases e : v ≤ 30
    · rw [if_pos e]
      exact Int32.le_antisymm c1 e
    · rw [if_neg e]
theorem law_120 {x : Hp} {m : Md} {i ln r0 : Nat} {s0 : Int32} (h : SimR x o m os lim) (hlim : ∀ k, 96 ≤ lim k) (hi : i < os.length) (hl : ln < m_n m) (hr : os.getD i (fun _ => 0) 0 = r0) (h3 : r0 < 3) : ∃ y, f_X12_pass_b120 N z K o v1 v2 v3 (some (o + 6 + 2 * m_n m + m_m m + 1 + i)) (some (o + 5 + 2 * ln)) s0 x = K o v1 v2 (v3 + 1) y ∧ SimR y o (if r0 = 2 then doneM (sA m ln 90 1) (m_A m ln 90 = 0) else if r0 = 0 then doneM (sA m ln 83 (clp s0)) (m_A m ln 83 ≠ clp s0) else doneM (sA m ln 84 (clp s0)) (m_A m ln 84 ≠ clp s0)) os lim ∧ Fr x y o (simE o m os) := by
  have hO := h.2.2.2.1
  have hh := h.l hl
  have h96 := hlim ln
  have e83 := hh.g 83 (n := 262) rfl (by decide) (by omega)
  have e84 := hh.g 84 (n := 263) rfl (by decide) (by omega)
  have e90 := hh.g 90 (n := 276) rfl (by decide) (by omega)
  have rd : ∀ (K' : Int32 → Option (Unit × Hp)), aldi (some (o + 6 + 2 * m_n m + m_m m + 1 + i)) x 101 (0 : Int32) K' = K' (nI r0) := fun K' => by
    rw [hO.rd (F := 0) (f := 0) hi rfl (by decide), hr]
  have main : ∃ y, f_X12_pass_b145 N z K o v1 v2 v3 (some (o + 6 + 2 * m_n m + m_m m + 1 + i)) (some (o + 5 + 2 * ln)) (clp s0) x = K o v1 v2 (v3 + 1) y ∧ SimR y o (if r0 = 2 then doneM (sA m ln 90 1) (m_A m ln 90 = 0) else if r0 = 0 then doneM (sA m ln 83 (clp s0)) (m_A m ln 83 ≠ clp s0) else doneM (sA m ln 84 (clp s0)) (m_A m ln 84 ≠ clp s0)) os lim ∧ Fr x y o (simE o m os) := by
    have c : r0 = 0 ∨ r0 = 1 ∨ r0 = 2 := by omega
    unfold f_X12_pass_b145
    rw [rd]
    rcases c with c | c | c <;> subst c
    · rw [if_pos (by decide), geti_s hh.1, e83, if_neg (show ¬ (0 : Nat) = 2 by decide), if_pos (show (0 : Nat) = 0 from rfl)]
      obtain ⟨w, wf⟩ := h.wr (k := ln) (n := 262) (f := 83) (v := clp s0) hl rfl (by decide)
      by_cases b : m_A m ln 83 = clp s0
      · rw [if_pos b]
        unfold f_X12_pass_b211
        rw [rd, if_pos (by decide), puti_s hh.1]
        obtain ⟨y, d1, d2, d3⟩ := law_254 (N := N) (z := z) (K := K) (v1 := v1) (v2 := v2) (v3 := v3) (v := 0) (c := m_A m ln 83 ≠ clp s0) w (by rw [if_neg (fun q => q b)])
        exact ⟨y, d1, d2, wf.tr d3⟩
      · rw [if_neg b]
        unfold f_X12_pass_b211
        rw [rd, if_pos (by decide), puti_s hh.1]
        obtain ⟨y, d1, d2, d3⟩ := law_254 (N := N) (z := z) (K := K) (v1 := v1) (v2 := v2) (v3 := v3) (v := 1) (c := m_A m ln 83 ≠ clp s0) w (by rw [if_pos b])
        exact ⟨y, d1, d2, wf.tr d3⟩
    · rw [if_neg (by decide), rd, if_pos (by decide), geti_s hh.1, e84, if_neg (show ¬ (1 : Nat) = 2 by decide), if_neg (show ¬ (1 : Nat) = 0 by decide)]
      obtain ⟨w, wf⟩ := h.wr (k := ln) (n := 263) (f := 84) (v := clp s0) hl rfl (by decide)
      by_cases b : m_A m ln 84 = clp s0
      · rw [if_pos b]
        unfold f_X12_pass_b211
        rw [rd, if_neg (by decide), rd, if_pos (by decide), puti_s hh.1]
        obtain ⟨y, d1, d2, d3⟩ := law_254 (N := N) (z := z) (K := K) (v1 := v1) (v2 := v2) (v3 := v3) (v := 0) (c := m_A m ln 84 ≠ clp s0) w (by rw [if_neg (fun q => q b)])
        exact ⟨y, d1, d2, wf.tr d3⟩
      · rw [if_neg b]
        unfold f_X12_pass_b211
        rw [rd, if_neg (by decide), rd, if_pos (by decide), puti_s hh.1]
        obtain ⟨y, d1, d2, d3⟩ := law_254 (N := N) (z := z) (K := K) (v1 := v1) (v2 := v2) (v3 := v3) (v := 1) (c := m_A m ln 84 ≠ clp s0) w (by rw [if_pos b])
        exact ⟨y, d1, d2, wf.tr d3⟩
    · rw [if_neg (by decide), rd, if_neg (by decide), geti_s hh.1, e90, if_pos (show (2 : Nat) = 2 from rfl)]
      obtain ⟨w, wf⟩ := h.wr (k := ln) (n := 276) (f := 90) (v := 1) hl rfl (by decide)
      by_cases b : m_A m ln 90 = 0
      · rw [if_pos b]
        unfold f_X12_pass_b211
        rw [rd, if_neg (by decide), rd, if_neg (by decide), puti_s hh.1]
        obtain ⟨y, d1, d2, d3⟩ := law_254 (N := N) (z := z) (K := K) (v1 := v1) (v2 := v2) (v3 := v3) (v := 1) (c := m_A m ln 90 = 0) w (by rw [if_pos b])
        exact ⟨y, d1, d2, wf.tr d3⟩
      · rw [if_neg b]
        unfold f_X12_pass_b211
        rw [rd, if_neg (by decide), rd, if_neg (by decide), puti_s hh.1]
        obtain ⟨y, d1, d2, d3⟩ := law_254 (N := N) (z := z) (K := K) (v1 := v1) (v2 := v2) (v3 := v3) (v := 0) (c := m_A m ln 90 = 0) w (by rw [if_neg b])
        exact ⟨y, d1, d2, wf.tr d3⟩
  unfold f_X12_pass_b120
  have e := clp_eq s0
  by_cases p : 0 ≤ s0
  · rw [if_pos p] at e ⊢
    by_cases q : s0 ≤ 30
    · rw [if_pos q] at e ⊢
      rw [e] at main
      rw [e]
      exact main
    · rw [if_neg q] at e ⊢
      rw [e] at main
      rw [e]
      exact main
  · rw [if_neg p] at e ⊢
    rw [e] at main
    rw [e]
    exact main
theorem law_obey {x : Hp} {m : Md} {i n : Nat} (h : SimR x o m os lim) (hlim : ∀ k, 96 ≤ lim k) (hi : i < os.length) (hr : RawO (m_n m) (os.getD i (fun _ => 0))) (hw : WfQ m) (ht : nnT m) : ∃ y, f_X12_pass_b42 N z (n + 1) o (some (o + 6 + 2 * m_n m + m_m m)) (nI os.length) (nI i) x = f_X12_pass_b42 N z n o (some (o + 6 + 2 * m_n m + m_m m)) (nI os.length) (nI (i + 1)) y ∧ SimR y o (obeyM m (odOf (os.getD i (fun _ => 0))).1 (odOf (os.getD i (fun _ => 0))).2.1 (odOf (os.getD i (fun _ => 0))).2.2.1 (odOf (os.getD i (fun _ => 0))).2.2.2) os lim ∧ Fr x y o (simE o m os) := by
  obtain ⟨r, hr0⟩ : ∃ r, r = os.getD i (fun _ => 0) := ⟨_, rfl⟩
  rw [← hr0] at hr ⊢
  have hO := h.2.2.2.1
  obtain ⟨b1, b2, b3, b4⟩ := hO
  obtain ⟨c1, c2, c3, c4⟩ := b4 i hi
  obtain ⟨r1, r2, r3, r4, r5, r6, r7, r8⟩ := hr
  have rd : ∀ {β : Type} (F : Int32) (f : Nat) (hF : F = nI f) (hf : f < 8) (K' : Int32 → Option β), aldi (some (o + 6 + 2 * m_n m + m_m m + 1 + i)) x 101 F K' = K' (nI (r f)) := fun F f hF hf K' => by
    rw [h.2.2.2.1.rd (F := F) (f := f) hi hF hf, ← hr0]
  rw [f_X12_pass_b42, if_neg (nI_ge hi (by omega)), aldr_s b1 (by omega) (by omega), c1, rd 5 5 rfl (by decide), rd 6 6 rfl (by decide), rd 7 7 rfl (by decide), obj_s h.k, law_holds h hlim r7 r6 hw ht, bnd_s, ← nI_1 i]
  unfold obeyM
  -- does it hold
  have hT : (¬ ((odOf r).2.2.2 ≠ [] ∧ valM m (odOf r).2.2.2 = 0)) ↔ ¬ valM m (tstC (r 5) (r 6) (r 7)) = 0 := by
    unfold odOf
    simp only
    by_cases d : r 0 = 1 ∧ r 5 = 6
    · rw [if_pos d, d.2]
      exact ⟨fun _ q => absurd (show (1 : Int32) = 0 from q) (by decide), fun _ q => q.1 rfl⟩
    · rw [if_neg d]
      have : tstC (r 5) (r 6) (r 7) ≠ [] := by
        unfold tstC
        repeat' split
        all_goals simp
      exact ⟨fun q e => q ⟨this, e⟩, fun q e => q e.2⟩
  by_cases d : valM m (tstC (r 5) (r 6) (r 7)) = 0
  · have d' : (odOf r).2.2.2 ≠ [] ∧ valM m (odOf r).2.2.2 = 0 := Decidable.not_not.mp (fun q => (hT.mp q) d)
    rw [if_pos d, if_pos rfl, if_pos d']
    unfold f_X12_pass_b273
    exact ⟨x, rfl, h, Fr.rf⟩
  · have d' : ¬ ((odOf r).2.2.2 ≠ [] ∧ valM m (odOf r).2.2.2 = 0) := hT.mpr d
    rw [if_neg d, if_neg (by decide), if_neg d', getr_s h.k, h.rl, rd 1 1 rfl (by decide), h.al r2, rd 0 0 rfl (by decide)]
    have kd : (odOf r).1 = 16 + r 0 := rfl
    have ln : (odOf r).2.1 = r 1 := rfl
    rw [kd, ln]
    by_cases e : r 0 = 2
    · obtain ⟨y, g1, g2, g3⟩ := law_120 (N := N) (z := z) (K := f_X12_pass_b42 N z n) (v1 := some (o + 6 + 2 * m_n m + m_m m)) (v2 := nI os.length) (v3 := nI i) (ln := r 1) (r0 := r 0) (s0 := 0) h hlim hi r2 (by rw [hr0]) r1
      rw [if_pos e] at g2
      rw [if_pos (by rw [e]; rfl), if_pos (show 16 + r 0 = 18 by omega)]
      exact ⟨y, g1, g2, g3⟩
    · have eS : (odOf r).2.2.1 = tldC (r 2) (r 3) (r 4) := if_neg e
      obtain ⟨y, g1, g2, g3⟩ := law_120 (N := N) (z := z) (K := f_X12_pass_b42 N z n) (v1 := some (o + 6 + 2 * m_n m + m_m m)) (v2 := nI os.length) (v3 := nI i) (ln := r 1) (r0 := r 0) (s0 := valM m (tldC (r 2) (r 3) (r 4))) h hlim hi r2 (by rw [hr0]) r1
      rw [if_neg e] at g2
      rw [if_neg (show ¬ nI (r 0) = (2 : Int32) from fun q => e ((nI_eq (b := 2) (by omega) (by omega)).mp q)), rd 2 2 rfl (by decide), getr_s h.k, h.rl, rd 3 3 rfl (by decide), h.al r4, rd 4 4 rfl (by decide), obj_s h.k, law_value h hlim r4 r3, bnd_s, if_neg (show ¬ 16 + r 0 = 18 by omega), eS]
      refine ⟨y, g1, ?_, g3⟩
      by_cases e0 : r 0 = 0
      · rw [if_pos e0] at g2
        rw [if_pos (show 16 + r 0 = 16 by omega)]
        exact g2
      · rw [if_neg e0] at g2
        rw [if_neg (show ¬ 16 + r 0 = 16 by omega)]
        exact g2
end LO
