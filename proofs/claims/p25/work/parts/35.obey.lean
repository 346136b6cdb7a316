/-! ===== orders ===== -/
/-- the clamp of a sum -/
def clp (v : Int32) : Int32 := if (0 : Int32) < (if v < (30 : Int32) then v else (30 : Int32)) then (if v < (30 : Int32) then v else (30 : Int32)) else (0 : Int32)
def valM (m : Md) (S : List (Nat × Nat)) : Int32 := (runM m S []).getD 0 0
def doneM (m : Md) (c : Prop) [Decidable c] : Md := if c then sV m 170 (m_V m 170 + 1) else m
def obeyM (m : Md) (kd ln : Nat) (S T : List (Nat × Nat)) : Md :=
  if T ≠ [] ∧ valM m T = 0 then m
  else if kd = 18 then doneM (sA m ln 90 1) (m_A m ln 90 = 0)
  else if kd = 16 then doneM (sA m ln 83 (clp (valM m S))) (m_A m ln 83 ≠ clp (valM m S))
  else doneM (sA m ln 84 (clp (valM m S))) (m_A m ln 84 ≠ clp (valM m S))
section OB
variable {N : Nat} {z : Nat → Nat} {s B : Nat} {m : Md}
theorem order_at {x : Hp} {C : List (Nat × Nat)} {os : List (Nat → Nat)} {i : Nat} (hb : Bk x B C os) (hi : i < os.length) : f_X0_orderAt N z B (nI i) x = some (some (B + 4 + i), x) := by
  obtain ⟨h1, h2, h3, h4, h5, h6, h7, h8, h9, h10, h11, h12, h13, h14, h15, h16, h17⟩ := hb
  unfold f_X0_orderAt
  rw [if_neg (nI_pos (by omega)), geti_s h1, h14, if_neg (nI_ge hi (by omega)), getr_s h1, h4, alen_s h9, h10, if_neg (nI_ge (by omega) (by omega)), getr_s h1, h4, aldr_s h9 (by omega) (by omega), (h11 i (by omega)).1]
theorem obey_160 {x : Hp} {v : Int32} {c : Prop} [Decidable c] (h : Site x s B m) (hv : v = if c then 1 else 0) : ∃ y, f_X6_obey_b160 N z s v x = some ((), y) ∧ Site y s B (doneM m c) ∧ Fr x y s (s + 31) := by
  unfold f_X6_obey_b160 doneM
  by_cases d : c
  · rw [if_pos d] at hv
    obtain ⟨w, wf⟩ := h.wv (f := 170) (v := m_V m 170 + 1) (by decide)
    rw [hv, if_neg (by decide), if_pos d, geti_s h.k, puti_s h.k, h.v (by decide)]
    exact ⟨_, rfl, w, wf⟩
  · rw [if_neg d] at hv
    rw [hv, if_pos (by decide), if_neg d]
    exact ⟨_, rfl, h, Fr.rf⟩
theorem obey_50 {x : Hp} {C : List (Nat × Nat)} {os : List (Nat → Nat)} {i kd ln a : Nat} {S : List (Nat × Nat)} (hd : B + 24 ≤ s ∨ s + 31 ≤ B) (h : Site x s B m) (hb : Bk x B C os) (hi : i < os.length) (hk : os.getD i (fun _ => 0) 0 = kd) (hS : os.getD i (fun _ => 0) 2 = a) (hT : os.getD i (fun _ => 0) 3 = a + S.length) (hkd : kd = 16 ∨ kd = 17 ∨ kd = 18) (hl : ln < m_n m) (ho : kd ≠ 18 → okR m S []) (ha : a + S.length ≤ C.length) (hc : ∀ j, j < S.length → C.getD (a + j) (0, 0) = S.getD j (0, 0)) (hN : 401 ≤ N) : ∃ y, f_X6_obey_b50 N z s (some (B + 4 + i)) (some (s + 5 + 3 * ln)) x = some ((), y) ∧ Site y s B (if kd = 18 then doneM (sA m ln 90 1) (m_A m ln 90 = 0) else if kd = 16 then doneM (sA m ln 83 (clp (valM m S))) (m_A m ln 83 ≠ clp (valM m S)) else doneM (sA m ln 84 (clp (valM m S))) (m_A m ln 84 ≠ clp (valM m S))) ∧ Fr x y s (s + 31) := by
  have hb' := hb
  obtain ⟨h1, h2, h3, h4, h5, h6, h7, h8, h9, h10, h11, h12, h13, h14, h15, h16, h17⟩ := hb
  have k6 := (h11 i (by omega)).2
  have r0 := h17 i hi 0 (by omega)
  have r2 := h17 i hi 2 (by omega)
  have r3 := h17 i hi 3 (by omega)
  rw [hk, Nat.add_zero] at r0
  rw [hS] at r2
  rw [hT] at r3
  have ll := h.l hl
  unfold f_X6_obey_b50
  rw [geti_s k6, r0]
  by_cases c : kd = 18
  · subst c
    rw [if_pos (by decide), geti_s ll.1, ll.a (by decide), if_pos rfl]
    obtain ⟨w, wf⟩ := h.wr (f := 90) (v := 1) hl (by decide)
    by_cases d : m_A m ln 90 = 0
    · rw [if_pos d]
      unfold f_X6_obey_b71
      rw [puti_s ll.1]
      obtain ⟨y, e1, e2, e3⟩ := obey_160 (N := N) (z := z) (v := 1) (c := m_A m ln 90 = 0) w (by rw [if_pos d])
      exact ⟨y, e1, e2, wf.tr e3⟩
    · rw [if_neg d]
      unfold f_X6_obey_b71
      rw [puti_s ll.1]
      obtain ⟨y, e1, e2, e3⟩ := obey_160 (N := N) (z := z) (v := 0) (c := m_A m ln 90 = 0) w (by rw [if_neg d])
      exact ⟨y, e1, e2, wf.tr e3⟩
  · have e18 : ¬ nI kd = (18 : Int32) := fun e => c ((nI_eq (b := 18) (by omega) (by omega)).mp e)
    obtain ⟨y, e1, e2, e3⟩ := reckon_s (N := N) (z := z) hd h hb' (ho c) ha hc hN
    have k6y : h_k y (B + 4 + i) = 6 := e3.k.trans k6
    have r0y : h_i y 100 (B + 4 + i) = nI kd := (e3.i (by omega)).trans r0
    have ly := e2.l hl
    have f1 : Fr x y s (s + 31) := e3.wd (by omega) (by omega)
    rw [if_neg e18, geti_s k6, geti_s k6, r2, r3, obj_s h.k, e1, bnd_s, geti_s k6y, r0y, if_neg c]
    by_cases d : kd = 16
    · subst d
      rw [if_pos (by decide), geti_s ly.1, ly.a (by decide), if_pos rfl]
      obtain ⟨w, wf⟩ := e2.wr (f := 83) (v := clp (valM m S)) hl (by decide)
      show ∃ y_1, (if m_A m ln 83 = clp (valM m S) then f_X6_obey_b127 N z s (some (s + 5 + 3 * ln)) (clp (valM m S)) 0 y else f_X6_obey_b127 N z s (some (s + 5 + 3 * ln)) (clp (valM m S)) 1 y) = some ((), y_1) ∧ _
      by_cases b : m_A m ln 83 = clp (valM m S)
      · rw [if_pos b]
        unfold f_X6_obey_b127
        rw [puti_s ly.1]
        obtain ⟨u, d1, d2, d3⟩ := obey_160 (N := N) (z := z) (v := 0) (c := m_A m ln 83 ≠ clp (valM m S)) w (by rw [if_neg (fun q => q b)])
        exact ⟨u, d1, d2, (f1.tr wf).tr d3⟩
      · rw [if_neg b]
        unfold f_X6_obey_b127
        rw [puti_s ly.1]
        obtain ⟨u, d1, d2, d3⟩ := obey_160 (N := N) (z := z) (v := 1) (c := m_A m ln 83 ≠ clp (valM m S)) w (by rw [if_pos b])
        exact ⟨u, d1, d2, (f1.tr wf).tr d3⟩
    · have e16 : ¬ nI kd = (16 : Int32) := fun e => d ((nI_eq (b := 16) (by omega) (by omega)).mp e)
      rw [if_neg e16, geti_s ly.1, ly.a (by decide), if_neg d]
      obtain ⟨w, wf⟩ := e2.wr (f := 84) (v := clp (valM m S)) hl (by decide)
      show ∃ y_1, (if m_A m ln 84 = clp (valM m S) then f_X6_obey_b152 N z s (some (s + 5 + 3 * ln)) (clp (valM m S)) 0 y else f_X6_obey_b152 N z s (some (s + 5 + 3 * ln)) (clp (valM m S)) 1 y) = some ((), y_1) ∧ _
      by_cases b : m_A m ln 84 = clp (valM m S)
      · rw [if_pos b]
        unfold f_X6_obey_b152
        rw [puti_s ly.1]
        obtain ⟨u, d1, d2, d3⟩ := obey_160 (N := N) (z := z) (v := 0) (c := m_A m ln 84 ≠ clp (valM m S)) w (by rw [if_neg (fun q => q b)])
        exact ⟨u, d1, d2, (f1.tr wf).tr d3⟩
      · rw [if_neg b]
        unfold f_X6_obey_b152
        rw [puti_s ly.1]
        obtain ⟨u, d1, d2, d3⟩ := obey_160 (N := N) (z := z) (v := 1) (c := m_A m ln 84 ≠ clp (valM m S)) w (by rw [if_pos b])
        exact ⟨u, d1, d2, (f1.tr wf).tr d3⟩
/-- what an order's five numbers stand for -/
def OdR (C : List (Nat × Nat)) (r : Nat → Nat) (kd ln : Nat) (S T : List (Nat × Nat)) : Prop := r 0 = kd ∧ r 1 = ln ∧ r 3 = r 2 + S.length ∧ r 4 = r 3 + T.length ∧ r 4 ≤ C.length ∧ (∀ j, j < S.length → C.getD (r 2 + j) (0, 0) = S.getD j (0, 0)) ∧ (∀ j, j < T.length → C.getD (r 3 + j) (0, 0) = T.getD j (0, 0)) ∧ (kd = 16 ∨ kd = 17 ∨ kd = 18)
theorem obey_s {x : Hp} {C : List (Nat × Nat)} {os : List (Nat → Nat)} {i kd ln : Nat} {S T : List (Nat × Nat)} (hd : B + 24 ≤ s ∨ s + 31 ≤ B) (h : Site x s B m) (hb : Bk x B C os) (hi : i < os.length) (hr : OdR C (os.getD i (fun _ => 0)) kd ln S T) (hl : ln < m_n m) (hS : kd ≠ 18 → okR m S []) (hT : T ≠ [] → okR m T []) (hN : 401 ≤ N) : ∃ y, f_X6_obey N z s (some (B + 4 + i)) x = some ((), y) ∧ Site y s B (obeyM m kd ln S T) ∧ Fr x y s (s + 31) := by
  obtain ⟨q0, q1, q3, q4, qC, qS, qT, qk⟩ := hr
  have hb' := hb
  obtain ⟨h1, h2, h3, h4, h5, h6, h7, h8, h9, h10, h11, h12, h13, h14, h15, h16, h17⟩ := hb
  have k6 := (h11 i (by omega)).2
  have r1 := h17 i hi 1 (by omega)
  have r3 := h17 i hi 3 (by omega)
  have r4 := h17 i hi 4 (by omega)
  rw [q1] at r1
  unfold f_X6_obey
  rw [geti_s k6, r1, obj_s h.k, lane_at h hl, bnd_s, geti_s k6, r3, geti_s k6, r4]
  unfold obeyM
  by_cases c : T = []
  · have e : nI (os.getD i (fun _ => 0) 3) = nI (os.getD i (fun _ => 0) 4) := by rw [q4, c]; rfl
    rw [if_pos e, if_neg (show ¬ (T ≠ [] ∧ valM m T = 0) from fun q => q.1 c)]
    unfold f_X6_obey_b25
    rw [if_neg (by simp), if_neg (by decide)]
    exact obey_50 (N := N) (z := z) hd h hb' hi q0 rfl q3 qk hl hS (by omega) qS hN
  · have hpos : 0 < T.length := List.length_pos_iff.mpr c
    have e : ¬ nI (os.getD i (fun _ => 0) 3) = nI (os.getD i (fun _ => 0) 4) := fun e => by
      have := (nI_eq (by omega) (by omega)).mp e
      omega
    obtain ⟨y, e1, e2, e3⟩ := reckon_s (N := N) (z := z) (i := os.getD i (fun _ => 0) 3) hd h hb' (hT c) (by omega) qT hN
    rw [if_neg e]
    unfold f_X6_obey_b25
    rw [if_neg (by simp), if_pos (by decide), geti_s k6, r3, geti_s k6, r4, q4, obj_s h.k, e1, bnd_s]
    have f1 : Fr x y s (s + 31) := e3.wd (by omega) (by omega)
    by_cases d : valM m T = 0
    · rw [if_pos (show (runM m T []).getD 0 0 = 0 from d), if_pos ⟨c, d⟩]
      exact ⟨y, rfl, e2, f1⟩
    · rw [if_neg (show ¬ (runM m T []).getD 0 0 = 0 from d), if_neg (fun q => d q.2)]
      obtain ⟨u, d1, d2, d3⟩ := obey_50 (N := N) (z := z) (ln := ln) hd e2 (hb'.fr e3 (by omega)) hi q0 rfl q3 qk hl hS (by omega) qS hN
      exact ⟨u, d1, d2, f1.tr d3⟩
end OB
