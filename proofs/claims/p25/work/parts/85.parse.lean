/-! ===== the reader at an expression: what it holds, what it does with one token ===== -/
theorem drop_tok {ts : List Tok} {i : Nat} {t : Tok} {r : List Tok} (h : ts.drop i = t :: r) : i < ts.length ∧ ts.getD i (0, 0) = t ∧ ts.drop (i + 1) = r := by
  have hi : i < ts.length := by
    apply Nat.lt_of_not_le
    intro c
    rw [List.drop_eq_nil_of_le c] at h
    cases h
  rw [List.drop_eq_getElem_cons hi] at h
  injection h with h1 h2
  exact ⟨hi, by simp [List.getD_eq_getElem?_getD, hi, h1], h2⟩
theorem TkL.ag {x y : Hp} {T lo hi : Nat} {ts : List Tok} (h : TkL x T ts) (g : Ag x y lo hi) (h1 : lo ≤ T ∧ T + 5 ≤ hi) : TkL y T ts := by
  obtain ⟨a1, a2, a3, a4⟩ := h
  exact ⟨a1.ag g h1, (g.i (by omega)).trans a2, a3, fun j hj => ⟨by rw [g.ai (by omega)]; exact (a4 j hj).1, rfl, by rw [g.al (by omega)]; exact (a4 j hj).2.2⟩⟩
def PE (x : Hp) (Y : Nat) (ts : List Tok) (n i : Nat) (C : List (Nat × Nat)) (os : List (Nat → Nat)) : Prop := RdS x (Y + 3) ∧ TkL x (Y + 59) ts ∧ h_i x 145 (Y + 3) = nI i ∧ h_i x 146 (Y + 3) = 0 ∧ (h_k x (Y + 4) = 9 ∧ h_r x 160 (Y + 4) = some (Y + 5) ∧ h_i x 163 (Y + 4) = nI n) ∧ (∀ k, k < n → h_al x (Y + 64) k = Int64.ofNat (1409 + k)) ∧ n ≤ 5 ∧ Bk x (Y + 5) C os
/-- only the reader's place and the draft's book change -/
def Ef (x y : Hp) (Y : Nat) : Prop := (∀ q, q ≠ Y + 3 → q < Y + 5 ∨ Y + 29 ≤ q → Sm y x q) ∧ h_sz y = h_sz x ∧ h_sl y = h_sl x
theorem Ef.rf {x : Hp} {Y : Nat} : Ef x x Y := ⟨fun _ _ _ => ⟨rfl, rfl, fun _ => rfl, fun _ => rfl, rfl, rfl, rfl⟩, rfl, rfl⟩
theorem Ef.tr {x y w : Hp} {Y : Nat} (h : Ef x y Y) (g : Ef y w Y) : Ef x w Y := ⟨fun q a b => (g.1 q a b).tr (h.1 q a b), g.2.1.trans h.2.1, g.2.2.trans h.2.2⟩
theorem ofN_inj {a b : Nat} (ha : a < 2 ^ 31) (hb : b < 2 ^ 31) : Int64.ofNat a = Int64.ofNat b ↔ a = b := pk_lEQ (a := a) (b := b) (by omega) (by omega)
/-- a name's place -/
theorem place_l {N : Nat} {z : Nat → Nat} {x : Hp} {A b cnt l m : Nat} (hk : h_k x A = 102) (hn : h_n x A = m) (hm : cnt ≤ m ∧ m < 10) (hb : b < 2 ^ 20) (hl : l < 10) (h : ∀ k, k < cnt → h_al x A k = Int64.ofNat (b + k)) : ∀ (r n i : Nat), i + r = cnt → r < n → (i ≤ l ∨ cnt ≤ l) → f_X5_placeOf_b3 N z n (Int64.ofNat (b + l)) (some A) (nI cnt) (nI i) x = some (if l < cnt then nI l else -1, x)
  | r, 0, i, hi, hr, hil => absurd hr (by omega)
  | 0, n + 1, i, hi, hr, hil => by
    rw [f_X5_placeOf_b3, if_pos (nI_le (by omega) (by omega)), if_neg (show ¬ l < cnt by omega)]
  | r + 1, n + 1, i, hi, hr, hil => by
    rw [f_X5_placeOf_b3, if_neg (nI_ge (by omega) (by omega)), alen_s hk, hn, if_neg (nI_ge (by omega) (by omega)), aldl_s hk (by omega) (by omega), h i (by omega)]
    by_cases c : i = l
    · rw [if_pos (lgc0.mpr (by rw [c])), if_pos (by omega), c]
    · rw [if_neg (fun e => c (by have := (ofN_inj (by omega) (by omega)).mp (lgc0.mp e); omega)), nI_1]
      exact place_l hk hn hm hb hl h r n (i + 1) (by omega) (by omega) (by omega)
section PZ
variable {N : Nat} {z : Nat → Nat} {x : Hp} {Y n i : Nat} {ts : List Tok} {C : List (Nat × Nat)} {os : List (Nat → Nat)} {t : Tok} {r : List Tok}
theorem PE.kind (h : PE x Y ts n i C os) (hd : ts.drop i = t :: r) : f_X5_kind N z (Y + 3) x = some (nI t.1, x) := by
  obtain ⟨h1, h2, h3, h4, -⟩ := h
  obtain ⟨d1, d2, d3⟩ := drop_tok hd
  have e := kindOf_s (N := N) (z := z) h2 d1
  rw [d2] at e
  unfold f_X5_kind
  rw [geti_s h1.1, h4, if_neg (by decide), getr_s h1.1, h1.2.2.1, geti_s h1.1, h3, obj_s h2.1.1.1, e, bnd_s]
theorem PE.adv (h : PE x Y ts n i C os) : PE (p_i x 145 (Y + 3) (nI (i + 1))) Y ts n (i + 1) C os ∧ Ef x (p_i x 145 (Y + 3) (nI (i + 1))) Y := by
  obtain ⟨⟨a1, a2, a3, a4, a5, a6⟩, h2, h3, h4, h5, h6, h7, h8⟩ := h
  have g1 : Ag x (p_i x 145 (Y + 3) (nI (i + 1))) (Y + 4) (Y + 70) := pi_ag (by omega)
  exact ⟨⟨⟨a1, a2, a3, a4, a5, a6⟩, h2.ag g1 (by omega), p_i_eq, (p_i_ne (by decide)).trans h4, ⟨h5.1, h5.2.1, (p_i_na (by omega)).trans h5.2.2⟩, h6, h7, h8.ag g1 (by omega)⟩, fun q a b => Sm_pi a, rfl, rfl⟩
theorem PE.told {l : Nat} (h : PE x Y ts n i C os) (hd : ts.drop i = lT l :: r) (hl : l < n) (hN : 401 ≤ N) : f_X5_toldLane N z (Y + 3) x = some (nI l, p_i x 145 (Y + 3) (nI (i + 1))) := by
  have ek := h.kind (N := N) (z := z) hd
  obtain ⟨h1, h2, h3, h4, h5, h6, h7, h8⟩ := h
  obtain ⟨d1, d2, d3⟩ := drop_tok hd
  have e := valueOf_s (N := N) (z := z) h2 d1
  rw [d2] at e
  obtain ⟨a1, a2, a3, a4, a5, a6, a7, a8, a9⟩ := h1
  have pl := place_l (N := N) (z := z) (x := x) (A := Y + 64) (b := 1409) (cnt := n) (l := l) a6 a7 (by omega) (by decide) (by omega) h6 n N 0 (by omega) (by omega) (by omega)
  rw [if_pos hl] at pl
  unfold f_X5_toldLane
  rw [obj_s a1, ek, bnd_s, if_pos (show nI (lT l).1 = (34 : Int32) from rfl), getr_s a1, a3, geti_s a1, h3, obj_s h2.1.1.1, e, bnd_s, getr_s a1, a4, getr_s a1, a2, geti_s h5.1, h5.2.2]
  have pl2 : f_X5_placeOf N z (lT l).2 (some (Y + 3 + 61)) (nI n) x = some (nI l, x) := pl
  rw [pl2, bnd_s, if_neg (show ¬ nI l = (-1 : Int32) from fun q => by
    have := congrArg Int32.toInt q
    rw [nI_toInt (by omega)] at this
    have q1 : (-1 : Int32).toInt = -1 := by decide
    rw [q1] at this
    omega)]
  unfold f_X5_toldLane_b51
  rw [geti_s a1, h3, nI_1, puti_s a1]
/-- a step of code is put behind -/
theorem PE.add {a b : Nat} (h : PE x Y ts n i C os) (hC : C.length < 400) : ∃ y, f_X0_add N z (Y + 5) (nI a) (nI b) x = some ((), y) ∧ PE y Y ts n i (C ++ [(a, b)]) os ∧ Ef x y Y := by
  obtain ⟨h1, h2, h3, h4, h5, h6, h7, h8⟩ := h
  obtain ⟨b1, b2, b3, b4, b5, b6, b7, b8, b9, b10, b11, b12, b13, b14, b15, b16, b17⟩ := h8
  obtain ⟨u, hu⟩ : ∃ u, u = p_ai (p_ai x (Y + 5 + 1) C.length (nI a)) (Y + 5 + 2) C.length (nI b) := ⟨_, rfl⟩
  obtain ⟨y, hy⟩ : ∃ y, y = p_i u 42 (Y + 5) (nI (C.length + 1)) := ⟨_, rfl⟩
  have g : ∀ q, q ≠ Y + 5 → q ≠ Y + 6 → q ≠ Y + 7 → Sm y x q := fun q q1 q2 q3 => by
    rw [hy, hu]
    exact (Sm_pi q1).tr ((Sm_pai (by omega)).tr (Sm_pai (by omega)))
  have g1 : Ag x y 0 (Y + 5) := fun q _ q2 => g q (by omega) (by omega) (by omega)
  have g2 : Ag x y (Y + 8) (Y + 70) := fun q q1 q2 => g q (by omega) (by omega) (by omega)
  have ku : h_k u (Y + 5) = 3 := by rw [hu]; exact b1
  have g3 := g (Y + 3) (by omega) (by omega) (by omega)
  obtain ⟨a1, a2, a3, a4, a5, a6, a7, a8, a9⟩ := h1
  refine ⟨y, ?_, ⟨⟨g3.1.trans a1, (g3.2.2.2.1 _).trans a2, (g3.2.2.2.1 _).trans a3, (g3.2.2.2.1 _).trans a4, (g3.2.2.2.1 _).trans a5, (g2.k (by omega)).trans a6, (g2.n (by omega)).trans a7, (g2.k (by omega)).trans a8, (g2.n (by omega)).trans a9⟩, h2.ag g2 (by omega), (g1.i (by omega)).trans h3, (g1.i (by omega)).trans h4, ⟨(g1.k (by omega)).trans h5.1, (g1.r (by omega)).trans h5.2.1, (g1.i (by omega)).trans h5.2.2⟩, fun k hk => by rw [g2.al (by omega)]; exact h6 k hk, h7, ?_⟩, fun q q1 q2 => g q (by omega) (by omega) (by omega), by rw [hy, hu]; rfl, by rw [hy, hu]; rfl⟩
  · unfold f_X0_add
    rw [geti_s b1, b12, if_neg (nI_pos (by omega)), geti_s b1, b12, getr_s b1, b2, alen_s b5, b6, if_neg (nI_ge (by omega) (by omega)), geti_s b1, b12, getr_s b1, b3, alen_s b7, b8, if_neg (nI_ge (by omega) (by omega)), getr_s b1, b2, geti_s b1, b12, asti_s b5 (by omega) (by omega), getr_s (by exact b1)]
    rw [show h_r (p_ai x (Y + 5 + 1) C.length (nI a)) 41 (Y + 5) = some (Y + 5 + 2) from b3, geti_s (by exact b1), show h_i (p_ai x (Y + 5 + 1) C.length (nI a)) 42 (Y + 5) = nI C.length from b12, asti_s (by exact b7) (by show C.length < h_n x (Y + 5 + 2); omega) (by show h_n x (Y + 5 + 2) < _; omega), ← hu, geti_s ku, show h_i u 42 (Y + 5) = nI C.length by rw [hu]; exact b12, nI_1, puti_s ku, ← hy]
  · have kB : h_k y (Y + 5) = 3 := by rw [hy]; exact ku
    have rB : ∀ f, h_r y f (Y + 5) = h_r x f (Y + 5) := fun f => by rw [hy, hu]; rfl
    have iB : ∀ f, f ≠ 42 → h_i y f (Y + 5) = h_i x f (Y + 5) := fun f hf => by
      rw [hy, p_i_ne hf, hu]; rfl
    have k6 : ∀ q, h_k y q = h_k x q := fun q => by rw [hy, hu]; rfl
    have n6 : ∀ q, h_n y q = h_n x q := fun q => by rw [hy, hu]; rfl
    refine ⟨kB, (rB _).trans b2, (rB _).trans b3, (rB _).trans b4, (k6 _).trans b5, (n6 _).trans b6, (k6 _).trans b7, (n6 _).trans b8, (k6 _).trans b9, (n6 _).trans b10, fun j hj => ⟨by rw [g2.ar (by omega)]; exact (b11 j hj).1, (k6 _).trans (b11 j hj).2⟩, ?_, ?_, (iB _ (by decide)).trans b14, b15, fun j hj => ?_, fun j hj f hf => (g2.i (by omega)).trans (b17 j hj f hf)⟩
    · rw [hy, p_i_eq, List.length_append]; rfl
    · rw [List.length_append]; simp; omega
    · rw [List.length_append] at hj
      simp at hj
      have e1 : h_ai y (Y + 5 + 1) j = if j = C.length then nI a else h_ai x (Y + 5 + 1) j := by
        rw [hy, hu]
        show h_ai (p_ai (p_ai x (Y + 5 + 1) C.length (nI a)) (Y + 5 + 2) C.length (nI b)) (Y + 5 + 1) j = _
        simp only [HPAI]
        rw [if_neg (fun e => absurd e.1 (by omega))]
        by_cases c : j = C.length
        · rw [if_pos ⟨trivial, c⟩, if_pos c]
        · rw [if_neg (fun e => c e.2), if_neg c]
      have e2 : h_ai y (Y + 5 + 2) j = if j = C.length then nI b else h_ai x (Y + 5 + 2) j := by
        rw [hy, hu]
        show h_ai (p_ai (p_ai x (Y + 5 + 1) C.length (nI a)) (Y + 5 + 2) C.length (nI b)) (Y + 5 + 2) j = _
        simp only [HPAI]
        by_cases c : j = C.length
        · rw [if_pos ⟨trivial, c⟩, if_pos c]
        · rw [if_neg (fun e => c e.2), if_neg c, if_neg (fun e => c e.2)]
      rw [e1, e2]
      by_cases c : j = C.length
      · rw [if_pos c, if_pos c, c]
        simp [List.getD_eq_getElem?_getD]
      · rw [if_neg c, if_neg c]
        have e3 : (C ++ [(a, b)]).getD j (0, 0) = C.getD j (0, 0) := by simp [List.getD_eq_getElem?_getD, List.getElem?_append_left (show j < C.length by omega)]
        rw [e3]
        exact b16 j (by omega)
end PZ
