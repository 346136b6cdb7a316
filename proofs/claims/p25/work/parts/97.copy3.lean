/-! ===== the draft's book copied ===== -/
def Fb (x y : Hp) (B : Nat) : Prop := (∀ q, q < B ∨ B + 24 ≤ q → Sm y x q) ∧ h_sz y = h_sz x ∧ h_sl y = h_sl x
theorem Fb.rf {x : Hp} {B : Nat} : Fb x x B := ⟨fun _ _ => ⟨rfl, rfl, fun _ => rfl, fun _ => rfl, rfl, rfl, rfl⟩, rfl, rfl⟩
theorem Fb.tr {x y w : Hp} {B : Nat} (h : Fb x y B) (g : Fb y w B) : Fb x w B := ⟨fun q a => (g.1 q a).tr (h.1 q a), g.2.1.trans h.2.1, g.2.2.trans h.2.2⟩
section BC
variable {N : Nat} {z : Nat → Nat} {B S : Nat} {x : Hp} {C D : List (Nat × Nat)} {os bs : List (Nat → Nat)}
theorem bk_add {a b : Nat} (h : Bk x B C os) (hC : C.length < 400) : ∃ y, f_X0_add N z B (nI a) (nI b) x = some ((), y) ∧ Bk y B (C ++ [(a, b)]) os ∧ Fb x y B := by
  obtain ⟨b1, b2, b3, b4, b5, b6, b7, b8, b9, b10, b11, b12, b13, b14, b15, b16, b17⟩ := h
  obtain ⟨u, hu⟩ : ∃ u, u = p_ai (p_ai x (B + 1) C.length (nI a)) (B + 2) C.length (nI b) := ⟨_, rfl⟩
  obtain ⟨y, hy⟩ : ∃ y, y = p_i u 42 B (nI (C.length + 1)) := ⟨_, rfl⟩
  have g : ∀ q, q ≠ B → q ≠ B + 1 → q ≠ B + 2 → Sm y x q := fun q q1 q2 q3 => by
    rw [hy, hu]
    exact (Sm_pi q1).tr ((Sm_pai (by omega)).tr (Sm_pai (by omega)))
  have g2 : Ag x y (B + 3) (B + 60) := fun q q1 q2 => g q (by omega) (by omega) (by omega)
  have ku : h_k u B = 3 := by rw [hu]; exact b1
  refine ⟨y, ?_, ?_, fun q q1 => g q (by omega) (by omega) (by omega), by rw [hy, hu]; rfl, by rw [hy, hu]; rfl⟩
  · unfold f_X0_add
    rw [geti_s b1, b12, if_neg (nI_pos (by omega)), geti_s b1, b12, getr_s b1, b2, alen_s b5, b6, if_neg (nI_ge (by omega) (by omega)), geti_s b1, b12, getr_s b1, b3, alen_s b7, b8, if_neg (nI_ge (by omega) (by omega)), getr_s b1, b2, geti_s b1, b12, asti_s b5 (by omega) (by omega), getr_s (by exact b1)]
    rw [show h_r (p_ai x (B + 1) C.length (nI a)) 41 B = some (B + 2) from b3, geti_s (by exact b1), show h_i (p_ai x (B + 1) C.length (nI a)) 42 B = nI C.length from b12, asti_s (by exact b7) (by show C.length < h_n x (B + 2); omega) (by show h_n x (B + 2) < _; omega), ← hu, geti_s ku, show h_i u 42 B = nI C.length by rw [hu]; exact b12, nI_1, puti_s ku, ← hy]
  · have rB : ∀ f, h_r y f B = h_r x f B := fun f => by rw [hy, hu]; rfl
    have iB : ∀ f, f ≠ 42 → h_i y f B = h_i x f B := fun f hf => by
      rw [hy, p_i_ne hf, hu]; rfl
    have k6 : ∀ q, h_k y q = h_k x q := fun q => by rw [hy, hu]; rfl
    have n6 : ∀ q, h_n y q = h_n x q := fun q => by rw [hy, hu]; rfl
    refine ⟨(k6 _).trans b1, (rB _).trans b2, (rB _).trans b3, (rB _).trans b4, (k6 _).trans b5, (n6 _).trans b6, (k6 _).trans b7, (n6 _).trans b8, (k6 _).trans b9, (n6 _).trans b10, fun j hj => ⟨by rw [g2.ar (by omega)]; exact (b11 j hj).1, (k6 _).trans (b11 j hj).2⟩, ?_, ?_, (iB _ (by decide)).trans b14, b15, fun j hj => ?_, fun j hj f hf => (g2.i (by omega)).trans (b17 j hj f hf)⟩
    · rw [hy, p_i_eq, List.length_append]; rfl
    · rw [List.length_append]; simp; omega
    · rw [List.length_append] at hj
      simp at hj
      have e1 : h_ai y (B + 1) j = if j = C.length then nI a else h_ai x (B + 1) j := by
        rw [hy, hu]
        show h_ai (p_ai (p_ai x (B + 1) C.length (nI a)) (B + 2) C.length (nI b)) (B + 1) j = _
        simp only [HPAI]
        rw [if_neg (fun e => absurd e.1 (by omega))]
        by_cases c : j = C.length
        · rw [if_pos ⟨trivial, c⟩, if_pos c]
        · rw [if_neg (fun e => c e.2), if_neg c]
      have e2 : h_ai y (B + 2) j = if j = C.length then nI b else h_ai x (B + 2) j := by
        rw [hy, hu]
        show h_ai (p_ai (p_ai x (B + 1) C.length (nI a)) (B + 2) C.length (nI b)) (B + 2) j = _
        simp only [HPAI]
        by_cases c : j = C.length
        · rw [if_pos ⟨trivial, c⟩, if_pos c]
        · rw [if_neg (fun e => c e.2), if_neg c, if_neg (fun e => c e.2)]
      rw [e1, e2]
      by_cases c : j = C.length
      · rw [if_pos c, if_pos c, c]
        simp [List.getD_eq_getElem?_getD]
      · rw [if_neg c, if_neg c]
        have e3 : (C ++ [(a, b)]).getD j (0, 0) = C.getD j (0, 0) := by simp [List.getD_eq_getElem?_getD, List.getElem?_append_left (show j < C.length by omega)]
        rw [e3]
        exact b16 j (by omega)
theorem bk_at {j : Nat} (h : Bk x B C os) (hj : j < os.length) : f_X0_orderAt N z B (nI j) x = some (some (B + 4 + j), x) ∧ h_k x (B + 4 + j) = 6 := by
  obtain ⟨b1, b2, b3, b4, b5, b6, b7, b8, b9, b10, b11, b12, b13, b14, b15, b16, b17⟩ := h
  refine ⟨?_, (b11 j (by omega)).2⟩
  unfold f_X0_orderAt
  rw [if_neg (nI_pos (by omega)), geti_s b1, b14, if_neg (nI_ge hj (by omega)), getr_s b1, b4, alen_s b9, b10, if_neg (nI_ge (by omega) (by omega)), getr_s b1, b4, aldr_s b9 (by omega) (by omega), (b11 j (by omega)).1]
theorem bk_ord {r : Nat → Nat} (h : Bk x B C os) (ho : os.length < 20) : ∃ q x1 y, f_X0_addOrder N z B x = some (some q, x1) ∧ h_k x1 q = 6 ∧ (∀ p, p < B ∨ B + 24 ≤ p → Sm x1 x p) ∧ f_X3_tell N z q (nI (r 0)) (nI (r 1)) (nI (r 2)) (nI (r 3)) (nI (r 4)) x1 = some ((), y) ∧ Bk y B C (os ++ [r]) ∧ Fb x y B := by
  obtain ⟨b1, b2, b3, b4, b5, b6, b7, b8, b9, b10, b11, b12, b13, b14, b15, b16, b17⟩ := h
  obtain ⟨j, hj⟩ : ∃ j, j = os.length := ⟨_, rfl⟩
  obtain ⟨o1, o2⟩ := b11 j (by omega)
  obtain ⟨q, hq⟩ : ∃ q, q = B + 4 + j := ⟨_, rfl⟩
  rw [← hq] at o1 o2
  obtain ⟨x1, hx1⟩ : ∃ x1, x1 = p_i x 43 B (nI (j + 1)) := ⟨_, rfl⟩
  obtain ⟨y, hy⟩ : ∃ y, y = p_i (p_i (p_i (p_i (p_i x1 100 q (nI (r 0))) 101 q (nI (r 1))) 102 q (nI (r 2))) 103 q (nI (r 3))) 104 q (nI (r 4)) := ⟨_, rfl⟩
  have k1 : h_k x1 = h_k x := by rw [hx1]; rfl
  have ky : h_k y = h_k x := by rw [hy, hx1]; rfl
  have ny : h_n y = h_n x := by rw [hy, hx1]; rfl
  have ry : h_r y = h_r x := by rw [hy, hx1]; rfl
  have ay : h_ai y = h_ai x := by rw [hy, hx1]; rfl
  have ly : h_al y = h_al x := by rw [hy, hx1]; rfl
  have ary : h_ar y = h_ar x := by rw [hy, hx1]; rfl
  have iy : ∀ f p, p ≠ q → p ≠ B → h_i y f p = h_i x f p := fun f p p1 p2 => by
    rw [hy, p_i_na p1, p_i_na p1, p_i_na p1, p_i_na p1, p_i_na p1, hx1, p_i_na p2]
  have iB : ∀ f, h_i y f B = if f = 43 then nI (j + 1) else h_i x f B := fun f => by
    rw [hy, p_i_na (by omega), p_i_na (by omega), p_i_na (by omega), p_i_na (by omega), p_i_na (by omega), hx1, p_i_i]
    by_cases c : f = 43
    · rw [if_pos ⟨c, rfl⟩, if_pos c]
    · rw [if_neg (fun e => c e.1), if_neg c]
  have sm : ∀ p, p ≠ q → p ≠ B → Sm y x p := fun p p1 p2 => ⟨by rw [ky], by rw [ny], fun f => iy f p p1 p2, fun f => by rw [ry], by rw [ay], by rw [ly], by rw [ary]⟩
  have at1 : f_X0_orderAt N z B (nI j) x1 = some (some q, x1) := by
    unfold f_X0_orderAt
    rw [if_neg (nI_pos (by omega)), geti_s (by rw [k1]; exact b1), show h_i x1 43 B = nI (j + 1) by rw [hx1, p_i_eq], if_neg (nI_ge (by omega) (by omega)), getr_s (by rw [k1]; exact b1), show h_r x1 44 B = some (B + 3) by rw [hx1]; exact b4, alen_s (by rw [k1]; exact b9), show h_n x1 (B + 3) = 20 by rw [hx1]; exact b10, if_neg (nI_ge (by omega) (by omega)), getr_s (by rw [k1]; exact b1), show h_r x1 44 B = some (B + 3) by rw [hx1]; exact b4, aldr_s (by rw [k1]; exact b9) (by show j < h_n x1 _; rw [show h_n x1 (B + 3) = 20 by rw [hx1]; exact b10]; omega) (by rw [show h_n x1 (B + 3) = 20 by rw [hx1]; exact b10]; decide), show h_ar x1 (B + 3) j = some q by rw [hx1]; exact o1]
  have k6 : h_k x1 q = 6 := by rw [k1]; exact o2
  refine ⟨q, x1, y, ?_, k6, fun p hp => by rw [hx1]; exact Sm_pi (by omega), ?_, ?_, fun p p1 => sm p (by omega) (by omega), by rw [hy, hx1]; rfl, by rw [hy, hx1]; rfl⟩
  · unfold f_X0_addOrder
    rw [geti_s b1, b14, getr_s b1, b4, alen_s b9, b10, if_pos (nI_lt ho (by omega)), geti_s b1, b14, ← hj, nI_1, puti_s b1, ← hx1, geti_s (by rw [k1]; exact b1), show h_i x1 43 B = nI (j + 1) by rw [hx1, p_i_eq], nI_pred, obj_s (by rw [k1]; exact b1), at1, bnd_s]
  · unfold f_X3_tell
    rw [puti_s k6, puti_s (by exact k6), puti_s (by exact k6), puti_s (by exact k6), puti_s (by exact k6), hy]
  · refine ⟨by rw [ky]; exact b1, by rw [ry]; exact b2, by rw [ry]; exact b3, by rw [ry]; exact b4, by rw [ky]; exact b5, by rw [ny]; exact b6, by rw [ky]; exact b7, by rw [ny]; exact b8, by rw [ky]; exact b9, by rw [ny]; exact b10, fun k hk => ⟨by rw [ary]; exact (b11 k hk).1, by rw [ky]; exact (b11 k hk).2⟩, ?_, b13, ?_, ?_, fun k hk => by rw [ay]; exact b16 k hk, fun k hk f hf => ?_⟩
    · rw [iB, if_neg (by decide)]; exact b12
    · rw [iB, if_pos rfl, List.length_append, hj]; rfl
    · rw [List.length_append]; simp; omega
    · rw [List.length_append] at hk
      simp at hk
      by_cases ck : k = j
      · have e1 : (os ++ [r]).getD k (fun _ => 0) = r := by
          rw [ck, hj]
          simp [List.getD_eq_getElem?_getD]
        rw [e1, ck, show B + 4 + j = q from hq.symm, hy]
        have cf : f = 0 ∨ f = 1 ∨ f = 2 ∨ f = 3 ∨ f = 4 := by omega
        rcases cf with cf | cf | cf | cf | cf <;> subst cf <;> simp [p_i_i]
      · have e1 : (os ++ [r]).getD k (fun _ => 0) = os.getD k (fun _ => 0) := by
          simp [List.getD_eq_getElem?_getD, List.getElem?_append_left (show k < os.length by omega)]
        rw [e1, iy _ _ (by omega) (by omega)]
        exact b17 k (by omega) f hf
/-- the orders, one after the other -/
theorem bk_os (hd : S + 24 ≤ B) : ∀ (q n i : Nat) (x : Hp) (os : List (Nat → Nat)), Bk x S D bs → Bk x B C os → os.length = i → i + q = bs.length → q < n → (∀ j, j < i → ∀ f, f < 5 → os.getD j (fun _ => 0) f = bs.getD j (fun _ => 0) f) → ∃ y os', f_X0_copyFrom_b56 N z n B (some S) (nI i) x = some ((), y) ∧ Bk y B C os' ∧ Fb x y B ∧ os'.length = bs.length ∧ ∀ j, j < bs.length → ∀ f, f < 5 → os'.getD j (fun _ => 0) f = bs.getD j (fun _ => 0) f
  | q, 0, i, x, os, h, g, hi, hq, hn, he => absurd hn (by omega)
  | 0, n + 1, i, x, os, h, g, hi, hq, hn, he => by
    have e : i = bs.length := by omega
    obtain ⟨b1, b2, b3, b4, b5, b6, b7, b8, b9, b10, b11, b12, b13, b14, b15, b16, b17⟩ := id h
    refine ⟨x, os, ?_, g, Fb.rf, by omega, fun j hj => he j (by omega)⟩
    rw [f_X0_copyFrom_b56, geti_s b1, b14, if_pos (nI_le (by omega) (by omega))]
  | q + 1, n + 1, i, x, os, h, g, hi, hq, hn, he => by
    obtain ⟨b1, b2, b3, b4, b5, b6, b7, b8, b9, b10, b11, b12, b13, b14, b15, b16, b17⟩ := id h
    obtain ⟨a1, a2⟩ := bk_at (N := N) (z := z) (j := i) h (by omega)
    obtain ⟨p, x1, y, c1, c2, c3, c4, c5, c6⟩ := bk_ord (N := N) (z := z) (r := bs.getD i (fun _ => 0)) g (by omega)
    have w := c3 (S + 4 + i) (by omega)
    have fd : ∀ f, f < 5 → h_i x1 (100 + f) (S + 4 + i) = nI (bs.getD i (fun _ => 0) f) := fun f hf => (w.2.2.1 _).trans (b17 i (by omega) f hf)
    have kw : h_k x1 (S + 4 + i) = 6 := w.1.trans a2
    have hS : Bk y S D bs := h.ag (lo := 0) (hi := S + 24) (fun a _ a2 => c6.1 a (by omega)) ⟨by omega, Nat.le_refl _⟩
    obtain ⟨u, os', d1, d2, d3, d4, d5⟩ := bk_os hd q n (i + 1) y _ hS c5 (by rw [List.length_append, hi]; rfl) (by omega) (by omega) (fun j hj f hf => by
      by_cases cj : j = i
      · rw [cj, ← hi]
        simp [List.getD_eq_getElem?_getD]
      · have e1 : (os ++ [bs.getD i (fun _ => 0)]).getD j (fun _ => 0) = os.getD j (fun _ => 0) := by
          simp [List.getD_eq_getElem?_getD, List.getElem?_append_left (show j < os.length by omega)]
        rw [e1]
        exact he j (by omega) f hf)
    refine ⟨u, os', ?_, d2, c6.tr d3, d4, d5⟩
    rw [f_X0_copyFrom_b56, geti_s b1, b14, if_neg (nI_ge (by omega) (by omega)), obj_s b1, a1, bnd_s, obj_s g.1, c1, bnd_s, if_neg (by simp), if_neg (by simp), geti_s kw, geti_s kw, geti_s kw, geti_s kw, geti_s kw, fd 0 (by decide), fd 1 (by decide), fd 2 (by decide), fd 3 (by decide), fd 4 (by decide), obj_s c2, c4, bnd_s]
    unfold f_X0_copyFrom_b110
    rw [nI_1, d1]
/-- the code, one step after the other -/
theorem bk_cs (hd : S + 24 ≤ B) (hN : 401 ≤ N) : ∀ (q n i : Nat) (x : Hp), Bk x S D bs → Bk x B (D.take i) [] → i + q = D.length → q < n → ∃ y os', f_X0_copyFrom_b6 N z n B (some S) (nI i) x = some ((), y) ∧ Bk y B D os' ∧ Fb x y B ∧ os'.length = bs.length ∧ ∀ j, j < bs.length → ∀ f, f < 5 → os'.getD j (fun _ => 0) f = bs.getD j (fun _ => 0) f
  | q, 0, i, x, h, g, hq, hn => absurd hn (by omega)
  | 0, n + 1, i, x, h, g, hq, hn => by
    have e : i = D.length := by omega
    obtain ⟨b1, b2, b3, b4, b5, b6, b7, b8, b9, b10, b11, b12, b13, b14, b15, b16, b17⟩ := id h
    rw [e, List.take_length] at g
    obtain ⟨y, os', d1, d2, d3, d4, d5⟩ := bk_os (N := N) (z := z) hd bs.length N 0 x [] h g rfl (by omega) (by omega) (fun j hj => absurd hj (by omega))
    refine ⟨y, os', ?_, d2, d3, d4, d5⟩
    rw [f_X0_copyFrom_b6, geti_s b1, b12, if_pos (nI_le (by omega) (by omega))]
    exact d1
  | q + 1, n + 1, i, x, h, g, hq, hn => by
    obtain ⟨b1, b2, b3, b4, b5, b6, b7, b8, b9, b10, b11, b12, b13, b14, b15, b16, b17⟩ := id h
    have hl : (D.take i).length = i := by simp; omega
    obtain ⟨y, c1, c2, c3⟩ := bk_add (N := N) (z := z) (a := (D.getD i (0, 0)).1) (b := (D.getD i (0, 0)).2) g (by omega)
    have hS : Bk y S D bs := h.ag (lo := 0) (hi := S + 24) (fun a _ a2 => c3.1 a (by omega)) ⟨by omega, Nat.le_refl _⟩
    have et : D.take i ++ [((D.getD i (0, 0)).1, (D.getD i (0, 0)).2)] = D.take (i + 1) := by
      have hi : i < D.length := by omega
      have e0 : D.getD i (0, 0) = D[i] := by simp [List.getD_eq_getElem?_getD, hi]
      show D.take i ++ [D.getD i (0, 0)] = _
      rw [e0]
      first
        | exact List.take_append_getElem hi
        | exact (List.take_succ_eq_append_getElem hi).symm
        | simp
    rw [et] at c2
    obtain ⟨u, os', d1, d2, d3, d4, d5⟩ := bk_cs hd hN q n (i + 1) y hS c2 (by omega) (by omega)
    refine ⟨u, os', ?_, d2, c3.tr d3, d4, d5⟩
    obtain ⟨e1, e2⟩ := b16 i (by omega)
    rw [f_X0_copyFrom_b6, geti_s b1, b12, if_neg (nI_ge (by omega) (by omega)), getr_s b1, b2, alen_s b5, b6, if_neg (nI_ge (by omega) (by omega)), getr_s b1, b3, alen_s b7, b8, if_neg (nI_ge (by omega) (by omega)), getr_s b1, b2, aldi_s b5 (by omega) (by omega), getr_s b1, b3, aldi_s b7 (by omega) (by omega), e1, e2, obj_s g.1, c1, bnd_s, nI_1, d1]
theorem bk_clear (h : Bk x B C os) : ∃ y, f_X0_clear N z B x = some ((), y) ∧ Bk y B [] [] ∧ Fb x y B := by
  obtain ⟨b1, b2, b3, b4, b5, b6, b7, b8, b9, b10, b11, b12, b13, b14, b15, b16, b17⟩ := h
  refine ⟨p_i (p_i x 42 B 0) 43 B 0, ?_, ⟨b1, b2, b3, b4, b5, b6, b7, b8, b9, b10, b11, ?_, by simp, ?_, by simp, fun i hi => absurd hi (by simp), fun i hi => absurd hi (by simp)⟩, fun q hq => (Sm_pi (by omega)).tr (Sm_pi (by omega)), rfl, rfl⟩
  · unfold f_X0_clear
    rw [puti_s b1, puti_s (by exact b1)]
  · rw [p_i_ne (by decide), p_i_eq]; rfl
  · rw [p_i_eq]; rfl
theorem book_copy (hd : S + 24 ≤ B) (hN : 401 ≤ N) (h : Bk x S D bs) (g : Bk x B C os) : ∃ y os', f_X0_copyFrom N z B (some S) x = some ((), y) ∧ Bk y B D os' ∧ Fb x y B ∧ os'.length = bs.length ∧ ∀ j, j < bs.length → ∀ f, f < 5 → os'.getD j (fun _ => 0) f = bs.getD j (fun _ => 0) f := by
  obtain ⟨y, a1, a2, a3⟩ := bk_clear (N := N) (z := z) g
  have hS : Bk y S D bs := h.ag (lo := 0) (hi := S + 24) (fun a _ a2 => a3.1 a (by omega)) ⟨by omega, Nat.le_refl _⟩
  have hl := h.2.2.2.2.2.2.2.2.2.2.2.2.1
  obtain ⟨u, os', d1, d2, d3, d4, d5⟩ := bk_cs (N := N) (z := z) hd hN D.length N 0 y hS a2 (by omega) (by omega)
  refine ⟨u, os', ?_, d2, a3.tr d3, d4, d5⟩
  unfold f_X0_copyFrom
  rw [obj_s g.1, a1, bnd_s]
  exact d1
end BC
