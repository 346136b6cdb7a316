/-! ===== the reader at an order's line ===== -/
def ordS (r : Nat → Nat) : List (Nat × Nat) := if 2 ≤ r 0 then [] else tldC (r 2) (r 3) (r 4)
def ordU (r : Nat → Nat) : List (Nat × Nat) := if r 0 = 1 ∧ 6 ≤ r 5 then [] else tstC (r 5) (r 6) (r 7)
def ordUK (r : Nat → Nat) : List Tok := if r 0 = 1 ∧ 6 ≤ r 5 then [] else kT 19 :: tstK (r 5) (r 6) (r 7)
def newO (a b c d e : Nat) : Nat → Nat := fun f => if f = 0 then a else if f = 1 then b else if f = 2 then c else if f = 3 then d else e
section PO
variable {N : Nat} {z : Nat → Nat} {Y n : Nat} {ts : List Tok}
/-- an order is kept -/
theorem ord_92 {x : Hp} {i a b c d : Nat} {C : List (Nat × Nat)} {os : List (Nat → Nat)} (h : PE x Y ts n i C os) (ho : os.length < 20) : ∃ y, f_X5_readOrder_b92 N z (nI a) (some (Y + 5)) (nI b) (nI c) (nI d) x = some ((), y) ∧ PE y Y ts n i C (os ++ [newO a b c d C.length]) ∧ Ef x y Y := by
  obtain ⟨h1, h2, h3, h4, h5, h6, h7, h8⟩ := h
  obtain ⟨b1, b2, b3, b4, b5, b6, b7, b8, b9, b10, b11, b12, b13, b14, b15, b16, b17⟩ := h8
  obtain ⟨j, hj⟩ : ∃ j, j = os.length := ⟨_, rfl⟩
  obtain ⟨o1, o2⟩ := b11 j (by omega)
  obtain ⟨q, hq⟩ : ∃ q, q = Y + 5 + 4 + j := ⟨_, rfl⟩
  rw [← hq] at o1 o2
  obtain ⟨x1, hx1⟩ : ∃ x1, x1 = p_i x 43 (Y + 5) (nI (j + 1)) := ⟨_, rfl⟩
  obtain ⟨y, hy⟩ : ∃ y, y = p_i (p_i (p_i (p_i (p_i x1 100 q (nI a)) 101 q (nI b)) 102 q (nI c)) 103 q (nI d)) 104 q (nI C.length) := ⟨_, rfl⟩
  have k1 : h_k x1 = h_k x := by rw [hx1]; rfl
  have ky : h_k y = h_k x := by rw [hy, hx1]; rfl
  have ny : h_n y = h_n x := by rw [hy, hx1]; rfl
  have ry : h_r y = h_r x := by rw [hy, hx1]; rfl
  have ay : h_ai y = h_ai x := by rw [hy, hx1]; rfl
  have ly : h_al y = h_al x := by rw [hy, hx1]; rfl
  have ary : h_ar y = h_ar x := by rw [hy, hx1]; rfl
  have iy : ∀ f p, p ≠ q → p ≠ Y + 5 → h_i y f p = h_i x f p := fun f p p1 p2 => by
    rw [hy, p_i_na p1, p_i_na p1, p_i_na p1, p_i_na p1, p_i_na p1, hx1, p_i_na p2]
  have iB : ∀ f, h_i y f (Y + 5) = if f = 43 then nI (j + 1) else h_i x f (Y + 5) := fun f => by
    rw [hy, p_i_na (by omega), p_i_na (by omega), p_i_na (by omega), p_i_na (by omega), p_i_na (by omega), hx1, p_i_i]
    by_cases c : f = 43
    · rw [if_pos ⟨c, rfl⟩, if_pos c]
    · rw [if_neg (fun e => c e.1), if_neg c]
  have sm : ∀ p, p ≠ q → p ≠ Y + 5 → Sm y x p := fun p p1 p2 => ⟨by rw [ky], by rw [ny], fun f => iy f p p1 p2, fun f => by rw [ry], by rw [ay], by rw [ly], by rw [ary]⟩
  have g1 : Ag x y 0 (Y + 5) := fun p _ p2 => sm p (by omega) (by omega)
  have g2 : Ag x y (Y + 29) (Y + 70) := fun p p1 p2 => sm p (by omega) (by omega)
  have at1 : f_X0_orderAt N z (Y + 5) (nI j) x1 = some (some q, x1) := by
    unfold f_X0_orderAt
    rw [if_neg (nI_pos (by omega)), geti_s (by rw [k1]; exact b1), show h_i x1 43 (Y + 5) = nI (j + 1) by rw [hx1, p_i_eq], if_neg (nI_ge (by omega) (by omega)), getr_s (by rw [k1]; exact b1), show h_r x1 44 (Y + 5) = some (Y + 5 + 3) by rw [hx1]; exact b4, alen_s (by rw [k1]; exact b9), show h_n x1 (Y + 5 + 3) = 20 by rw [hx1]; exact b10, if_neg (nI_ge (by omega) (by omega)), getr_s (by rw [k1]; exact b1), show h_r x1 44 (Y + 5) = some (Y + 5 + 3) by rw [hx1]; exact b4, aldr_s (by rw [k1]; exact b9) (by show j < h_n x1 _; rw [show h_n x1 (Y + 5 + 3) = 20 by rw [hx1]; exact b10]; omega) (by rw [show h_n x1 (Y + 5 + 3) = 20 by rw [hx1]; exact b10]; decide), show h_ar x1 (Y + 5 + 3) j = some q by rw [hx1]; exact o1]
  have add1 : f_X0_addOrder N z (Y + 5) x = some (some q, x1) := by
    unfold f_X0_addOrder
    rw [geti_s b1, b14, getr_s b1, b4, alen_s b9, b10, if_pos (nI_lt ho (by omega)), geti_s b1, b14, ← hj, nI_1, puti_s b1, ← hx1, geti_s (by rw [k1]; exact b1), show h_i x1 43 (Y + 5) = nI (j + 1) by rw [hx1, p_i_eq], nI_pred, obj_s (by rw [k1]; exact b1), at1, bnd_s]
  have k6 : h_k x1 q = 6 := by rw [k1]; exact o2
  obtain ⟨a1, a2, a3, a4, a5, a6, a7, a8, a9⟩ := h1
  refine ⟨y, ?_, ⟨⟨by rw [ky]; exact a1, by rw [ry]; exact a2, by rw [ry]; exact a3, by rw [ry]; exact a4, by rw [ry]; exact a5, by rw [ky]; exact a6, by rw [ny]; exact a7, by rw [ky]; exact a8, by rw [ny]; exact a9⟩, h2.ag g2 (by omega), (g1.i (by omega)).trans h3, (g1.i (by omega)).trans h4, ⟨by rw [ky]; exact h5.1, by rw [ry]; exact h5.2.1, (g1.i (by omega)).trans h5.2.2⟩, fun k hk => by rw [ly]; exact h6 k hk, h7, ?_⟩, fun p p1 p2 => sm p (by omega) (by omega), by rw [hy, hx1]; rfl, by rw [hy, hx1]; rfl⟩
  · unfold f_X5_readOrder_b92 f_X3_tell
    rw [obj_s b1, add1, bnd_s, if_neg (by simp), geti_s (by rw [k1]; exact b1), show h_i x1 42 (Y + 5) = nI C.length by rw [hx1, p_i_ne (by decide)]; exact b12, obj_s k6, puti_s k6, puti_s (by exact k6), puti_s (by exact k6), puti_s (by exact k6), puti_s (by exact k6), bnd_s, hy]
  · refine ⟨by rw [ky]; exact b1, by rw [ry]; exact b2, by rw [ry]; exact b3, by rw [ry]; exact b4, by rw [ky]; exact b5, by rw [ny]; exact b6, by rw [ky]; exact b7, by rw [ny]; exact b8, by rw [ky]; exact b9, by rw [ny]; exact b10, fun k hk => ⟨by rw [ary]; exact (b11 k hk).1, by rw [ky]; exact (b11 k hk).2⟩, ?_, b13, ?_, ?_, fun k hk => by rw [ay]; exact b16 k hk, fun k hk f hf => ?_⟩
    · rw [iB, if_neg (by decide)]; exact b12
    · rw [iB, if_pos rfl, List.length_append, hj]; rfl
    · rw [List.length_append]; simp; omega
    · rw [List.length_append] at hk
      simp at hk
      by_cases ck : k = j
      · have e1 : (os ++ [newO a b c d C.length]).getD k (fun _ => 0) = newO a b c d C.length := by
          rw [ck, hj]
          simp [List.getD_eq_getElem?_getD]
        rw [e1, ck, show Y + 5 + 4 + j = q from hq.symm, hy]
        have cf : f = 0 ∨ f = 1 ∨ f = 2 ∨ f = 3 ∨ f = 4 := by omega
        rcases cf with cf | cf | cf | cf | cf <;> subst cf <;> simp [p_i_i, newO]
      · have e1 : (os ++ [newO a b c d C.length]).getD k (fun _ => 0) = os.getD k (fun _ => 0) := by
          simp [List.getD_eq_getElem?_getD, List.getElem?_append_left (show k < os.length by omega)]
        rw [e1, iy _ _ (by omega) (by omega)]
        exact b17 k (by omega) f hf
end PO
