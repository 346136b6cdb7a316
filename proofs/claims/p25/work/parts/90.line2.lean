/-! ===== the reader at an order's line, whole ===== -/
section PQ
variable {N : Nat} {z : Nat → Nat} {Y n : Nat} {ts : List Tok}
theorem PE.b42 {x : Hp} {i : Nat} {C : List (Nat × Nat)} {os : List (Nat → Nat)} (h : PE x Y ts n i C os) : h_i x 42 (Y + 5) = nI C.length ∧ h_i x 43 (Y + 5) = nI os.length := ⟨h.2.2.2.2.2.2.2.2.2.2.2.2.2.2.2.2.2.2.1, h.2.2.2.2.2.2.2.2.2.2.2.2.2.2.2.2.2.2.2.2.1⟩
theorem foT_59 : foT 59 := by show ((_ ∧ _ ∧ _ ∧ _) ∧ _) ∧ _; decide
theorem foS_59 : foS 59 := by show _ ∧ _ ∧ _ ∧ _; decide
theorem foS_19 : foS 19 := by show _ ∧ _ ∧ _ ∧ _; decide
/-- from its test on -/
theorem ord_60 {x : Hp} {i a b c : Nat} {C : List (Nat × Nat)} {os : List (Nat → Nat)} {R : Nat → Nat} {r : List Tok} (h : PE x Y ts n i C os) (hR : RawO n R) (ha : a = 16 + R 0) (hd : ts.drop i = ordUK R ++ sT 59 :: r) (ho : os.length < 20) (hC : C.length + (ordU R).length ≤ 400) (hN : 401 ≤ N) : ∃ y, f_X5_readOrder_b60 N z (Y + 3) (nI a) (some (Y + 5)) (nI b) (nI c) x = some ((), y) ∧ PE y Y ts n (i + (ordUK R).length) (C ++ ordU R) (os ++ [newO a b c C.length (C.length + (ordU R).length)]) ∧ Ef x y Y := by
  obtain ⟨r0, r1, r2, r3, r4, r5, r6, r7⟩ := hR
  obtain ⟨s1, s2, s3, s4, s5, s6, s7, s8⟩ := h.s
  obtain ⟨c42, c43⟩ := h.b42
  unfold f_X5_readOrder_b60
  rw [geti_s s6, c42]
  have tst : ∀ (hU : ordUK R = kT 19 :: tstK (R 5) (R 6) (R 7)) (hV : ordU R = tstC (R 5) (R 6) (R 7)), ∃ y, f_X5_readOrder_b81 N z (Y + 3) (nI a) (some (Y + 5)) (nI b) (nI c) (nI C.length) x = some ((), y) ∧ PE y Y ts n (i + (ordUK R).length) (C ++ ordU R) (os ++ [newO a b c C.length (C.length + (ordU R).length)]) ∧ Ef x y Y := fun hU hV => by
    have hd' : ts.drop i = kT 19 :: (tstK (R 5) (R 6) (R 7) ++ sT 59 :: r) := by rw [hd, hU]; rfl
    have n1 := h.need (N := N) (z := z) hd' (v := 19) rfl
    obtain ⟨g1, g2⟩ := h.adv
    obtain ⟨-, -, d2⟩ := drop_tok hd'
    obtain ⟨y1, e1, e2, e3⟩ := tst_p (N := N) (z := z) (Y := Y) (ts := ts) (q := 12) (e0 := 0) (s := R 5) (l := R 6) (m := R 7) (by decide) r5 r6 (by omega) hN _ _ _ _ _ _ g1 d2 foT_59 (by rw [← hV]; exact hC)
    obtain ⟨y, f1, f2, f3⟩ := ord_92 (N := N) (z := z) (a := a) (b := b) (c := c) (d := C.length) e2 ho
    have e1' : fx_rec N z 24 0 (Y + 3) (0 : Int32) 0 (p_i x 145 (Y + 3) (nI (i + 1))) = some ((), y1) := e1
    refine ⟨y, ?_, ?_, (g2.tr e3).tr f3⟩
    · unfold f_X5_readOrder_b81
      rw [obj_s s1, n1, bnd_s, obj_s g1.s.1, e1', bnd_s, f1]
    · rw [hU, hV]
      rw [List.length_append] at f2
      have q1 : i + 1 + (tstK (R 5) (R 6) (R 7)).length = i + (kT 19 :: tstK (R 5) (R 6) (R 7)).length := by simp; omega
      rw [q1] at f2
      exact f2
  by_cases d : R 0 = 1 ∧ 6 ≤ R 5
  · have hU : ordUK R = [] := if_pos d
    have hV : ordU R = [] := if_pos d
    have hd' : ts.drop i = sT 59 :: r := by rw [hd, hU]; rfl
    obtain ⟨y, f1, f2, f3⟩ := ord_92 (N := N) (z := z) (a := a) (b := b) (c := c) (d := C.length) h ho
    refine ⟨y, ?_, ?_, f3⟩
    · rw [if_pos (show nI a = (17 : Int32) by rw [ha, d.1]; rfl), obj_s s1, h.kind hd', bnd_s, if_neg (by decide), f1]
    · rw [hU, hV]
      simpa using f2
  · have hU : ordUK R = kT 19 :: tstK (R 5) (R 6) (R 7) := if_neg d
    have hV : ordU R = tstC (R 5) (R 6) (R 7) := if_neg d
    have hd' : ts.drop i = kT 19 :: (tstK (R 5) (R 6) (R 7) ++ sT 59 :: r) := by rw [hd, hU]; rfl
    obtain ⟨y, f1, f2, f3⟩ := tst hU hV
    refine ⟨y, ?_, f2, f3⟩
    by_cases e : R 0 = 1
    · rw [if_pos (show nI a = (17 : Int32) by rw [ha, e]; rfl), obj_s s1, h.kind hd', bnd_s, show (kT 19).1 = 19 from rfl, if_pos (by decide), f1]
    · rw [if_neg (show ¬ nI a = (17 : Int32) from fun q => e (by have := (nI_eq (b := 17) (by omega) (by decide)).mp q; omega)), f1]
/-- the whole line but its end -/
theorem ord_s {x : Hp} {i : Nat} {C : List (Nat × Nat)} {os : List (Nat → Nat)} {R : Nat → Nat} {r : List Tok} (h : PE x Y ts n i C os) (hR : RawO n R) (hd : ts.drop i = kT (16 + R 0) :: lT (R 1) :: (ordK2 R ++ (ordUK R ++ sT 59 :: r))) (ho : os.length < 20) (hC : C.length + (ordS R).length + (ordU R).length ≤ 400) (hN : 401 ≤ N) : ∃ y, f_X5_readOrder N z (Y + 3) (nI (16 + R 0)) x = some ((), y) ∧ PE y Y ts n (i + 2 + (ordK2 R).length + (ordUK R).length) (C ++ ordS R ++ ordU R) (os ++ [newO (16 + R 0) (R 1) C.length (C.length + (ordS R).length) (C.length + (ordS R).length + (ordU R).length)]) ∧ Ef x y Y := by
  have hR' := hR
  obtain ⟨r0, r1, r2, r3, r4, r5, r6, r7⟩ := hR'
  obtain ⟨s1, s2, s3, s4, s5, s6, s7, s8⟩ := h.s
  obtain ⟨c42, c43⟩ := h.b42
  obtain ⟨-, -, d2⟩ := drop_tok hd
  obtain ⟨g1, g2⟩ := h.adv
  have et := g1.told (N := N) (z := z) d2 r1 hN
  obtain ⟨g3, g4⟩ := g1.adv
  obtain ⟨u, hu⟩ : ∃ u, u = p_i (p_i x 145 (Y + 3) (nI (i + 1))) 145 (Y + 3) (nI (i + 1 + 1)) := ⟨_, rfl⟩
  rw [← hu] at et g3 g4
  obtain ⟨-, -, d3⟩ := drop_tok d2
  obtain ⟨w1, w2, w3, w4, w5, w6, w7, w8⟩ := g3.s
  obtain ⟨c42', c43'⟩ := g3.b42
  unfold f_X5_readOrder f_X5_readOrder_b22
  rw [getr_s s1, s2, getr_s s4, s5, geti_s s6, c43, if_pos (show nI os.length < (20 : Int32) from nI_lt (b := 20) ho (by decide)), geti_s s1, s7, nI_1, puti_s s1, obj_s g1.s.1, et, bnd_s, geti_s w6, c42']
  by_cases c : R 0 = 2
  · have k2 : ordK2 R = [] := if_pos (by omega)
    have hS : ordS R = [] := if_pos (by omega)
    rw [k2, List.nil_append] at d3
    obtain ⟨y, f1, f2, f3⟩ := ord_60 (N := N) (z := z) (a := 16 + R 0) (b := R 1) (c := C.length) g3 hR rfl d3 ho (by omega) hN
    refine ⟨y, ?_, ?_, (g2.tr g4).tr f3⟩
    · rw [if_pos (show nI (16 + R 0) = (18 : Int32) by rw [c]; rfl), f1]
    · rw [k2, hS]
      simpa using f2
  · have k2 : ordK2 R = kT 12 :: tldK (R 2) (R 3) (R 4) := if_neg (by omega)
    have hS : ordS R = tldC (R 2) (R 3) (R 4) := if_neg (by omega)
    have d4 : ts.drop (i + 1 + 1) = kT 12 :: (tldK (R 2) (R 3) (R 4) ++ (ordUK R ++ sT 59 :: r)) := by rw [d3, k2]; rfl
    have n1 := g3.need (N := N) (z := z) d4 (v := 12) rfl
    obtain ⟨g5, g6⟩ := g3.adv
    obtain ⟨-, -, d5⟩ := drop_tok d4
    have nxt : ∃ t3 r3, ordUK R ++ sT 59 :: r = t3 :: r3 ∧ foS t3.1 := by
      unfold ordUK
      split
      · exact ⟨_, _, rfl, foS_59⟩
      · exact ⟨_, _, rfl, foS_19⟩
    obtain ⟨t3, r3', n2, n3⟩ := nxt
    have d5' := d5
    rw [n2] at d5'
    obtain ⟨y1, e1, e2, e3⟩ := tld_p (N := N) (z := z) (Y := Y) (ts := ts) (q := 17) (e0 := 0) (s := R 2) (l := R 3) (m := R 4) (by decide) r2 r3 (by omega) hN _ _ _ _ _ _ g5 d5' n3 (by rw [← hS]; omega)
    have d6 := drop_add d5
    rw [← hS] at e2
    obtain ⟨y, f1, f2, f3⟩ := ord_60 (N := N) (z := z) (a := 16 + R 0) (b := R 1) (c := C.length) e2 hR rfl d6 ho (by rw [List.length_append]; omega) hN
    have e1' : fx_rec N z 24 3 (Y + 3) (0 : Int32) 0 (p_i u 145 (Y + 3) (nI (i + 1 + 1 + 1))) = some ((), y1) := e1
    refine ⟨y, ?_, ?_, (((g2.tr g4).tr g6).tr e3).tr f3⟩
    · rw [if_neg (show ¬ nI (16 + R 0) = (18 : Int32) from fun q => c (by have := (nI_eq (b := 18) (by omega) (by decide)).mp q; omega)), obj_s w1, n1, bnd_s, obj_s g5.s.1, e1', bnd_s, f1]
    · have q1 : i + 1 + 1 + 1 + (tldK (R 2) (R 3) (R 4)).length + (ordUK R).length = i + 2 + (ordK2 R).length + (ordUK R).length := by rw [k2]; simp; omega
      rw [List.length_append, q1] at f2
      exact f2
end PQ
