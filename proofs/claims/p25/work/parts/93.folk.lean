/-! ===== the reader at a folk's line ===== -/
section PF
variable {N : Nat} {z : Nat → Nat} {Y n i : Nat} {ts : List Tok} {x : Hp} {C : List (Nat × Nat)} {os : List (Nat → Nat)} {r : List Tok} {w mm : Nat} {P : Nat → Nat → Nat} {O : Nat → Option Nat} {G : Nat → Nat → Nat}
def keepFolk (N : Nat) (z : Nat → Nat) (Y : Nat) (v : Int64) (a b c d : Int32) (x26 : Hp) : Option (Unit × Hp) :=
  getr (some (Y + 3)) x26 8 144 fun r29 => getr (some (Y + 3)) x26 8 140 fun r30 => geti r30 x26 9 164 fun i31 => bnd (f_X5_keepName N z r29 i31 v x26) fun _ x32 => getr (some (Y + 3)) x32 8 140 fun r33 => obj r33 x32 9 fun q36 => bnd (f_X6_addFolk N z q36 x32) fun r35 x34 => if r35 = none then (some ((), x34)) else (obj r35 x34 4 fun q38 => bnd (f_X1_tell N z q38 a b c d x34) fun _ x37 => some ((), x37))
/-- the folk are kept -/
theorem folk_keep (h : PE x Y ts n i C os) (D : PD x Y w n mm P O G) (hn : n ≤ 5) (hm : mm < 8) : ∃ y, keepFolk N z Y (Int64.ofNat (1025 + mm)) (nI (G mm 0)) (nI (G mm 1)) (nI (G mm 2)) (nI (G mm 3)) x = some ((), y) ∧ PE y Y ts n i C os ∧ PD y Y w n (mm + 1) P O G ∧ (∀ q, q < Y + 3 ∨ Y + 66 ≤ q → Sm y x q) ∧ h_sz y = h_sz x ∧ h_sl y = h_sl x := by
  obtain ⟨s1, s2, s3, s4, s5, s6, s7, s8⟩ := h.s
  obtain ⟨e1, e2, e3, e4, ⟨e5, e6, e7⟩, e8, e9, e10⟩ := id h
  obtain ⟨a1, a2, a3, a4, a5, a6, a7, a8, a9⟩ := e1
  obtain ⟨D1, ⟨v1, v2, v3, v4, v5, v6⟩, D3, D4, D5⟩ := D
  obtain ⟨h1, h2, h4, h5, h6, h7, h8, h9, h10, h11, h12, h13, h14, h15, h16, h17, h18⟩ := id D1
  obtain ⟨x1, hx1⟩ : ∃ x1, x1 = p_al x (Y + 65) mm (Int64.ofNat (1025 + mm)) := ⟨_, rfl⟩
  obtain ⟨x2, hx2⟩ : ∃ x2, x2 = p_i x1 164 (Y + 4) (nI (mm + 1)) := ⟨_, rfl⟩
  obtain ⟨F, hF⟩ : ∃ F, F = Y + 28 + 23 + mm := ⟨_, rfl⟩
  obtain ⟨y, hy⟩ : ∃ y, y = p_i (p_i (p_i (p_i (p_i x2 60 F (nI (G mm 0))) 61 F (nI (G mm 1))) 63 F (nI (G mm 2))) 64 F (nI (G mm 3))) 62 F 0 := ⟨_, rfl⟩
  have k1 : h_k x1 = h_k x := by rw [hx1]; rfl
  have r1 : h_r x1 = h_r x := by rw [hx1]; rfl
  have n1 : h_n x1 = h_n x := by rw [hx1]; rfl
  have ar1 : h_ar x1 = h_ar x := by rw [hx1]; rfl
  have i1 : h_i x1 = h_i x := by rw [hx1]; rfl
  have k2 : h_k x2 = h_k x := by rw [hx2]; exact k1
  have r2 : h_r x2 = h_r x := by rw [hx2]; exact r1
  have n2 : h_n x2 = h_n x := by rw [hx2]; exact n1
  have ar2 : h_ar x2 = h_ar x := by rw [hx2]; exact ar1
  have ky : h_k y = h_k x := by rw [hy]; exact k2
  have ry : h_r y = h_r x := by rw [hy]; exact r2
  have ny : h_n y = h_n x := by rw [hy]; exact n2
  have kF : h_k x2 F = 4 := by rw [k2, hF]; exact h18 mm (by omega)
  have iF : ∀ f q, q ≠ F → h_i y f q = h_i x2 f q := fun f q hq => by rw [hy, p_i_na hq, p_i_na hq, p_i_na hq, p_i_na hq, p_i_na hq]
  have sm : ∀ q, q ≠ Y + 4 → q ≠ Y + 65 → q ≠ F → Sm y x q := fun q q1 q2 q3 => by
    rw [hy, hx2, hx1]
    exact (Sm_pi q3).tr ((Sm_pi q3).tr ((Sm_pi q3).tr ((Sm_pi q3).tr ((Sm_pi q3).tr ((Sm_pi q1).tr (Sm_pal q2))))))
  have g1 : Ag x y 0 (Y + 4) := fun q _ b => sm q (by omega) (by omega) (by omega)
  have g2 : Ag x y (Y + 5) (Y + 28 + 23) := fun q a b => sm q (by omega) (by omega) (by omega)
  have g3 : Ag x y (Y + 59) (Y + 65) := fun q a b => sm q (by omega) (by omega) (by omega)
  have iS : ∀ f, f ≠ 164 → h_i y f (Y + 4) = h_i x f (Y + 4) := fun f hf => by
    rw [iF f _ (by omega), hx2, p_i_ne hf, i1]
  have al5 : ∀ k, h_al y (Y + 65) k = if k = mm then Int64.ofNat (1025 + mm) else h_al x (Y + 65) k := fun k => by
    rw [hy, hx2, hx1]
    show h_al (p_al x (Y + 65) mm (Int64.ofNat (1025 + mm))) (Y + 65) k = _
    simp only [HPAL]
    by_cases c : k = mm
    · rw [if_pos ⟨trivial, c⟩, if_pos c]
    · rw [if_neg (fun e => c e.2), if_neg c]
  have aly : ∀ q, q ≠ Y + 65 → h_al y q = h_al x q := fun q hq => by
    rw [hy, hx2, hx1]
    exact (Sm_pal hq : Sm (p_al x (Y + 65) mm (Int64.ofNat (1025 + mm))) x q).2.2.2.2.2.1
  have ary : h_ar y = h_ar x := by rw [hy]; exact ar2
  refine ⟨y, ?_, ⟨⟨by rw [ky]; exact a1, by rw [ry]; exact a2, by rw [ry]; exact a3, by rw [ry]; exact a4, by rw [ry]; exact a5, by rw [ky]; exact a6, by rw [ny]; exact a7, by rw [ky]; exact a8, by rw [ny]; exact a9⟩, e2.ag g3 (by omega), (g1.i (by omega)).trans e3, (g1.i (by omega)).trans e4, ⟨by rw [ky]; exact e5, by rw [ry]; exact e6, (iS _ (by decide)).trans e7⟩, fun k hk => by rw [aly _ (by omega)]; exact e8 k hk, e9, e10.ag g2 (by omega)⟩, ⟨?_, ⟨(iS _ (by decide)).trans v1, (iS _ (by decide)).trans v2, ?_, (iS _ (by decide)).trans v4, (iS _ (by decide)).trans v5, (iS _ (by decide)).trans v6⟩, fun j hj => ?_, fun k hk => (D4 k hk).ag g2 (by omega), fun j hj f f1 f2 => ?_⟩, fun q hq => sm q (by omega) (by omega) (by omega), by rw [hy, hx2, hx1]; rfl, by rw [hy, hx2, hx1]; rfl⟩
  · have kn : f_X5_keepName N z (some (Y + 65)) (nI mm) (Int64.ofNat (1025 + mm)) x = some ((), x1) := by
      unfold f_X5_keepName
      have c1 : h_k x (Y + 65) = 102 := a8
      have c2 : h_n x (Y + 65) = 8 := a9
      rw [if_neg (nI_pos (by omega)), alen_s c1, c2, if_neg (nI_ge (by omega) (by omega)), astl_s c1 (by omega) (by omega), ← hx1]
    have at1 : f_X6_folkAt N z (Y + 4) (nI mm) x2 = some (some F, x2) := by
      have b1 : h_k x2 (Y + 4) = 9 := by rw [k2]; exact h1
      have b2 : h_r x2 166 (Y + 4) = some (Y + 28 + 2) := by rw [r2]; exact h5
      have b3 : h_k x2 (Y + 28 + 2) = 103 := by rw [k2]; exact h10
      have b4 : h_n x2 (Y + 28 + 2) = 8 := by rw [n2]; exact h11
      unfold f_X6_folkAt
      rw [if_neg (nI_pos (by omega)), geti_s b1, show h_i x2 164 (Y + 4) = nI (mm + 1) by rw [hx2, p_i_eq], if_neg (nI_ge (by omega) (by omega)), getr_s b1, b2, alen_s b3, b4, if_neg (nI_ge (by omega) (by omega)), getr_s b1, b2, aldr_s b3 (by omega) (by omega), show h_ar x2 (Y + 28 + 2) mm = some F by rw [ar2, hF]; exact h12 mm (by omega)]
    have add1 : f_X6_addFolk N z (Y + 4) x1 = some (some F, x2) := by
      have b1 : h_k x1 (Y + 4) = 9 := by rw [k1]; exact h1
      have b2 : h_r x1 166 (Y + 4) = some (Y + 28 + 2) := by rw [r1]; exact h5
      have b3 : h_k x1 (Y + 28 + 2) = 103 := by rw [k1]; exact h10
      have b4 : h_n x1 (Y + 28 + 2) = 8 := by rw [n1]; exact h11
      have b5 : h_i x1 164 (Y + 4) = nI mm := by rw [i1]; exact v3
      unfold f_X6_addFolk
      rw [geti_s b1, getr_s b1, b2, alen_s b3, b4, b5, if_pos (nI_lt (by omega) (by omega)), geti_s b1, b5, nI_1, puti_s b1, ← hx2, geti_s (by rw [k2]; exact h1), show h_i x2 164 (Y + 4) = nI (mm + 1) by rw [hx2, p_i_eq], nI_pred, obj_s (by rw [k2]; exact h1), at1, bnd_s]
    unfold keepFolk f_X1_tell
    rw [getr_s s1, show h_r x 144 (Y + 3) = some (Y + 65) from a5, getr_s s1, s2, geti_s s4, v3, kn, bnd_s, getr_s (by rw [k1]; exact s1), show h_r x1 140 (Y + 3) = some (Y + 4) by rw [r1]; exact s2, obj_s (by rw [k1]; exact s4), add1, bnd_s, if_neg (by simp), obj_s kF, puti_s kF, puti_s (by exact kF), puti_s (by exact kF), puti_s (by exact kF), puti_s (by exact kF), bnd_s, hy]
  · refine ⟨by rw [ky]; exact h1, by rw [ry]; exact h2, by rw [ry]; exact h4, by rw [ry]; exact h5, by rw [ry]; exact h6, by rw [ky]; exact h7, by rw [ny]; exact h8, fun k hk => by rw [ary]; exact h9 k hk, by rw [ky]; exact h10, by rw [ny]; exact h11, fun k hk => by rw [ary]; exact h12 k hk, by rw [ky]; exact h13, by rw [ry]; exact h14, by rw [ky]; exact h15, by rw [ny]; exact h16, fun k hk => ⟨(h17 k hk).1.ag g2 (by omega), (g2.i (by omega)).trans (h17 k hk).2⟩, fun k hk => by rw [ky]; exact h18 k hk⟩
  · rw [iF _ _ (by omega), hx2, p_i_eq]
  · rw [al5]
    by_cases c : j = mm
    · rw [if_pos c, c]
    · rw [if_neg c]
      exact D3 j (by omega)
  · by_cases c : j = mm
    · subst c
      rw [← hF, hy]
      have cf : f = 60 ∨ f = 61 ∨ f = 62 ∨ f = 63 ∨ f = 64 := by omega
      rcases cf with cf | cf | cf | cf | cf <;> subst cf <;> simp [p_i_i, folkF0]
    · rw [(sm _ (by omega) (by omega) (by omega)).2.2.1 f]
      exact D5 j (by omega) f f1 f2
theorem folk_s (h0 : PE x Y ts n i C os) (D : PD x Y w n mm P O G) (hn : n ≤ 5) (hm : mm < 8) (hG : FoOk n (G mm)) (hN : 401 ≤ N) (hd : ts.drop i = folkKT mm (G mm) ++ r) : ∃ y, f_X5_readFolk N z (Y + 3) x = some ((), y) ∧ PE y Y ts n (i + 10) C os ∧ PD y Y w n (mm + 1) P O G ∧ (∀ q, q < Y + 3 ∨ Y + 66 ≤ q → Sm y x q) ∧ h_sz y = h_sz x ∧ h_sl y = h_sl x := by
  obtain ⟨p0, p1, p2, p3, p4, p5⟩ := hG
  have d0 : ts.drop i = kT 11 :: fT mm :: kT 12 :: lT (G mm 0) :: kT 13 :: nT (G mm 1) :: kT 14 :: nT (G mm 2) :: kT 15 :: nT (G mm 3) :: sT 59 :: r := hd
  obtain ⟨s1, s2, s3, s4, s5, s6, s7, s8⟩ := h0.s
  obtain ⟨h1, f1⟩ := h0.adv
  have d1 := (drop_tok d0).2.2
  obtain ⟨x1, hx1⟩ : ∃ x1, x1 = p_i x 145 (Y + 3) (nI (i + 1)) := ⟨_, rfl⟩
  rw [← hx1] at h1 f1
  obtain ⟨a1, a2, a3, a4, a5, a6, a7, a8, a9⟩ := h1.1
  have D1 := D.ef (by omega) (by omega) f1
  have n164 : h_i x1 164 (Y + 4) = nI mm := D1.2.1.2.2.1
  have nm := h1.name (N := N) (z := z) (b := 1025) (l := mm) (cnt := mm) (A := Y + 65) (m := 8) d1 a8 a9 ⟨by omega, by decide⟩ (by decide) rfl D1.2.2.1 hN
  obtain ⟨h2, f2⟩ := h1.adv
  obtain ⟨x2, hx2⟩ : ∃ x2, x2 = p_i x1 145 (Y + 3) (nI (i + 1 + 1)) := ⟨_, rfl⟩
  rw [← hx2] at h2 f2 nm
  have d2 := (drop_tok d1).2.2
  obtain ⟨y3, e3, h3, f3, d3⟩ := h2.need_e (N := N) (z := z) d2 (v := 12) rfl
  obtain ⟨y4, e4, h4, f4, d4⟩ := h3.told_e (N := N) (z := z) d3 p0 hN
  obtain ⟨y5, e5, h5, f5, d5⟩ := h4.need_e (N := N) (z := z) d4 (v := 13) rfl
  obtain ⟨y6, e6, h6, f6, d6⟩ := h5.num_e (N := N) (z := z) d5 (lo := 1) (hi := 30) ⟨p1, p2⟩ (by decide) (a := 1) (b := 30) rfl rfl
  obtain ⟨y7, e7, h7, f7, d7⟩ := h6.need_e (N := N) (z := z) d6 (v := 14) rfl
  obtain ⟨y8, e8, h8, f8, d8⟩ := h7.num_e (N := N) (z := z) d7 (lo := 1) (hi := 30) ⟨p3, p4⟩ (by decide) (a := 1) (b := 30) rfl rfl
  obtain ⟨y9, e9, h9, f9, d9⟩ := h8.need_e (N := N) (z := z) d8 (v := 15) rfl
  obtain ⟨y10, e10, h10, f10, d10⟩ := h9.num_e (N := N) (z := z) d9 (lo := 0) (hi := 99) ⟨Nat.zero_le _, p5⟩ (by decide) (a := 0) (b := 99) rfl rfl
  have ff := (((((((((f1.tr f2).tr f3).tr f4).tr f5).tr f6).tr f7).tr f8).tr f9).tr f10)
  obtain ⟨y, g1, g2, g3, g4, g5, g6⟩ := folk_keep (N := N) (z := z) h10 (D.ef (by omega) (by omega) ff) hn hm
  refine ⟨y, ?_, g2, g3, fun q hq => (g4 q hq).tr (ff.1 q (by omega) (by omega)), g5.trans ff.2.1, g6.trans ff.2.2⟩
  unfold keepFolk at g1
  unfold f_X5_readFolk
  rw [geti_s s1, s7, nI_1, puti_s s1, ← hx1, getr_s a1, a5, getr_s a1, a2, geti_s h1.s.2.2.2.1, n164, obj_s a1, nm, bnd_s, obj_s h2.s.1, e3, bnd_s, obj_s h3.s.1, e4, bnd_s, obj_s h4.s.1, e5, bnd_s, obj_s h5.s.1, e6, bnd_s, obj_s h6.s.1, e7, bnd_s, obj_s h7.s.1, e8, bnd_s, obj_s h8.s.1, e9, bnd_s, obj_s h9.s.1, e10, bnd_s, g1]
end PF
