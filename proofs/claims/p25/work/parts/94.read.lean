/-! ===== the reader: line after line ===== -/
def Fz (x y : Hp) (Y : Nat) : Prop := (∀ q, q < Y + 3 ∨ Y + 66 ≤ q → Sm y x q) ∧ h_sz y = h_sz x ∧ h_sl y = h_sl x
theorem Fz.rf {x : Hp} {Y : Nat} : Fz x x Y := ⟨fun _ _ => ⟨rfl, rfl, fun _ => rfl, fun _ => rfl, rfl, rfl, rfl⟩, rfl, rfl⟩
theorem Fz.tr {x y w : Hp} {Y : Nat} (h : Fz x y Y) (g : Fz y w Y) : Fz x w Y := ⟨fun q a => (g.1 q a).tr (h.1 q a), g.2.1.trans h.2.1, g.2.2.trans h.2.2⟩
theorem Ef.z {x y : Hp} {Y : Nat} (h : Ef x y Y) : Fz x y Y := ⟨fun q a => h.1 q (by omega) (by omega), h.2.1, h.2.2⟩
theorem OdR.up {C D : List (Nat × Nat)} {r : Nat → Nat} {kd ln : Nat} {S T : List (Nat × Nat)} (h : OdR C r kd ln S T) : OdR (C ++ D) r kd ln S T := by
  obtain ⟨h1, h2, h3, h4, h5, h6, h7, h8⟩ := h
  have e : ∀ j, j < C.length → (C ++ D).getD j (0, 0) = C.getD j (0, 0) := fun j hj => by simp [List.getD_eq_getElem?_getD, List.getElem?_append_left hj]
  exact ⟨h1, h2, h3, h4, by rw [List.length_append]; omega, fun j hj => by rw [e _ (by omega)]; exact h6 j hj, fun j hj => by rw [e _ (by omega)]; exact h7 j hj, h8⟩
theorem OdR.new {C S T : List (Nat × Nat)} {a b : Nat} (h : a = 16 ∨ a = 17 ∨ a = 18) : OdR (C ++ S ++ T) (newO a b C.length (C.length + S.length) (C.length + S.length + T.length)) a b S T := by
  refine ⟨rfl, rfl, rfl, rfl, by show _ ≤ _; simp [newO]; omega, fun j hj => ?_, fun j hj => ?_, h⟩
  · show (C ++ S ++ T).getD (C.length + j) (0, 0) = _
    rw [List.append_assoc]
    simp [List.getD_eq_getElem?_getD, List.getElem?_append_right (show C.length ≤ C.length + j by omega), List.getElem?_append_left hj]
  · show (C ++ S ++ T).getD (C.length + S.length + j) (0, 0) = _
    rw [List.getD_eq_getElem?_getD, List.getElem?_append_right (by rw [List.length_append]; omega), show C.length + S.length + j - (C ++ S).length = j by rw [List.length_append]; omega, ← List.getD_eq_getElem?_getD]
theorem od_of {n : Nat} {q : Nat → Nat} (h : RawO n q) : odOf q = (16 + q 0, q 1, ordS q, ordU q) := by
  obtain ⟨h0, h1, h2, h3, h4, h5, h6, h7⟩ := h
  have e1 : (if q 0 = 2 then [] else tldC (q 2) (q 3) (q 4)) = ordS q := by
    unfold ordS
    by_cases c : q 0 = 2
    · rw [if_pos c, if_pos (by omega)]
    · rw [if_neg c, if_neg (by omega)]
  have e2 : (if q 0 = 1 ∧ q 5 = 6 then [] else tstC (q 5) (q 6) (q 7)) = ordU q := by
    unfold ordU
    by_cases c : q 0 = 1 ∧ q 5 = 6
    · rw [if_pos c, if_pos (by omega)]
    · rw [if_neg c, if_neg (by omega)]
  unfold odOf
  rw [e1, e2]
theorem ord_len (q : Nat → Nat) : (ordS q).length ≤ 5 ∧ (ordU q).length ≤ 10 := by
  refine ⟨?_, ?_⟩
  · unfold ordS tldC
    repeat' split
    all_goals simp
  · unfold ordU tstC
    repeat' split
    all_goals simp
theorem ordK_eq (q : Nat → Nat) : ordK1 q = ordUK q ++ [sT 59] := rfl
section RL
variable {N : Nat} {z : Nat → Nat} {Y n i : Nat} {ts : List Tok} {x : Hp} {C : List (Nat × Nat)} {os : List (Nat → Nat)} {r : List Tok} {w mm : Nat} {P : Nat → Nat → Nat} {O : Nat → Option Nat} {G : Nat → Nat → Nat}
/-- the sign of a line's end, then the next line -/
theorem rd_218 {g k : Nat} {K : Nat → Int32 → Hp → Option (Int32 × Hp)} (h : PE x Y ts n i C os) (hd : ts.drop i = sT 59 :: r) : ∃ y, f_X5_read_b218 N z K (Y + 3) (nI k) x = K (Y + 3) (nI (k + 1)) y ∧ PE y Y ts n (i + 1) C os ∧ Ef x y Y ∧ ts.drop (i + 1) = r := by
  obtain ⟨y, e1, e2, e3, e4⟩ := h.need_e (N := N) (z := z) hd (v := 59) rfl
  refine ⟨y, ?_, e2, e3, e4⟩
  unfold f_X5_read_b218
  rw [obj_s h.s.1, e1, bnd_s, nI_1]
/-- the well's line -/
theorem it_well {g k m : Nat} (h : PE x Y ts n i C os) (D : PD x Y w n mm P O G) (hn : n ≤ 5) (hm : mm ≤ 8) (hd : ts.drop i = kT 0 :: nT m :: sT 59 :: r) (hm3 : m ≤ 30) (hk : k < 400) : ∃ y, f_X5_read_b43 N z (g + 1) (Y + 3) (nI k) x = f_X5_read_b43 N z g (Y + 3) (nI (k + 1)) y ∧ PE y Y ts n (i + 3) C os ∧ PD y Y m n mm P O G ∧ Fz x y Y ∧ ts.drop (i + 3) = r := by
  obtain ⟨s1, s2, s3, s4, s5, s6, s7, s8⟩ := h.s
  obtain ⟨h1, f1⟩ := h.adv
  have d1 := (drop_tok hd).2.2
  obtain ⟨x1, hx1⟩ : ∃ x1, x1 = p_i x 145 (Y + 3) (nI (i + 1)) := ⟨_, rfl⟩
  rw [← hx1] at h1 f1
  obtain ⟨x2, e2, h2, f2, d2⟩ := h1.num_e (N := N) (z := z) d1 (lo := 0) (hi := 30) ⟨Nat.zero_le _, hm3⟩ (by decide) (a := 0) (b := 30) rfl rfl
  obtain ⟨x3, hx3⟩ : ∃ x3, x3 = p_i x2 162 (Y + 4) (nI m) := ⟨_, rfl⟩
  have D2 := D.ef (by omega) hm (f1.tr f2)
  have sm3 : ∀ q, q ≠ Y + 4 → Sm x3 x2 q := fun q hq => by rw [hx3]; exact Sm_pi hq
  have iS : ∀ f, f ≠ 162 → h_i x3 f (Y + 4) = h_i x2 f (Y + 4) := fun f hf => by rw [hx3, p_i_ne hf]
  have h3 : PE x3 Y ts n (i + 1 + 1) C os := by
    obtain ⟨⟨a1, a2, a3, a4, a5, a6, a7, a8, a9⟩, e2, e3, e4, ⟨e5, e6, e7⟩, e8, e9, e10⟩ := h2
    have ga : Ag x2 x3 (Y + 5) (Y + 66) := fun q a b => sm3 q (by omega)
    rw [hx3]
    exact ⟨⟨a1, a2, a3, a4, a5, a6, a7, a8, a9⟩, by rw [← hx3]; exact e2.ag ga (by omega), (p_i_na (by omega)).trans e3, (p_i_na (by omega)).trans e4, ⟨e5, e6, (p_i_ne (by decide)).trans e7⟩, e8, e9, by rw [← hx3]; exact e10.ag ga (by omega)⟩
  have D3 : PD x3 Y m n mm P O G := by
    obtain ⟨q1, ⟨v1, v2, v3, v4, v5, v6⟩, q3, q4, q5⟩ := D2
    have ga : Ag x2 x3 (Y + 5) (Y + 66) := fun q a b => sm3 q (by omega)
    obtain ⟨p1, p2, p4, p5, p6, p7, p8, p9, p10, p11, p12, p13, p14, p15, p16, p17, p18⟩ := q1
    refine ⟨?_, ⟨(iS _ (by decide)).trans v1, by rw [hx3, p_i_eq], (iS _ (by decide)).trans v3, (iS _ (by decide)).trans v4, (iS _ (by decide)).trans v5, (iS _ (by decide)).trans v6⟩, fun j hj => by rw [ga.al (by omega)]; exact q3 j hj, fun k hk => (q4 k hk).ag ga (by omega), fun j hj f f1 f2 => (ga.i (by omega)).trans (q5 j hj f f1 f2)⟩
    have k3 : h_k x3 = h_k x2 := by rw [hx3]; rfl
    have r3 : h_r x3 = h_r x2 := by rw [hx3]; rfl
    have n3 : h_n x3 = h_n x2 := by rw [hx3]; rfl
    have ar3 : h_ar x3 = h_ar x2 := by rw [hx3]; rfl
    exact ⟨by rw [k3]; exact p1, by rw [r3]; exact p2, by rw [r3]; exact p4, by rw [r3]; exact p5, by rw [r3]; exact p6, by rw [k3]; exact p7, by rw [n3]; exact p8, fun k hk => by rw [ar3]; exact p9 k hk, by rw [k3]; exact p10, by rw [n3]; exact p11, fun k hk => by rw [ar3]; exact p12 k hk, by rw [k3]; exact p13, by rw [r3]; exact p14, by rw [k3]; exact p15, by rw [n3]; exact p16, fun k hk => ⟨(p17 k hk).1.ag ga (by omega), (ga.i (by omega)).trans (p17 k hk).2⟩, fun k hk => by rw [k3]; exact p18 k hk⟩
  have fz3 : Fz x2 x3 Y := ⟨fun q a => sm3 q (by omega), by rw [hx3]; rfl, by rw [hx3]; rfl⟩
  obtain ⟨y, g1, g2, g3, g4⟩ := rd_218 (N := N) (z := z) (g := g) (k := k) (K := f_X5_read_b43 N z g) h3 d2
  refine ⟨y, ?_, g2, D3.ef (by omega) hm g3, ((f1.tr f2).z.tr fz3).tr g3.z, g4⟩
  have k146 : h_i x 146 (Y + 3) = 0 := h.2.2.2.1
  rw [f_X5_read_b43, if_neg (show ¬ (400 : Int32) ≤ nI k from nI_ge (b := 400) hk (by omega)), geti_s s1, k146, if_neg (by decide), obj_s s1, h.kind hd, bnd_s, show (kT 0).1 = 0 from rfl, if_neg (by decide), obj_s s1, h.kind hd, bnd_s, show (kT 0).1 = 0 from rfl, if_pos (by decide), geti_s s1, s7, nI_1, puti_s s1, ← hx1, getr_s h1.s.1, h1.s.2.1, obj_s h1.s.1, e2, bnd_s, puti_s h2.s.2.2.2.1, ← hx3, g1]
/-- a lane's line -/
theorem it_lane {g k : Nat} (h : PE x Y ts n i C os) (D : PD x Y w n mm P O G) (hn : n < 5) (hm : mm ≤ 8) (hP : LnOk (P n)) (hO : ∀ j, O n = some j → j < n) (hN : 401 ≤ N) (hd : ts.drop i = laneKT n (O n) (P n) ++ r) (hk : k < 400) : ∃ y, f_X5_read_b43 N z (g + 1) (Y + 3) (nI k) x = f_X5_read_b43 N z g (Y + 3) (nI (k + 1)) y ∧ PE y Y ts (n + 1) (i + (laneKT n (O n) (P n)).length) C os ∧ PD y Y w (n + 1) mm P O G ∧ Fz x y Y := by
  obtain ⟨s1, s2, s3, s4, s5, s6, s7, s8⟩ := h.s
  have d0 : ts.drop i = kT 1 :: (lT n :: (undK (O n) ++ laneK1 (P n)) ++ r) := by rw [hd]; simp [laneKT]
  obtain ⟨y1, e1, e2, e3, e4, e5, e6⟩ := lane_s (N := N) (z := z) h D hn hm hP hO hN hd
  have hlen : 1 ≤ (laneKT n (O n) (P n)).length := by simp [laneKT]
  have hd2 : ts.drop i = (kT 1 :: lT n :: (undK (O n) ++ [kT 3, nT (P n 0), kT 4, nT (P n 1), kT 5, nT (P n 2), kT 6, nT (P n 3), kT 7, nT (P n 4), kT 8, if P n 5 = 0 then kT 10 else kT 9])) ++ sT 59 :: r := by rw [hd]; simp [laneKT, laneK1]
  have d1 := drop_add hd2
  have q1 : i + (laneKT n (O n) (P n)).length - 1 = i + (kT 1 :: lT n :: (undK (O n) ++ [kT 3, nT (P n 0), kT 4, nT (P n 1), kT 5, nT (P n 2), kT 6, nT (P n 3), kT 7, nT (P n 4), kT 8, if P n 5 = 0 then kT 10 else kT 9])).length := by simp [laneKT, laneK1]
  rw [← q1] at d1
  obtain ⟨y, g1, g2, g3, g4⟩ := rd_218 (N := N) (z := z) (g := g) (k := k) (K := f_X5_read_b43 N z g) e2 d1
  have q2 : i + (laneKT n (O n) (P n)).length - 1 + 1 = i + (laneKT n (O n) (P n)).length := by omega
  rw [q2] at g2
  refine ⟨y, ?_, g2, e3.ef (by omega) hm g3, Fz.tr ⟨e4, e5, e6⟩ g3.z⟩
  have k146 : h_i x 146 (Y + 3) = 0 := h.2.2.2.1
  rw [f_X5_read_b43, if_neg (show ¬ (400 : Int32) ≤ nI k from nI_ge (b := 400) hk (by omega)), geti_s s1, k146, if_neg (by decide), obj_s s1, h.kind d0, bnd_s, show (kT 1).1 = 1 from rfl, if_neg (by decide), obj_s s1, h.kind d0, bnd_s, show (kT 1).1 = 1 from rfl, if_neg (by decide), if_pos (by decide), obj_s s1, e1, bnd_s, g1]
/-- a folk's line -/
theorem it_folk {g k : Nat} (h : PE x Y ts n i C os) (D : PD x Y w n mm P O G) (hn : n ≤ 5) (hm : mm < 8) (hG : FoOk n (G mm)) (hN : 401 ≤ N) (hd : ts.drop i = folkKT mm (G mm) ++ r) (hk : k < 400) : ∃ y, f_X5_read_b43 N z (g + 1) (Y + 3) (nI k) x = f_X5_read_b43 N z g (Y + 3) (nI (k + 1)) y ∧ PE y Y ts n (i + 11) C os ∧ PD y Y w n (mm + 1) P O G ∧ Fz x y Y ∧ ts.drop (i + 11) = r := by
  obtain ⟨s1, s2, s3, s4, s5, s6, s7, s8⟩ := h.s
  have d0 : ts.drop i = kT 11 :: fT mm :: kT 12 :: lT (G mm 0) :: kT 13 :: nT (G mm 1) :: kT 14 :: nT (G mm 2) :: kT 15 :: nT (G mm 3) :: sT 59 :: r := hd
  obtain ⟨y1, e1, e2, e3, e4, e5, e6⟩ := folk_s (N := N) (z := z) h D hn hm hG hN hd
  have d1 : ts.drop (i + 10) = sT 59 :: r := drop_add (a := [kT 11, fT mm, kT 12, lT (G mm 0), kT 13, nT (G mm 1), kT 14, nT (G mm 2), kT 15, nT (G mm 3)]) (b := sT 59 :: r) d0
  obtain ⟨y, g1, g2, g3, g4⟩ := rd_218 (N := N) (z := z) (g := g) (k := k) (K := f_X5_read_b43 N z g) e2 d1
  refine ⟨y, ?_, g2, e3.ef (by omega) (by omega) g3, Fz.tr ⟨e4, e5, e6⟩ g3.z, g4⟩
  have k146 : h_i x 146 (Y + 3) = 0 := h.2.2.2.1
  rw [f_X5_read_b43, if_neg (show ¬ (400 : Int32) ≤ nI k from nI_ge (b := 400) hk (by omega)), geti_s s1, k146, if_neg (by decide), obj_s s1, h.kind d0, bnd_s, show (kT 11).1 = 11 from rfl, if_neg (by decide), obj_s s1, h.kind d0, bnd_s, show (kT 11).1 = 11 from rfl]
  repeat rw [if_neg (by decide)]
  rw [if_pos (by decide), obj_s s1, e1, bnd_s, g1]
/-- an order's line -/
theorem it_ord {g k : Nat} {R : Nat → Nat} (h : PE x Y ts n i C os) (D : PD x Y w n mm P O G) (hn : n ≤ 5) (hm : mm ≤ 8) (hR : RawO n R) (hN : 401 ≤ N) (hd : ts.drop i = ordKT R ++ r) (ho : os.length < 20) (hC : C.length ≤ 300) (hk : k < 400) : ∃ y, f_X5_read_b43 N z (g + 1) (Y + 3) (nI k) x = f_X5_read_b43 N z g (Y + 3) (nI (k + 1)) y ∧ PE y Y ts n (i + (ordKT R).length) (C ++ ordS R ++ ordU R) (os ++ [newO (16 + R 0) (R 1) C.length (C.length + (ordS R).length) (C.length + (ordS R).length + (ordU R).length)]) ∧ PD y Y w n mm P O G ∧ Fz x y Y := by
  obtain ⟨s1, s2, s3, s4, s5, s6, s7, s8⟩ := h.s
  obtain ⟨l1, l2⟩ := ord_len R
  have d0 : ts.drop i = kT (16 + R 0) :: lT (R 1) :: (ordK2 R ++ (ordUK R ++ sT 59 :: r)) := by rw [hd]; simp [ordKT, ordK_eq]
  obtain ⟨y1, e1, e2, e3⟩ := ord_s (N := N) (z := z) h hR d0 ho (by omega) hN
  have d1 := drop_add (a := kT (16 + R 0) :: lT (R 1) :: (ordK2 R ++ ordUK R)) (b := sT 59 :: r) (ts := ts) (i := i) (by rw [d0]; simp)
  have q1 : i + (kT (16 + R 0) :: lT (R 1) :: (ordK2 R ++ ordUK R)).length = i + 2 + (ordK2 R).length + (ordUK R).length := by simp; omega
  rw [q1] at d1
  obtain ⟨y, g1, g2, g3, g4⟩ := rd_218 (N := N) (z := z) (g := g) (k := k) (K := f_X5_read_b43 N z g) e2 d1
  have q2 : i + 2 + (ordK2 R).length + (ordUK R).length + 1 = i + (ordKT R).length := by simp [ordKT, ordK_eq]; omega
  rw [q2] at g2
  refine ⟨y, ?_, g2, D.ef (by omega) hm (e3.tr g3), (e3.tr g3).z⟩
  have k146 : h_i x 146 (Y + 3) = 0 := h.2.2.2.1
  have h03 := hR.1
  have ek : (kT (16 + R 0)).1 = 16 + R 0 := rfl
  rw [f_X5_read_b43, if_neg (show ¬ (400 : Int32) ≤ nI k from nI_ge (b := 400) hk (by omega)), geti_s s1, k146, if_neg (by decide), obj_s s1, h.kind d0, bnd_s, ek]
  have c : R 0 = 0 ∨ R 0 = 1 ∨ R 0 = 2 := by omega
  rw [if_neg (show ¬ nI (16 + R 0) = (38 : Int32) from fun q => by have := (nI_eq (b := 38) (by omega) (by decide)).mp q; omega), obj_s s1, h.kind d0, bnd_s, ek]
  rcases c with c | c | c <;> rw [c] at e1 ⊢
  · repeat rw [if_neg (by decide)]
    rw [if_pos (by decide), obj_s s1, e1, bnd_s, g1]
  · repeat rw [if_neg (by decide)]
    rw [if_pos (by decide), obj_s s1, e1, bnd_s, g1]
  · repeat rw [if_neg (by decide)]
    rw [if_pos (by decide), obj_s s1, e1, bnd_s, g1]
end RL
