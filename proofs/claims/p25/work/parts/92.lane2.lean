/-! ===== the reader at a lane's line, whole ===== -/
section PJ
variable {N : Nat} {z : Nat → Nat} {Y n i : Nat} {ts : List Tok} {x : Hp} {C : List (Nat × Nat)} {os : List (Nat → Nat)} {r : List Tok}
theorem PE.need_e {t : Tok} (h : PE x Y ts n i C os) (hd : ts.drop i = t :: r) {v : Int32} (hv : v = nI t.1) : ∃ y, f_X5_need N z (Y + 3) v x = some ((), y) ∧ PE y Y ts n (i + 1) C os ∧ Ef x y Y ∧ ts.drop (i + 1) = r := ⟨_, h.need hd hv, h.adv.1, h.adv.2, (drop_tok hd).2.2⟩
theorem PE.num_e {m lo hi : Nat} (h : PE x Y ts n i C os) (hd : ts.drop i = nT m :: r) (hm : lo ≤ m ∧ m ≤ hi) (hh : hi < 100) {a b : Int32} (ea : a = nI lo) (eb : b = nI hi) : ∃ y, f_X5_number N z (Y + 3) a b x = some (nI m, y) ∧ PE y Y ts n (i + 1) C os ∧ Ef x y Y ∧ ts.drop (i + 1) = r := ⟨_, h.num hd hm hh ea eb, h.adv.1, h.adv.2, (drop_tok hd).2.2⟩
theorem PE.told_e {l : Nat} (h : PE x Y ts n i C os) (hd : ts.drop i = lT l :: r) (hl : l < n) (hN : 401 ≤ N) : ∃ y, f_X5_toldLane N z (Y + 3) x = some (nI l, y) ∧ PE y Y ts n (i + 1) C os ∧ Ef x y Y ∧ ts.drop (i + 1) = r := ⟨_, h.told hd hl hN, h.adv.1, h.adv.2, (drop_tok hd).2.2⟩
theorem lane_42 {w mm : Nat} {P : Nat → Nat → Nat} {O : Nat → Option Nat} {G : Nat → Nat → Nat} (h0 : PE x Y ts n i C os) (D : PD x Y w n mm P O G) (hn : n < 5) (hm : mm ≤ 8) (hP : LnOk (P n)) (hO : ∀ j, O n = some j → j < n) {s0 : Int32} (hs : (O n = none ∧ s0 = -1) ∨ ∃ j, O n = some j ∧ s0 = nI j) (hd : ts.drop i = laneK1 (P n) ++ r) : ∃ y, f_X5_readLane_b42 N z (Y + 3) (Int64.ofNat (1409 + n)) s0 x = some ((), y) ∧ PE y Y ts (n + 1) (i + 12) C os ∧ PD y Y w (n + 1) mm P O G ∧ (∀ q, q < Y + 3 ∨ Y + 66 ≤ q → Sm y x q) ∧ h_sz y = h_sz x ∧ h_sl y = h_sl x := by
  obtain ⟨p0, p1, p2, p3, p4, p5, p6⟩ := hP
  have d0 : ts.drop i = kT 3 :: nT (P n 0) :: kT 4 :: nT (P n 1) :: kT 5 :: nT (P n 2) :: kT 6 :: nT (P n 3) :: kT 7 :: nT (P n 4) :: kT 8 :: (if P n 5 = 0 then kT 10 else kT 9) :: sT 59 :: r := hd
  unfold f_X5_readLane_b42
  obtain ⟨y1, e1, h1, f1, d1⟩ := h0.need_e (N := N) (z := z) d0 (v := 3) rfl
  obtain ⟨y2, e2, h2, f2, d2⟩ := h1.num_e (N := N) (z := z) d1 (lo := 0) (hi := 30) ⟨Nat.zero_le _, p0⟩ (by decide) (a := 0) (b := 30) rfl rfl
  obtain ⟨y3, e3, h3, f3, d3⟩ := h2.need_e (N := N) (z := z) d2 (v := 4) rfl
  obtain ⟨y4, e4, h4, f4, d4⟩ := h3.num_e (N := N) (z := z) d3 (lo := 0) (hi := 30) ⟨Nat.zero_le _, p1⟩ (by decide) (a := 0) (b := 30) rfl rfl
  obtain ⟨y5, e5, h5, f5, d5⟩ := h4.need_e (N := N) (z := z) d4 (v := 5) rfl
  obtain ⟨y6, e6, h6, f6, d6⟩ := h5.num_e (N := N) (z := z) d5 (lo := 0) (hi := 99) ⟨Nat.zero_le _, p2⟩ (by decide) (a := 0) (b := 99) rfl rfl
  obtain ⟨y7, e7, h7, f7, d7⟩ := h6.need_e (N := N) (z := z) d6 (v := 6) rfl
  obtain ⟨y8, e8, h8, f8, d8⟩ := h7.num_e (N := N) (z := z) d7 (lo := 0) (hi := 9) ⟨Nat.zero_le _, by omega⟩ (by decide) (a := 0) (b := 9) rfl rfl
  obtain ⟨y9, e9, h9, f9, d9⟩ := h8.need_e (N := N) (z := z) d8 (v := 7) rfl
  obtain ⟨y10, e10, h10, f10, d10⟩ := h9.num_e (N := N) (z := z) d9 (lo := 1) (hi := 60) ⟨p4, p5⟩ (by decide) (a := 1) (b := 60) rfl rfl
  obtain ⟨y11, e11, h11, f11, d11⟩ := h10.need_e (N := N) (z := z) d10 (v := 8) rfl
  have ff := ((((((((((f1.tr f2).tr f3).tr f4).tr f5).tr f6).tr f7).tr f8).tr f9).tr f10).tr f11)
  rw [obj_s h0.s.1, e1, bnd_s, obj_s h1.s.1, e2, bnd_s, obj_s h2.s.1, e3, bnd_s, obj_s h3.s.1, e4, bnd_s, obj_s h4.s.1, e5, bnd_s, obj_s h5.s.1, e6, bnd_s, obj_s h6.s.1, e7, bnd_s, obj_s h7.s.1, e8, bnd_s, obj_s h8.s.1, e9, bnd_s, obj_s h9.s.1, e10, bnd_s, obj_s h10.s.1, e11, bnd_s, obj_s h11.s.1]
  by_cases c : P n 5 = 0
  · rw [if_pos c] at d11
    have tk := h11.takesN (N := N) (z := z) d11 (k := 9) (v := 9) rfl (by decide) (by decide) (by decide)
    obtain ⟨y12, e12, h12, f12, d12⟩ := h11.need_e (N := N) (z := z) d11 (v := 10) rfl
    have D2 := D.ef (by omega) hm (ff.tr f12)
    obtain ⟨y, g1, g2, g3, g4, g5, g6⟩ := lane_140 (N := N) (z := z) h12 D2 hn hm p6 hO hs
    have q0 : (0 : Int32) = nI (P n 5) := by rw [c]; rfl
    rw [← q0] at g1
    refine ⟨y, ?_, g2, g3, fun q hq => (g4 q hq).tr ((ff.tr f12).1 q (by omega) (by omega)), g5.trans (ff.tr f12).2.1, g6.trans (ff.tr f12).2.2⟩
    rw [tk, bnd_s, if_pos rfl, obj_s h11.s.1, e12, bnd_s, g1]
  · have c1 : P n 5 = 1 := by omega
    rw [if_neg c] at d11
    have tk := h11.takes (N := N) (z := z) d11 (v := 9) rfl
    obtain ⟨h12, f12⟩ := h11.adv
    have D2 := D.ef (by omega) hm (ff.tr f12)
    obtain ⟨y, g1, g2, g3, g4, g5, g6⟩ := lane_140 (N := N) (z := z) h12 D2 hn hm p6 hO hs
    have q0 : (1 : Int32) = nI (P n 5) := by rw [c1]; rfl
    rw [← q0] at g1
    refine ⟨y, ?_, g2, g3, fun q hq => (g4 q hq).tr ((ff.tr f12).1 q (by omega) (by omega)), g5.trans (ff.tr f12).2.1, g6.trans (ff.tr f12).2.2⟩
    rw [tk, bnd_s, if_neg (by decide), g1]
theorem lane_s {w mm : Nat} {P : Nat → Nat → Nat} {O : Nat → Option Nat} {G : Nat → Nat → Nat} (h0 : PE x Y ts n i C os) (D : PD x Y w n mm P O G) (hn : n < 5) (hm : mm ≤ 8) (hP : LnOk (P n)) (hO : ∀ j, O n = some j → j < n) (hN : 401 ≤ N) (hd : ts.drop i = laneKT n (O n) (P n) ++ r) : ∃ y, f_X5_readLane N z (Y + 3) x = some ((), y) ∧ PE y Y ts (n + 1) (i + (laneKT n (O n) (P n)).length - 1) C os ∧ PD y Y w (n + 1) mm P O G ∧ (∀ q, q < Y + 3 ∨ Y + 66 ≤ q → Sm y x q) ∧ h_sz y = h_sz x ∧ h_sl y = h_sl x := by
  have d0 : ts.drop i = kT 1 :: lT n :: (undK (O n) ++ (laneK1 (P n) ++ r)) := by rw [hd]; simp [laneKT]
  obtain ⟨s1, s2, s3, s4, s5, s6, s7, s8⟩ := h0.s
  obtain ⟨h1, f1⟩ := h0.adv
  have d1 := (drop_tok d0).2.2
  obtain ⟨x1, hx1⟩ : ∃ x1, x1 = p_i x 145 (Y + 3) (nI (i + 1)) := ⟨_, rfl⟩
  rw [← hx1] at h1 f1
  obtain ⟨a1, a2, a3, a4, a5, a6, a7, a8, a9⟩ := h1.1
  have n163 : h_i x1 163 (Y + 4) = nI n := h1.2.2.2.2.1.2.2
  have nm := h1.name (N := N) (z := z) (b := 1409) (l := n) (cnt := n) (A := Y + 64) (m := 6) d1 a6 a7 ⟨by omega, by decide⟩ (by decide) rfl h1.2.2.2.2.2.1 hN
  obtain ⟨h2, f2⟩ := h1.adv
  obtain ⟨x2, hx2⟩ : ∃ x2, x2 = p_i x1 145 (Y + 3) (nI (i + 1 + 1)) := ⟨_, rfl⟩
  rw [← hx2] at h2 f2 nm
  have d2 := (drop_tok d1).2.2
  have fr12 : ∀ {y : Hp}, (∀ q, q < Y + 3 ∨ Y + 66 ≤ q → Sm y x2 q) → ∀ q, q < Y + 3 ∨ Y + 66 ≤ q → Sm y x q := fun g q hq => (g q hq).tr ((f1.tr f2).1 q (by omega) (by omega))
  unfold f_X5_readLane
  rw [geti_s s1, s7, nI_1, puti_s s1, ← hx1, getr_s a1, a4, getr_s a1, a2, geti_s h1.s.2.2.2.1, n163, obj_s a1, nm, bnd_s, obj_s h2.s.1]
  cases hu : O n with
  | none =>
    rw [hu] at d2
    have d2' : ts.drop (i + 1 + 1) = kT 3 :: (nT (P n 0) :: kT 4 :: nT (P n 1) :: kT 5 :: nT (P n 2) :: kT 6 :: nT (P n 3) :: kT 7 :: nT (P n 4) :: kT 8 :: (if P n 5 = 0 then kT 10 else kT 9) :: sT 59 :: r) := d2
    have tk := h2.takesN (N := N) (z := z) d2' (k := 2) (v := 2) rfl (by decide) (by decide) (by decide)
    obtain ⟨y, g1, g2, g3, g4, g5, g6⟩ := lane_42 (N := N) (z := z) (r := r) h2 (D.ef (by omega) hm (f1.tr f2)) hn hm hP hO (s0 := -1) (Or.inl ⟨hu, rfl⟩) d2
    refine ⟨y, by rw [tk, bnd_s, if_pos rfl, g1], ?_, g3, fr12 g4, g5.trans (f1.tr f2).2.1, g6.trans (f1.tr f2).2.2⟩
    have q : i + 1 + 1 + 12 = i + (laneKT n none (P n)).length - 1 := by simp [laneKT, laneK1, undK]
    rw [← q]
    exact g2
  | some j =>
    have hj := hO j hu
    rw [hu] at d2
    have d2' : ts.drop (i + 1 + 1) = kT 2 :: lT j :: (laneK1 (P n) ++ r) := d2
    have tk := h2.takes (N := N) (z := z) d2' (v := 2) rfl
    obtain ⟨h3, f3⟩ := h2.adv
    have d3 := (drop_tok d2').2.2
    obtain ⟨y4, e4, h4, f4, d4⟩ := h3.told_e (N := N) (z := z) d3 hj hN
    have ff := ((f1.tr f2).tr f3).tr f4
    obtain ⟨y, g1, g2, g3, g4, g5, g6⟩ := lane_42 (N := N) (z := z) (r := r) h4 (D.ef (by omega) hm ff) hn hm hP hO (s0 := nI j) (Or.inr ⟨j, hu, rfl⟩) d4
    refine ⟨y, by rw [tk, bnd_s, if_neg (by decide), obj_s h3.s.1, e4, bnd_s, g1], ?_, g3, fun q hq => (g4 q hq).tr (ff.1 q (by omega) (by omega)), g5.trans ff.2.1, g6.trans ff.2.2⟩
    have q : i + 1 + 1 + 1 + 1 + 12 = i + (laneKT n (some j) (P n)).length - 1 := by simp [laneKT, laneK1, undK]
    rw [← q]
    exact g2
end PJ
