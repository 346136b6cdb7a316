/-! ===== the reader at a lane's line ===== -/
def Dl (Y : Nat) (o : Option Nat) : Option Nat := o.map fun k => Y + 28 + 5 + 3 * k
/-- the draft so far: n lanes, mm folk -/
def PD (x : Hp) (Y w n mm : Nat) (P : Nat → Nat → Nat) (O : Nat → Option Nat) (G : Nat → Nat → Nat) : Prop := SiP x (Y + 4) (Y + 28) (Y + 5) 6 8 ∧ (h_i x 161 (Y + 4) = 0 ∧ h_i x 162 (Y + 4) = nI w ∧ h_i x 164 (Y + 4) = nI mm ∧ h_i x 168 (Y + 4) = 0 ∧ h_i x 169 (Y + 4) = 0 ∧ h_i x 170 (Y + 4) = 0) ∧ (∀ j, j < mm → h_al x (Y + 65) j = Int64.ofNat (1025 + j)) ∧ (∀ k, k < n → LaneR x (Y + 28 + 5 + 3 * k) (laneA0 k (P k)) [] (Dl Y (O k))) ∧ ∀ j, j < mm → ∀ f, 60 ≤ f → f < 65 → h_i x f (Y + 28 + 23 + j) = folkF0 (G j) f
theorem SiP.mv {x y : Hp} {Y : Nat} (h : SiP x (Y + 4) (Y + 28) (Y + 5) 6 8) (g : ∀ q, q = Y + 4 ∨ Y + 29 ≤ q → q < Y + 59 → Sm y x q) : SiP y (Y + 4) (Y + 28) (Y + 5) 6 8 := by
  obtain ⟨h1, h2, h3, h4, h5, h6, h7, h8, h9, h10, h11, h12, h13, h14, h15, h16, h17⟩ := h
  have ga : Ag x y (Y + 29) (Y + 59) := fun q a b => g q (Or.inr a) b
  have gb : Ag x y (Y + 4) (Y + 5) := fun q a b => g q (Or.inl (by omega)) (by omega)
  exact ⟨(gb.k (by omega)).trans h1, (gb.r (by omega)).trans h2, (gb.r (by omega)).trans h3, (gb.r (by omega)).trans h4, (gb.r (by omega)).trans h5, (ga.k (by omega)).trans h6, (ga.n (by omega)).trans h7, fun k hk => by rw [ga.ar (by omega)]; exact h8 k hk, (ga.k (by omega)).trans h9, (ga.n (by omega)).trans h10, fun k hk => by rw [ga.ar (by omega)]; exact h11 k hk, (ga.k (by omega)).trans h12, (ga.r (by omega)).trans h13, (ga.k (by omega)).trans h14, (ga.n (by omega)).trans h15, fun k hk => ⟨(h16 k hk).1.ag ga (by omega), (ga.i (by omega)).trans (h16 k hk).2⟩, fun k hk => (ga.k (by omega)).trans (h17 k hk)⟩
theorem PD.ef {x y : Hp} {Y w n mm : Nat} {P : Nat → Nat → Nat} {O : Nat → Option Nat} {G : Nat → Nat → Nat} (h : PD x Y w n mm P O G) (hn : n ≤ 6) (hm : mm ≤ 8) (g : Ef x y Y) : PD y Y w n mm P O G := by
  obtain ⟨h1, ⟨v1, v2, v3, v4, v5, v6⟩, h3, h4, h5⟩ := h
  have ga : Ag x y (Y + 29) (Y + 66) := fun q a b => g.1 q (by omega) (by omega)
  have gb : Ag x y (Y + 4) (Y + 5) := fun q a b => g.1 q (by omega) (by omega)
  exact ⟨h1.mv (fun q a b => g.1 q (by omega) (by omega)), ⟨(gb.i (by omega)).trans v1, (gb.i (by omega)).trans v2, (gb.i (by omega)).trans v3, (gb.i (by omega)).trans v4, (gb.i (by omega)).trans v5, (gb.i (by omega)).trans v6⟩, fun j hj => by rw [ga.al (by omega)]; exact h3 j hj, fun k hk => (h4 k hk).ag ga (by omega), fun j hj f f1 f2 => (ga.i (by omega)).trans (h5 j hj f f1 f2)⟩
section PL
variable {N : Nat} {z : Nat → Nat} {Y n i : Nat} {ts : List Tok} {x : Hp} {C : List (Nat × Nat)} {os : List (Nat → Nat)} {r : List Tok}
theorem PE.num {m lo hi : Nat} (h : PE x Y ts n i C os) (hd : ts.drop i = nT m :: r) (hm : lo ≤ m ∧ m ≤ hi) (hh : hi < 100) {a b : Int32} (ea : a = nI lo) (eb : b = nI hi) : f_X5_number N z (Y + 3) a b x = some (nI m, p_i x 145 (Y + 3) (nI (i + 1))) := by
  subst ea
  subst eb
  obtain ⟨s1, s2, s3, s4, s5, s6, s7, s8⟩ := h.s
  obtain ⟨d1, d2, d3⟩ := drop_tok hd
  have ev := valueOf_s (N := N) (z := z) h.2.1 d1
  rw [d2] at ev
  unfold f_X5_number f_X5_number_b43
  rw [obj_s s1, h.kind hd, bnd_s, show (nT m).1 = 35 from rfl, if_pos (by decide), getr_s s1, s3, geti_s s1, s7, obj_s s8, ev, bnd_s, show (nT m).2.toInt32 = nI m from tI m (by omega), if_neg (nI_nlt (by omega) (by omega)), if_pos (nI_le (by omega) (by omega)), geti_s s1, s7, nI_1, puti_s s1]
/-- a new name -/
theorem PE.name {b l cnt A m : Nat} (h : PE x Y ts n i C os) (hd : ts.drop i = (34, Int64.ofNat (b + l)) :: r) (hk : h_k x A = 102) (hn : h_n x A = m) (hm : cnt < m ∧ m < 10) (hb : b < 2 ^ 20) (hl : l = cnt) (hA : ∀ k, k < cnt → h_al x A k = Int64.ofNat (b + k)) (hN : 401 ≤ N) : f_X5_newName N z (Y + 3) (some A) (nI cnt) x = some (Int64.ofNat (b + l), p_i x 145 (Y + 3) (nI (i + 1))) := by
  obtain ⟨s1, s2, s3, s4, s5, s6, s7, s8⟩ := h.s
  obtain ⟨d1, d2, d3⟩ := drop_tok hd
  have ev := valueOf_s (N := N) (z := z) h.2.1 d1
  rw [d2] at ev
  have pl := place_l (N := N) (z := z) (x := x) (A := A) (b := b) (cnt := cnt) (l := l) hk hn (by omega) hb (by omega) hA cnt N 0 (by omega) (by omega) (by omega)
  rw [if_neg (by omega)] at pl
  have pl2 : f_X5_placeOf N z (Int64.ofNat (b + l)) (some A) (nI cnt) x = some (-1, x) := pl
  unfold f_X5_newName f_X5_newName_b56
  rw [obj_s s1, h.kind hd, bnd_s, if_pos (show nI 34 = (34 : Int32) from rfl), getr_s s1, s3, geti_s s1, s7, obj_s s8, ev, bnd_s, pl2, bnd_s, if_pos rfl, alen_s hk, hn, if_pos (nI_lt hm.1 (by omega)), geti_s s1, s7, nI_1, puti_s s1]
theorem lane_atP {Y n k : Nat} {x : Hp} (h : SiP x (Y + 4) (Y + 28) (Y + 5) 6 8) (h3 : h_i x 163 (Y + 4) = nI n) (hn : n ≤ 6) (hk : k < n) : f_X6_laneAt N z (Y + 4) (nI k) x = some (some (Y + 28 + 5 + 3 * k), x) := by
  obtain ⟨h1, h2, h4, h5, h6, h7, h8, h9, -⟩ := h
  unfold f_X6_laneAt
  rw [if_neg (nI_pos (by omega)), geti_s h1, h3, if_neg (nI_ge hk (by omega)), getr_s h1, h4, alen_s h7, h8, if_neg (nI_ge (by omega) (by omega)), getr_s h1, h4, aldr_s h7 (by omega) (by omega), h9 k (by omega)]
theorem tell_A0 {A : Nat → Int32} {k : Nat} {p : Nat → Nat} {f : Nat} (hf : fl f) (h0 : A 80 = nI k) : laneA0 k p f = tellA A (nI (p 0)) (nI (p 1)) (nI (p 2)) (nI (p 3)) (nI (p 4)) (nI (p 5)) f := by
  rcases fl_cases hf with c | c | c | c | c | c | c | c | c | c | c | c | c | c | c | c <;> subst c <;> simp [up1, tellA, bgA, h0, laneA0]
/-- the lane is kept -/
theorem lane_140 {w mm : Nat} {P : Nat → Nat → Nat} {O : Nat → Option Nat} {G : Nat → Nat → Nat} (h : PE x Y ts n i C os) (D : PD x Y w n mm P O G) (hn : n < 5) (hm : mm ≤ 8) (hP : (P n) 5 ≤ 1) (hO : ∀ j, O n = some j → j < n) {s0 : Int32} (hs : (O n = none ∧ s0 = -1) ∨ ∃ j, O n = some j ∧ s0 = nI j) : ∃ y, f_X5_readLane_b140 N z (Y + 3) (Int64.ofNat (1409 + n)) s0 (nI (P n 0)) (nI (P n 1)) (nI (P n 2)) (nI (P n 3)) (nI (P n 4)) (nI (P n 5)) x = some ((), y) ∧ PE y Y ts (n + 1) i C os ∧ PD y Y w (n + 1) mm P O G ∧ (∀ q, q < Y + 3 ∨ Y + 66 ≤ q → Sm y x q) ∧ h_sz y = h_sz x ∧ h_sl y = h_sl x := by
  obtain ⟨s1, s2, s3, s4, s5, s6, s7, s8⟩ := h.s
  obtain ⟨e1, e2, e3, e4, ⟨e5, e6, e7⟩, e8, e9, e10⟩ := id h
  obtain ⟨a1, a2, a3, a4, a5, a6, a7, a8, a9⟩ := e1
  obtain ⟨D1, ⟨v1, v2, v3, v4, v5, v6⟩, D3, D4, D5⟩ := D
  obtain ⟨h1, h2, h4, h5, h6, h7, h8, h9, h10, h11, h12, h13, h14, h15, h16, h17, h18⟩ := id D1
  obtain ⟨x1, hx1⟩ : ∃ x1, x1 = p_i x 163 (Y + 4) (nI (n + 1)) := ⟨_, rfl⟩
  have P1 : SiP x1 (Y + 4) (Y + 28) (Y + 5) 6 8 := by
    have ga : Ag x x1 (Y + 29) (Y + 59) := by rw [hx1]; exact pi_ag (by omega)
    rw [hx1]
    exact ⟨h1, h2, h4, h5, h6, h7, h8, h9, h10, h11, h12, h13, h14, h15, h16, fun k hk => ⟨by rw [← hx1]; exact (h17 k hk).1.ag ga (by omega), by rw [← hx1]; exact (ga.i (by omega)).trans (h17 k hk).2⟩, h18⟩
  have i1 : h_i x1 163 (Y + 4) = nI (n + 1) := by rw [hx1, p_i_eq]
  have at1 := lane_atP (N := N) (z := z) (k := n) P1 i1 (by omega) (by omega)
  have add1 : f_X6_addLane N z (Y + 4) x = some (some (Y + 28 + 5 + 3 * n), x1) := by
    unfold f_X6_addLane
    rw [geti_s h1, getr_s h1, h4, alen_s h7, h8, e7, if_pos (nI_lt (by omega) (by omega)), geti_s h1, e7, nI_1, puti_s h1, ← hx1, geti_s P1.1, i1, nI_pred, obj_s P1.1, at1, bnd_s]
  obtain ⟨x2, hx2⟩ : ∃ x2, x2 = p_al x1 (Y + 64) n (Int64.ofNat (1409 + n)) := ⟨_, rfl⟩
  have k2 : h_k x2 = h_k x := by rw [hx2, hx1]; rfl
  have r2 : h_r x2 = h_r x := by rw [hx2, hx1]; rfl
  have sm2 : ∀ q, q ≠ Y + 4 → q ≠ Y + 64 → Sm x2 x q := fun q q1 q2 => by
    rw [hx2, hx1]
    exact (Sm_pal q2).tr (Sm_pi q1)
  have P2 : SiP x2 (Y + 4) (Y + 28) (Y + 5) 6 8 := P1.mv (fun q a b => by rw [hx2]; exact Sm_pal (by omega))
  have i2 : h_i x2 163 (Y + 4) = nI (n + 1) := by rw [hx2]; exact i1
  have L2 := P2.2.2.2.2.2.2.2.2.2.2.2.2.2.2.2.1 n (by omega)
  obtain ⟨y, t1, t2, t3⟩ := lane_tell (N := N) (z := z) (v1 := Dl Y (O n)) (v2 := nI (P n 0)) (v3 := nI (P n 1)) (v4 := nI (P n 2)) (v5 := nI (P n 3)) (v6 := nI (P n 4)) (v7 := nI (P n 5)) L2.1 (by
    have c : P n 5 = 0 ∨ P n 5 = 1 := by omega
    rcases c with c | c <;> rw [c]
    · exact Or.inl rfl
    · exact Or.inr rfl)
  have t2' := t2.cg (A' := laneA0 n (P n)) (fun f hf => (tell_A0 (A := fun f => h_i x2 f (Y + 28 + 5 + 3 * n)) (k := n) (p := P n) hf L2.2).symm)
  have smy : ∀ q, q ≠ Y + 4 → q ≠ Y + 64 → q < Y + 28 + 5 + 3 * n ∨ Y + 28 + 5 + 3 * n + 3 ≤ q → Sm y x q := fun q q1 q2 q3 => (t3.2.2.2.2 q (by omega)).tr (sm2 q q1 q2)
  have smP : ∀ q, q < Y + 28 + 5 + 3 * n ∨ Y + 28 + 5 + 3 * n + 3 ≤ q → Sm y x2 q := fun q q3 => t3.2.2.2.2 q (by omega)
  have g1 : Ag x y 0 (Y + 4) := fun q _ b => smy q (by omega) (by omega) (by omega)
  have g2 : Ag x y (Y + 5) (Y + 28 + 5 + 3 * n) := fun q a b => smy q (by omega) (by omega) (by omega)
  have g3 : Ag x y (Y + 28 + 5 + 3 * n + 3) (Y + 64) := fun q a b => smy q (by omega) (by omega) (by omega)
  have g4 : Ag x y (Y + 65) (Y + 66) := fun q a b => smy q (by omega) (by omega) (by omega)
  have gS := smP (Y + 4) (by omega)
  have iS : ∀ f, f ≠ 163 → h_i y f (Y + 4) = h_i x f (Y + 4) := fun f hf => by
    rw [gS.2.2.1 f, hx2]
    show h_i x1 f (Y + 4) = _
    rw [hx1, p_i_ne hf]
  have alN : ∀ k, h_al y (Y + 64) k = if k = n then Int64.ofNat (1409 + n) else h_al x (Y + 64) k := fun k => by
    rw [(smP (Y + 64) (by omega)).2.2.2.2.2.1, hx2]
    simp only [HPAL]
    by_cases c : k = n
    · rw [if_pos ⟨trivial, c⟩, if_pos c]
    · rw [if_neg (fun e => c e.2), if_neg c, hx1]
      rfl
  refine ⟨y, ?_, ⟨⟨(g1.k (by omega)).trans a1, (g1.r (by omega)).trans a2, (g1.r (by omega)).trans a3, (g1.r (by omega)).trans a4, (g1.r (by omega)).trans a5, ?_, ?_, (g4.k (by omega)).trans a8, (g4.n (by omega)).trans a9⟩, e2.ag g3 (by omega), (g1.i (by omega)).trans e3, (g1.i (by omega)).trans e4, ⟨?_, ?_, ?_⟩, fun k hk => ?_, by omega, e10.ag g2 (by omega)⟩, ⟨?_, ⟨(iS _ (by decide)).trans v1, (iS _ (by decide)).trans v2, (iS _ (by decide)).trans v3, (iS _ (by decide)).trans v4, (iS _ (by decide)).trans v5, (iS _ (by decide)).trans v6⟩, fun j hj => by rw [g4.al (by omega)]; exact D3 j hj, fun k hk => ?_, fun j hj f f1 f2 => (g3.i (by omega)).trans (D5 j hj f f1 f2)⟩, fun q hq => smy q (by omega) (by omega) (by omega), ?_, ?_⟩
  · have ls : (O n = none → f_X6_laneAt N z (Y + 4) s0 x2 = some (none, x2)) ∧ ∀ j, O n = some j → f_X6_laneAt N z (Y + 4) s0 x2 = some (some (Y + 28 + 5 + 3 * j), x2) := by
      rcases hs with ⟨q1, q2⟩ | ⟨j, q1, q2⟩
      · refine ⟨fun _ => ?_, fun j hj => by rw [q1] at hj; cases hj⟩
        subst q2
        unfold f_X6_laneAt
        rw [if_pos (by decide)]
      · refine ⟨fun hj => (by rw [q1] at hj; cases hj), fun j' hj => ?_⟩
        rw [q1] at hj
        cases hj
        subst q2
        exact lane_atP P2 i2 (by omega) (by have := hO j q1; omega)
    have la : f_X6_laneAt N z (Y + 4) s0 x2 = some (Dl Y (O n), x2) := by
      cases hu : O n with
      | none => exact ls.1 hu
      | some j => exact ls.2 j hu
    have kx1 : h_k x1 = h_k x := by rw [hx1]; rfl
    have kn : f_X5_keepName N z (some (Y + 64)) (nI n) (Int64.ofNat (1409 + n)) x1 = some ((), x2) := by
      unfold f_X5_keepName
      have c1 : h_k x1 (Y + 64) = 102 := by rw [kx1]; exact a6
      have c2 : h_n x1 (Y + 64) = 6 := by rw [hx1]; exact a7
      rw [if_neg (nI_pos (by omega)), alen_s c1, c2, if_neg (nI_ge (by omega) (by omega)), astl_s c1 (by omega) (by omega), ← hx2]
    have L1 := P1.2.2.2.2.2.2.2.2.2.2.2.2.2.2.2.1 n (by omega)
    unfold f_X5_readLane_b140
    rw [getr_s s1, s2, obj_s s4, add1, bnd_s, if_neg (by simp), getr_s (by rw [kx1]; exact s1), show h_r x1 143 (Y + 3) = some (Y + 64) by rw [hx1]; exact a4, geti_s L1.1.1, L1.2, kn, bnd_s, getr_s (by rw [k2]; exact s1), show h_r x2 140 (Y + 3) = some (Y + 4) by rw [r2]; exact s2, obj_s P2.1, la, bnd_s, obj_s L2.1.1, t1, bnd_s]
  · exact ((smP (Y + 64) (by omega)).1.trans (by rw [k2])).trans a6
  · exact ((smP (Y + 64) (by omega)).2.1.trans (by rw [hx2, hx1]; rfl)).trans a7
  · exact (gS.1.trans (by rw [k2])).trans e5
  · exact ((gS.2.2.2.1 _).trans (by rw [r2])).trans e6
  · exact (gS.2.2.1 _).trans i2
  · rw [alN]
    by_cases c : k = n
    · rw [if_pos c, c]
    · rw [if_neg c]
      exact e8 k (by omega)
  · obtain ⟨p1, p2, p4, p5, p6, p7, p8, p9, p10, p11, p12, p13, p14, p15, p16, p17, p18⟩ := P2
    have w1 : Ag x2 y (Y + 29) (Y + 33) := fun q a b => smP q (by omega)
    have w2 : Ag x2 y (Y + 28 + 5 + 3 * n + 3) (Y + 64) := fun q a b => smP q (by omega)
    have w0 : Ag x2 y 0 (Y + 28 + 5 + 3 * n) := fun q a b => smP q (by omega)
    refine ⟨(w0.k (by omega)).trans p1, (w0.r (by omega)).trans p2, (w0.r (by omega)).trans p4, (w0.r (by omega)).trans p5, (w0.r (by omega)).trans p6, (w1.k (by omega)).trans p7, (w1.n (by omega)).trans p8, fun k hk => by rw [w1.ar (by omega)]; exact p9 k hk, (w1.k (by omega)).trans p10, (w1.n (by omega)).trans p11, fun k hk => by rw [w1.ar (by omega)]; exact p12 k hk, (w1.k (by omega)).trans p13, (w1.r (by omega)).trans p14, (w1.k (by omega)).trans p15, (w1.n (by omega)).trans p16, fun k hk => ?_, fun k hk => (w2.k (by omega)).trans (p18 k hk)⟩
    by_cases c : k < n
    · exact ⟨(p17 k hk).1.ag w0 (by omega), (w0.i (by omega)).trans (p17 k hk).2⟩
    · by_cases c2 : k = n
      · subst c2
        exact ⟨t2'.s, t2'.a (by decide)⟩
      · exact ⟨(p17 k hk).1.ag w2 (by omega), (w2.i (by omega)).trans (p17 k hk).2⟩
  · by_cases c : k = n
    · subst c
      exact t2'
    · exact (D4 k (by omega)).ag g2 (by omega)
  · rw [t3.1, hx2, hx1]; rfl
  · rw [t3.2.1, hx2, hx1]; rfl
end PL
