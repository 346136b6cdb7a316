/-! ===== taught ===== -/
theorem cut_md {w n mm : Nat} {P : Nat → Nat → Nat} {O : Nat → Option Nat} {G : Nat → Nat → Nat} : cutM (mdOf w n mm P O G) n mm = mdOf w n mm P O G := by
  have e : up1 (up1 (mdV w n mm) 163 (nI n)) 164 (nI mm) = mdV w n mm := by
    funext f
    unfold up1 mdV
    by_cases c : f = 164
    · subst c; simp
    · by_cases d : f = 163
      · subst d; simp
      · simp [c, d]
  show (_, _, _, _, up1 (up1 (mdV w n mm) 163 (nI n)) 164 (nI mm), n, mm) = _
  rw [e]
  rfl
section TE
variable {N : Nat} {z : Nat → Nat} {Y : Nat} {x : Hp} {txt : List Nat} {w n mm : Nat} {P : Nat → Nat → Nat} {O : Nat → Option Nat} {G : Nat → Nat → Nat} {os : List (Nat → Nat)}
theorem read_s (h : BrF x Y txt) (hD : DtOk w n mm P O G os) (hx : txt = lawT w n mm P O G os) (hc : ∀ c ∈ txt, c < 128) (hN : 2001 ≤ N) : ∃ y i C bs, f_X5_read N z (Y + 3) (some (Y + 1)) 0 x = some (0, y) ∧ PE y Y (lawK w n mm P O G os ++ [(38, 0)]) n i C bs ∧ PD y Y w n mm P O G ∧ (∀ q, q < Y + 3 ∨ Y + 66 ≤ q → Sm y x q) ∧ (h_sz y = h_sz x ∧ h_sl y = h_sl x) ∧ BoR C bs os os.length := by
  obtain ⟨⟨a1, a2, a3, a4, a5⟩, t1, r1, p1, k1, tk1, k2, s1, v1, s2⟩ := h
  obtain ⟨l1, l2, l3⟩ := law_k hD
  rw [← hx] at l1
  obtain ⟨x1, e1, e2, e3⟩ := scan_s (N := N) (z := z) (T := Y + 59) (q := Y + 1) t1 hc tk1 (by omega) (by rw [l1]; omega) (by rw [l1]; exact l2) hN
  rw [l1] at e2
  have g1 : Ag x x1 0 (Y + 59) := fun q _ b => e3.1 q (by omega)
  have g1b : Ag x x1 (Y + 64) (Y + 66) := fun q a _ => e3.1 q (by omega)
  have q1 : h_k x1 (Y + 3) = 8 := (g1.k (by omega)).trans r1.1
  have q2 : h_r x1 140 (Y + 3) = some (Y + 4) := (g1.r (by omega)).trans r1.2.1
  have q3 : h_k x1 (Y + 4) = 9 := (g1.k (by omega)).trans p1.1
  have q4 : h_r x1 160 (Y + 4) = some (Y + 5) := (g1.r (by omega)).trans p1.2.1
  obtain ⟨x2, hx2⟩ : ∃ x2, x2 = p_i (p_i (p_i (p_i (p_i (p_i (p_i x1 161 (Y + 4) 0) 162 (Y + 4) 20) 163 (Y + 4) 0) 164 (Y + 4) 0) 168 (Y + 4) 0) 169 (Y + 4) 0) 170 (Y + 4) 0 := ⟨_, rfl⟩
  have sm2 : ∀ q, q ≠ Y + 4 → Sm x2 x1 q := fun q hq => by
    rw [hx2]
    exact (Sm_pi hq).tr ((Sm_pi hq).tr ((Sm_pi hq).tr ((Sm_pi hq).tr ((Sm_pi hq).tr ((Sm_pi hq).tr (Sm_pi hq))))))
  have kx2 : h_k x2 = h_k x1 := by rw [hx2]; rfl
  have rx2 : h_r x2 = h_r x1 := by rw [hx2]; rfl
  have beg : f_X6_begin N z (Y + 4) 0 x1 = some ((), x2) := by
    unfold f_X6_begin
    rw [puti_s q3, puti_s (by exact q3), puti_s (by exact q3), puti_s (by exact q3), puti_s (by exact q3), puti_s (by exact q3), puti_s (by exact q3), hx2]
  have k1' : Bk x2 (Y + 5) [] [] := (k1.ag g1 (by omega)).ag (lo := Y + 5) (hi := Y + 29) (fun q a b => sm2 q (by omega)) ⟨Nat.le_refl _, Nat.le_refl _⟩
  obtain ⟨x3, c1, c2, c3⟩ := bk_clear (N := N) (z := z) k1'
  obtain ⟨x4, hx4⟩ : ∃ x4, x4 = p_i (p_i (p_i x3 145 (Y + 3) 0) 146 (Y + 3) 0) 141 (Y + 3) (-1) := ⟨_, rfl⟩
  have sm4 : ∀ q, q ≠ Y + 3 → Sm x4 x3 q := fun q hq => by
    rw [hx4]
    exact (Sm_pi hq).tr ((Sm_pi hq).tr (Sm_pi hq))
  have all : ∀ q, q < Y + 3 ∨ (Y + 29 ≤ q ∧ q < Y + 59) ∨ Y + 64 ≤ q → Sm x4 x q := fun q hq => (sm4 q (by omega)).tr ((c3.1 q (by omega)).tr ((sm2 q (by omega)).tr (e3.1 q (by omega))))
  have s3 : Sm x3 x (Y + 3) := (c3.1 _ (by omega)).tr ((sm2 _ (by omega)).tr (e3.1 _ (by omega)))
  have k43 : h_k x4 = h_k x3 := by rw [hx4]; rfl
  have r43 : h_r x4 = h_r x3 := by rw [hx4]; rfl
  have s4 : Sm x4 x2 (Y + 4) := (sm4 _ (by omega)).tr (c3.1 _ (by omega))
  have tk4 : TkL x4 (Y + 59) (lawK w n mm P O G os ++ [(38, 0)]) := ((e2.ag (lo := Y + 5) (hi := Y + 66) (fun q a b => sm2 q (by omega)) (by omega)).ag (lo := Y + 29) (hi := Y + 66) (fun q a b => c3.1 q (by omega)) (by omega)).ag (lo := Y + 29) (hi := Y + 66) (fun q a b => sm4 q (by omega)) (by omega)
  have ga : Ag x x4 (Y + 64) (Y + 66) := fun q a b => all q (by omega)
  have gs : Ag x x4 (Y + 29) (Y + 59) := fun q a b => all q (by omega)
  obtain ⟨b1, b2, b3, b4, b5, b6, b7, b8, b9⟩ := r1
  have i4 : ∀ f, h_i x4 f (Y + 4) = h_i x2 f (Y + 4) := s4.2.2.1
  have rS : ∀ f, h_r x4 f (Y + 4) = h_r x f (Y + 4) := fun f => (s4.2.2.2.1 f).trans (by rw [rx2]; exact g1.r (by omega))
  have pe : PE x4 Y (lawK w n mm P O G os ++ [(38, 0)]) 0 0 [] [] := by
    refine ⟨⟨by rw [k43]; exact s3.1.trans b1, by rw [r43]; exact (s3.2.2.2.1 _).trans b2, by rw [r43]; exact (s3.2.2.2.1 _).trans b3, by rw [r43]; exact (s3.2.2.2.1 _).trans b4, by rw [r43]; exact (s3.2.2.2.1 _).trans b5, (ga.k (by omega)).trans b6, (ga.n (by omega)).trans b7, (ga.k (by omega)).trans b8, (ga.n (by omega)).trans b9⟩, tk4, ?_, ?_, ⟨?_, ?_, ?_⟩, fun k hk => absurd hk (by omega), by omega, c2.ag (lo := Y + 5) (hi := Y + 29) (fun q a b => sm4 q (by omega)) ⟨Nat.le_refl _, Nat.le_refl _⟩⟩
    · rw [hx4, p_i_ne (by decide), p_i_ne (by decide), p_i_eq]; rfl
    · rw [hx4, p_i_ne (by decide), p_i_eq]
    · exact s4.1.trans (by rw [kx2]; exact q3)
    · exact (rS _).trans p1.2.1
    · rw [i4, hx2]; simp [p_i_i]; rfl
  have pd : PD x4 Y 20 0 0 P O G := by
    obtain ⟨h1, h2, h3, h4, h5, h6, h7, h8, h9, h10, h11, h12, h13, h14, h15, h16, h17⟩ := p1
    refine ⟨⟨s4.1.trans (by rw [kx2]; exact q3), (rS _).trans h2, (rS _).trans h3, (rS _).trans h4, (rS _).trans h5, (gs.k (by omega)).trans h6, (gs.n (by omega)).trans h7, fun k hk => by rw [gs.ar (by omega)]; exact h8 k hk, (gs.k (by omega)).trans h9, (gs.n (by omega)).trans h10, fun k hk => by rw [gs.ar (by omega)]; exact h11 k hk, (gs.k (by omega)).trans h12, (gs.r (by omega)).trans h13, (gs.k (by omega)).trans h14, (gs.n (by omega)).trans h15, fun k hk => ⟨(h16 k hk).1.ag gs (by omega), (gs.i (by omega)).trans (h16 k hk).2⟩, fun k hk => (gs.k (by omega)).trans (h17 k hk)⟩, ⟨?_, ?_, ?_, ?_, ?_, ?_⟩, fun j hj => absurd hj (by omega), fun k hk => absurd hk (by omega), fun j hj => absurd hj (by omega)⟩ <;> rw [i4, hx2] <;> simp [p_i_i] <;> rfl
  obtain ⟨y, i, C, bs, f1, f2, f3, f4, f5⟩ := rd_43 (N := N) (z := z) hD (by omega) pe pd rfl
  have sz4 : h_sz x4 = h_sz x ∧ h_sl x4 = h_sl x := by
    refine ⟨?_, ?_⟩
    · rw [hx4]; show h_sz x3 = _; rw [c3.2.1, hx2]; exact e3.2.1
    · rw [hx4]; show h_sl x3 = _; rw [c3.2.2, hx2]; exact e3.2.2
  refine ⟨y, i, C, bs, ?_, f2, f3, fun q hq => (f4.1 q hq).tr (all q (by omega)), ⟨f4.2.1.trans sz4.1, f4.2.2.trans sz4.2⟩, f5⟩
  have kx3 : h_k x3 (Y + 3) = 8 := s3.1.trans b1
  unfold f_X5_read
  rw [getr_s b1, b3, obj_s tk1.1.1, e1, bnd_s, getr_s q1, q2, obj_s q3, beg, bnd_s, getr_s (by rw [kx2]; exact q1), show h_r x2 140 (Y + 3) = some (Y + 4) by rw [rx2]; exact q2, getr_s (by rw [kx2]; exact q3), show h_r x2 160 (Y + 4) = some (Y + 5) by rw [rx2]; exact q4, obj_s k1'.1, c1, bnd_s, puti_s kx3, puti_s (by exact kx3), puti_s (by exact kx3), ← hx4]
  exact f1
end TE
