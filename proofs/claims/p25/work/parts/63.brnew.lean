/-! ===== the object, new ===== -/
/-- the tape at q, its bytes at q + 1 -/
def TpR (x : Hp) (q : Nat) (l : List Nat) : Prop := h_k x q = 11 ∧ h_r x 200 q = some (q + 1) ∧ h_k x (q + 1) = 100 ∧ h_n x (q + 1) = 2000 ∧ h_i x 201 q = nI l.length ∧ l.length ≤ 2000 ∧ ∀ j, j < l.length → h_ai x (q + 1) j = nI (l.getD j 0)
theorem TpR.ag {x y : Hp} {q lo hi : Nat} {l : List Nat} (h : TpR x q l) (g : Ag x y lo hi) (h1 : lo ≤ q ∧ q + 2 ≤ hi) : TpR y q l := by
  obtain ⟨a1, a2, a3, a4, a5, a6, a7⟩ := h
  exact ⟨(g.k (by omega)).trans a1, (g.r (by omega)).trans a2, (g.k (by omega)).trans a3, (g.n (by omega)).trans a4, (g.i (by omega)).trans a5, a6, fun j hj => by rw [g.ai (by omega)]; exact a7 j hj⟩
theorem RdS.ag {x y : Hp} {R lo hi : Nat} (h : RdS x R) (g : Ag x y lo hi) (h1 : lo ≤ R ∧ R + 63 ≤ hi) : RdS y R := by
  obtain ⟨a1, a2, a3, a4, a5, a6, a7, a8, a9⟩ := h
  exact ⟨(g.k (by omega)).trans a1, (g.r (by omega)).trans a2, (g.r (by omega)).trans a3, (g.r (by omega)).trans a4, (g.r (by omega)).trans a5, (g.k (by omega)).trans a6, (g.n (by omega)).trans a7, (g.k (by omega)).trans a8, (g.n (by omega)).trans a9⟩
theorem SiP.ag2 {x y : Hp} {s t B lo hi : Nat} (h : SiP x s t B 6 8) (g : Ag x y lo hi) (h1 : lo ≤ s ∧ s ≤ t ∧ t + 31 ≤ hi) : SiP y s t B 6 8 := by
  obtain ⟨h1, h2, h3, h4, h5, h6, h7, h8, h9, h10, h11, h12, h13, h14, h15, h16, h17⟩ := h
  exact ⟨(g.k (by omega)).trans h1, (g.r (by omega)).trans h2, (g.r (by omega)).trans h3, (g.r (by omega)).trans h4, (g.r (by omega)).trans h5, (g.k (by omega)).trans h6, (g.n (by omega)).trans h7, fun k hk => by rw [g.ar (by omega)]; exact h8 k hk, (g.k (by omega)).trans h9, (g.n (by omega)).trans h10, fun k hk => by rw [g.ar (by omega)]; exact h11 k hk, (g.k (by omega)).trans h12, (g.r (by omega)).trans h13, (g.k (by omega)).trans h14, (g.n (by omega)).trans h15, fun k hk => ⟨(h16 k hk).1.ag g (by omega), (g.i (by omega)).trans (h16 k hk).2⟩, fun j hj => (g.k (by omega)).trans (h17 j hj)⟩
/-- the object at Y: all its parts -/
def BrF (x : Hp) (Y : Nat) (l : List Nat) : Prop := (h_k x Y = 13 ∧ h_r x 240 Y = some (Y + 1) ∧ h_r x 241 Y = some (Y + 3) ∧ h_r x 242 Y = some (Y + 90) ∧ h_r x 243 Y = some (Y + 121)) ∧ TpR x (Y + 1) l ∧ RdS x (Y + 3) ∧ SiP x (Y + 4) (Y + 28) (Y + 5) 6 8 ∧ Bk x (Y + 5) [] [] ∧ TkS x (Y + 59) ∧ Bk x (Y + 66) [] [] ∧ SiteS x (Y + 90) (Y + 66) ∧ h_i x 161 (Y + 90) = 0 ∧ SiteS x (Y + 121) (Y + 66)
theorem BrF.ag {x y : Hp} {Y lo hi : Nat} {l : List Nat} (h : BrF x Y l) (g : Ag x y lo hi) (h1 : lo ≤ Y ∧ Y + 152 ≤ hi) : BrF y Y l := by
  obtain ⟨⟨a1, a2, a3, a4, a5⟩, b1, b2, b3, b4, b5, b6, b7, b8, b9⟩ := h
  exact ⟨⟨(g.k (by omega)).trans a1, (g.r (by omega)).trans a2, (g.r (by omega)).trans a3, (g.r (by omega)).trans a4, (g.r (by omega)).trans a5⟩, b1.ag g (by omega), b2.ag g (by omega), b3.ag2 g (by omega), b4.ag g (by omega), b5.ag g (by omega), b6.ag g (by omega), b7.ag g (by omega), (g.i (by omega)).trans b8, b9.ag g (by omega)⟩
section NB
variable {N : Nat} {z : Nat → Nat}
theorem tape_new {x : Hp} {q : Nat} (h : h_sz x = q + 1) (hk : h_k x q = 11) (hi : h_i x 201 q = 0) : ∃ y, f_X8_init N z q x = some ((), y) ∧ TpR y q [] ∧ h_sz y = q + 2 ∧ h_sl y = h_sl x + 2000 ∧ Ag x y 0 q := by
  have k' : h_k (p_n x 100 2000 2000) q = 11 := by rw [pnk, if_neg (by omega)]; exact hk
  unfold f_X8_init
  rw [nn_s, show (2000 : Int32) = nI 2000 from rfl, newa_s (by decide), putr_s k']
  refine ⟨_, rfl, ⟨k', ?_, ?_, ?_, ?_, by simp, fun j hj => absurd hj (by simp)⟩, ?_, rfl, (pn_ag (by omega)).tr (pr_ag (by omega))⟩
  · rw [p_r_eq, h]
  · show h_k (p_n x 100 2000 2000) (q + 1) = 100
    rw [pnk, if_pos h.symm]
  · show h_n (p_n x 100 2000 2000) (q + 1) = 2000
    rw [pnn, if_pos h.symm]
  · show h_i (p_n x 100 2000 2000) 201 q = _
    rw [pni, if_neg (by omega)]
    exact hi
  · show h_sz x + 1 = _
    omega
end NB
/-- the parts up to the reader's end; the book and the site that is -/
def PA (x : Hp) (Y : Nat) : Prop := TpR x (Y + 1) [] ∧ RdS x (Y + 3) ∧ SiP x (Y + 4) (Y + 28) (Y + 5) 6 8 ∧ Bk x (Y + 5) [] [] ∧ TkS x (Y + 59)
theorem PA.ag {x y : Hp} {Y : Nat} (h : PA x Y) (g : Ag x y (Y + 1) (Y + 66)) : PA y Y := by
  obtain ⟨b1, b2, b3, b4, b5⟩ := h
  exact ⟨b1.ag g (by omega), b2.ag g (by omega), b3.ag2 g (by omega), b4.ag g (by omega), b5.ag g (by omega)⟩
def PB (x : Hp) (Y : Nat) : Prop := Bk x (Y + 66) [] [] ∧ SiteS x (Y + 90) (Y + 66) ∧ h_i x 161 (Y + 90) = 0
theorem PB.ag {x y : Hp} {Y : Nat} (h : PB x Y) (g : Ag x y (Y + 66) (Y + 121)) : PB y Y := by
  obtain ⟨b1, b2, b3⟩ := h
  exact ⟨b1.ag g (by omega), b2.ag g (by omega), (g.i (by omega)).trans b3⟩
def inC (N : Nat) (z : Nat → Nat) (Y : Nat) (r12 : Option Nat) (x20 : Hp) : Option (Unit × Hp) :=
  newo x20 9 11 fun r21 x22 => obj r21 x22 9 fun q24 => bnd (f_X6_init N z q24 r12 x22) fun _ x23 => putr (some Y) x23 13 243 r21 fun x25 => puti (some Y) x25 13 244 (-1 : Int32) fun x26 => some ((), x26)
def inB (N : Nat) (z : Nat → Nat) (Y : Nat) (x11 : Hp) : Option (Unit × Hp) :=
  newo x11 3 5 fun r12 x13 => obj r12 x13 3 fun q15 => bnd (f_X0_init N z q15 x13) fun _ x14 => newo x14 9 11 fun r16 x17 => obj r16 x17 9 fun q19 => bnd (f_X6_init N z q19 r12 x17) fun _ x18 => putr (some Y) x18 13 242 r16 fun x20 => inC N z Y r12 x20
section ND
variable {N : Nat} {z : Nat → Nat}
theorem inA_s {x : Hp} {b0 Y : Nat} (hb : b0 ≤ Y) (hC : Cn z b0 x) (hN : 401 ≤ N) (h : h_sz x = Y + 1) (hk : h_k x Y = 13) : ∃ y, f_X10_init N z Y x = inB N z Y y ∧ PA y Y ∧ h_k y Y = 13 ∧ h_r y 240 Y = some (Y + 1) ∧ h_r y 241 Y = some (Y + 3) ∧ h_sz y = Y + 66 ∧ h_sl y = h_sl x + 5143 ∧ Ag x y 0 Y := by
  obtain ⟨x1, hx1⟩ : ∃ x1, x1 = p_n x 11 0 2 := ⟨_, rfl⟩
  have z1 : h_sz x1 = Y + 1 + 1 := by rw [hx1]; show h_sz x + 1 = _; omega
  have k1 : h_k x1 (Y + 1) = 11 := by rw [hx1, pnk, if_pos h.symm]
  have i1 : h_i x1 201 (Y + 1) = 0 := by rw [hx1, pni, if_pos h.symm]
  obtain ⟨x2, a1, a2, a3, a4, a5⟩ := tape_new (N := N) (z := z) z1 k1 i1
  have g2 : Ag x x2 0 (Y + 1) := by
    have : Ag x x1 0 (Y + 1) := by rw [hx1]; exact pn_ag (by omega)
    exact this.tr a5
  have kY2 : h_k x2 Y = 13 := (g2.k (by omega)).trans hk
  obtain ⟨x3, hx3⟩ : ∃ x3, x3 = p_n (p_r x2 240 Y (some (Y + 1))) 8 0 7 := ⟨_, rfl⟩
  have s3 : h_sz (p_r x2 240 Y (some (Y + 1))) = Y + 3 := a3
  have z3 : h_sz x3 = Y + 3 + 1 := by rw [hx3]; show h_sz (p_r x2 240 Y (some (Y + 1))) + 1 = _; rw [s3]
  have k3 : h_k x3 (Y + 3) = 8 := by rw [hx3, pnk, if_pos s3.symm]
  have G3 : ∀ lo hi, hi ≤ Y + 3 → (hi ≤ Y ∨ Y < lo) → Ag x2 x3 lo hi := fun lo hi h1 h2 => by rw [hx3]; exact (pr_ag h2).tr (pn_ag (by rw [s3]; exact h1))
  have hC3 : Cn z b0 x3 := hC.ag ((g2.wd (Nat.le_refl _) (Nat.le_succ Y)).tr (G3 0 Y (Nat.le_add_right Y 3) (Or.inl (Nat.le_refl _)))) hb
  obtain ⟨x4, b1, b2, b3, b4, b5, b6, b7, b8⟩ := reader_new (N := N) (z := z) (R := Y + 3) (Nat.le_trans hb (Nat.le_add_right Y 3)) hC3 hN z3 k3
  have nY : ¬ Y = h_sz (p_r x2 240 Y (some (Y + 1))) := by rw [s3]; exact Nat.ne_of_lt (Nat.lt_add_of_pos_right (by decide))
  have kY3 : h_k x3 Y = 13 := by rw [hx3, pnk, if_neg nY]; exact kY2
  have rY3 : h_r x3 240 Y = some (Y + 1) := by rw [hx3, pnr, if_neg nY]; exact p_r_eq
  have lY : 0 ≤ Y ∧ Y < Y + 3 := ⟨Nat.zero_le _, Nat.lt_add_of_pos_right (by decide)⟩
  have kY4 : h_k x4 Y = 13 := (b8.k lY).trans kY3
  have rY4 : h_r x4 240 Y = some (Y + 1) := (b8.r lY).trans rY3
  have gp : ∀ lo hi, (hi ≤ Y ∨ Y < lo) → Ag x4 (p_r x4 241 Y (some (Y + 3))) lo hi := fun lo hi h => pr_ag h
  have gL : Ag x4 (p_r x4 241 Y (some (Y + 3))) (Y + 1) (Y + 66) := gp _ _ (Or.inr (Nat.lt_succ_self Y))
  have tp : TpR x4 (Y + 1) [] := a2.ag ((G3 (Y + 1) (Y + 3) (Nat.le_refl _) (Or.inr (Nat.lt_succ_self Y))).tr (b8.wd (Nat.zero_le _) (Nat.le_refl _))) ⟨Nat.le_refl _, Nat.le_refl _⟩
  refine ⟨p_r x4 241 Y (some (Y + 3)), ?_, PA.ag ⟨tp, b2, b3, b4, b5⟩ gL, kY4, by rw [p_r_ne (by decide)]; exact rY4, p_r_eq, b6, ?_, ?_⟩
  · unfold f_X10_init
    rw [nn_s, newo_s, h, ← hx1, obj_s k1, a1, bnd_s, putr_s kY2, newo_s, s3, ← hx3, obj_s k3, b1, bnd_s, putr_s kY4]
    rfl
  · show h_sl x4 = _
    rw [b7, hx3]
    show h_sl x2 + 7 + 3134 = _
    rw [a4, hx1]
    show h_sl x + 2 + 2000 + 7 + 3134 = _
    omega
  · exact (((g2.wd (Nat.le_refl _) (Nat.le_succ Y)).tr (G3 0 Y (Nat.le_add_right Y 3) (Or.inl (Nat.le_refl _)))).tr (b8.wd (Nat.le_refl _) (Nat.le_add_right Y 3))).tr (gp 0 Y (Or.inl (Nat.le_refl _)))
theorem inB_s {x : Hp} {Y : Nat} (hN : 401 ≤ N) (hA : PA x Y) (hk : h_k x Y = 13) (r1 : h_r x 240 Y = some (Y + 1)) (r2 : h_r x 241 Y = some (Y + 3)) (h : h_sz x = Y + 66) : ∃ y, inB N z Y x = inC N z Y (some (Y + 66)) y ∧ PA y Y ∧ PB y Y ∧ h_k y Y = 13 ∧ h_r y 240 Y = some (Y + 1) ∧ h_r y 241 Y = some (Y + 3) ∧ h_r y 242 Y = some (Y + 90) ∧ h_sz y = Y + 121 ∧ h_sl y = h_sl x + 1878 ∧ Ag x y 0 Y := by
  obtain ⟨x5, hx5⟩ : ∃ x5, x5 = p_n x 3 0 5 := ⟨_, rfl⟩
  have z5 : h_sz x5 = Y + 66 + 1 := by rw [hx5]; show h_sz x + 1 = _; rw [h]
  have k5 : h_k x5 (Y + 66) = 3 := by rw [hx5, pnk, if_pos h.symm]
  have i5 : ∀ f, h_i x5 f (Y + 66) = 0 := fun f => by rw [hx5, pni, if_pos h.symm]
  have G5 : Ag x x5 0 (Y + 66) := by rw [hx5]; exact pn_ag (by rw [h]; exact Nat.le_refl _)
  obtain ⟨x6, c1, c2, c3, c4, c5⟩ := book_new (N := N) (z := z) (Nat.le_trans (by decide) hN) z5 k5 i5
  have G6 : Ag x x6 0 (Y + 66) := G5.tr c5
  obtain ⟨x7, hx7⟩ : ∃ x7, x7 = p_n x6 9 0 11 := ⟨_, rfl⟩
  have z7 : h_sz x7 = Y + 90 + 1 := by rw [hx7]; show h_sz x6 + 1 = _; rw [c3]
  have s7 : Y + 90 = h_sz x6 := c3.symm
  have k7 : h_k x7 (Y + 90) = 9 := by rw [hx7, pnk, if_pos s7]
  have i7 : ∀ f, h_i x7 f (Y + 90) = 0 := fun f => by rw [hx7, pni, if_pos s7]
  have G7 : Ag x6 x7 0 (Y + 90) := by rw [hx7]; exact pn_ag (by rw [← s7]; exact Nat.le_refl _)
  obtain ⟨x8, d1, d2, d3, d4, d5, d6, d7⟩ := site_new (N := N) (z := z) (x := x7) (s := Y + 90) (t := Y + 90) (B := Y + 66) (Nat.le_refl _) (Nat.le_trans (by decide) hN) z7 k7 i7
  have G8 : Ag x6 x8 0 (Y + 90) := G7.tr d6
  have GA : Ag x x8 0 (Y + 66) := G6.tr (G8.wd (Nat.le_refl _) (Nat.add_le_add_left (by decide) Y))
  have lY : 0 ≤ Y ∧ Y < Y + 66 := ⟨Nat.zero_le _, Nat.lt_add_of_pos_right (by decide)⟩
  have kY : h_k x8 Y = 13 := (GA.k lY).trans hk
  have gp : ∀ lo hi, (hi ≤ Y ∨ Y < lo) → Ag x8 (p_r x8 242 Y (some (Y + 90))) lo hi := fun lo hi h => pr_ag h
  have hs : SiteS x8 (Y + 90) (Y + 66) := d2
  have hB : PB x8 Y := ⟨c2.ag G8 ⟨Nat.zero_le _, Nat.le_refl _⟩, hs, (d3 161 (Or.inl ⟨by decide, by decide⟩)).trans (if_neg (by decide))⟩
  refine ⟨p_r x8 242 Y (some (Y + 90)), ?_, PA.ag (hA.ag (GA.wd (Nat.zero_le _) (Nat.le_refl _))) (gp _ _ (Or.inr (Nat.lt_succ_self Y))), hB.ag (gp _ _ (Or.inr (Nat.lt_add_of_pos_right (by decide)))), kY, ?_, ?_, p_r_eq, d4, ?_, ?_⟩
  · unfold inB
    rw [newo_s, h, ← hx5, obj_s k5, c1, bnd_s, newo_s, ← s7, ← hx7, obj_s k7, d1, bnd_s, putr_s kY]
  · rw [p_r_ne (by decide)]; exact (GA.r lY).trans r1
  · rw [p_r_ne (by decide)]; exact (GA.r lY).trans r2
  · show h_sl x8 = _
    rw [d5, hx7]
    show h_sl x6 + 11 + 942 = _
    rw [c4, hx5]
    show h_sl x + 5 + 920 + 11 + 942 = _
    omega
  · exact (GA.wd (Nat.le_refl _) (Nat.le_add_right Y 66)).tr (gp 0 Y (Or.inl (Nat.le_refl _)))
theorem inC_s {x : Hp} {Y : Nat} (hN : 401 ≤ N) (hA : PA x Y) (hB : PB x Y) (hk : h_k x Y = 13) (r1 : h_r x 240 Y = some (Y + 1)) (r2 : h_r x 241 Y = some (Y + 3)) (r3 : h_r x 242 Y = some (Y + 90)) (h : h_sz x = Y + 121) : ∃ y, inC N z Y (some (Y + 66)) x = some ((), y) ∧ BrF y Y [] ∧ h_sz y = Y + 152 ∧ h_sl y = h_sl x + 953 ∧ Ag x y 0 Y := by
  obtain ⟨x9, hx9⟩ : ∃ x9, x9 = p_n x 9 0 11 := ⟨_, rfl⟩
  have z9 : h_sz x9 = Y + 121 + 1 := by rw [hx9]; show h_sz x + 1 = _; rw [h]
  have k9 : h_k x9 (Y + 121) = 9 := by rw [hx9, pnk, if_pos h.symm]
  have i9 : ∀ f, h_i x9 f (Y + 121) = 0 := fun f => by rw [hx9, pni, if_pos h.symm]
  have G9 : Ag x x9 0 (Y + 121) := by rw [hx9]; exact pn_ag (by rw [h]; exact Nat.le_refl _)
  obtain ⟨x10, e1, e2, e3, e4, e5, e6, e7⟩ := site_new (N := N) (z := z) (x := x9) (s := Y + 121) (t := Y + 121) (B := Y + 66) (Nat.le_refl _) (Nat.le_trans (by decide) hN) z9 k9 i9
  have GA : Ag x x10 0 (Y + 121) := G9.tr e6
  have lY : 0 ≤ Y ∧ Y < Y + 121 := ⟨Nat.zero_le _, Nat.lt_add_of_pos_right (by decide)⟩
  have kY : h_k x10 Y = 13 := (GA.k lY).trans hk
  obtain ⟨x11, hx11⟩ : ∃ x11, x11 = p_i (p_r x10 243 Y (some (Y + 121))) 244 Y (-1) := ⟨_, rfl⟩
  have gp : ∀ lo hi, (hi ≤ Y ∨ Y < lo) → Ag x10 x11 lo hi := fun lo hi h => by rw [hx11]; exact (pr_ag h).tr (pi_ag h)
  have hA' : PA x11 Y := PA.ag (hA.ag (GA.wd (Nat.zero_le _) (Nat.add_le_add_left (by decide) Y))) (gp _ _ (Or.inr (Nat.lt_succ_self Y)))
  have hB' : PB x11 Y := PB.ag (hB.ag (GA.wd (Nat.zero_le _) (Nat.le_refl _))) (gp _ _ (Or.inr (Nat.lt_add_of_pos_right (by decide))))
  have hs : SiteS x10 (Y + 121) (Y + 66) := e2
  have rr : ∀ f, f ≠ 243 → h_r x11 f Y = h_r x f Y := fun f hf => by
    rw [hx11]
    show h_r (p_r x10 243 Y (some (Y + 121))) f Y = _
    rw [p_r_ne hf]
    exact GA.r lY
  obtain ⟨p1, p2, p3, p4, p5⟩ := hA'
  obtain ⟨q1, q2, q3⟩ := hB'
  refine ⟨x11, ?_, ⟨⟨by rw [hx11]; exact kY, (rr 240 (by decide)).trans r1, (rr 241 (by decide)).trans r2, (rr 242 (by decide)).trans r3, by rw [hx11]; exact p_r_eq⟩, p1, p2, p3, p4, p5, q1, q2, q3, hs.ag (gp (Y + 121) (Y + 152) (Or.inr (Nat.lt_add_of_pos_right (by decide)))) ⟨Nat.le_refl _, Nat.le_refl _⟩⟩, ?_, ?_, (GA.wd (Nat.le_refl _) (Nat.le_add_right Y 121)).tr (gp 0 Y (Or.inl (Nat.le_refl _)))⟩
  · unfold inC
    rw [newo_s, h, ← hx9, obj_s k9, e1, bnd_s, putr_s kY, puti_s (by exact kY), ← hx11]
  · rw [hx11]; exact e4
  · rw [hx11]
    show h_sl x10 = _
    rw [e5, hx9]
    show h_sl x + 11 + 942 = _
    omega
theorem brig_new {x : Hp} {b0 Y : Nat} (hb : b0 ≤ Y) (hC : Cn z b0 x) (hN : 401 ≤ N) (h : h_sz x = Y + 1) (hk : h_k x Y = 13) : ∃ y, f_X10_init N z Y x = some ((), y) ∧ BrF y Y [] ∧ h_sz y = Y + 152 ∧ h_sl y = h_sl x + 7974 ∧ Ag x y 0 Y := by
  obtain ⟨u, a1, a2, a3, a4, a5, a6, a7, a8⟩ := inA_s hb hC hN h hk
  obtain ⟨v, b1, b2, b3, b4, b5, b6, b7, b8, b9, b10⟩ := inB_s (z := z) hN a2 a3 a4 a5 a6
  obtain ⟨w, c1, c2, c3, c4, c5⟩ := inC_s (z := z) hN b2 b3 b4 b5 b6 b7 b8
  exact ⟨w, (a1.trans b1).trans c1, c2, c3, by rw [c4, b9, a7], (a8.tr b10).tr c5⟩
end ND
