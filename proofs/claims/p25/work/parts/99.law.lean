/-! ===== the law answers ===== -/
section FI
variable {N : Nat} {z : Nat → Nat} {Y : Nat} {x : Hp} {txt : List Nat} {w n mm : Nat} {P : Nat → Nat → Nat} {O : Nat → Option Nat} {G : Nat → Nat → Nat} {os : List (Nat → Nat)}
theorem cpy_md (hD : DtOk w n mm P O G os) : Cpy (mdOf w n mm P O G) := by
  obtain ⟨d1, d2, d3, d4, d5, d6, d7, d8, d9, d10⟩ := hD
  intro k hk
  have h := (d6 k hk).2.2.2.2.2.2
  refine ⟨?_, rfl, rfl, rfl⟩
  show nI (P k 5) = 0 ∨ nI (P k 5) = 1
  have c : P k 5 = 0 ∨ P k 5 = 1 := by omega
  rcases c with c | c <;> rw [c]
  · exact Or.inl rfl
  · exact Or.inr rfl
theorem sum_0 (f : Nat → Int32) (hf : ∀ k, f k = 0) : ∀ r k, sumG f r k 0 = 0
  | 0, k => rfl
  | r + 1, k => by
    show sumG f r (k + 1) (0 + f k) = 0
    rw [hf, show (0 : Int32) + 0 = 0 by decide]
    exact sum_0 f hf r (k + 1)
theorem inv_md (hD : DtOk w n mm P O G os) : IInv 0 (mdOf w n mm P O G) := by
  obtain ⟨d1, d2, d3, d4, d5, d6, d7, d8, d9, d10⟩ := hD
  refine ⟨show n ≤ 6 by omega, d7, fun k hk => ?_, fun k hk => ?_, fun j hj => ?_, ⟨w, d1, rfl⟩, rfl, fun k hk => ⟨[], rfl, by simp, List.Pairwise.nil⟩, fun k hk => ⟨0, Nat.zero_le _, rfl⟩, ?_, ?_⟩
  · obtain ⟨l1, l2, l3, l4, l5, l6, l7⟩ := d6 k hk
    exact ⟨P k 4, l5, l6, rfl, Nat.zero_le _⟩
  · obtain ⟨l1, l2, l3, l4, l5, l6, l7⟩ := d6 k hk
    exact ⟨⟨P k 2, P k 2, Nat.le_refl _, l3, rfl, rfl⟩, ⟨P k 0, l1, rfl⟩, ⟨P k 1, l2, rfl⟩, P k 3, by omega, rfl⟩
  · obtain ⟨g1, g2, g3, g4, g5, g6⟩ := d8 j hj
    exact ⟨G j 0, G j 1, G j 2, G j 3, g1, g3, g4, g5, g6, rfl, rfl, rfl, rfl⟩
  · show (0 : Int32) = sumG _ n 0 0
    exact (sum_0 _ (fun k => rfl) n 0).symm
  · show sumG _ n 0 0 = sumG _ n 0 0
    exact (sum_0 (fun k => m_A (mdOf w n mm P O G) k 95) (fun k => rfl) n 0).trans (sum_0 (fun k => m_A (mdOf w n mm P O G) k 88) (fun k => rfl) n 0).symm
theorem teach_s (h : BrF x Y txt) (hD : DtOk w n mm P O G os) (hx : txt = lawT w n mm P O G os) (hc : ∀ c ∈ txt, c < 128) (hN : 2001 ≤ N) : ∃ y, f_X10_teach N z Y x = some (0, y) ∧ BrS y Y ∧ Site y (Y + 90) (Y + 66) (mdOf w n mm P O G) ∧ SiteS y (Y + 121) (Y + 66) ∧ BkO y (Y + 66) n (os.map odOf) ∧ (∀ q, q < Y ∨ Y + 152 ≤ q → Sm y x q) ∧ h_sz y = h_sz x ∧ h_sl y = h_sl x := by
  obtain ⟨x1, i, C, bs, e1, e2, e3, e4, e5, e6⟩ := read_s (N := N) (z := z) h hD hx hc hN
  obtain ⟨⟨a1, a2, a3, a4, a5⟩, t1, r1, p1, k1, tk1, k2, s1, v1, s2⟩ := h
  have hn5 : n ≤ 5 := hD.2.2.1
  have g0 : Ag x x1 0 (Y + 3) := fun q _ b => e4 q (by omega)
  have g1 : Ag x x1 (Y + 66) (Y + 152) := fun q a _ => e4 q (by omega)
  have k13 : h_k x1 Y = 13 := (g0.k (by omega)).trans a1
  obtain ⟨x2, hx2⟩ : ∃ x2, x2 = p_i (p_i x1 244 Y (h_i x1 141 (Y + 3))) 201 (Y + 1) 0 := ⟨_, rfl⟩
  have sm2 : ∀ q, q ≠ Y → q ≠ Y + 1 → Sm x2 x1 q := fun q q1 q2 => by rw [hx2]; exact (Sm_pi q2).tr (Sm_pi q1)
  have kx2 : h_k x2 = h_k x1 := by rw [hx2]; rfl
  have rx2 : h_r x2 = h_r x1 := by rw [hx2]; rfl
  have g2 : Ag x1 x2 (Y + 3) (Y + 152) := fun q a _ => sm2 q (by omega) (by omega)
  obtain ⟨P1, ⟨v1', v2', v3', v4', v5', v6'⟩, D3, D4, D5⟩ := e3
  have n163 := e2.2.2.2.2.1.2.2
  have sd1 : SdC x1 (Y + 4) (Y + 28) (Y + 5) (mdOf w n mm P O G) := by
    refine ⟨P1, show n ≤ 6 by omega, show mm ≤ 8 by have := hD.2.2.2.2.1; omega, rfl, rfl, fun f hf => ?_, fun k hk => D4 k hk, fun k hk j hj => hD.2.2.2.2.2.2.1 k hk j hj, fun j hj f f1 f2 => D5 j hj f f1 f2⟩
    have c : f = 161 ∨ f = 162 ∨ f = 163 ∨ f = 164 ∨ f = 168 ∨ f = 169 ∨ f = 170 := by omega
    rcases c with c | c | c | c | c | c | c <;> subst c
    · exact v1'
    · exact v2'
    · exact n163
    · exact v3'
    · exact v4'
    · exact v5'
    · exact v6'
  have sd2 := sd1.ag g2 (by omega)
  have sS2 : SiteS x2 (Y + 90) (Y + 66) := (s1.ag g1 (by omega)).ag g2 (by omega)
  obtain ⟨x3, c1, c2, c3⟩ := site_copyc (N := N) (z := z) (s := Y + 90) (B := Y + 66) (s' := Y + 4) (t' := Y + 28) (by omega) (cpy_md hD) (by omega) sS2 sd2
  have c2' : Site x3 (Y + 90) (Y + 66) (mdOf w n mm P O G) := by
    have := c2
    rw [show m_n (mdOf w n mm P O G) = n from rfl, show m_m (mdOf w n mm P O G) = mm from rfl, cut_md] at this
    exact this
  have g3 : Ag x2 x3 0 (Y + 90) := fun q _ b => c3.2.2.2.2 q (by omega)
  have bk2 : Bk x3 (Y + 5) C bs := (e2.2.2.2.2.2.2.2.ag g2 (by omega)).ag g3 (by omega)
  have bk3 : Bk x3 (Y + 66) [] [] := ((k2.ag g1 (by omega)).ag g2 (by omega)).ag g3 (by omega)
  obtain ⟨y, os', d1, d2, d3, d4, d5⟩ := book_copy (N := N) (z := z) (by omega) (by omega) bk2 bk3
  have g4 : Ag x3 y (Y + 90) (Y + 152) := fun q a _ => d3.1 q (by omega)
  have g4b : Ag x3 y 0 (Y + 66) := fun q _ b => d3.1 q (by omega)
  have hY : Sm x1 x Y := e4 Y (by omega)
  have hY1 : Sm x1 x (Y + 1) := e4 (Y + 1) (by omega)
  have fin : ∀ q, q < Y + 66 → Sm y x2 q := fun q hq => (d3.1 q (by omega)).tr (c3.2.2.2.2 q (by omega))
  refine ⟨y, ?_, ⟨?_, ?_, ?_, ?_, ?_, ?_, ?_⟩, c2'.ag g4 (by omega), ?_, ?_, fun q hq => ?_, ?_, ?_⟩
  · have q1 : h_r x1 241 Y = some (Y + 3) := (g0.r (by omega)).trans a3
    have q2 : h_r x1 240 Y = some (Y + 1) := (g0.r (by omega)).trans a2
    have q3 : h_r x1 242 Y = some (Y + 90) := (g0.r (by omega)).trans a4
    have w3 : h_k x1 (Y + 3) = 8 := e2.s.1
    have kx3 : h_k x3 Y = 13 := (g3.k (by omega)).trans (by rw [kx2]; exact k13)
    have q3' : h_r x3 242 Y = some (Y + 90) := (g3.r (by omega)).trans (by rw [rx2]; exact q3)
    have q1' : h_r x3 241 Y = some (Y + 3) := (g3.r (by omega)).trans (by rw [rx2]; exact q1)
    have q5 : h_r x3 140 (Y + 3) = some (Y + 4) := (g3.r (by omega)).trans (by rw [rx2]; exact e2.s.2.1)
    have q6 : h_r x3 160 (Y + 4) = some (Y + 5) := (g3.r (by omega)).trans (by rw [rx2]; exact e2.s.2.2.2.2.1)
    have k3 : h_k x3 (Y + 3) = 8 := (g3.k (by omega)).trans (by rw [kx2]; exact w3)
    have k4 : h_k x3 (Y + 4) = 9 := (g3.k (by omega)).trans (by rw [kx2]; exact e2.s.2.2.2.1)
    have k11 : h_k x1 (Y + 1) = 11 := hY1.1.trans t1.1
    unfold f_X10_teach
    rw [getr_s a1, a3, getr_s a1, a2, getr_s a1, a4, geti_s s1.1, v1, obj_s r1.1, e1, bnd_s, getr_s k13, q1, geti_s w3, puti_s k13, getr_s (by exact k13), show h_r (p_i x1 244 Y (h_i x1 141 (Y + 3))) 240 Y = some (Y + 1) from q2, puti_s (by exact k11), ← hx2, if_pos rfl, getr_s (by rw [kx2]; exact k13), show h_r x2 242 Y = some (Y + 90) by rw [rx2]; exact q3, getr_s (by rw [kx2]; exact k13), show h_r x2 241 Y = some (Y + 3) by rw [rx2]; exact q1, getr_s (by rw [kx2]; exact w3), show h_r x2 140 (Y + 3) = some (Y + 4) by rw [rx2]; exact e2.s.2.1, obj_s sS2.1, c1, bnd_s, getr_s kx3, q3', getr_s c2'.1.1, c2'.1.2.1, getr_s kx3, q1', getr_s k3, q5, getr_s k4, q6, obj_s bk3.1, d1, bnd_s]
  · exact (fin Y (by omega)).1.trans (by rw [kx2]; exact k13)
  · exact ((fin Y (by omega)).2.2.2.1 _).trans (by rw [rx2]; exact (hY.2.2.2.1 _).trans a2)
  · exact ((fin Y (by omega)).2.2.2.1 _).trans (by rw [rx2]; exact (hY.2.2.2.1 _).trans a3)
  · exact ((fin Y (by omega)).2.2.2.1 _).trans (by rw [rx2]; exact (hY.2.2.2.1 _).trans a4)
  · exact ((fin Y (by omega)).2.2.2.1 _).trans (by rw [rx2]; exact (hY.2.2.2.1 _).trans a5)
  · exact (fin (Y + 1) (by omega)).1.trans (by rw [kx2]; exact hY1.1.trans t1.1)
  · exact ((fin (Y + 1) (by omega)).2.2.1 _).trans (by rw [hx2, p_i_eq])
  · exact (((s2.ag g1 (by omega)).ag g2 (by omega)).ag (lo := Y + 121) (hi := Y + 152) (fun q a b => c3.2.2.2.2 q (by omega)) (by omega)).ag g4 (by omega)
  · refine ⟨C, os', d2, by rw [d4, e6.1]; simp, fun j hj o ho => ?_⟩
    rw [List.length_map] at hj
    have hRj := hD.2.2.2.2.2.2.2.2.2 _ (getD_os (os := os) (i := j) hj)
    have eo : o = odOf (os.getD j (fun _ => 0)) := by
      rw [List.getElem?_map] at ho
      rw [show os.getD j (fun _ => 0) = os[j] by simp [List.getD_eq_getElem?_getD, hj]]
      rw [List.getElem?_eq_getElem hj] at ho
      simpa using ho.symm
    refine ⟨?_, by rw [eo]; exact okO_od hRj⟩
    rw [eo, od_of hRj]
    have ob := e6.2 j hj
    have ef : ∀ f, f < 5 → os'.getD j (fun _ => 0) f = bs.getD j (fun _ => 0) f := fun f hf => d5 j (by rw [e6.1]; exact hj) f hf
    obtain ⟨o1, o2, o3, o4, o5, o6, o7, o8⟩ := ob
    refine ⟨(ef 0 (by decide)).trans o1, (ef 1 (by decide)).trans o2, ?_, ?_, ?_, fun k hk => ?_, fun k hk => ?_, o8⟩
    · rw [ef 3 (by decide), ef 2 (by decide)]; exact o3
    · rw [ef 4 (by decide), ef 3 (by decide)]; exact o4
    · rw [ef 4 (by decide)]; exact o5
    · rw [ef 2 (by decide)]; exact o6 k hk
    · rw [ef 3 (by decide)]; exact o7 k hk
  · exact (d3.1 q (by omega)).tr ((c3.2.2.2.2 q (by omega)).tr ((sm2 q (by omega) (by omega)).tr (e4 q (by omega))))
  · rw [d3.2.1, c3.1, hx2]; exact e5.1
  · rw [d3.2.2, c3.2.1, hx2]; exact e5.2
theorem pureLaw : PureLaw := by
  intro z b L xs x hL h
  obtain ⟨N, hN⟩ : ∃ N, N = 2001 := ⟨_, rfl⟩
  obtain ⟨Y, hY⟩ : ∃ Y, Y = h_sz x := ⟨_, rfl⟩
  have hb : b < Y := by
    have h1 := h.2.2.2.1.1
    have := (h.2.2.2.2 b (by rw [h1]; decide)).2
    omega
  have C0 : Cn z Y x := by rw [hY]; exact h.cn
  have g0 : Ag x (p_n x 13 0 5) 0 Y := pn_ag (by omega)
  obtain ⟨x1, a1, a2, a3, a4, a5⟩ := brig_new (N := N) (Y := Y) (b0 := Y) (Nat.le_refl _) (C0.ag g0 (Nat.le_refl _)) (by omega) (by show h_sz x + 1 = Y + 1; omega) (by rw [pnk, if_pos hY])
  have gx1 := g0.tr a5
  have sc0 : Scp x b L := ⟨h.2.2.2.1.1, h.2.2.2.1.2.1, by omega⟩
  have sc1 := sc0.ag gx1 ⟨Nat.zero_le _, hb⟩
  obtain ⟨o, ho⟩ : ∃ o, o = Y + 152 := ⟨_, rfl⟩
  obtain ⟨x2, w, n, m, P, O, G, os, b1, b2, b3, b4, b5, b6⟩ := chosen_s (N := N) (z := z) (b := b) (L := L) (o := o) (by omega) (by omega) sc1 (by omega)
  have C2 : Cn z Y x2 := ((C0.ag gx1 (Nat.le_refl _))).ag b6 (by omega)
  have hE : simE o (mdOf w n m P O G) os = h_sz x2 := b4.symm
  have so : o ≤ h_sz x2 := by rw [b4]; unfold simE; omega
  obtain ⟨⟨x3, a, c1, c2, c3, c4, c5, c6, c7⟩, cl⟩ := text_s (N := N) (z := z) (b0 := Y) C2 (by omega) b3 (by omega) b2 (by omega)
  have br2 : BrF x2 Y [] := a2.ag b6 (by omega)
  have br3 : BrF x3 Y [] := br2.ag c3 (by omega)
  have lp : 0 < (lawT w n m P O G os).length := by
    obtain ⟨r, hr⟩ : ∃ r, n = r + 1 := ⟨n - 1, by have := b2.2.1; omega⟩
    obtain ⟨l1, l2, l3⟩ := sB_ls
    unfold lawT
    simp only [List.length_append]
    rw [hr]
    simp only [lanesT, laneT, List.length_append]
    omega
  obtain ⟨x4, d1, d2, d3, d4, d5, d6⟩ := say_s (N := N) (z := z) br3.2.1 ⟨br3.1.1, br3.1.2.1⟩ c2 lp (by omega) ⟨by omega, by omega, by omega, by omega⟩ (by omega)
  have sz3 : h_sz x2 ≤ h_sz x3 := by omega
  have ga4 : Ag x3 x4 0 (Y + 1) := fun q _ q2 => d3 q (by omega) (by omega) (by omega)
  have gb4 : Ag x3 x4 (Y + 3) (h_sz x3) := fun q q1 q2 => d3 q q2 (by omega) (by omega)
  have br4 : BrF x4 Y (lawT w n m P O G os) := by
    obtain ⟨⟨e1, e2, e3, e4, e5⟩, f1, f2, f3, f4, f5, f6, f7, f8, f9⟩ := br3
    exact ⟨⟨(ga4.k (by omega)).trans e1, (ga4.r (by omega)).trans e2, (ga4.r (by omega)).trans e3, (ga4.r (by omega)).trans e4, (ga4.r (by omega)).trans e5⟩, d2, f2.ag gb4 (by omega), f3.ag2 gb4 (by omega), f4.ag gb4 (by omega), f5.ag gb4 (by omega), f6.ag gb4 (by omega), f7.ag gb4 (by omega), (gb4.i (by omega)).trans f8, f9.ag gb4 (by omega)⟩
  obtain ⟨y, e1, e2, e3, e4, e5, e6, e7, e8⟩ := teach_s (N := N) (z := z) br4 b2 rfl c2.2.2.2.2.2.2.1 (by omega)
  have gy : Ag x4 y (Y + 152) (h_sz x3) := fun q q1 q2 => e6 q (by omega)
  have sim3 := b3.ag c3 ⟨Nat.zero_le _, by omega⟩
  have sim4 := sim3.ag gb4 ⟨by omega, by omega⟩
  have simy := sim4.ag gy ⟨by omega, by omega⟩
  have scy : Scp y b L := by
    have s3 := (sc1.ag b6 ⟨Nat.zero_le _, by omega⟩).ag c3 ⟨Nat.zero_le _, by omega⟩
    exact (s3.ag ga4 ⟨Nat.zero_le _, by omega⟩).ag (lo := 0) (hi := Y) (fun q _ q2 => e6 q (by omega)) ⟨Nat.zero_le _, hb⟩
  have wd : Wd b L xs Y o os y (mdOf w n m P O G) := ⟨⟨hb, scy.1, scy.2.1, scy.2.2⟩, e2, e3, e4, e5, simy, cpy_md b2, by omega, by omega, b2.2.2.2.2.2.2.2.2.2, b2.2.1⟩
  obtain ⟨xe, l1, l2, l3⟩ := law_28 (N := N) (z := z) (b := b) (L := L) (xs := xs) (Y := Y) (o := o) (os := os) (by omega) 24 N 0 y (mdOf w n m P O G) 0 wd (inv_md b2) (by omega) (by omega) (by omega)
  refine ⟨N, xe, ?_, ?_, ?_⟩
  · have k1 : h_k x1 Y = 13 := a2.1.1
    have k15 : h_k x2 o = 15 := b3.k
    have k4 : h_k x4 Y = 13 := br4.1.1
    have k0 : h_k (p_n x 13 0 5) Y = 13 := by rw [pnk, if_pos hY]
    unfold f_L_law
    rw [newo_s, ← hY, obj_s k0, a1, bnd_s, b1, bnd_s, obj_s k15, c1, bnd_s, d1]
    unfold f_L_say_b112
    rw [obj_s k4, e1, bnd_s, bnd_s, if_pos rfl]
    exact l1
  · have q1 : simE o (mdOf w n m P O G) os ≤ o + 7 + 2 * 5 + 6 + 6 := by
      obtain ⟨p1, p2, p3, p4, p5, p6, p7, p8, p9, p10⟩ := b2
      show o + 7 + 2 * n + m + os.length ≤ _
      omega
    omega
  · have q0 : h_sl (p_n x 13 0 5) = h_sl x + 5 := rfl
    omega
end FI
