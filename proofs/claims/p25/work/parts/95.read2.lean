/-! ===== the reader: the whole law's text ===== -/
/-- the orders in the book are the law's -/
def BoR (C : List (Nat × Nat)) (bs os : List (Nat → Nat)) (i : Nat) : Prop := bs.length = i ∧ ∀ j, j < i → OdR C (bs.getD j (fun _ => 0)) (16 + os.getD j (fun _ => 0) 0) (os.getD j (fun _ => 0) 1) (ordS (os.getD j (fun _ => 0))) (ordU (os.getD j (fun _ => 0)))
section RW
variable {N : Nat} {z : Nat → Nat} {Y : Nat} {ts : List Tok} {w n mm : Nat} {P : Nat → Nat → Nat} {O : Nat → Option Nat} {G : Nat → Nat → Nat} {os : List (Nat → Nat)}
theorem rd_lanes (hP : ∀ k, k < n → LnOk (P k)) (hO : ∀ k, k < n → ∀ j, O k = some j → j < k) (hn : n ≤ 5) (hm : mm ≤ 8) (hN : 401 ≤ N) (r : List Tok) : ∀ (q g k c i : Nat) (x : Hp) (C : List (Nat × Nat)) (bs : List (Nat → Nat)), c + q = n → PE x Y ts c i C bs → PD x Y w c mm P O G → ts.drop i = lanesK O P q c ++ r → k + q < 400 → ∃ y i', f_X5_read_b43 N z (g + q) (Y + 3) (nI k) x = f_X5_read_b43 N z g (Y + 3) (nI (k + q)) y ∧ PE y Y ts n i' C bs ∧ PD y Y w n mm P O G ∧ Fz x y Y ∧ ts.drop i' = r
  | 0, g, k, c, i, x, C, bs, hc, h, D, hd, hk => by
    have e : c = n := by omega
    subst e
    exact ⟨x, i, rfl, h, D, Fz.rf, hd⟩
  | q + 1, g, k, c, i, x, C, bs, hc, h, D, hd, hk => by
    have hd1 : ts.drop i = laneKT c (O c) (P c) ++ (lanesK O P q (c + 1) ++ r) := by rw [hd]; simp [lanesK]
    obtain ⟨y, e1, e2, e3, e4⟩ := it_lane (N := N) (z := z) (g := g + q) (k := k) h D (by omega) hm (hP c (by omega)) (hO c (by omega)) hN hd1 (by omega)
    obtain ⟨u, i', f1, f2, f3, f4, f5⟩ := rd_lanes hP hO hn hm hN r q g (k + 1) (c + 1) _ y C bs (by omega) e2 e3 (drop_add hd1) (by omega)
    refine ⟨u, i', ?_, f2, f3, e4.tr f4, f5⟩
    rw [show g + (q + 1) = g + q + 1 by omega, e1, f1, show k + 1 + q = k + (q + 1) by omega]
theorem rd_folks (hG : ∀ j, j < mm → FoOk n (G j)) (hn : n ≤ 5) (hm : mm ≤ 6) (hN : 401 ≤ N) (r : List Tok) : ∀ (q g k c i : Nat) (x : Hp) (C : List (Nat × Nat)) (bs : List (Nat → Nat)), c + q = mm → PE x Y ts n i C bs → PD x Y w n c P O G → ts.drop i = folksK G q c ++ r → k + q < 400 → ∃ y i', f_X5_read_b43 N z (g + q) (Y + 3) (nI k) x = f_X5_read_b43 N z g (Y + 3) (nI (k + q)) y ∧ PE y Y ts n i' C bs ∧ PD y Y w n mm P O G ∧ Fz x y Y ∧ ts.drop i' = r
  | 0, g, k, c, i, x, C, bs, hc, h, D, hd, hk => by
    have e : c = mm := by omega
    subst e
    exact ⟨x, i, rfl, h, D, Fz.rf, hd⟩
  | q + 1, g, k, c, i, x, C, bs, hc, h, D, hd, hk => by
    have hd1 : ts.drop i = folkKT c (G c) ++ (folksK G q (c + 1) ++ r) := by rw [hd]; simp [folksK]
    obtain ⟨y, e1, e2, e3, e4, e5⟩ := it_folk (N := N) (z := z) (g := g + q) (k := k) h D hn (by omega) (hG c (by omega)) hN hd1 (by omega)
    obtain ⟨u, i', f1, f2, f3, f4, f5⟩ := rd_folks hG hn hm hN r q g (k + 1) (c + 1) _ y C bs (by omega) e2 e3 e5 (by omega)
    refine ⟨u, i', ?_, f2, f3, e4.tr f4, f5⟩
    rw [show g + (q + 1) = g + q + 1 by omega, e1, f1, show k + 1 + q = k + (q + 1) by omega]
theorem rd_ords (hR : ∀ r ∈ os, RawO n r) (hn : n ≤ 5) (hm : mm ≤ 8) (ho : os.length ≤ 6) (hN : 401 ≤ N) (r : List Tok) : ∀ (q g k c i : Nat) (x : Hp) (C : List (Nat × Nat)) (bs : List (Nat → Nat)), c + q = os.length → PE x Y ts n i C bs → PD x Y w n mm P O G → BoR C bs os c → C.length ≤ 15 * c → ts.drop i = ordsK os q c ++ r → k + q < 400 → ∃ y i' C' bs', f_X5_read_b43 N z (g + q) (Y + 3) (nI k) x = f_X5_read_b43 N z g (Y + 3) (nI (k + q)) y ∧ PE y Y ts n i' C' bs' ∧ PD y Y w n mm P O G ∧ Fz x y Y ∧ ts.drop i' = r ∧ BoR C' bs' os os.length
  | 0, g, k, c, i, x, C, bs, hc, h, D, hB, hC, hd, hk => by
    have e : c = os.length := by omega
    subst e
    exact ⟨x, i, C, bs, rfl, h, D, Fz.rf, hd, hB⟩
  | q + 1, g, k, c, i, x, C, bs, hc, h, D, hB, hC, hd, hk => by
    have hRc := hR _ (getD_os (os := os) (i := c) (by omega))
    have hd1 : ts.drop i = ordKT (os.getD c (fun _ => 0)) ++ (ordsK os q (c + 1) ++ r) := by rw [hd]; simp [ordsK]
    have hb := hB.1
    obtain ⟨l1, l2⟩ := ord_len (os.getD c (fun _ => 0))
    obtain ⟨y, e1, e2, e3, e4⟩ := it_ord (N := N) (z := z) (g := g + q) (k := k) h D hn hm hRc hN hd1 (by omega) (by omega) (by omega)
    have hB2 : BoR (C ++ ordS (os.getD c (fun _ => 0)) ++ ordU (os.getD c (fun _ => 0))) (bs ++ [newO (16 + os.getD c (fun _ => 0) 0) (os.getD c (fun _ => 0) 1) C.length (C.length + (ordS (os.getD c (fun _ => 0))).length) (C.length + (ordS (os.getD c (fun _ => 0))).length + (ordU (os.getD c (fun _ => 0))).length)]) os (c + 1) := by
      refine ⟨by rw [List.length_append, hb]; rfl, fun j hj => ?_⟩
      by_cases cj : j = c
      · have e : (bs ++ [newO (16 + os.getD c (fun _ => 0) 0) (os.getD c (fun _ => 0) 1) C.length (C.length + (ordS (os.getD c (fun _ => 0))).length) (C.length + (ordS (os.getD c (fun _ => 0))).length + (ordU (os.getD c (fun _ => 0))).length)]).getD j (fun _ => 0) = newO (16 + os.getD c (fun _ => 0) 0) (os.getD c (fun _ => 0) 1) C.length (C.length + (ordS (os.getD c (fun _ => 0))).length) (C.length + (ordS (os.getD c (fun _ => 0))).length + (ordU (os.getD c (fun _ => 0))).length) := by
          rw [cj, ← hb]
          simp [List.getD_eq_getElem?_getD]
        rw [e, cj]
        exact OdR.new (by have := hRc.1; omega)
      · have e : ∀ v, (bs ++ [v]).getD j (fun _ => 0) = bs.getD j (fun _ => 0) := fun v => by
          simp [List.getD_eq_getElem?_getD, List.getElem?_append_left (show j < bs.length by omega)]
        rw [e, List.append_assoc]
        exact (hB.2 j (by omega)).up
    obtain ⟨u, i', C', bs', f1, f2, f3, f4, f5, f6⟩ := rd_ords hR hn hm ho hN r q g (k + 1) (c + 1) _ y _ _ (by omega) e2 e3 hB2 (by simp only [List.length_append]; omega) (drop_add hd1) (by omega)
    refine ⟨u, i', C', bs', ?_, f2, f3, e4.tr f4, f5, f6⟩
    rw [show g + (q + 1) = g + q + 1 by omega, e1, f1, show k + 1 + q = k + (q + 1) by omega]
/-- from the first line to the end -/
theorem rd_43 {x : Hp} (hD : DtOk w n mm P O G os) (hN : 401 ≤ N) (h : PE x Y ts 0 0 [] []) (D : PD x Y 20 0 0 P O G) (ht : ts = lawK w n mm P O G os ++ [(38, 0)]) : ∃ y i C bs, f_X5_read_b43 N z N (Y + 3) 0 x = some (0, y) ∧ PE y Y ts n i C bs ∧ PD y Y w n mm P O G ∧ Fz x y Y ∧ BoR C bs os os.length := by
  obtain ⟨d1, d2, d3, d4, d5, d6, d7, d8, d9, d10⟩ := hD
  have hd : ts.drop 0 = wellK w ++ (lanesK O P n 0 ++ (folksK G mm 0 ++ (ordsK os os.length 0 ++ [(38, 0)]))) := by rw [ht]; simp [lawK]
  have tail : ∀ (x : Hp) (i k g : Nat), PE x Y ts 0 i [] [] → PD x Y w 0 0 P O G → ts.drop i = lanesK O P n 0 ++ (folksK G mm 0 ++ (ordsK os os.length 0 ++ [(38, 0)])) → k ≤ 2 → ∃ y i' C bs, f_X5_read_b43 N z (g + 1 + os.length + mm + n) (Y + 3) (nI k) x = some (0, y) ∧ PE y Y ts n i' C bs ∧ PD y Y w n mm P O G ∧ Fz x y Y ∧ BoR C bs os os.length := fun x i k g h D hd hk => by
    obtain ⟨y1, i1, a1, a2, a3, a4, a5⟩ := rd_lanes (N := N) (z := z) (w := w) (mm := 0) (G := G) d6 d7 d3 (by omega) hN _ n (g + 1 + os.length + mm) k 0 i x [] [] (by omega) h D hd (by omega)
    obtain ⟨y2, i2, b1, b2, b3, b4, b5⟩ := rd_folks (N := N) (z := z) (w := w) (P := P) (O := O) d8 d3 d5 hN _ mm (g + 1 + os.length) (k + n) 0 i1 y1 [] [] (by omega) a2 a3 a5 (by omega)
    obtain ⟨y3, i3, C, bs, c1, c2, c3, c4, c5, c6⟩ := rd_ords (N := N) (z := z) (w := w) (P := P) (O := O) (G := G) d10 d3 (by omega) d9 hN _ os.length (g + 1) (k + n + mm) 0 i2 y2 [] [] (by omega) b2 b3 ⟨rfl, fun j hj => absurd hj (by omega)⟩ (by simp) b5 (by omega)
    refine ⟨y3, i3, C, bs, ?_, c2, c3, (a4.tr b4).tr c4, c6⟩
    have k146 : h_i y3 146 (Y + 3) = 0 := c2.2.2.2.1
    obtain ⟨s1, -⟩ := c2.s
    rw [a1, b1, c1, f_X5_read_b43, if_neg (show ¬ (400 : Int32) ≤ nI (k + n + mm + os.length) from nI_ge (b := 400) (by omega) (by omega)), geti_s s1, k146, if_neg (by decide), obj_s s1, c2.kind c5, bnd_s, if_pos (show nI ((38, 0) : Tok).1 = (38 : Int32) from rfl), geti_s s1, k146]
  by_cases c : w = 20
  · rw [show wellK w = [] from if_pos c, List.nil_append] at hd
    obtain ⟨y, i', C, bs, e1, e2, e3, e4, e5⟩ := tail x 0 0 (N - (1 + os.length + mm + n)) h (by rw [c]; exact D) hd (by omega)
    rw [show N - (1 + os.length + mm + n) + 1 + os.length + mm + n = N by omega] at e1
    exact ⟨y, i', C, bs, e1, e2, e3, e4, e5⟩
  · rw [show wellK w = [kT 0, nT 3, sT 59, kT 0, nT w, sT 59] from if_neg c] at hd
    have hd0 : ts.drop 0 = kT 0 :: nT 3 :: sT 59 :: (kT 0 :: nT w :: sT 59 :: (lanesK O P n 0 ++ (folksK G mm 0 ++ (ordsK os os.length 0 ++ [(38, 0)])))) := hd
    obtain ⟨x1, a1, a2, a3, a4, a5⟩ := it_well (N := N) (z := z) (g := N - (3 + os.length + mm + n) + 1 + os.length + mm + n + 1) (k := 0) h D (by omega) (by omega) hd0 (by decide) (by decide)
    obtain ⟨x2, b1, b2, b3, b4, b5⟩ := it_well (N := N) (z := z) (g := N - (3 + os.length + mm + n) + 1 + os.length + mm + n) (k := 1) a2 a3 (by omega) (by omega) a5 d1 (by decide)
    obtain ⟨y, i', C, bs, e1, e2, e3, e4, e5⟩ := tail x2 _ 2 (N - (3 + os.length + mm + n)) b2 b3 b5 (by omega)
    refine ⟨y, i', C, bs, ?_, e2, e3, (a4.tr b4).tr e4, e5⟩
    have q : N = N - (3 + os.length + mm + n) + 1 + os.length + mm + n + 1 + 1 := by omega
    have a1' : f_X5_read_b43 N z (N - (3 + os.length + mm + n) + 1 + os.length + mm + n + 1 + 1) (Y + 3) 0 x = _ := a1
    rw [← q] at a1'
    rw [a1', b1, e1]
end RW
