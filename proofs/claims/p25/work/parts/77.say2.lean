/-! ===== a text is said: chunk after chunk ===== -/
section S2
variable {N : Nat} {z : Nat → Nat}
/-- a row of five words is fed -/
theorem feed_s {x : Hp} {Y d : Nat} {l : List Nat} (hk : h_k x Y = 13 ∧ h_r x 240 Y = some (Y + 1)) (h : TpR x (Y + 1) (pad l d)) (hl : ∀ c ∈ l, c < 128) (hd : d ≤ 1980) (hN : 6 ≤ N) : ∃ y, f_X10_feed N z Y (nI (wB l d 4)) (nI (wB l (d + 4) 4)) (nI (wB l (d + 8) 4)) (nI (wB l (d + 12) 4)) (nI (wB l (d + 16) 4)) x = some (nI (d + 20), y) ∧ TpR y (Y + 1) (pad l (d + 20)) ∧ (∀ b, b ≠ Y + 1 → b ≠ Y + 2 → Sm y x b) ∧ h_sz y = h_sz x ∧ h_sl y = h_sl x := by
  obtain ⟨k1, k2⟩ := hk
  obtain ⟨y1, e1, t1, s1, z1, w1⟩ := app_s (N := N) (z := z) h hl (by omega) hN
  obtain ⟨y2, e2, t2, s2, z2, w2⟩ := app_s (N := N) (z := z) t1 hl (by omega) hN
  obtain ⟨y3, e3, t3, s3, z3, w3⟩ := app_s (N := N) (z := z) t2 hl (by omega) hN
  obtain ⟨y4, e4, t4, s4, z4, w4⟩ := app_s (N := N) (z := z) t3 hl (by omega) hN
  obtain ⟨y5, e5, t5, s5, z5, w5⟩ := app_s (N := N) (z := z) t4 hl (by omega) hN
  have g1 := s1 Y (by omega) (by omega)
  have g2 := (s2 Y (by omega) (by omega)).tr g1
  have g3 := (s3 Y (by omega) (by omega)).tr g2
  have g4 := (s4 Y (by omega) (by omega)).tr g3
  have g5 := (s5 Y (by omega) (by omega)).tr g4
  have i0 : h_i x 201 (Y + 1) = nI d := by rw [h.2.2.2.2.1, pad_len]
  have i5 : h_i y5 201 (Y + 1) = nI (d + 20) := by rw [t5.2.2.2.2.1, pad_len]
  refine ⟨y5, ?_, t5, fun b h1 h2 => (s5 b h1 h2).tr ((s4 b h1 h2).tr ((s3 b h1 h2).tr ((s2 b h1 h2).tr (s1 b h1 h2)))), by omega, by omega⟩
  unfold f_X10_feed
  rw [getr_s k1, k2, geti_s h.1, i0, if_pos (show nI d ≤ (1980 : Int32) from nI_le (b := 1980) hd (by decide)), getr_s k1, k2, obj_s h.1, e1, bnd_s, getr_s (g1.1.trans k1), (g1.2.2.2.1 240).trans k2, obj_s t1.1, e2, bnd_s, getr_s (g2.1.trans k1), (g2.2.2.2.1 240).trans k2, obj_s t2.1, e3, bnd_s, getr_s (g3.1.trans k1), (g3.2.2.2.1 240).trans k2, obj_s t3.1, e4, bnd_s, getr_s (g4.1.trans k1), (g4.2.2.2.1 240).trans k2, obj_s t4.1, e5, bnd_s, getr_s (g5.1.trans k1), (g5.2.2.2.1 240).trans k2, geti_s t5.1, i5]
/-- one byte more into the row -/
theorem row_1 {x : Hp} {q d i : Nat} {l : List Nat} (h : FiR x q d i l) (hi : i < 20) : FiR (p_ai x q (i / 4) (nI (wB l (d + 4 * (i / 4)) (i % 4) * 256 + l.getD (d + i) 0))) q d (i + 1) l := by
  obtain ⟨a1, a2, a3⟩ := h
  refine ⟨a1, a2, fun g hg => ?_⟩
  simp only [HPAI]
  by_cases c : g = i / 4
  · rw [if_pos ⟨trivial, c⟩, c, show min (i + 1 - 4 * (i / 4)) 4 = i % 4 + 1 by omega]
    simp only [wB]
    rw [show d + 4 * (i / 4) + i % 4 = d + i by omega]
  · rw [if_neg (fun e => c e.2), a3 g hg, show min (i + 1 - 4 * g) 4 = min (i - 4 * g) 4 by omega]
theorem fill_l {k7 : Option Nat → Option Nat → Int32 → Int32 → Hp → Option (Int32 × Hp)} {Y a va d q : Nat} {l : List Nat} (hd : d ≤ 1980) (hq : Y < q ∧ a < q ∧ va < q) : ∀ (r n i : Nat) (x : Hp), FiR x q d i l → StrR x a va l → h_k x Y = 13 → i + r = 20 → r < n → ∃ y, f_L_say_b20 N z k7 n (some Y) (some a) (nI l.length) (nI d) (some q) (nI i) x = (obj (some Y) y 13 fun q9 => bnd (f_X10_feed N z q9 (nI (wB l d 4)) (nI (wB l (d + 4) 4)) (nI (wB l (d + 8) 4)) (nI (wB l (d + 12) 4)) (nI (wB l (d + 16) 4)) y) fun i8 x7 => k7 (some Y) (some a) (nI l.length) (nI (d + 20)) x7) ∧ (∀ b, b ≠ q → Sm y x b) ∧ h_sz y = h_sz x ∧ h_sl y = h_sl x
  | r, 0, i, x, h, hs, hY, hi, hn => absurd hn (by omega)
  | 0, n + 1, i, x, h, hs, hY, hi, hn => by
    obtain ⟨a1, a2, a3⟩ := h
    have e : i = 20 := by omega
    subst e
    have r0 := a3 0 (by decide)
    have r1 := a3 1 (by decide)
    have r2 := a3 2 (by decide)
    have r3 := a3 3 (by decide)
    have r4 := a3 4 (by decide)
    refine ⟨x, ?_, fun b _ => ⟨rfl, rfl, fun _ => rfl, fun _ => rfl, rfl, rfl, rfl⟩, rfl, rfl⟩
    have ld : ∀ (g : Nat) (F : Int32) (K : Int32 → Option (Int32 × Hp)), F = nI g → g < 5 → aldi (some q) x 101 F K = K (h_ai x q g) := fun g F K e hg => by
      subst e
      exact aldi_s a1 (by omega) (by omega)
    rw [f_L_say_b20, if_pos (by decide), ld 0 0 _ rfl (by decide), ld 1 1 _ rfl (by decide), ld 2 2 _ rfl (by decide), ld 3 3 _ rfl (by decide), ld 4 4 _ rfl (by decide), r0, r1, r2, r3, r4, show (20 : Int32) = nI 20 from rfl, nI_add]
    rfl
  | r + 1, n + 1, i, x, h, hs, hY, hi, hn => by
    have hl := hs.2.2.2.2.2.2.1
    have hll := hs.2.2.2.2.2.1
    obtain ⟨a1, a2, a3⟩ := id h
    have hi4 : i / 4 < 5 := by omega
    have hc := getD_lt hl (d + i)
    have hw := wB_lt hl (p := d + 4 * (i / 4)) (n := i % 4) (by omega)
    have g1 := row_1 h (by omega)
    have rv : h_ai x q (i / 4) = nI (wB l (d + 4 * (i / 4)) (i % 4)) := by
      rw [a3 _ hi4, show min (i - 4 * (i / 4)) 4 = i % 4 by omega]
    have hd4 : nI i / (4 : Int32) = nI (i / 4) := pk_div (d := 4) (by omega) (by decide) (by decide)
    have nz4 : ∀ (K : Option (Int32 × Hp)), nz (4 : Int32) K = K := fun K => if_neg (by decide)
    have hs' : StrR (p_ai x q (i / 4) (nI (wB l (d + 4 * (i / 4)) (i % 4) * 256 + l.getD (d + i) 0))) a va l := by
      have sa : Ag x (p_ai x q (i / 4) (nI (wB l (d + 4 * (i / 4)) (i % 4) * 256 + l.getD (d + i) 0))) 0 q := pai_ag (by omega)
      exact hs.ag sa ⟨by omega, by omega⟩ ⟨by omega, by omega⟩
    obtain ⟨y, E, g2, g3, g4⟩ := fill_l hd hq r n (i + 1) _ g1 hs' hY (by omega) (by omega)
    refine ⟨y, ?_, fun b hb => (g2 b hb).tr (Sm_pai hb), g3, g4⟩
    have put : ∀ (s0 : Int32), s0 = nI (l.getD (d + i) 0) → f_L_say_b63 N z k7 (f_L_say_b20 N z k7 n) (some Y) (some a) (nI l.length) (nI d) (some q) (nI i) s0 (nI (wB l (d + 4 * (i / 4)) (i % 4)) <<< ((8 : Int32) &&& 31)) (nI (i / 4)) (some q) x = f_L_say_b20 N z k7 n (some Y) (some a) (nI l.length) (nI d) (some q) (nI (i + 1)) (p_ai x q (i / 4) (nI (wB l (d + 4 * (i / 4)) (i % 4) * 256 + l.getD (d + i) 0))) := fun s0 e => by
      subst e
      unfold f_L_say_b63
      rw [sho hw (by omega), asti_s a1 (by omega) (by omega), nI_1]
    rw [f_L_say_b20, if_neg (show ¬ (20 : Int32) ≤ nI i from nI_ge (b := 20) (by omega) (by omega)), nz4, nz4, hd4, aldi_s a1 (by omega) (by omega), rv, nI_add]
    by_cases c : l.length ≤ d + i
    · rw [if_pos (nI_le c (by omega)), put 0 (by rw [show l.getD (d + i) 0 = 0 by simp [List.getD_eq_getElem?_getD, c]]; rfl), E]
    · rw [if_neg (nI_ge (by omega) (by omega)), hs.o, str_char hs (by omega), bnd_s, put _ rfl, E]
theorem fir_0 {x : Hp} {d : Nat} {l : List Nat} : FiR (p_n x 101 5 5) (h_sz x) d 0 l := by
  refine ⟨by rw [pnk, if_pos rfl], by rw [pnn, if_pos rfl], fun g hg => ?_⟩
  show (if h_sz x = h_sz x then (0 : Int32) else _) = _
  rw [if_pos rfl, show min (0 - 4 * g) 4 = 0 by omega]
  rfl
/-- the whole text is on the tape -/
theorem say_l {Y a va hi : Nat} {l : List Nat} (hl0 : 0 < l.length) (hl : l.length ≤ 1980) (ha : Y + 2 < a ∧ Y + 2 < va ∧ a < hi ∧ va < hi) (hN : 401 ≤ N) : ∀ (r n d : Nat) (x : Hp), TpR x (Y + 1) (pad l d) → h_k x Y = 13 ∧ h_r x 240 Y = some (Y + 1) → StrR x a va l → hi ≤ h_sz x → d + 20 * r < l.length + 20 → l.length ≤ d + 20 * r → r < n → ∃ y, f_L_say_b7 N z n (some Y) (some a) (nI l.length) (nI d) x = f_L_say_b112 N z (some Y) y ∧ TpR y (Y + 1) l ∧ Tw x y (Y + 1) hi ∧ h_sz x ≤ h_sz y ∧ h_sz y ≤ h_sz x + r ∧ h_sl y ≤ h_sl x + 5 * r
  | r, 0, d, x, h, hk, hs, hz, h1, h3, hn => absurd hn (by omega)
  | 0, n + 1, d, x, h, hk, hs, hz, h1, h3, hn => by
    obtain ⟨a1, a2, a3, a4, a5, a6, a7⟩ := id h
    rw [pad_len] at a5 a6 a7
    have tr : f_X10_trim N z Y (nI l.length) x = some (nI l.length, p_i x 201 (Y + 1) (nI l.length)) := by
      unfold f_X10_trim
      rw [if_neg (nI_pos (by omega)), getr_s hk.1, hk.2, geti_s a1, a5, if_pos (nI_le (by omega) (by omega)), getr_s hk.1, hk.2, puti_s a1]
    refine ⟨p_i x 201 (Y + 1) (nI l.length), ?_, ⟨a1, a2, a3, a4, p_i_eq, by omega, fun j hj => ?_⟩, fun q q1 q2 q3 => Sm_pi q2, Nat.le_refl _, by show h_sz x ≤ _; omega, by show h_sl x ≤ _; omega⟩
    · rw [f_L_say_b7, if_pos (nI_le (by omega) (by omega)), if_neg (show ¬ nI l.length ≤ 0 from nI_ge (b := l.length) (a := 0) hl0 (by omega)), obj_s hk.1, tr, bnd_s]
    · rw [← pad_get (l := l) (d := d) (j := j) (by omega)]
      exact a7 j (by omega)
  | r + 1, n + 1, d, x, h, hk, hs, hz, h1, h3, hn => by
    have hdl : d < l.length := by omega
    have t6 := h.2.2.2.2.2.1
    obtain ⟨q, hq⟩ : ∃ q, q = h_sz x := ⟨_, rfl⟩
    have ag : Ag x (p_n x 101 5 5) 0 q := pn_ag (by omega)
    have f0 : FiR (p_n x 101 5 5) q d 0 l := by rw [hq]; exact fir_0
    obtain ⟨u, E, g1, g2, g3⟩ := fill_l (N := N) (z := z) (k7 := f_L_say_b7 N z n) (Y := Y) (a := a) (va := va) (d := d) (q := q) (l := l) (by omega) ⟨by omega, by omega, by omega⟩ 20 N 0 (p_n x 101 5 5) f0 (hs.ag ag ⟨by omega, by omega⟩ ⟨by omega, by omega⟩) ((ag.k ⟨by omega, by omega⟩).trans hk.1) (by omega) (by omega)
    have au : Ag x u 0 q := fun b b1 b2 => (g1 b (by omega)).tr (ag b b1 b2)
    have hu : h_k u Y = 13 ∧ h_r u 240 Y = some (Y + 1) := ⟨(au.k ⟨by omega, by omega⟩).trans hk.1, (au.r ⟨by omega, by omega⟩).trans hk.2⟩
    obtain ⟨w, F, t1, t2, t3, t4⟩ := feed_s (N := N) (z := z) hu (h.ag au ⟨by omega, by omega⟩) hs.2.2.2.2.2.2.1 (by omega) (by omega)
    have zu : h_sz u = q + 1 := by rw [g2]; show h_sz x + 1 = _; omega
    have lu : h_sl u = h_sl x + 5 := by rw [g3]; rfl
    have tw : Tw x w (Y + 1) hi := fun b b1 b2 b3 => (t2 b b2 b3).tr (au b (by omega) (by omega))
    have kY := tw Y (by omega) (by omega) (by omega)
    obtain ⟨y, E2, p1, p2, p3, p4, p5⟩ := say_l hl0 hl ha hN r n (d + 20) w t1 ⟨kY.1.trans hk.1, (kY.2.2.2.1 240).trans hk.2⟩ (tw.str hs ⟨by omega, by omega, by omega, by omega⟩) (by omega) (by omega) (by omega) (by omega)
    refine ⟨y, ?_, p1, tw.tr p2, by omega, by omega, by omega⟩
    rw [f_L_say_b7, if_neg (nI_ge (by omega) (by omega)), show (5 : Int32) = nI 5 from rfl, newa_s (by decide), ← hq, show (0 : Int32) = nI 0 from rfl, E, obj_s hu.1, F, bnd_s, E2]
theorem say_s {x : Hp} {Y a va : Nat} {l : List Nat} (h : TpR x (Y + 1) []) (hk : h_k x Y = 13 ∧ h_r x 240 Y = some (Y + 1)) (hs : StrR x a va l) (hl0 : 0 < l.length) (hl : l.length ≤ 1980) (ha : Y + 2 < a ∧ Y + 2 < va ∧ a < h_sz x ∧ va < h_sz x) (hN : 401 ≤ N) : ∃ y, f_L_say N z (some Y) (some a) x = f_L_say_b112 N z (some Y) y ∧ TpR y (Y + 1) l ∧ Tw x y (Y + 1) (h_sz x) ∧ h_sz x ≤ h_sz y ∧ h_sz y ≤ h_sz x + 100 ∧ h_sl y ≤ h_sl x + 500 := by
  obtain ⟨y, E, p1, p2, p3, p4, p5⟩ := say_l (N := N) (z := z) hl0 hl ha hN ((l.length + 19) / 20) N 0 x h hk hs (Nat.le_refl _) (by omega) (by omega) (by omega)
  refine ⟨y, ?_, p1, p2, p3, by omega, by omega⟩
  unfold f_L_say
  rw [hs.o, str_len hs, bnd_s, show (0 : Int32) = nI 0 from rfl, E]
end S2
