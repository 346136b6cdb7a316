/-! ===== the law's text: orders, and the whole ===== -/
def ordT1 (r : Nat → Nat) : List Nat := (if r 0 = 1 ∧ 6 ≤ r 5 then [] else sB 35 ++ tstS (r 5) (r 6) (r 7)) ++ sB 45
def ordT2 (r : Nat → Nat) : List Nat := if 2 ≤ r 0 then [] else sB 22 ++ tldS (r 2) (r 3) (r 4)
def ordT3 (r : Nat → Nat) : List Nat := if r 0 = 0 then sB 19 else if r 0 = 1 then sB 20 else sB 21
def ordT (r : Nat → Nat) : List Nat := ordT3 r ++ dec (r 1) ++ ordT2 r ++ ordT1 r
def ordsT (os : List (Nat → Nat)) : Nat → Nat → List Nat
  | 0, _ => []
  | r + 1, i => ordT (os.getD i (fun _ => 0)) ++ ordsT os r (i + 1)
def wellT (w : Nat) : List Nat := if w = 20 then [] else sB 1 ++ dec w ++ sB 2
def lawT (w n mm : Nat) (P : Nat → Nat → Nat) (O : Nat → Option Nat) (G : Nat → Nat → Nat) (os : List (Nat → Nat)) : List Nat := wellT w ++ lanesT O P n 0 ++ folksT G mm 0 ++ ordsT os os.length 0
theorem sB_lt : (sB 19).length = 7 ∧ (sB 20).length = 5 ∧ (sB 21).length = 6 ∧ (sB 22).length = 4 ∧ (sB 35).length = 6 ∧ (sB 36).length = 6 ∧ (sB 37).length = 9 ∧ (sB 38).length = 10 ∧ (sB 39).length = 5 ∧ (sB 40).length = 12 ∧ (sB 41).length = 11 ∧ (sB 42).length = 29 ∧ (sB 43).length = 3 ∧ (sB 44).length = 5 ∧ (sB 45).length = 2 := by decide
theorem tstS_len {s l n : Nat} : (tstS s l n).length ≤ 63 := by
  obtain ⟨a1, a2, a3, a4, a5, a6, a7, a8, a9, a10, a11, a12, a13, a14, a15⟩ := sB_lt
  have dl := dec_len l
  have dn := dec_len n
  have t1 := tldS_len (s := 3) (l := l) (n := n)
  have t2 := tldS_len (s := 2) (l := l) (n := n)
  unfold tstS
  split
  · simp only [List.length_append]; omega
  split
  · simp only [List.length_append]; omega
  split
  · simp only [List.length_append]; omega
  split
  · simp only [List.length_append]; omega
  split
  · simp only [List.length_append]; omega
  split
  · simp only [List.length_append]; omega
  · omega
theorem ordT1_len {r : Nat → Nat} : (ordT1 r).length ≤ 71 := by
  obtain ⟨a1, a2, a3, a4, a5, a6, a7, a8, a9, a10, a11, a12, a13, a14, a15⟩ := sB_lt
  have t := tstS_len (s := r 5) (l := r 6) (n := r 7)
  unfold ordT1
  split
  · simp only [List.length_append, List.length_nil]; omega
  · simp only [List.length_append]; omega
theorem ordT2_len {r : Nat → Nat} : (ordT2 r).length ≤ 34 := by
  obtain ⟨a1, a2, a3, a4, a5, a6, a7, a8, a9, a10, a11, a12, a13, a14, a15⟩ := sB_lt
  have t := tldS_len (s := r 2) (l := r 3) (n := r 4)
  unfold ordT2
  split
  · simp only [List.length_nil]; omega
  · simp only [List.length_append]; omega
theorem ordT_len {r : Nat → Nat} : (ordT r).length ≤ 114 := by
  obtain ⟨a1, a2, a3, a4, a5, a6, a7, a8, a9, a10, a11, a12, a13, a14, a15⟩ := sB_lt
  have t1 := ordT1_len (r := r)
  have t2 := ordT2_len (r := r)
  have t3 : (ordT3 r).length ≤ 7 := by
    unfold ordT3
    split
    · omega
    split
    · omega
    · omega
  have t4 := dec_len (r 1)
  unfold ordT
  simp only [List.length_append]
  omega
section OT
variable {N : Nat} {z : Nat → Nat} {b0 sb e c : Nat} {x0 x : Hp} {l : List Nat} {w n mm o : Nat} {P : Nat → Nat → Nat} {O : Nat → Option Nat} {G : Nat → Nat → Nat} {os : List (Nat → Nat)}
variable {k295 : Option Nat → Option Nat → Int32 → Int32 → Hp → Option (Option Nat × Hp)} {v2 : Option Nat} {v3 : Int32} {i : Nat}
/-- an order's row is read -/
theorem Bu.rd {f : Nat} {F : Int32} (h : Bu z b0 x0 sb l e c x) (S : SimR x0 o (mdOf w n mm P O G) os L96) (hE : simE o (mdOf w n mm P O G) os ≤ sb) (hi : i < os.length) (hF : F = nI f) (hf : f < 8) : ∀ (β : Type) (K : Int32 → Option β), aldi (some (o + 6 + 2 * n + mm + 1 + i)) x 101 F K = K (nI (os.getD i (fun _ => 0) f)) := by
  intro β K
  obtain ⟨b1, b2, b3, b4⟩ := id (h.sim S hE).2.2.2.1
  obtain ⟨c1, c2, c3, c4⟩ := b4 i hi
  subst hF
  have c2' : h_k x (o + 6 + 2 * n + mm + 1 + i) = 101 := c2
  have c3' : h_n x (o + 6 + 2 * n + mm + 1 + i) = 8 := c3
  rw [aldi_s c2' (by omega) (by omega)]
  exact congrArg K (c4 f hf)
theorem ord_428 (h : Bu z b0 x0 sb l e c x) (he : e + 30 ≤ 2400) : ∃ y, f_X12_text_b428 N z k295 (some sb) v2 v3 (nI i) x = k295 (some sb) v2 v3 (nI (i + 1)) y ∧ Bu z b0 x0 sb (l ++ sB 45) (e + 30) (c + 1) y := by
  unfold f_X12_text_b428
  obtain ⟨y, E, h1⟩ := h.s (N := N) (k := 45) (by decide) (by decide) (by omega)
  rw [E, nI_1]
  exact ⟨y, rfl, h1⟩
theorem ord_400 (h : Bu z b0 x0 sb l e c x) (S : SimR x0 o (mdOf w n mm P O G) os L96) (hE : simE o (mdOf w n mm P O G) os ≤ sb) (hi : i < os.length) (hR : RawO n (os.getD i (fun _ => 0))) (hn : n ≤ 5) (he : e + 130 ≤ 2400) (hN : 2 ≤ N) : ∃ y, f_X12_text_b400 N z k295 (some sb) v2 v3 (nI i) (some (o + 6 + 2 * n + mm + 1 + i)) x = k295 (some sb) v2 v3 (nI (i + 1)) y ∧ Bu z b0 x0 sb (l ++ (sB 35 ++ tstS (os.getD i (fun _ => 0) 5) (os.getD i (fun _ => 0) 6) (os.getD i (fun _ => 0) 7) ++ sB 45)) (e + 123) (c + 43) y := by
  obtain ⟨R, hr⟩ : ∃ R, R = os.getD i (fun _ => 0) := ⟨_, rfl⟩
  rw [← hr] at hR ⊢
  obtain ⟨r0, r1, r2, r3, r4, r5, r6, r7⟩ := hR
  unfold f_X12_text_b400
  obtain ⟨y1, E1, h1⟩ := h.s (N := N) (k := 35) (by decide) (by decide) (by omega)
  rw [E1, h1.rd S hE hi (f := 5) (F := 5) rfl (by decide), h1.rd S hE hi (f := 6) (F := 6) rfl (by decide), h1.rd S hE hi (f := 7) (F := 7) rfl (by decide), ← hr]
  by_cases c6 : R 5 < 6
  · obtain ⟨y2, a, u, F2, E2, h2⟩ := h1.t (N := N) (fun hb => test_s (N := N) (s := R 5) (l := R 6) (n := R 7) h1.2.1 hb c6 (by omega) (by omega) hN) tstS_len (by omega)
    rw [F2, bnd_s, E2]
    obtain ⟨y, E, h3⟩ := ord_428 (N := N) (k295 := k295) (v2 := v2) (v3 := v3) (i := i) h2 (by omega)
    exact ⟨y, E, h3.cg (by simp) (by have := h3.2.2.2.2.1; omega) (by omega)⟩
  · have e6 : R 5 = 6 := by omega
    have F2 : f_X12_test N z (nI (R 5)) (nI (R 6)) (nI (R 7)) y1 = some (some (z 44), y1) := by
      unfold f_X12_test
      rw [e6, if_neg (by decide), if_neg (by decide), if_neg (by decide), if_neg (by decide), if_neg (by decide), if_neg (by decide)]
    obtain ⟨y2, E2, h2⟩ := h1.s (N := N) (k := 44) (by decide) (by decide) (by omega)
    rw [F2, bnd_s, E2]
    obtain ⟨y, E, h3⟩ := ord_428 (N := N) (k295 := k295) (v2 := v2) (v3 := v3) (i := i) h2 (by omega)
    exact ⟨y, E, h3.cg (by rw [e6]; simp [tstS]) (by have := h3.2.2.2.2.1; omega) (by omega)⟩
theorem ord_383 (h : Bu z b0 x0 sb l e c x) (S : SimR x0 o (mdOf w n mm P O G) os L96) (hE : simE o (mdOf w n mm P O G) os ≤ sb) (hi : i < os.length) (hR : RawO n (os.getD i (fun _ => 0))) (hn : n ≤ 5) (he : e + 130 ≤ 2400) (hN : 2 ≤ N) : ∃ y, f_X12_text_b383 N z k295 (some sb) v2 v3 (nI i) (some (o + 6 + 2 * n + mm + 1 + i)) x = k295 (some sb) v2 v3 (nI (i + 1)) y ∧ Bu z b0 x0 sb (l ++ ordT1 (os.getD i (fun _ => 0))) (e + 123) (c + 43) y := by
  have q400 := ord_400 (N := N) (k295 := k295) (v2 := v2) (v3 := v3) h S hE hi hR hn he hN
  have q0 := h.rd S hE hi (f := 0) (F := 0) rfl (by decide)
  have q5 := h.rd S hE hi (f := 5) (F := 5) rfl (by decide)
  obtain ⟨R, hr⟩ : ∃ R, R = os.getD i (fun _ => 0) := ⟨_, rfl⟩
  rw [← hr] at hR q400 ⊢
  obtain ⟨r0, r1, r2, r3, r4, r5, r6, r7⟩ := hR
  unfold f_X12_text_b383
  rw [q0, ← hr]
  by_cases d : R 0 = 1
  · rw [if_pos (by rw [d]; rfl), q5, ← hr]
    by_cases d5 : 6 ≤ R 5
    · rw [if_pos (show (6 : Int32) ≤ nI (R 5) from nI_le (a := 6) d5 (by omega))]
      obtain ⟨y, E, h3⟩ := ord_428 (N := N) (k295 := k295) (v2 := v2) (v3 := v3) (i := i) h (by omega)
      exact ⟨y, E, h3.cg (by unfold ordT1; rw [if_pos ⟨d, d5⟩]; rfl) (by have := h3.2.2.2.2.1; omega) (by omega)⟩
    · rw [if_neg (show ¬ (6 : Int32) ≤ nI (R 5) from nI_ge (b := 6) (by omega) (by omega))]
      obtain ⟨y, E, h3⟩ := q400
      exact ⟨y, E, h3.cg (by unfold ordT1; rw [if_neg (fun q => d5 q.2)]) h3.2.2.2.2.1 (Nat.le_refl _)⟩
  · rw [if_neg (show ¬ nI (R 0) = (1 : Int32) from fun q => d ((nI_eq (b := 1) (by omega) (by decide)).mp q))]
    obtain ⟨y, E, h3⟩ := q400
    exact ⟨y, E, h3.cg (by unfold ordT1; rw [if_neg (fun q => d q.1)]) h3.2.2.2.2.1 (Nat.le_refl _)⟩
theorem ord_338 (h : Bu z b0 x0 sb l e c x) (S : SimR x0 o (mdOf w n mm P O G) os L96) (hE : simE o (mdOf w n mm P O G) os ≤ sb) (hi : i < os.length) (hR : RawO n (os.getD i (fun _ => 0))) (hn : n ≤ 5) (he : e + 230 ≤ 2400) (hN : 2 ≤ N) {k : Nat} (hk : k < 46) (hk0 : 0 < k) (hT : ordT3 (os.getD i (fun _ => 0)) = sB k) : ∃ y, f_X12_text_b338 N z k295 (some sb) v2 v3 (nI i) (some (o + 6 + 2 * n + mm + 1 + i)) (some (z k)) (some sb) x = k295 (some sb) v2 v3 (nI (i + 1)) y ∧ Bu z b0 x0 sb (l ++ ordT (os.getD i (fun _ => 0))) (l.length + 114) (c + 60) y := by
  have tl := ordT_len (r := os.getD i (fun _ => 0))
  have hfin : (l ++ ordT (os.getD i (fun _ => 0))).length ≤ l.length + 114 := by rw [List.length_append]; omega
  unfold f_X12_text_b338
  obtain ⟨y1, E1, h1⟩ := h.s (N := N) (k := k) hk hk0 (by omega)
  have q1 := h1.rd S hE hi (f := 1) (F := 1) rfl (by decide)
  have hR' := hR
  obtain ⟨r0, r1, r2, r3, r4, r5, r6, r7⟩ := hR'
  rw [E1, q1]
  obtain ⟨y2, E2, h2⟩ := h1.i (N := N) (n := os.getD i (fun _ => 0) 1) (by omega) (by omega) hN
  have q0 := h2.rd S hE hi (f := 0) (F := 0) rfl (by decide)
  rw [E2, q0]
  by_cases d : 2 ≤ os.getD i (fun _ => 0) 0
  · rw [if_pos (show (2 : Int32) ≤ nI (os.getD i (fun _ => 0) 0) from nI_le (a := 2) d (by omega))]
    obtain ⟨y, E, g⟩ := ord_383 (N := N) (k295 := k295) (v2 := v2) (v3 := v3) h2 S hE hi hR hn (by omega) hN
    refine ⟨y, E, g.cg ?_ ?_ (by omega)⟩
    · unfold ordT
      rw [hT, show ordT2 (os.getD i (fun _ => 0)) = [] from if_pos d]
      simp
    · have t : l ++ ordT (os.getD i (fun _ => 0)) = l ++ sB k ++ dec (os.getD i (fun _ => 0) 1) ++ ordT1 (os.getD i (fun _ => 0)) := by
        unfold ordT
        rw [hT, show ordT2 (os.getD i (fun _ => 0)) = [] from if_pos d]
        simp
      rw [← t]
      exact hfin
  · rw [if_neg (show ¬ (2 : Int32) ≤ nI (os.getD i (fun _ => 0) 0) from nI_ge (b := 2) (by omega) (by omega))]
    obtain ⟨y3, E3, h3⟩ := h2.s (N := N) (k := 22) (by decide) (by decide) (by omega)
    have q2 := h3.rd S hE hi (f := 2) (F := 2) rfl (by decide)
    have q3 := h3.rd S hE hi (f := 3) (F := 3) rfl (by decide)
    have q4 := h3.rd S hE hi (f := 4) (F := 4) rfl (by decide)
    rw [E3, q2, q3, q4]
    obtain ⟨y4, a, u, F4, E4, h4⟩ := h3.t (N := N) (fun hb => told_s (N := N) (s := os.getD i (fun _ => 0) 2) (l := os.getD i (fun _ => 0) 3) (n := os.getD i (fun _ => 0) 4) h3.2.1 hb r2 (by omega) (by omega) hN) tldS_len (by omega)
    rw [F4, bnd_s, E4]
    obtain ⟨y, E, g⟩ := ord_383 (N := N) (k295 := k295) (v2 := v2) (v3 := v3) h4 S hE hi hR hn (by omega) hN
    have t : l ++ ordT (os.getD i (fun _ => 0)) = l ++ sB k ++ dec (os.getD i (fun _ => 0) 1) ++ sB 22 ++ tldS (os.getD i (fun _ => 0) 2) (os.getD i (fun _ => 0) 3) (os.getD i (fun _ => 0) 4) ++ ordT1 (os.getD i (fun _ => 0)) := by
      unfold ordT
      rw [hT, show ordT2 (os.getD i (fun _ => 0)) = sB 22 ++ tldS (os.getD i (fun _ => 0) 2) (os.getD i (fun _ => 0) 3) (os.getD i (fun _ => 0) 4) from if_neg d]
      simp
    refine ⟨y, E, g.cg t ?_ (by omega)⟩
    rw [← t]
    exact hfin
end OT
