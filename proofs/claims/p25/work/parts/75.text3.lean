/-! ===== the law's text: the whole ===== -/
/-- a law's text told above all that was -/
def Tx (x : Hp) (r : Option (Option Nat × Hp)) (s : List Nat) : Prop := ∃ y a, r = some (some a, y) ∧ StrR y a (a + 1) s ∧ Ag x y 0 (h_sz x) ∧ h_sz x ≤ a ∧ a + 1 < h_sz y ∧ h_sz y ≤ h_sz x + 700 ∧ h_sl y ≤ h_sl x + 3000000
section WT
variable {N : Nat} {z : Nat → Nat} {b0 sb e c : Nat} {x0 x : Hp} {l : List Nat} {w n mm o : Nat} {P : Nat → Nat → Nat} {O : Nat → Option Nat} {G : Nat → Nat → Nat} {os : List (Nat → Nat)}
theorem getD_os {i : Nat} (hi : i < os.length) : os.getD i (fun _ => 0) ∈ os := by
  rw [show os.getD i (fun _ => 0) = os[i] by simp [List.getD_eq_getElem?_getD, hi]]
  exact List.getElem_mem hi
theorem SimR.oa {β : Type} {i : Nat} {K : Option Nat → Option β} (h : SimR x o (mdOf w n mm P O G) os L96) (hi : i < os.length) : aldr (some (o + 6 + 2 * n + mm)) x 107 (nI i) K = K (some (o + 6 + 2 * n + mm + 1 + i)) := by
  obtain ⟨b1, b2, b3, b4⟩ := h.2.2.2.1
  have b1' : h_k x (o + 6 + 2 * n + mm) = 107 := b1
  have b2' : h_n x (o + 6 + 2 * n + mm) = os.length := b2
  rw [aldr_s b1' (by omega) (by omega)]
  exact congrArg K (b4 i hi).1
theorem ords_t (S : SimR x0 o (mdOf w n mm P O G) os L96) (hE : simE o (mdOf w n mm P O G) os ≤ sb) (hR : ∀ r ∈ os, RawO n r) (hn : n ≤ 5) (ho : os.length ≤ 6) (hN : 2 ≤ N) : ∀ (r f i : Nat) (x : Hp) (l : List Nat) (e c : Nat), Bu z b0 x0 sb l e c x → i + r = os.length → r < f → e + 114 * r + 400 ≤ 2400 → ∃ y y2, f_X12_text_b295 N z f (some sb) (some (o + 6 + 2 * n + mm)) (nI os.length) (nI i) x = (obj (some sb) y 2 fun q83 => bnd (f_J4_toString_0e30d N z q83 y) fun r82 x81 => some (r82, x81)) ∧ y = y2 ∧ Bu z b0 x0 sb (l ++ ordsT os r i) (e + 114 * r) (c + 60 * r) y
  | r, 0, i, x, l, e, c, h, hk, hf, he => absurd hf (by omega)
  | 0, f + 1, i, x, l, e, c, h, hk, hf, he => by
    rw [f_X12_text_b295, if_pos (nI_le (by omega) (by omega))]
    exact ⟨x, x, rfl, rfl, h.cg (by simp [ordsT]) (by have := h.2.2.2.2.1; omega) (by omega)⟩
  | r + 1, f + 1, i, x, l, e, c, h, hk, hf, he => by
    have hi : i < os.length := by omega
    have hRi := hR _ (getD_os hi)
    have hle := h.2.2.2.2.1
    have q0 := h.rd S hE hi (f := 0) (F := 0) rfl (by decide)
    have s := h.sim S hE
    have r03 := hRi.1
    rw [f_X12_text_b295, if_neg (nI_ge (by omega) (by omega)), s.oa hi, q0]
    have go : ∀ y, Bu z b0 x0 sb (l ++ ordT (os.getD i (fun _ => 0))) (l.length + 114) (c + 60) y → ∃ y' y2, f_X12_text_b295 N z f (some sb) (some (o + 6 + 2 * n + mm)) (nI os.length) (nI (i + 1)) y = (obj (some sb) y' 2 fun q83 => bnd (f_J4_toString_0e30d N z q83 y') fun r82 x81 => some (r82, x81)) ∧ y' = y2 ∧ Bu z b0 x0 sb (l ++ ordsT os (r + 1) i) (e + 114 * (r + 1)) (c + 60 * (r + 1)) y' := fun y g => by
      obtain ⟨y', y2, E', e2, g'⟩ := ords_t S hE hR hn ho hN r f (i + 1) y (l ++ ordT (os.getD i (fun _ => 0))) (l.length + 114) (c + 60) g (by omega) (by omega) (by omega)
      refine ⟨y', y2, E', e2, g'.cg (by simp [ordsT]) ?_ (by omega)⟩
      have := g'.2.2.2.2.1
      omega
    by_cases d0 : os.getD i (fun _ => 0) 0 = 0
    · rw [if_pos (show nI (os.getD i (fun _ => 0) 0) = 0 by rw [d0]; rfl)]
      obtain ⟨y, E, g⟩ := ord_338 (N := N) (k295 := f_X12_text_b295 N z f) (v2 := some (o + 6 + 2 * n + mm)) (v3 := nI os.length) h S hE hi hRi hn (by omega) hN (k := 19) (by decide) (by decide) (by unfold ordT3; rw [if_pos d0])
      rw [E]
      exact go y g
    · rw [if_neg (show ¬ nI (os.getD i (fun _ => 0) 0) = (0 : Int32) from fun q => d0 ((nI_eq (b := 0) (by omega) (by decide)).mp q)), q0]
      by_cases d1 : os.getD i (fun _ => 0) 0 = 1
      · rw [if_pos (show nI (os.getD i (fun _ => 0) 0) = 1 by rw [d1]; rfl)]
        obtain ⟨y, E, g⟩ := ord_338 (N := N) (k295 := f_X12_text_b295 N z f) (v2 := some (o + 6 + 2 * n + mm)) (v3 := nI os.length) h S hE hi hRi hn (by omega) hN (k := 20) (by decide) (by decide) (by unfold ordT3; rw [if_neg d0, if_pos d1])
        rw [E]
        exact go y g
      · rw [if_neg (show ¬ nI (os.getD i (fun _ => 0) 0) = (1 : Int32) from fun q => d1 ((nI_eq (b := 1) (by omega) (by decide)).mp q))]
        obtain ⟨y, E, g⟩ := ord_338 (N := N) (k295 := f_X12_text_b295 N z f) (v2 := some (o + 6 + 2 * n + mm)) (v3 := nI os.length) h S hE hi hRi hn (by omega) hN (k := 21) (by decide) (by decide) (by unfold ordT3; rw [if_neg d0, if_neg d1])
        rw [E]
        exact go y g
theorem text_36 (h : Bu z b0 x0 sb l e c x) (S : SimR x0 o (mdOf w n mm P O G) os L96) (hE : simE o (mdOf w n mm P O G) os ≤ sb) (hD : DtOk w n mm P O G os) (he : e ≤ 20) (hc : c ≤ 3) (hN : 401 ≤ N) : ∃ y, f_X12_text_b36 N z o (some sb) x = (obj (some sb) y 2 fun q83 => bnd (f_J4_toString_0e30d N z q83 y) fun r82 x81 => some (r82, x81)) ∧ Bu z b0 x0 sb (l ++ lanesT O P n 0 ++ folksT G mm 0 ++ ordsT os os.length 0) 1322 514 y := by
  obtain ⟨d1, d2, d3, d4, d5, d6, d7, d8, d9, d10⟩ := hD
  obtain ⟨y1, E1, h1⟩ := lanes_t (N := N) S hE d6 d7 d3 (by omega) n N 0 x l e c h (by omega) (by omega) (by omega)
  obtain ⟨y2, E2, h2⟩ := folks_t (N := N) S hE d8 d3 d5 (by omega) mm N 0 y1 _ _ _ h1 (by omega) (by omega) (by omega)
  obtain ⟨y3, -, E3, -, h3⟩ := ords_t (N := N) S hE d10 d3 d9 (by omega) os.length N 0 y2 _ _ _ h2 (by omega) (by omega) (by omega)
  refine ⟨y3, ?_, h3.cg rfl ?_ (by omega)⟩
  · unfold f_X12_text_b36
    rw [show (0 : Int32) = nI 0 from rfl, E1, show (0 : Int32) = nI 0 from rfl, E2, show (0 : Int32) = nI 0 from rfl, E3]
  · have := h3.2.2.2.2.1
    omega
theorem text_s (hC : Cn z b0 x) (hb : b0 ≤ h_sz x) (S : SimR x o (mdOf w n mm P O G) os L96) (hE : simE o (mdOf w n mm P O G) os ≤ h_sz x) (hD : DtOk w n mm P O G os) (hN : 401 ≤ N) : Tx x (f_X12_text N z o x) (lawT w n mm P O G os) ∧ (lawT w n mm P O G os).length ≤ 1322 := by
  have d1 := hD.1
  obtain ⟨y0, E0, h0⟩ := Bu.new (N := N) (x := x) hC hb
  have s0 := h0.sim S hE
  have fin : ∀ y l', l' = lawT w n mm P O G os → Bu z b0 x (h_sz x) l' 1322 514 y → Tx x (obj (some (h_sz x)) y 2 fun q83 => bnd (f_J4_toString_0e30d N z q83 y) fun r82 x81 => some (r82, x81)) (lawT w n mm P O G os) ∧ (lawT w n mm P O G os).length ≤ 1322 := fun y l' e g => by
    subst e
    obtain ⟨u, F, g1, g2, g3, g4, g5, g6⟩ := g.fin (N := N) (by omega)
    refine ⟨⟨u, h_sz y, F _ _, g1, g2, by omega, by omega, by omega, Nat.le_trans g6 ?_⟩, g.2.2.2.2.1⟩
    rw [Nat.add_assoc]
    exact Nat.add_le_add_left (by decide) _
  unfold f_X12_text
  rw [E0, geti_s s0.k, s0.2.1.2.1, show m_V (mdOf w n mm P O G) 162 = nI w from rfl]
  by_cases d : w = 20
  · rw [if_pos (by rw [d]; rfl)]
    obtain ⟨y, E, g⟩ := text_36 h0 S hE hD (by omega) (by omega) hN
    rw [E]
    exact fin y _ (by unfold lawT wellT; rw [if_pos d]) g
  · rw [if_neg (show ¬ nI w = (20 : Int32) from fun q => d ((nI_eq (b := 20) (by omega) (by decide)).mp q))]
    obtain ⟨a1, a2, -⟩ := sB_ls
    have dl := dec_len w
    obtain ⟨y1, E1, h1⟩ := h0.s (N := N) (k := 1) (by decide) (by decide) (by omega)
    have s1 := h1.sim S hE
    rw [E1, geti_s s1.k, s1.2.1.2.1, show m_V (mdOf w n mm P O G) 162 = nI w from rfl]
    obtain ⟨y2, E2, h2⟩ := h1.i (N := N) (n := w) (by omega) (by omega) (by omega)
    rw [E2]
    obtain ⟨y3, E3, h3⟩ := h2.s (N := N) (k := 2) (by decide) (by decide) (by omega)
    rw [E3]
    have h4 : Bu z b0 x (h_sz x) (sB 1 ++ dec w ++ sB 2) 20 3 y3 := h3.cg (by simp) (by simp only [List.length_append, List.length_nil]; omega) (by omega)
    obtain ⟨y, E, g⟩ := text_36 h4 S hE hD (by omega) (by omega) hN
    rw [E]
    exact fin y _ (by unfold lawT wellT; rw [if_neg d]) g
end WT
