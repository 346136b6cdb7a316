/-! ===== the tokens of the whole law ===== -/
def wellK (w : Nat) : List Tok := if w = 20 then [] else [kT 0, nT 3, sT 59, kT 0, nT w, sT 59]
def lanesK (O : Nat → Option Nat) (P : Nat → Nat → Nat) : Nat → Nat → List Tok
  | 0, _ => []
  | r + 1, k => laneKT k (O k) (P k) ++ lanesK O P r (k + 1)
def folksK (G : Nat → Nat → Nat) : Nat → Nat → List Tok
  | 0, _ => []
  | r + 1, j => folkKT j (G j) ++ folksK G r (j + 1)
def ordsK (os : List (Nat → Nat)) : Nat → Nat → List Tok
  | 0, _ => []
  | r + 1, i => ordKT (os.getD i (fun _ => 0)) ++ ordsK os r (i + 1)
def lawK (w n mm : Nat) (P : Nat → Nat → Nat) (O : Nat → Option Nat) (G : Nat → Nat → Nat) (os : List (Nat → Nat)) : List Tok := wellK w ++ (lanesK O P n 0 ++ (folksK G mm 0 ++ ordsK os os.length 0))
def tkG (t : Tok) : Bool := t.1 != 38 && t.1 != 39 && Nat.blt t.1 128
theorem tld_ok (s l n : Nat) : (tldK s l n).all tkG = true ∧ (tldK s l n).length ≤ 9 := by
  unfold tldK
  split
  · exact ⟨rfl, by simp⟩
  split
  · exact ⟨rfl, by simp⟩
  split
  · exact ⟨rfl, by simp⟩
  split
  · exact ⟨rfl, by simp⟩
  split
  · exact ⟨rfl, by simp⟩
  split
  · exact ⟨rfl, by simp⟩
  · exact ⟨rfl, by simp⟩
theorem tst_ok (s l n : Nat) : (tstK s l n).all tkG = true ∧ (tstK s l n).length ≤ 13 := by
  unfold tstK
  split
  · exact ⟨rfl, by simp⟩
  split
  · exact ⟨rfl, by simp⟩
  split
  · exact ⟨rfl, by simp⟩
  split
  · exact ⟨rfl, by simp⟩
  split
  · exact ⟨rfl, by simp⟩
  split
  · exact ⟨rfl, by simp⟩
  · exact ⟨rfl, by simp⟩
theorem lane_ok (k : Nat) (u : Option Nat) (p : Nat → Nat) : (laneKT k u p).all tkG = true ∧ (laneKT k u p).length ≤ 17 := by
  unfold laneKT laneK1
  cases u <;> by_cases h : p 5 = 0 <;> simp only [h, if_true, if_false] <;> exact ⟨rfl, by simp [undK]⟩
theorem folk_ok (j : Nat) (g : Nat → Nat) : (folkKT j g).all tkG = true ∧ (folkKT j g).length ≤ 11 := ⟨rfl, by simp [folkKT]⟩
theorem ord_ok (q : Nat → Nat) (h : q 0 < 3) : (ordKT q).all tkG = true ∧ (ordKT q).length ≤ 27 := by
  obtain ⟨a1, a2⟩ := tld_ok (q 2) (q 3) (q 4)
  obtain ⟨b1, b2⟩ := tst_ok (q 5) (q 6) (q 7)
  have h1 : tkG (kT (16 + q 0)) = true := by
    have c : q 0 = 0 ∨ q 0 = 1 ∨ q 0 = 2 := by omega
    rcases c with c | c | c <;> rw [c] <;> rfl
  have h2 : (ordK2 q).all tkG = true ∧ (ordK2 q).length ≤ 10 := by
    unfold ordK2
    split
    · exact ⟨rfl, by simp⟩
    · refine ⟨?_, by simp; omega⟩
      rw [List.all_cons, a1]
      rfl
  have h3 : (ordK1 q).all tkG = true ∧ (ordK1 q).length ≤ 15 := by
    unfold ordK1
    split
    · exact ⟨rfl, by simp⟩
    · refine ⟨?_, by simp; omega⟩
      rw [List.all_append, List.all_cons, b1]
      rfl
  unfold ordKT
  refine ⟨?_, by simp; omega⟩
  rw [List.all_cons, List.all_cons, List.all_append, h1, h2.1, h3.1]
  rfl
section LK
variable {w n mm : Nat} {P : Nat → Nat → Nat} {O : Nat → Option Nat} {G : Nat → Nat → Nat} {os : List (Nat → Nat)}
theorem lanes_k (hP : ∀ k, k < n → LnOk (P k)) (hO : ∀ k, k < n → ∀ j, O k = some j → j < k) (hn : n ≤ 5) (rest : List Nat) : ∀ r k, k + r = n → lexA S0 (lanesT O P r k ++ rest) = lanesK O P r k ++ lexA S0 rest ∧ (lanesK O P r k).all tkG = true ∧ (lanesK O P r k).length ≤ 17 * r
  | 0, k, h => ⟨rfl, rfl, by simp [lanesK]⟩
  | r + 1, k, h => by
    obtain ⟨a1, a2, a3⟩ := lanes_k hP hO hn rest r (k + 1) (by omega)
    obtain ⟨b1, b2⟩ := lane_ok k (O k) (P k)
    have e : lanesT O P (r + 1) k ++ rest = laneT k (O k) (P k) ++ (lanesT O P r (k + 1) ++ rest) := by simp [lanesT]
    refine ⟨?_, ?_, ?_⟩
    · rw [e, lx_lane (hP k (by omega)) (by omega) (fun j hj => by have := hO k (by omega) j hj; omega), a1]
      simp [lanesK]
    · simp only [lanesK]
      rw [List.all_append, b1, a2]
      rfl
    · simp only [lanesK, List.length_append]
      omega
theorem folks_k (hG : ∀ j, j < mm → FoOk n (G j)) (hn : n ≤ 5) (hm : mm ≤ 6) (rest : List Nat) : ∀ r j, j + r = mm → lexA S0 (folksT G r j ++ rest) = folksK G r j ++ lexA S0 rest ∧ (folksK G r j).all tkG = true ∧ (folksK G r j).length ≤ 11 * r
  | 0, j, h => ⟨rfl, rfl, by simp [folksK]⟩
  | r + 1, j, h => by
    obtain ⟨a1, a2, a3⟩ := folks_k hG hn hm rest r (j + 1) (by omega)
    obtain ⟨b1, b2⟩ := folk_ok j (G j)
    have e : folksT G (r + 1) j ++ rest = folkT j (G j) ++ (folksT G r (j + 1) ++ rest) := by simp [folksT]
    refine ⟨?_, ?_, ?_⟩
    · rw [e, lx_folk (hG j (by omega)) hn (by omega), a1]
      simp [folksK]
    · simp only [folksK]
      rw [List.all_append, b1, a2]
      rfl
    · simp only [folksK, List.length_append]
      omega
theorem ords_k (hR : ∀ r ∈ os, RawO n r) (hn : n ≤ 5) (rest : List Nat) : ∀ r i, i + r = os.length → lexA S0 (ordsT os r i ++ rest) = ordsK os r i ++ lexA S0 rest ∧ (ordsK os r i).all tkG = true ∧ (ordsK os r i).length ≤ 27 * r
  | 0, i, h => ⟨rfl, rfl, by simp [ordsK]⟩
  | r + 1, i, h => by
    obtain ⟨a1, a2, a3⟩ := ords_k hR hn rest r (i + 1) (by omega)
    have hr := hR _ (getD_os (os := os) (i := i) (by omega))
    obtain ⟨b1, b2⟩ := ord_ok (os.getD i (fun _ => 0)) hr.1
    have e : ordsT os (r + 1) i ++ rest = ordT (os.getD i (fun _ => 0)) ++ (ordsT os r (i + 1) ++ rest) := by simp [ordsT]
    refine ⟨?_, ?_, ?_⟩
    · rw [e, lx_ord hr hn, a1]
      simp [ordsK]
    · simp only [ordsK]
      rw [List.all_append, b1, a2]
      rfl
    · simp only [ordsK, List.length_append]
      omega
theorem law_k (hD : DtOk w n mm P O G os) : lexA S0 (lawT w n mm P O G os) = lawK w n mm P O G os ∧ (lawK w n mm P O G os).all tkG = true ∧ (lawK w n mm P O G os).length ≤ 319 := by
  obtain ⟨d1, d2, d3, d4, d5, d6, d7, d8, d9, d10⟩ := hD
  obtain ⟨a1, a2, a3⟩ := lanes_k d6 d7 d3 (folksT G mm 0 ++ (ordsT os os.length 0 ++ [])) n 0 (by omega)
  obtain ⟨b1, b2, b3⟩ := folks_k d8 d3 d5 (ordsT os os.length 0 ++ []) mm 0 (by omega)
  obtain ⟨c1, c2, c3⟩ := ords_k d10 d3 [] os.length 0 (by omega)
  have z0 : lexA S0 [] = [] := rfl
  have q : (wellK w).all tkG = true ∧ (wellK w).length ≤ 6 := by
    unfold wellK
    split
    · exact ⟨rfl, by simp⟩
    · exact ⟨rfl, by simp⟩
  have e : lawT w n mm P O G os = wellT w ++ (lanesT O P n 0 ++ (folksT G mm 0 ++ (ordsT os os.length 0 ++ []))) := by simp [lawT]
  refine ⟨?_, ?_, ?_⟩
  · rw [e]
    unfold wellT lawK wellK
    by_cases d : w = 20
    · rw [if_pos d, if_pos d, List.nil_append, List.nil_append, a1, b1, c1, z0, List.append_nil]
    · obtain ⟨⟨o2, e2⟩, -⟩ := ok_c
      obtain ⟨-, -, -, cC, -, -, -, -, cD, -⟩ := lx_c
      rw [if_neg d, if_neg d, List.append_assoc (sB 1 ++ dec w), lex_app (Or.inl (okH_app o2 e2)), lex_app (Or.inr cD), (lx_n2 _ (by omega)).2.2.2, cC, a1, b1, c1, z0, List.append_nil]
      simp
  · unfold lawK
    rw [List.all_append, List.all_append, List.all_append, q.1, a2, b2, c2]
    rfl
  · unfold lawK
    simp only [List.length_append]
    omega
end LK
