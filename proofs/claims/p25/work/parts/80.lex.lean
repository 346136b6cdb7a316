/-! ===== the tokens of a text: byte after byte ===== -/
abbrev Tok := Nat × Int64
/-- mode (0 nothing, 1 a word, 2 a number, 3 one of < >), its value, its length (or its byte) -/
abbrev LxSt := Nat × Int64 × Nat
def isA (c : Nat) : Bool := 97 ≤ c && c ≤ 122
def isD (c : Nat) : Bool := 48 ≤ c && c ≤ 57
def isSy (c : Nat) : Bool := c == 40 || c == 41 || c == 42 || c == 43 || c == 44 || c == 45 || c == 47 || c == 59 || c == 60 || c == 61 || c == 62 || c == 91 || c == 93
def kwK (v : Int64) : Nat := kws.findIdx fun w => w == v
def nmA (v : Int64) (c : Nat) : Int64 := v * 10 + (nI c - 48).toInt64
def S0 : LxSt := (0, 0, 0)
def flush (s : LxSt) : List Tok := if s.1 = 1 then [(if s.2.2 ≤ 10 then kwK s.2.1 else 39, s.2.1)] else if s.1 = 2 then [(if s.2.2 ≤ 6 then 35 else 39, s.2.1)] else if s.1 = 3 then [(s.2.2, 0)] else []
def step0 (c : Nat) : LxSt × List Tok := if c = 32 ∨ c = 10 then (S0, []) else if isA c = true then ((1, lng 0 c, 1), []) else if isD c = true then ((2, nmA 0 c, 1), []) else if c = 60 ∨ c = 62 then ((3, 0, c), []) else (S0, [(if isSy c = true then c else 39, 0)])
def step (s : LxSt) (c : Nat) : LxSt × List Tok := if s.1 = 1 ∧ (isA c = true ∨ isD c = true) then ((1, lng s.2.1 c, s.2.2 + 1), []) else if s.1 = 2 ∧ isD c = true then ((2, nmA s.2.1 c, s.2.2 + 1), []) else if s.1 = 3 ∧ c = 61 then (S0, [(if s.2.2 = 60 then 36 else 37, 0)]) else ((step0 c).1, flush s ++ (step0 c).2)
def run : LxSt → List Nat → LxSt × List Tok
  | s, [] => (s, [])
  | s, c :: r => ((run (step s c).1 r).1, (step s c).2 ++ (run (step s c).1 r).2)
/-- all tokens of a text, from a state -/
def lexA (s : LxSt) (l : List Nat) : List Tok := (run s l).2 ++ flush (run s l).1
/-- a byte before which every token ends -/
def okH : List Nat → Bool
  | [] => true
  | c :: _ => !(isA c || isD c || c == 61)
theorem run_app (a b : List Nat) : ∀ s, run s (a ++ b) = ((run (run s a).1 b).1, (run s a).2 ++ (run (run s a).1 b).2) := by
  induction a with
  | nil => intro s; simp [run]
  | cons c r ih => intro s; simp [run, ih]
theorem lex_fl (s : LxSt) (l : List Nat) (h : okH l = true) : lexA s l = flush s ++ lexA S0 l := by
  cases l with
  | nil => simp [lexA, run, show flush S0 = [] from rfl]
  | cons c r =>
    have hc : isA c = false ∧ isD c = false ∧ c ≠ 61 := by
      simp [okH] at h
      exact ⟨h.1.1, h.1.2, h.2⟩
    have e : ∀ s, step s c = ((step0 c).1, flush s ++ (step0 c).2) := fun s => by
      unfold step
      rw [if_neg (by simp [hc.1, hc.2.1]), if_neg (by simp [hc.2.1]), if_neg (by simp [hc.2.2])]
    simp only [lexA, run]
    rw [e s, e S0]
    simp [flush, S0]
theorem lex_app {a b : List Nat} (h : okH b = true ∨ (run S0 a).1 = S0) : lexA S0 (a ++ b) = lexA S0 a ++ lexA S0 b := by
  have e : lexA S0 (a ++ b) = (run S0 a).2 ++ lexA (run S0 a).1 b := by
    unfold lexA
    rw [run_app]
    simp
  rcases h with h | h
  · rw [e, lex_fl _ _ h]
    simp [lexA]
  · rw [e, h]
    have f : lexA S0 a = (run S0 a).2 := by
      unfold lexA
      rw [h]
      simp [flush, S0]
    rw [f]
theorem okH_app {a b : List Nat} (h : okH a = true) (h0 : a ≠ []) : okH (a ++ b) = true := by
  cases a with
  | nil => exact absurd rfl h0
  | cons c r => exact h
/-! the words, numbers and signs -/
def kT (k : Nat) : Tok := (k, kws.getD k 0)
def sT (c : Nat) : Tok := (c, 0)
def nT (n : Nat) : Tok := (35, Int64.ofNat n)
def lT (k : Nat) : Tok := (34, Int64.ofNat (1409 + k))
def fT (j : Nat) : Tok := (34, Int64.ofNat (1025 + j))
def tldK (s l n : Nat) : List Tok := if s = 0 then [nT n] else if s = 1 then [kT 20, sT 45, nT n] else if s = 2 then [kT 21, sT 43, kT 22, lT l] else if s = 3 then [kT 23, lT l, sT 42, nT 2, sT 45, nT n] else if s = 4 then [kT 24, lT l, sT 47, nT 2] else if s = 5 then [kT 25, lT l, sT 45, kT 26, lT l] else [kT 32, sT 40, nT n, sT 44, nT 30, sT 45, kT 22, lT l, sT 41]
def tstK (s l n : Nat) : List Tok := if s = 0 then [kT 27, lT l] else if s = 1 then [kT 29, kT 28, lT l] else if s = 2 then [kT 20, sT 37, nT n] else if s = 3 then [kT 28, lT l, kT 31, kT 21, sT 60, nT n] else if s = 4 then [sT 91, kT 29, kT 27, lT l, kT 30, kT 20, sT 47, nT 4, sT 42, nT 4, sT 61, kT 20, sT 93] else if s = 5 then [kT 23, lT l, sT 42, nT 2, sT 45, nT n, sT 62, kT 21, sT 43, kT 22, lT l] else [nT 2, sT 62, nT 1]
theorem lx_l : ∀ k, k < 5 → lexA S0 (sB 3 ++ dec k) = [kT 1, lT k] ∧ lexA S0 (sB 4 ++ dec k) = [kT 2, lT k] ∧ lexA S0 (sB 15 ++ dec k) = [kT 12, lT k] ∧ lexA S0 (sB 19 ++ dec k) = [kT 16, lT k] ∧ lexA S0 (sB 20 ++ dec k) = [kT 17, lT k] ∧ lexA S0 (sB 21 ++ dec k) = [kT 18, lT k] := by decide +kernel
theorem lx_f : ∀ j, j < 6 → lexA S0 (sB 14 ++ dec j) = [kT 11, fT j] := by decide +kernel
theorem lx_n1 : ∀ n, n < 100 → lexA S0 (sB 5 ++ dec n) = [kT 3, nT n] ∧ lexA S0 (sB 6 ++ dec n) = [kT 4, nT n] ∧ lexA S0 (sB 7 ++ dec n) = [kT 5, nT n] ∧ lexA S0 (sB 8 ++ dec n) = [kT 6, nT n] ∧ lexA S0 (sB 9 ++ dec n) = [kT 7, nT n] := by decide +kernel
theorem lx_n2 : ∀ n, n < 100 → lexA S0 (sB 16 ++ dec n) = [kT 13, nT n] ∧ lexA S0 (sB 17 ++ dec n) = [kT 14, nT n] ∧ lexA S0 (sB 18 ++ dec n) = [kT 15, nT n] ∧ lexA S0 (sB 1 ++ dec n) = [kT 0, nT 3, sT 59, kT 0, nT n] := by decide +kernel
theorem lx_c : lexA S0 (sB 10 ++ sB 11) = [kT 8, kT 9] ∧ lexA S0 (sB 10 ++ sB 12) = [kT 8, kT 10] ∧ lexA S0 (sB 13) = [sT 59] ∧ lexA S0 (sB 2) = [sT 59] ∧ lexA S0 (sB 22) = [kT 12] ∧ lexA S0 (sB 35) = [kT 19] ∧ lexA S0 (sB 45) = [sT 59] ∧ (run S0 (sB 13)).1 = S0 ∧ (run S0 (sB 2)).1 = S0 ∧ (run S0 (sB 22)).1 = S0 ∧ (run S0 (sB 35)).1 = S0 ∧ (run S0 (sB 45)).1 = S0 := by decide +kernel
theorem lx_d : ∀ l, l < 5 → ∀ n, n < 31 → ∀ s, s < 7 → lexA S0 (tldS s l n) = tldK s l n := by decide +kernel
theorem lx_t : ∀ l, l < 5 → ∀ n, n < 25 → ∀ s, s < 7 → lexA S0 (tstS s l n) = tstK s l n := by decide +kernel
theorem ok_c : (okH (sB 2) = true ∧ sB 2 ≠ []) ∧ (okH (sB 4) = true ∧ sB 4 ≠ []) ∧ (okH (sB 5) = true ∧ sB 5 ≠ []) ∧ (okH (sB 6) = true ∧ sB 6 ≠ []) ∧ (okH (sB 7) = true ∧ sB 7 ≠ []) ∧ (okH (sB 8) = true ∧ sB 8 ≠ []) ∧ (okH (sB 9) = true ∧ sB 9 ≠ []) ∧ (okH (sB 10) = true ∧ sB 10 ≠ []) ∧ (okH (sB 13) = true ∧ sB 13 ≠ []) ∧ (okH (sB 15) = true ∧ sB 15 ≠ []) ∧ (okH (sB 16) = true ∧ sB 16 ≠ []) ∧ (okH (sB 17) = true ∧ sB 17 ≠ []) ∧ (okH (sB 18) = true ∧ sB 18 ≠ []) ∧ (okH (sB 22) = true ∧ sB 22 ≠ []) ∧ (okH (sB 35) = true ∧ sB 35 ≠ []) ∧ (okH (sB 45) = true ∧ sB 45 ≠ []) := by decide +kernel
/-! the tokens of the lines -/
def undK : Option Nat → List Tok
  | none => []
  | some j => [kT 2, lT j]
def laneK1 (p : Nat → Nat) : List Tok := [kT 3, nT (p 0), kT 4, nT (p 1), kT 5, nT (p 2), kT 6, nT (p 3), kT 7, nT (p 4), kT 8, if p 5 = 0 then kT 10 else kT 9, sT 59]
def laneKT (k : Nat) (u : Option Nat) (p : Nat → Nat) : List Tok := kT 1 :: lT k :: (undK u ++ laneK1 p)
def folkKT (j : Nat) (g : Nat → Nat) : List Tok := [kT 11, fT j, kT 12, lT (g 0), kT 13, nT (g 1), kT 14, nT (g 2), kT 15, nT (g 3), sT 59]
def ordK1 (r : Nat → Nat) : List Tok := (if r 0 = 1 ∧ 6 ≤ r 5 then [] else kT 19 :: tstK (r 5) (r 6) (r 7)) ++ [sT 59]
def ordK2 (r : Nat → Nat) : List Tok := if 2 ≤ r 0 then [] else kT 12 :: tldK (r 2) (r 3) (r 4)
def ordKT (r : Nat → Nat) : List Tok := kT (16 + r 0) :: lT (r 1) :: (ordK2 r ++ ordK1 r)
theorem lx_lane1 {p : Nat → Nat} (h : LnOk p) (r : List Nat) : lexA S0 (laneT1 p ++ r) = laneK1 p ++ lexA S0 r := by
  obtain ⟨h0, h1, h2, h3, h4, h5, h6⟩ := h
  obtain ⟨-, -, ⟨o5, e5⟩, ⟨o6, e6⟩, ⟨o7, e7⟩, ⟨o8, e8⟩, ⟨o9, e9⟩, ⟨oA, eA⟩, ⟨oD, eD⟩, -⟩ := ok_c
  obtain ⟨cA, cB, cC, -, -, -, -, cD, -⟩ := lx_c
  have ex : lexA S0 (sB 10 ++ (if p 5 = 0 then sB 12 else sB 11)) = [kT 8, if p 5 = 0 then kT 10 else kT 9] := by
    split
    · exact cB
    · exact cA
  have e : laneT1 p ++ r = (sB 5 ++ dec (p 0)) ++ ((sB 6 ++ dec (p 1)) ++ ((sB 7 ++ dec (p 2)) ++ ((sB 8 ++ dec (p 3)) ++ ((sB 9 ++ dec (p 4)) ++ ((sB 10 ++ (if p 5 = 0 then sB 12 else sB 11)) ++ (sB 13 ++ r)))))) := by simp [laneT1]
  have w : ∀ {a b t : List Nat}, okH a = true → a ≠ [] → okH ((a ++ b) ++ t) = true := fun h h0 => by
    rw [List.append_assoc]
    exact okH_app h h0
  rw [e, lex_app (Or.inl (w o6 e6)), lex_app (Or.inl (w o7 e7)), lex_app (Or.inl (w o8 e8)), lex_app (Or.inl (w o9 e9)), lex_app (Or.inl (w oA eA)), lex_app (Or.inl (okH_app oD eD)), lex_app (Or.inr cD), (lx_n1 _ (by omega)).1, (lx_n1 _ (by omega)).2.1, (lx_n1 _ (by omega)).2.2.1, (lx_n1 _ (by omega)).2.2.2.1, (lx_n1 _ (by omega)).2.2.2.2, ex, cC]
  simp [laneK1]
theorem lx_lane {k : Nat} {u : Option Nat} {p : Nat → Nat} (h : LnOk p) (hk : k < 5) (hu : ∀ j, u = some j → j < 5) (r : List Nat) : lexA S0 (laneT k u p ++ r) = laneKT k u p ++ lexA S0 r := by
  obtain ⟨-, ⟨o4, e4⟩, ⟨o5, e5⟩, -⟩ := ok_c
  have o1 : okH (laneT1 p ++ r) = true := by
    have e : laneT1 p ++ r = sB 5 ++ (dec (p 0) ++ sB 6 ++ dec (p 1) ++ sB 7 ++ dec (p 2) ++ sB 8 ++ dec (p 3) ++ sB 9 ++ dec (p 4) ++ sB 10 ++ (if p 5 = 0 then sB 12 else sB 11) ++ sB 13 ++ r) := by simp [laneT1]
    rw [e]
    exact okH_app o5 e5
  cases u with
  | none =>
    have e : laneT k none p ++ r = (sB 3 ++ dec k) ++ (laneT1 p ++ r) := by simp [laneT, undT]
    rw [e, lex_app (Or.inl o1), (lx_l k hk).1, lx_lane1 h]
    rfl
  | some j =>
    have e : laneT k (some j) p ++ r = (sB 3 ++ dec k) ++ ((sB 4 ++ dec j) ++ (laneT1 p ++ r)) := by simp [laneT, undT]
    rw [e, lex_app (Or.inl (by rw [List.append_assoc]; exact okH_app o4 e4)), lex_app (Or.inl o1), (lx_l k hk).1, (lx_l j (hu j rfl)).2.1, lx_lane1 h]
    rfl
theorem lx_folk {n j : Nat} {g : Nat → Nat} (h : FoOk n g) (hn : n ≤ 5) (hj : j < 6) (r : List Nat) : lexA S0 (folkT j g ++ r) = folkKT j g ++ lexA S0 r := by
  obtain ⟨h0, h1, h2, h3, h4, h5⟩ := h
  obtain ⟨⟨o2, e2⟩, -, -, -, -, -, -, -, -, ⟨oF, eF⟩, ⟨oG, eG⟩, ⟨oH, eH⟩, ⟨oI, eI⟩, -⟩ := ok_c
  obtain ⟨-, -, -, cC, -, -, -, -, cD, -⟩ := lx_c
  have e : folkT j g ++ r = (sB 14 ++ dec j) ++ ((sB 15 ++ dec (g 0)) ++ ((sB 16 ++ dec (g 1)) ++ ((sB 17 ++ dec (g 2)) ++ ((sB 18 ++ dec (g 3)) ++ (sB 2 ++ r))))) := by simp [folkT]
  have w : ∀ {a b t : List Nat}, okH a = true → a ≠ [] → okH ((a ++ b) ++ t) = true := fun h h0 => by
    rw [List.append_assoc]
    exact okH_app h h0
  rw [e, lex_app (Or.inl (w oF eF)), lex_app (Or.inl (w oG eG)), lex_app (Or.inl (w oH eH)), lex_app (Or.inl (w oI eI)), lex_app (Or.inl (okH_app o2 e2)), lex_app (Or.inr cD), lx_f j hj, (lx_l (g 0) (by omega)).2.2.1, (lx_n2 _ (by omega)).1, (lx_n2 _ (by omega)).2.1, (lx_n2 _ (by omega)).2.2.1, cC]
  simp [folkKT]
theorem lx_ord1 {n : Nat} {q : Nat → Nat} (h : RawO n q) (hn : n ≤ 5) (r : List Nat) : lexA S0 (ordT1 q ++ r) = ordK1 q ++ lexA S0 r ∧ okH (ordT1 q ++ r) = true := by
  obtain ⟨h0, h1, h2, h3, h4, h5, h6, h7⟩ := h
  obtain ⟨-, -, -, -, -, -, -, -, -, -, -, -, -, -, ⟨oJ, eJ⟩, ⟨oK, eK⟩⟩ := ok_c
  obtain ⟨-, -, -, -, -, c35, c45, -, -, -, s35, s45⟩ := lx_c
  unfold ordT1 ordK1
  by_cases d : q 0 = 1 ∧ 6 ≤ q 5
  · rw [if_pos d, if_pos d]
    refine ⟨?_, okH_app oK eK⟩
    rw [List.nil_append, List.nil_append, lex_app (Or.inr s45), c45]
  · rw [if_neg d, if_neg d]
    have e : sB 35 ++ tstS (q 5) (q 6) (q 7) ++ sB 45 ++ r = sB 35 ++ (tstS (q 5) (q 6) (q 7) ++ (sB 45 ++ r)) := by simp
    refine ⟨?_, by rw [e]; exact okH_app oJ eJ⟩
    rw [e, lex_app (Or.inr s35), lex_app (Or.inl (okH_app oK eK)), lex_app (Or.inr s45), c35, c45, lx_t _ (by omega) _ (by omega) _ h5]
    simp
theorem lx_ord {n : Nat} {q : Nat → Nat} (h : RawO n q) (hn : n ≤ 5) (r : List Nat) : lexA S0 (ordT q ++ r) = ordKT q ++ lexA S0 r := by
  obtain ⟨a1, a2⟩ := lx_ord1 h hn r
  obtain ⟨h0, h1, h2, h3, h4, h5, h6, h7⟩ := h
  obtain ⟨-, -, -, -, -, -, -, -, -, -, -, -, -, ⟨oJ, eJ⟩, -⟩ := ok_c
  obtain ⟨-, -, -, -, c22, -, -, -, -, s22, -⟩ := lx_c
  have g : lexA S0 (ordT2 q ++ (ordT1 q ++ r)) = ordK2 q ++ (ordK1 q ++ lexA S0 r) ∧ okH (ordT2 q ++ (ordT1 q ++ r)) = true := by
    unfold ordT2 ordK2
    by_cases d : 2 ≤ q 0
    · rw [if_pos d, if_pos d]
      exact ⟨a1, a2⟩
    · rw [if_neg d, if_neg d]
      have e : sB 22 ++ tldS (q 2) (q 3) (q 4) ++ (ordT1 q ++ r) = sB 22 ++ (tldS (q 2) (q 3) (q 4) ++ (ordT1 q ++ r)) := by simp
      refine ⟨?_, by rw [e]; exact okH_app oJ eJ⟩
      rw [e, lex_app (Or.inr s22), lex_app (Or.inl a2), c22, lx_d _ (by omega) _ (by omega) _ h2, a1]
      simp
  have e : ordT q ++ r = (ordT3 q ++ dec (q 1)) ++ (ordT2 q ++ (ordT1 q ++ r)) := by simp [ordT]
  have e3 : lexA S0 (ordT3 q ++ dec (q 1)) = [kT (16 + q 0), lT (q 1)] := by
    obtain ⟨-, -, -, b1, b2, b3⟩ := lx_l (q 1) (by omega)
    unfold ordT3
    have c : q 0 = 0 ∨ q 0 = 1 ∨ q 0 = 2 := by omega
    rcases c with c | c | c <;> rw [c]
    · exact b1
    · exact b2
    · exact b3
  rw [e, lex_app (Or.inl g.2), e3, g.1]
  simp [ordKT]
