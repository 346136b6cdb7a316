/-! ===== the program's tokens: words, numbers, signs, all ===== -/
section SD
variable {N : Nat} {z : Nat → Nat} {x : Hp} {T q : Nat} {l : List Nat} {ts : List Tok}
theorem drop_c {p : Nat} (h : p < l.length) : l.drop p = l.getD p 0 :: l.drop (p + 1) := by
  rw [List.drop_eq_getElem_cons h]
  simp [List.getD_eq_getElem?_getD, h]
theorem drop_n {p : Nat} (h : l.length ≤ p) : l.drop p = [] := List.drop_eq_nil_of_le h
theorem lexA_c {s : LxSt} {c : Nat} {r : List Nat} : lexA s (c :: r) = (step s c).2 ++ lexA (step s c).1 r := by simp [lexA, run]
theorem lexA_n {s : LxSt} : lexA s [] = flush s := by simp [lexA, run]
/-- where a token ends, the rest is read anew -/
theorem lexA_e {s : LxSt} {c : Nat} {r : List Nat} (h : step s c = ((step0 c).1, flush s ++ (step0 c).2)) : lexA s (c :: r) = flush s ++ lexA S0 (c :: r) := by
  have e : step S0 c = ((step0 c).1, flush S0 ++ (step0 c).2) := by
    unfold step
    rw [if_neg (by simp [S0]), if_neg (by simp [S0]), if_neg (by simp [S0])]
  rw [lexA_c, lexA_c, h, e]
  simp [show flush S0 = [] from rfl]
theorem blanks_s (h : TpR x q l) (hl : ∀ c ∈ l, c < 128) : ∀ (r n p : Nat), p + r = l.length → r < n → ∃ p', f_X9_behindBlanks_b2 N z n (some q) (nI p) x = some (nI p', x) ∧ p ≤ p' ∧ p' ≤ l.length ∧ (p' < l.length → l.getD p' 0 ≠ 32 ∧ l.getD p' 0 ≠ 10) ∧ lexA S0 (l.drop p) = lexA S0 (l.drop p')
  | r, 0, p, hp, hn => absurd hn (by omega)
  | 0, n + 1, p, hp, hn => by
    have h6 := h.2.2.2.2.2.1
    refine ⟨p, ?_, Nat.le_refl _, by omega, fun c => absurd c (by omega), rfl⟩
    rw [f_X9_behindBlanks_b2, geti_s h.1, h.2.2.2.2.1, if_pos (nI_le (by omega) (by omega))]
  | r + 1, n + 1, p, hp, hn => by
    have h6 := h.2.2.2.2.2.1
    have hpl : p < l.length := by omega
    have hc := getD_lt hl p
    have ea := at_s (N := N) (z := z) h hl (p := p) (by omega)
    rw [if_pos hpl] at ea
    have go : (l.getD p 0 = 32 ∨ l.getD p 0 = 10) → ∃ p', f_X9_behindBlanks_b30 N z (f_X9_behindBlanks_b2 N z n) (some q) (nI p) x = some (nI p', x) ∧ p ≤ p' ∧ p' ≤ l.length ∧ (p' < l.length → l.getD p' 0 ≠ 32 ∧ l.getD p' 0 ≠ 10) ∧ lexA S0 (l.drop p) = lexA S0 (l.drop p') := fun hb => by
      obtain ⟨p', e1, e2, e3, e4, e5⟩ := blanks_s h hl r n (p + 1) (by omega) (by omega)
      refine ⟨p', ?_, by omega, e3, e4, ?_⟩
      · unfold f_X9_behindBlanks_b30
        rw [nI_1, e1]
      · rw [drop_c hpl, lexA_c, ← e5]
        have es : step S0 (l.getD p 0) = (S0, []) := by
          unfold step
          rw [if_neg (by simp [S0]), if_neg (by simp [S0]), if_neg (by simp [S0])]
          unfold step0
          rw [if_pos hb]
          rfl
        rw [es]
        rfl
    rw [f_X9_behindBlanks_b2, geti_s h.1, h.2.2.2.2.1, if_neg (nI_ge hpl (by omega)), obj_s h.1, ea, bnd_s]
    by_cases c : l.getD p 0 = 32
    · rw [if_pos (show nI (l.getD p 0) = 32 by rw [c]; rfl)]
      exact go (Or.inl c)
    · rw [if_neg (show ¬ nI (l.getD p 0) = (32 : Int32) from fun e => c ((nI_eq (b := 32) (by omega) (by decide)).mp e)), obj_s h.1, ea, bnd_s]
      by_cases d : l.getD p 0 = 10
      · rw [if_pos (show nI (l.getD p 0) = 10 by rw [d]; rfl)]
        exact go (Or.inr d)
      · rw [if_neg (show ¬ nI (l.getD p 0) = (10 : Int32) from fun e => d ((nI_eq (b := 10) (by omega) (by decide)).mp e))]
        exact ⟨p, rfl, Nat.le_refl _, by omega, fun _ => ⟨c, d⟩, rfl⟩
theorem word_s (h : TpR x q l) (hl : ∀ c ∈ l, c < 128) {p0 : Nat} : ∀ (r n p : Nat) (v : Int64), p + r = l.length → p0 ≤ p → r < n → ∃ p' v', f_X9_scanWord_b5 N z n T (some q) (nI p0) v (nI p) x = f_X9_scanWord_b55 N z T (nI p0) v' (nI p') x ∧ p ≤ p' ∧ p' ≤ l.length ∧ lexA (1, v, p - p0) (l.drop p) = flush (1, v', p' - p0) ++ lexA S0 (l.drop p')
  | r, 0, p, v, hp, h0, hn => absurd hn (by omega)
  | 0, n + 1, p, v, hp, h0, hn => by
    have h6 := h.2.2.2.2.2.1
    refine ⟨p, v, ?_, Nat.le_refl _, by omega, ?_⟩
    · rw [f_X9_scanWord_b5, geti_s h.1, h.2.2.2.2.1, if_pos (nI_le (by omega) (by omega))]
    · rw [drop_n (show l.length ≤ p by omega), lexA_n, lexA_n]
      simp [show flush S0 = [] from rfl]
  | r + 1, n + 1, p, v, hp, h0, hn => by
    have h6 := h.2.2.2.2.2.1
    have hpl : p < l.length := by omega
    have hc := getD_lt hl p
    have ea := at_s (N := N) (z := z) h hl (p := p) (by omega)
    rw [if_pos hpl] at ea
    have go : (isA (l.getD p 0) = true ∨ isD (l.getD p 0) = true) → ∃ p' v', f_X9_scanWord_b38 N z (f_X9_scanWord_b5 N z n) T (some q) (nI p0) v (nI p) x = f_X9_scanWord_b55 N z T (nI p0) v' (nI p') x ∧ p ≤ p' ∧ p' ≤ l.length ∧ lexA (1, v, p - p0) (l.drop p) = flush (1, v', p' - p0) ++ lexA S0 (l.drop p') := fun hb => by
      obtain ⟨p', v', e1, e2, e3, e4⟩ := word_s (p0 := p0) h hl r n (p + 1) (lng v (l.getD p 0)) (by omega) (by omega) (by omega)
      refine ⟨p', v', ?_, by omega, e3, ?_⟩
      · unfold f_X9_scanWord_b38
        rw [obj_s h.1, ea, bnd_s, longer_s (by omega), bnd_s, nI_1, e1]
      · rw [drop_c hpl, lexA_c, ← e4]
        have es : step (1, v, p - p0) (l.getD p 0) = ((1, lng v (l.getD p 0), p - p0 + 1), []) := by
          unfold step
          rw [if_pos ⟨rfl, hb⟩]
        rw [es, show p + 1 - p0 = p - p0 + 1 by omega]
        rfl
    rw [f_X9_scanWord_b5, geti_s h.1, h.2.2.2.2.1, if_neg (nI_ge hpl (by omega)), obj_s h.1, ea, bnd_s, isA_s hc, bnd_s]
    by_cases a : isA (l.getD p 0) = true
    · rw [if_pos a, if_neg (by decide)]
      exact go (Or.inl a)
    · rw [if_neg a, if_pos rfl, obj_s h.1, ea, bnd_s, isD_s hc, bnd_s]
      by_cases d : isD (l.getD p 0) = true
      · rw [if_pos d, if_neg (by decide)]
        exact go (Or.inr d)
      · rw [if_neg d, if_pos rfl]
        refine ⟨p, v, rfl, Nat.le_refl _, by omega, ?_⟩
        rw [drop_c hpl, lexA_e]
        unfold step
        rw [if_neg (by rintro ⟨_, b | b⟩; exact a b; exact d b), if_neg (by simp), if_neg (by simp)]
theorem num_s (h : TpR x q l) (hl : ∀ c ∈ l, c < 128) {p0 : Nat} : ∀ (r n p : Nat) (v : Int64), p + r = l.length → p0 ≤ p → r < n → ∃ p' v', f_X9_scanNumber_b5 N z n T (some q) (nI p0) v (nI p) x = f_X9_scanNumber_b49 N z T (nI p0) v' (nI p') x ∧ p ≤ p' ∧ p' ≤ l.length ∧ lexA (2, v, p - p0) (l.drop p) = flush (2, v', p' - p0) ++ lexA S0 (l.drop p')
  | r, 0, p, v, hp, h0, hn => absurd hn (by omega)
  | 0, n + 1, p, v, hp, h0, hn => by
    have h6 := h.2.2.2.2.2.1
    refine ⟨p, v, ?_, Nat.le_refl _, by omega, ?_⟩
    · rw [f_X9_scanNumber_b5, geti_s h.1, h.2.2.2.2.1, if_pos (nI_le (by omega) (by omega))]
    · rw [drop_n (show l.length ≤ p by omega), lexA_n, lexA_n]
      simp [show flush S0 = [] from rfl]
  | r + 1, n + 1, p, v, hp, h0, hn => by
    have h6 := h.2.2.2.2.2.1
    have hpl : p < l.length := by omega
    have hc := getD_lt hl p
    have ea := at_s (N := N) (z := z) h hl (p := p) (by omega)
    rw [if_pos hpl] at ea
    rw [f_X9_scanNumber_b5, geti_s h.1, h.2.2.2.2.1, if_neg (nI_ge hpl (by omega)), obj_s h.1, ea, bnd_s, isD_s hc, bnd_s]
    by_cases d : isD (l.getD p 0) = true
    · rw [if_pos d, if_neg (by decide), obj_s h.1, ea, bnd_s, nI_1]
      obtain ⟨p', v', e1, e2, e3, e4⟩ := num_s (p0 := p0) h hl r n (p + 1) (nmA v (l.getD p 0)) (by omega) (by omega) (by omega)
      refine ⟨p', v', e1, by omega, e3, ?_⟩
      rw [drop_c hpl, lexA_c, ← e4]
      have es : step (2, v, p - p0) (l.getD p 0) = ((2, nmA v (l.getD p 0), p - p0 + 1), []) := by
        unfold step
        rw [if_neg (by simp), if_pos ⟨rfl, d⟩]
      rw [es, show p + 1 - p0 = p - p0 + 1 by omega]
      rfl
    · rw [if_neg d, if_pos rfl]
      refine ⟨p, v, rfl, Nat.le_refl _, by omega, ?_⟩
      rw [drop_c hpl, lexA_e]
      unfold step
      rw [if_neg (by simp), if_neg (fun e => d e.2), if_neg (by simp)]
end SD
