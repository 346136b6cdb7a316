/-! ===== the program's tokens: one, and all ===== -/
section SE
variable {N : Nat} {z : Nat → Nat} {x : Hp} {T q : Nat} {l : List Nat} {ts : List Tok}
theorem tkG_i {k : Nat} {v : Int64} {t : List Tok} (h : ((k, v) :: t).all tkG = true) : k ≠ 38 ∧ k ≠ 39 ∧ t.all tkG = true ∧ k < 128 := by
  rw [List.all_cons, Bool.and_eq_true] at h
  obtain ⟨h1, h2⟩ := h
  simp [tkG] at h1
  exact ⟨h1.1.1, h1.1.2, h2, h1.2⟩
theorem token_s (h : TpR x q l) (hl : ∀ c ∈ l, c < 128) (hT : TkL x T ts) (hn : ts.length < 400) {p : Nat} (hp : p < l.length) (hb : l.getD p 0 ≠ 32 ∧ l.getD p 0 ≠ 10) (hG : (lexA S0 (l.drop p)).all tkG = true) (hN : 2001 ≤ N) : ∃ y p' t, f_X9_scanToken N z T (some q) (nI p) x = some (nI p', y) ∧ TkL y T (ts ++ [t]) ∧ Tf x y T ∧ p < p' ∧ p' ≤ l.length ∧ lexA S0 (l.drop p) = t :: lexA S0 (l.drop p') := by
  have h6 := h.2.2.2.2.2.1
  have hc := getD_lt hl p
  have ea := at_s (N := N) (z := z) h hl (p := p) (by omega)
  rw [if_pos hp] at ea
  have kT' : h_k x T = 12 := hT.1.1.1
  have hlen := hT.2.1
  have s0e : ∀ c, step S0 c = step0 c := fun c => by
    unfold step
    rw [if_neg (by simp [S0]), if_neg (by simp [S0]), if_neg (by simp [S0])]
    rfl
  rw [drop_c hp, lexA_c, s0e] at hG ⊢
  have nb : ¬ (l.getD p 0 = 32 ∨ l.getD p 0 = 10) := fun e => e.elim hb.1 hb.2
  unfold f_X9_scanToken
  rw [obj_s h.1, ea, bnd_s, if_neg (show ¬ nI (l.getD p 0) = (-1 : Int32) from fun e => by
    have := congrArg Int32.toInt e
    rw [nI_toInt (by omega)] at this
    have q1 : (-1 : Int32).toInt = -1 := by decide
    rw [q1] at this
    omega), geti_s kT', hlen, if_pos (show nI ts.length < (400 : Int32) from nI_lt (b := 400) hn (by decide)), isA_s hc, bnd_s]
  by_cases a : isA (l.getD p 0) = true
  · rw [if_pos a, if_neg (by decide), obj_s kT']
    have e0 : step0 (l.getD p 0) = ((1, lng 0 (l.getD p 0), 1), []) := by
      unfold step0
      rw [if_neg nb, if_pos a]
    obtain ⟨M, hM⟩ : ∃ M, N = M + 1 := ⟨N - 1, by omega⟩
    obtain ⟨p', v', e1, e2, e3, e4⟩ := word_s (N := N) (z := z) (T := T) (p0 := p) h hl (l.length - (p + 1)) M (p + 1) (lng 0 (l.getD p 0)) (by omega) (by omega) (by omega)
    have ew : f_X9_scanWord N z T (some q) (nI p) x = f_X9_scanWord_b55 N z T (nI p) v' (nI p') x := by
      unfold f_X9_scanWord
      rw [show f_X9_scanWord_b5 N z N = f_X9_scanWord_b5 N z (M + 1) by rw [← hM], f_X9_scanWord_b5, geti_s h.1, h.2.2.2.2.1, if_neg (nI_ge hp (by omega)), obj_s h.1, ea, bnd_s, isA_s hc, bnd_s, if_pos a, if_neg (by decide)]
      unfold f_X9_scanWord_b38
      rw [obj_s h.1, ea, bnd_s, longer_s (by omega), bnd_s, nI_1, e1]
    rw [show p + 1 - p = 1 by omega] at e4
    rw [e0, List.nil_append, e4] at hG ⊢
    have ef : flush (1, v', p' - p) = [(if p' - p ≤ 10 then kwK v' else 39, v')] := rfl
    rw [ef] at hG ⊢
    have g := tkG_i hG
    have c10 : p' - p ≤ 10 := by
      apply Decidable.byContradiction
      intro c
      rw [if_neg c] at g
      exact g.2.1 rfl
    rw [if_pos c10]
    obtain ⟨y, f1, f2, f3⟩ := add_s (N := N) (z := z) (k := kwK v') (st := nI p) (v := v') hT (by omega)
    refine ⟨y, p', (kwK v', v'), ?_, f2, f3, by omega, e3, rfl⟩
    rw [ew]
    unfold f_X9_scanWord_b55 f_X9_kindOfWord f_X9_scanWord_b75
    have ek := kw_s (N := N) (z := z) (v := v') hT.1 34 N 0 (by omega) (by omega)
    rw [Nat.zero_add, List.drop_zero] at ek
    rw [pk_sub (by omega), if_pos (show nI (p' - p) ≤ (10 : Int32) from nI_le (b := 10) c10 (by decide)), obj_s kT', show (0 : Int32) = nI 0 from rfl, ek, bnd_s, obj_s kT']
    have ek2 : nI (kws.findIdx fun w => w == v') = nI (kwK v') := rfl
    rw [ek2, f1, bnd_s, bnd_s]
  · rw [if_neg a, if_pos rfl, isD_s hc, bnd_s]
    by_cases d : isD (l.getD p 0) = true
    · rw [if_pos d, if_neg (by decide), obj_s kT']
      have e0 : step0 (l.getD p 0) = ((2, nmA 0 (l.getD p 0), 1), []) := by
        unfold step0
        rw [if_neg nb, if_neg a, if_pos d]
      obtain ⟨M, hM⟩ : ∃ M, N = M + 1 := ⟨N - 1, by omega⟩
      obtain ⟨p', v', e1, e2, e3, e4⟩ := num_s (N := N) (z := z) (T := T) (p0 := p) h hl (l.length - (p + 1)) M (p + 1) (nmA 0 (l.getD p 0)) (by omega) (by omega) (by omega)
      have ew : f_X9_scanNumber N z T (some q) (nI p) x = f_X9_scanNumber_b49 N z T (nI p) v' (nI p') x := by
        unfold f_X9_scanNumber
        rw [show f_X9_scanNumber_b5 N z N = f_X9_scanNumber_b5 N z (M + 1) by rw [← hM], f_X9_scanNumber_b5, geti_s h.1, h.2.2.2.2.1, if_neg (nI_ge hp (by omega)), obj_s h.1, ea, bnd_s, isD_s hc, bnd_s, if_pos d, if_neg (by decide), obj_s h.1, ea, bnd_s, nI_1]
        exact e1
      rw [show p + 1 - p = 1 by omega] at e4
      rw [e0, List.nil_append, e4] at hG ⊢
      have ef : flush (2, v', p' - p) = [(if p' - p ≤ 6 then 35 else 39, v')] := rfl
      rw [ef] at hG ⊢
      have g := tkG_i hG
      have c6 : p' - p ≤ 6 := by
        apply Decidable.byContradiction
        intro c
        rw [if_neg c] at g
        exact g.2.1 rfl
      rw [if_pos c6]
      obtain ⟨y, f1, f2, f3⟩ := add_s (N := N) (z := z) (k := 35) (st := nI p) (v := v') hT (by omega)
      refine ⟨y, p', (35, v'), ?_, f2, f3, by omega, e3, rfl⟩
      rw [ew]
      unfold f_X9_scanNumber_b49 f_X9_scanNumber_b66
      rw [pk_sub (by omega), if_pos (show nI (p' - p) ≤ (6 : Int32) from nI_le (b := 6) c6 (by decide)), obj_s kT', show (35 : Int32) = nI 35 from rfl, f1, bnd_s, bnd_s]
    · rw [if_neg d, if_pos rfl, obj_s kT']
      unfold f_X9_scanSymbol
      rw [obj_s h.1, ea, bnd_s]
      -- one sign
      have one : ∀ (hs : isSy (l.getD p 0) = true) (rest : List Tok), ∃ y p' t, (bnd (f_X9_scanSymbol_b53 N z T (nI p) (nI (l.getD p 0)) x) fun i10 x9 => some (i10, x9)) = some (nI p', y) ∧ TkL y T (ts ++ [t]) ∧ Tf x y T ∧ p' = p + 1 ∧ (l.getD p 0, (0 : Int64)) :: rest = t :: rest := fun hs rest => by
        obtain ⟨y, f1, f2, f3⟩ := add_s (N := N) (z := z) (k := l.getD p 0) (st := nI p) (v := 0) hT (by omega)
        refine ⟨y, p + 1, (l.getD p 0, 0), ?_, f2, f3, rfl, rfl⟩
        unfold f_X9_scanSymbol_b53 f_X9_scanSymbol_b67
        rw [isS_s hs, bnd_s, if_neg (by decide), obj_s kT', f1, bnd_s, bnd_s, nI_1]
      by_cases c : l.getD p 0 = 60 ∨ l.getD p 0 = 62
      · have e0 : step0 (l.getD p 0) = ((3, 0, l.getD p 0), []) := by
          unfold step0
          rw [if_neg nb, if_neg a, if_neg d, if_pos c]
        have hb18 : (if nI (l.getD p 0) = (60 : Int32) then f_X9_scanSymbol_b18 N z T (some q) (nI p) (nI (l.getD p 0)) x else if nI (l.getD p 0) = (62 : Int32) then f_X9_scanSymbol_b18 N z T (some q) (nI p) (nI (l.getD p 0)) x else f_X9_scanSymbol_b53 N z T (nI p) (nI (l.getD p 0)) x) = f_X9_scanSymbol_b18 N z T (some q) (nI p) (nI (l.getD p 0)) x := by
          rcases c with c | c <;> rw [c]
          · rw [if_pos (show nI 60 = (60 : Int32) from rfl)]
          · rw [if_neg (show ¬ nI 62 = (60 : Int32) by decide), if_pos (show nI 62 = (62 : Int32) from rfl)]
        have hs : isSy (l.getD p 0) = true := by rcases c with c | c <;> rw [c] <;> rfl
        rw [hb18]
        unfold f_X9_scanSymbol_b18
        have ea2 := at_s (N := N) (z := z) h hl (p := p + 1) (by omega)
        rw [obj_s h.1, nI_1, ea2, bnd_s]
        rw [e0, List.nil_append] at hG ⊢
        by_cases d2 : p + 1 < l.length ∧ l.getD (p + 1) 0 = 61
        · rw [if_pos d2.1, if_pos (show nI (l.getD (p + 1) 0) = (61 : Int32) by rw [d2.2]; rfl)]
          rw [drop_c d2.1, lexA_c, d2.2] at hG ⊢
          have es : step (3, 0, l.getD p 0) 61 = (S0, [(if l.getD p 0 = 60 then 36 else 37, 0)]) := by
            unfold step
            rw [if_neg (by simp), if_neg (by simp), if_pos ⟨rfl, rfl⟩]
          rw [es] at hG ⊢
          have fin : ∀ k : Nat, ∃ y p' t, (bnd (f_X9_scanSymbol_b44 N z (nI p) (nI k) (some T) x) fun i10 x9 => some (i10, x9)) = some (nI p', y) ∧ TkL y T (ts ++ [t]) ∧ Tf x y T ∧ p < p' ∧ p' ≤ l.length ∧ [(k, (0 : Int64))] ++ lexA S0 (l.drop (p + 1 + 1)) = t :: lexA S0 (l.drop p') := fun k => by
            obtain ⟨y, f1, f2, f3⟩ := add_s (N := N) (z := z) (k := k) (st := nI p) (v := 0) hT (by omega)
            refine ⟨y, p + 2, (k, 0), ?_, f2, f3, by omega, by omega, rfl⟩
            unfold f_X9_scanSymbol_b44
            rw [obj_s kT', f1, bnd_s, bnd_s, show (2 : Int32) = nI 2 from rfl, nI_add]
          by_cases c60 : l.getD p 0 = 60
          · rw [if_pos (show nI (l.getD p 0) = (60 : Int32) by rw [c60]; rfl), if_pos c60]
            exact fin 36
          · rw [if_neg (show ¬ nI (l.getD p 0) = (60 : Int32) from fun e => c60 ((nI_eq (b := 60) (by omega) (by decide)).mp e)), if_neg c60]
            exact fin 37
        · have hne : ¬ (if p + 1 < l.length then nI (l.getD (p + 1) 0) else -1) = (61 : Int32) := fun e => by
            by_cases e2 : p + 1 < l.length
            · rw [if_pos e2] at e
              have h2 := getD_lt hl (p + 1)
              exact d2 ⟨e2, (nI_eq (b := 61) (by omega) (by decide)).mp e⟩
            · rw [if_neg e2] at e
              exact absurd e (by decide)
          rw [if_neg hne]
          have er : lexA (3, 0, l.getD p 0) (l.drop (p + 1)) = (l.getD p 0, 0) :: lexA S0 (l.drop (p + 1)) := by
            by_cases e2 : p + 1 < l.length
            · rw [drop_c e2, lexA_e]
              · rfl
              · unfold step
                rw [if_neg (by simp), if_neg (by simp), if_neg (fun e => d2 ⟨e2, e.2⟩)]
            · rw [drop_n (show l.length ≤ p + 1 by omega), lexA_n, lexA_n]
              rfl
          rw [er] at hG ⊢
          obtain ⟨y, p', t, o1, o2, o3, o4, o5⟩ := one hs (lexA S0 (l.drop (p + 1)))
          exact ⟨y, p', t, o1, o2, o3, by omega, by omega, by rw [o5, o4]⟩
      · have e0 : step0 (l.getD p 0) = (S0, [(if isSy (l.getD p 0) = true then l.getD p 0 else 39, 0)]) := by
          unfold step0
          rw [if_neg nb, if_neg a, if_neg d, if_neg c]
        rw [e0] at hG ⊢
        have g := tkG_i hG
        have hs : isSy (l.getD p 0) = true := by
          apply Decidable.byContradiction
          intro e
          rw [if_neg e] at g
          exact g.2.1 rfl
        rw [if_pos hs]
        rw [if_neg (show ¬ nI (l.getD p 0) = (60 : Int32) from fun e => c (Or.inl ((nI_eq (b := 60) (by omega) (by decide)).mp e))), if_neg (show ¬ nI (l.getD p 0) = (62 : Int32) from fun e => c (Or.inr ((nI_eq (b := 62) (by omega) (by decide)).mp e)))]
        obtain ⟨y, p', t, o1, o2, o3, o4, o5⟩ := one hs (lexA S0 (l.drop (p + 1)))
        refine ⟨y, p', t, o1, o2, o3, by omega, by omega, ?_⟩
        rw [o4]
        exact o5
/-- all tokens, and the end -/
theorem scan_l (hl : ∀ c ∈ l, c < 128) (hq : q + 2 ≤ T) (hN : 2001 ≤ N) : ∀ (r n p : Nat) (x : Hp) (ts : List Tok), TpR x q l → TkL x T ts → (lexA S0 (l.drop p)).length = r → p ≤ l.length → ts.length + r < 400 → (lexA S0 (l.drop p)).all tkG = true → r + 1 < n → ∃ y, f_X9_scan_b12 N z n T (some q) (nI p) 1 (nI ts.length) x = some ((), y) ∧ TkL y T (ts ++ (lexA S0 (l.drop p) ++ [(38, 0)])) ∧ Tf x y T
  | r, 0, p, x, ts, h, hT, hr, hp, hn, hG, hf => absurd hf (by omega)
  | r, n + 1, p, x, ts, h, hT, hr, hp, hn, hG, hf => by
    have h6 := h.2.2.2.2.2.1
    obtain ⟨p', b1, b2, b3, b4, b5⟩ := blanks_s (N := N) (z := z) h hl (l.length - p) N p (by omega) (by omega)
    have eb : f_X9_behindBlanks N z (some q) (nI p) x = some (nI p', x) := b1
    have kT' : h_k x T = 12 := hT.1.1.1
    rw [f_X9_scan_b12, if_neg (by decide), if_neg (show ¬ (400 : Int32) < nI ts.length from nI_nlt (a := 400) (by omega) (by omega)), eb, bnd_s, obj_s kT']
    by_cases c : p' < l.length
    · rw [b5] at hG hr ⊢
      obtain ⟨y, p2, t, e1, e2, e3, e4, e5, e6⟩ := token_s (N := N) (z := z) h hl hT (by omega) c (b4 c) hG hN
      rw [e6] at hG hr ⊢
      have g := tkG_i (k := t.1) (v := t.2) hG
      rw [List.length_cons] at hr
      obtain ⟨r', hr'⟩ : ∃ r', r = r' + 1 := ⟨r - 1, by omega⟩
      have kT2 : h_k y T = 12 := e2.1.1.1
      have ko := kindOf_s (N := N) (z := z) (j := ts.length) e2 (by simp)
      have kt : ((ts ++ [t]).getD ts.length (0, 0)).1 = t.1 := by simp [List.getD_eq_getElem?_getD]
      rw [kt] at ko
      have tb : t.1 < 2 ^ 31 ∨ True := Or.inr trivial
      obtain ⟨w, f1, f2, f3⟩ := scan_l hl hq hN r' n p2 y (ts ++ [t]) (e3.tp h hq) e2 (by omega) e5 (by simp; omega) g.2.2.1 (by omega)
      refine ⟨w, ?_, by simpa using f2, e3.tr f3⟩
      have h38 : ¬ nI t.1 = (38 : Int32) := fun e => g.1 ((nI_eq (b := 38) (by omega) (by decide)).mp e)
      have h39 : ¬ nI t.1 = (39 : Int32) := fun e => g.2.1 ((nI_eq (b := 39) (by omega) (by decide)).mp e)
      rw [e1, bnd_s, obj_s kT2, ko, bnd_s, if_neg h38, if_neg h39]
      unfold f_X9_scan_b66
      rw [nI_1]
      rw [List.length_append] at f1
      exact f1
    · have ep : p' = l.length := by omega
      rw [b5, drop_n (show l.length ≤ p' by omega)]
      have ea := at_s (N := N) (z := z) h hl (p := p') (by omega)
      rw [if_neg c] at ea
      obtain ⟨y, f1, f2, f3⟩ := add_s (N := N) (z := z) (k := 38) (st := nI p') (v := 0) hT (by omega)
      have tk : f_X9_scanToken N z T (some q) (nI p') x = some (nI p', y) := by
        unfold f_X9_scanToken
        rw [obj_s h.1, ea, bnd_s, if_pos rfl, obj_s kT', show (38 : Int32) = nI 38 from rfl, f1, bnd_s]
      have kT2 : h_k y T = 12 := f2.1.1.1
      have ko := kindOf_s (N := N) (z := z) (j := ts.length) f2 (by simp)
      have kt : ((ts ++ [((38, 0) : Tok)]).getD ts.length (0, 0)).1 = 38 := by simp [List.getD_eq_getElem?_getD]
      rw [kt] at ko
      refine ⟨y, ?_, by rw [lexA_n]; exact f2, f3⟩
      rw [tk, bnd_s, obj_s kT2, ko, bnd_s, if_pos (show nI 38 = (38 : Int32) from rfl)]
      unfold f_X9_scan_b65 f_X9_scan_b66
      obtain ⟨M, hM⟩ : ∃ M, n = M + 1 := ⟨n - 1, by omega⟩
      rw [hM, f_X9_scan_b12, if_pos rfl]
theorem scan_s (h : TpR x q l) (hl : ∀ c ∈ l, c < 128) (hT : TkS x T) (hq : q + 2 ≤ T) (hk : (lexA S0 l).length < 400) (hG : (lexA S0 l).all tkG = true) (hN : 2001 ≤ N) : ∃ y, f_X9_scan N z T (some q) x = some ((), y) ∧ TkL y T (lexA S0 l ++ [(38, 0)]) ∧ Tf x y T := by
  obtain ⟨u, hu⟩ : ∃ u, u = p_i x 224 T 0 := ⟨_, rfl⟩
  have fu : Tf x u T := by rw [hu]; exact ⟨fun b hb => Sm_pi (by omega), rfl, rfl⟩
  have tu : TkL u T [] := by
    obtain ⟨⟨a1, a2, a3, a4, a5, a6, a7, a8, a9, a10, a11, a12, a13⟩, a14⟩ := hT
    rw [hu]
    exact ⟨⟨⟨a1, a2, a3, a4, a5, a6, a7, a8, a9, a10, a11, a12, a13⟩, a14⟩, p_i_eq, by simp, fun j hj => absurd hj (by simp)⟩
  obtain ⟨y, e1, e2, e3⟩ := scan_l (z := z) hl hq hN (lexA S0 l).length N 0 u [] (fu.tp h hq) tu rfl (by omega) (by simp; omega) hG (by omega)
  refine ⟨y, ?_, e2, fu.tr e3⟩
  unfold f_X9_scan
  rw [puti_s hT.1.1, ← hu]
  exact e1
end SE
