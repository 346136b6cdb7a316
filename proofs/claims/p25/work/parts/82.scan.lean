/-! ===== the program's tokens are those ===== -/
theorem lgc0 {a b : Int64} : lg_cmp a b = 0 ↔ a = b := by
  unfold lg_cmp
  simp only [gt_iff_lt, Int64.lt_iff_toInt_lt, ← Int64.toInt_inj]
  split
  · rename_i h
    exact ⟨fun q => absurd q (by decide), fun q => by omega⟩
  · split
    · rename_i h
      exact ⟨fun _ => h, fun _ => rfl⟩
    · rename_i h
      exact ⟨fun q => absurd q (by decide), fun q => absurd q h⟩
def TkL (x : Hp) (T : Nat) (ts : List Tok) : Prop := TkS x T ∧ h_i x 224 T = nI ts.length ∧ ts.length ≤ 401 ∧ ∀ j, j < ts.length → h_ai x (T + 2) j = nI (ts.getD j (0, 0)).1 ∧ h_ai x (T + 3) j = h_ai x (T + 3) j ∧ h_al x (T + 4) j = (ts.getD j (0, 0)).2
/-- only the tokens change -/
def Tf (x y : Hp) (T : Nat) : Prop := (∀ b, b < T ∨ T + 5 ≤ b → Sm y x b) ∧ h_sz y = h_sz x ∧ h_sl y = h_sl x
theorem Tf.rf {x : Hp} {T : Nat} : Tf x x T := ⟨fun _ _ => ⟨rfl, rfl, fun _ => rfl, fun _ => rfl, rfl, rfl, rfl⟩, rfl, rfl⟩
theorem Tf.tr {x y w : Hp} {T : Nat} (h : Tf x y T) (g : Tf y w T) : Tf x w T := ⟨fun b hb => (g.1 b hb).tr (h.1 b hb), g.2.1.trans h.2.1, g.2.2.trans h.2.2⟩
theorem Tf.tp {x y : Hp} {T q : Nat} {l : List Nat} (g : Tf x y T) (h : TpR x q l) (hq : q + 2 ≤ T) : TpR y q l := h.ag (lo := 0) (hi := T) (fun b _ hb => g.1 b (Or.inl hb)) ⟨by omega, hq⟩
theorem isA_s {N : Nat} {z : Nat → Nat} {x : Hp} {c : Nat} (hc : c < 128) : f_X9_isLetter N z (nI c) x = some (if isA c = true then 1 else 0, x) := by
  unfold f_X9_isLetter isA
  by_cases a : c < 97
  · rw [if_pos (show nI c < (97 : Int32) from nI_lt (b := 97) a (by omega)), if_neg (by simp; omega)]
  · rw [if_neg (show ¬ nI c < (97 : Int32) from nI_nlt (b := 97) (by omega) (by omega))]
    by_cases b : 122 < c
    · rw [if_pos (show (122 : Int32) < nI c from nI_lt (a := 122) b (by omega)), if_neg (by simp; omega)]
    · rw [if_neg (show ¬ (122 : Int32) < nI c from nI_nlt (a := 122) (by omega) (by omega)), if_pos (by simp; omega)]
theorem isD_s {N : Nat} {z : Nat → Nat} {x : Hp} {c : Nat} (hc : c < 128) : f_X9_isDigit N z (nI c) x = some (if isD c = true then 1 else 0, x) := by
  have e : dgt c = isD c := by
    unfold dgt isD
    simp
  rw [isDigit_s (by omega), e]
theorem isS_s {N : Nat} {z : Nat → Nat} {x : Hp} {c : Nat} (h : isSy c = true) : f_X9_isSymbol N z (nI c) x = some (1, x) := by
  simp [isSy] at h
  rcases h with (((((((((((h | h) | h) | h) | h) | h) | h) | h) | h) | h) | h) | h) | h <;> subst h <;> rfl
section SC
variable {N : Nat} {z : Nat → Nat} {x : Hp} {T q : Nat} {l : List Nat} {ts : List Tok}
theorem at_s {p : Nat} (h : TpR x q l) (hl : ∀ c ∈ l, c < 128) (hp : p < 2 ^ 20) : f_X8_at N z q (nI p) x = some (if p < l.length then nI (l.getD p 0) else -1, x) := by
  obtain ⟨a1, a2, a3, a4, a5, a6, a7⟩ := h
  unfold f_X8_at
  rw [if_neg (nI_pos (by omega)), geti_s a1, a5]
  by_cases c : p < l.length
  · have b := getD_lt hl p
    rw [if_neg (nI_ge c (by omega)), getr_s a1, a2, alen_s a3, a4, if_neg (nI_ge (by omega) (by omega))]
    unfold f_X8_at_b26
    rw [if_neg (by decide), getr_s a1, a2, aldi_s a3 (by omega) (by omega), a7 p c, if_pos c, pk_andN (by omega) (m := (255 : Int32)) 8 (by decide), Nat.mod_eq_of_lt (show l.getD p 0 < 2 ^ 8 by omega)]
  · rw [if_pos (nI_le (by omega) (by omega)), if_neg c]
    unfold f_X8_at_b25 f_X8_at_b26
    rw [if_pos rfl]
theorem tk_len (h : TpR x q l) : geti (some q) x 11 201 = fun (k : Int32 → Option (Int32 × Hp)) => k (nI l.length) := by
  funext k
  rw [geti_s h.1, h.2.2.2.2.1]
/-- a token is put behind -/
theorem add_s {k : Nat} {st : Int32} {v : Int64} (h : TkL x T ts) (hn : ts.length < 401) : ∃ y, f_X9_add N z T (nI k) st v x = some ((), y) ∧ TkL y T (ts ++ [(k, v)]) ∧ Tf x y T := by
  obtain ⟨⟨⟨a1, a2, a3, a4, a5, a6, a7, a8, a9, a10, a11, a12, a13⟩, a14⟩, b1, b2, b3⟩ := h
  obtain ⟨u, hu⟩ : ∃ u, u = p_al (p_ai (p_ai x (T + 2) ts.length (nI k)) (T + 3) ts.length st) (T + 4) ts.length v := ⟨_, rfl⟩
  have k1 : h_k u T = 12 := by rw [hu]; exact a1
  refine ⟨p_i u 224 T (nI (ts.length + 1)), ?_, ⟨⟨⟨k1, ?_, ?_, ?_, ?_, ?_, ?_, ?_, ?_, ?_, ?_, ?_, ?_⟩, fun i hi => ?_⟩, ?_, ?_, fun j hj => ⟨?_, rfl, ?_⟩⟩, fun b hb => ?_, ?_, ?_⟩
  · unfold f_X9_add
    rw [geti_s a1, b1, if_neg (nI_pos (by omega)), geti_s a1, b1, getr_s a1, a3, alen_s a8, a9, if_neg (nI_ge (by omega) (by omega)), geti_s a1, b1, getr_s a1, a4, alen_s a10, a11, if_neg (nI_ge (by omega) (by omega)), geti_s a1, b1, getr_s a1, a5, alen_s a12, a13, if_neg (nI_ge (by omega) (by omega)), getr_s a1, a3, geti_s a1, b1, asti_s a8 (by omega) (by omega), getr_s (by exact a1)]
    rw [show h_r (p_ai x (T + 2) ts.length (nI k)) 222 T = some (T + 3) from a4, geti_s (by exact a1), show h_i (p_ai x (T + 2) ts.length (nI k)) 224 T = nI ts.length from b1, asti_s (by exact a10) (by show ts.length < h_n x (T + 3); omega) (by show h_n x (T + 3) < _; omega), getr_s (by exact a1)]
    rw [show h_r (p_ai (p_ai x (T + 2) ts.length (nI k)) (T + 3) ts.length st) 223 T = some (T + 4) from a5, geti_s (by exact a1), show h_i (p_ai (p_ai x (T + 2) ts.length (nI k)) (T + 3) ts.length st) 224 T = nI ts.length from b1, astl_s (by exact a12) (by show ts.length < h_n x (T + 4); omega) (by show h_n x (T + 4) < _; omega), ← hu, geti_s k1, show h_i u 224 T = nI ts.length by rw [hu]; exact b1, nI_1, puti_s k1]
  · show h_r u 220 T = _; rw [hu]; exact a2
  · show h_r u 221 T = _; rw [hu]; exact a3
  · show h_r u 222 T = _; rw [hu]; exact a4
  · show h_r u 223 T = _; rw [hu]; exact a5
  · show h_k u (T + 1) = _; rw [hu]; exact a6
  · show h_n u (T + 1) = _; rw [hu]; exact a7
  · show h_k u (T + 2) = _; rw [hu]; exact a8
  · show h_n u (T + 2) = _; rw [hu]; exact a9
  · show h_k u (T + 3) = _; rw [hu]; exact a10
  · show h_n u (T + 3) = _; rw [hu]; exact a11
  · show h_k u (T + 4) = _; rw [hu]; exact a12
  · show h_n u (T + 4) = _; rw [hu]; exact a13
  · show h_al u (T + 1) i = _
    rw [hu]
    simp only [HPAL]
    rw [if_neg (fun e => absurd e.1 (by omega))]
    exact a14 i hi
  · rw [p_i_eq, List.length_append]; rfl
  · rw [List.length_append]; simp; omega
  · show h_ai u (T + 2) j = _
    rw [hu]
    simp only [HPAI]
    rw [List.length_append] at hj
    simp at hj
    rw [if_neg (fun e => absurd e.1 (by omega))]
    by_cases c : j = ts.length
    · rw [if_pos ⟨trivial, c⟩, c]
      simp [List.getD_eq_getElem?_getD]
    · rw [if_neg (fun e => c e.2), (b3 j (by omega)).1]
      simp [List.getD_eq_getElem?_getD, List.getElem?_append_left (show j < ts.length by omega)]
  · show h_al u (T + 4) j = _
    rw [hu]
    simp only [HPAL]
    rw [List.length_append] at hj
    simp at hj
    by_cases c : j = ts.length
    · rw [if_pos ⟨trivial, c⟩, c]
      simp [List.getD_eq_getElem?_getD]
    · rw [if_neg (fun e => c e.2), (b3 j (by omega)).2.2]
      simp [List.getD_eq_getElem?_getD, List.getElem?_append_left (show j < ts.length by omega)]
  · rw [hu]
    exact (Sm_pi (by omega) : Sm (p_i _ 224 T _) _ b).tr ((Sm_pal (by omega)).tr ((Sm_pai (by omega)).tr (Sm_pai (by omega))))
  · show h_sz u = _; rw [hu]; rfl
  · show h_sl u = _; rw [hu]; rfl
/-- the kind of a word -/
theorem kw_s {v : Int64} (h : TkS x T) : ∀ (r n i : Nat), i + r = 34 → r < n → f_X9_kindOfWord_b2 N z n T v (nI i) x = some (nI (i + (kws.drop i).findIdx fun w => w == v), x)
  | r, 0, i, hi, hn => absurd hn (by omega)
  | 0, n + 1, i, hi, hn => by
    obtain ⟨⟨a1, a2, a3, a4, a5, a6, a7, a8⟩, a14⟩ := h
    have hl := kws_len
    have e : i = 34 := by omega
    subst e
    rw [f_X9_kindOfWord_b2, getr_s a1, a2, alen_s a6, a7, if_pos (nI_le (by omega) (by omega)), List.drop_eq_nil_of_le (by omega)]
    rfl
  | r + 1, n + 1, i, hi, hn => by
    have ih := kw_s (v := v) h r n (i + 1) (by omega) (by omega)
    obtain ⟨⟨a1, a2, a3, a4, a5, a6, a7, a8⟩, a14⟩ := h
    have hl := kws_len
    have hil : i < kws.length := by omega
    have ed : kws.drop i = kws[i] :: kws.drop (i + 1) := List.drop_eq_getElem_cons hil
    have eg : kws.getD i 0 = kws[i] := by simp [List.getD_eq_getElem?_getD, hil]
    rw [f_X9_kindOfWord_b2, getr_s a1, a2, alen_s a6, a7, if_neg (nI_ge (by omega) (by omega)), getr_s a1, a2, aldl_s a6 (by omega) (by omega), a14 i (by omega), eg, ed, List.findIdx_cons]
    by_cases c : kws[i] = v
    · rw [if_pos (lgc0.mpr c), show (kws[i] == v) = true by simp [c]]
      rfl
    · rw [if_neg (fun e => c (lgc0.mp e)), nI_1, ih, show (kws[i] == v) = false by simp [c]]
      rw [show i + 1 + (kws.drop (i + 1)).findIdx (fun w => w == v) = i + ((kws.drop (i + 1)).findIdx (fun w => w == v) + 1) by omega]
      rfl
theorem kindOf_s {j : Nat} (h : TkL x T ts) (hj : j < ts.length) : f_X9_kindOf N z T (nI j) x = some (nI (ts.getD j (0, 0)).1, x) := by
  obtain ⟨⟨⟨a1, a2, a3, a4, a5, a6, a7, a8, a9, a10, a11, a12, a13⟩, a14⟩, b1, b2, b3⟩ := h
  unfold f_X9_kindOf
  rw [if_neg (nI_pos (by omega)), geti_s a1, b1, if_neg (nI_ge (by omega) (by omega)), getr_s a1, a3, alen_s a8, a9, if_neg (nI_ge (by omega) (by omega)), getr_s a1, a3, aldi_s a8 (by omega) (by omega), (b3 j hj).1]
theorem valueOf_s {j : Nat} (h : TkL x T ts) (hj : j < ts.length) : f_X9_valueOf N z T (nI j) x = some ((ts.getD j (0, 0)).2, x) := by
  obtain ⟨⟨⟨a1, a2, a3, a4, a5, a6, a7, a8, a9, a10, a11, a12, a13⟩, a14⟩, b1, b2, b3⟩ := h
  unfold f_X9_valueOf
  rw [if_neg (nI_pos (by omega)), geti_s a1, b1, if_neg (nI_ge (by omega) (by omega)), getr_s a1, a5, alen_s a12, a13, if_neg (nI_ge (by omega) (by omega)), getr_s a1, a5, aldl_s a12 (by omega) (by omega), (b3 j hj).2.2]
end SC
