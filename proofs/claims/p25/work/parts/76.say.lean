/-! ===== a text is said: twenty bytes at a time onto the tape ===== -/
/-- n bytes from p, the first the highest -/
def wB (l : List Nat) (p : Nat) : Nat → Nat
  | 0 => 0
  | n + 1 => wB l p n * 256 + l.getD (p + n) 0
def pad (l : List Nat) (d : Nat) : List Nat := (List.range d).map fun j => l.getD j 0
theorem pad_len {l : List Nat} {d : Nat} : (pad l d).length = d := by simp [pad]
theorem pad_get {l : List Nat} {d j : Nat} (h : j < d) : (pad l d).getD j 0 = l.getD j 0 := by
  simp [pad, List.getD_eq_getElem?_getD, List.getElem?_map, List.getElem?_range h]
theorem getD_lt {l : List Nat} (h : ∀ c ∈ l, c < 128) (j : Nat) : l.getD j 0 < 128 := by
  by_cases c : j < l.length
  · rw [show l.getD j 0 = l[j] by simp [List.getD_eq_getElem?_getD, c]]
    exact h _ (List.getElem_mem c)
  · rw [show l.getD j 0 = 0 by simp [List.getD_eq_getElem?_getD, Nat.le_of_not_lt c]]
    decide
theorem or_n {v c : Nat} (hv : v < 2 ^ 23) (hc : c < 256) : nI (v * 2 ^ 8) ||| nI c = nI (v * 256 + c) := by
  apply Int32.toBitVec_inj.mp
  apply BitVec.eq_of_toNat_eq
  rw [Int32.toBitVec_or, BitVec.toNat_or, pk_tn (by omega), pk_tn (by omega), pk_tn (by omega)]
  have := Nat.two_pow_add_eq_or_of_lt (i := 8) (show c < 2 ^ 8 by omega) v
  rw [Nat.mul_comm v (2 ^ 8), ← this]
theorem sho {v c : Nat} (hv : v < 2 ^ 23) (hc : c < 256) : (nI v <<< ((8 : Int32) &&& 31)) ||| nI c = nI (v * 256 + c) := by
  rw [pk_shlN (n := v) ((8 : Int32) &&& 31) 8 (by decide) (by omega), or_n hv hc]
theorem byte_m {m : Nat} (h : m < 2 ^ 31) (h2 : m % 256 < 128) : (nI m).toInt8.toInt32 = nI (m % 256) := by
  apply Int32.toInt_inj.mp
  rw [Int8.toInt_toInt32, Int32.toInt_toInt8, nI_toInt h, nI_toInt (by omega), Int.bmod_def]
  rw [if_pos (by omega)]
  omega
theorem byte_k {l : List Nat} {p k i : Nat} (hl : ∀ c ∈ l, c < 128) (s : Int32) (hs : (s.toBitVec.smod 32).toNat = k) (hk : (k = 24 ∧ i = 0) ∨ (k = 16 ∧ i = 1) ∨ (k = 8 ∧ i = 2) ∨ (k = 0 ∧ i = 3)) : ((nI (wB l p 4) >>> s).toInt8.toInt32).toInt8.toInt32 = nI (l.getD (p + i) 0) := by
  have b0 := getD_lt hl (p + 0)
  have b1 := getD_lt hl (p + 1)
  have b2 := getD_lt hl (p + 2)
  have b3 := getD_lt hl (p + 3)
  have e : wB l p 4 = (((l.getD (p + 0) 0) * 256 + l.getD (p + 1) 0) * 256 + l.getD (p + 2) 0) * 256 + l.getD (p + 3) 0 := by
    simp only [wB]
    omega
  rw [e]
  obtain ⟨c0, h0⟩ : ∃ c, c = l.getD (p + 0) 0 := ⟨_, rfl⟩
  obtain ⟨c1, h1⟩ : ∃ c, c = l.getD (p + 1) 0 := ⟨_, rfl⟩
  obtain ⟨c2, h2⟩ : ∃ c, c = l.getD (p + 2) 0 := ⟨_, rfl⟩
  obtain ⟨c3, h3⟩ : ∃ c, c = l.getD (p + 3) 0 := ⟨_, rfl⟩
  rw [← h0] at b0 ⊢
  rw [← h1] at b1 ⊢
  rw [← h2] at b2 ⊢
  rw [← h3] at b3 ⊢
  obtain ⟨W, hW⟩ : ∃ W, W = ((c0 * 256 + c1) * 256 + c2) * 256 + c3 := ⟨_, rfl⟩
  rw [← hW, pk_shrN (n := W) (by omega) s k hs]
  rcases hk with ⟨e1, e2⟩ | ⟨e1, e2⟩ | ⟨e1, e2⟩ | ⟨e1, e2⟩ <;> subst e1 <;> subst e2
  · have q : W / 2 ^ 24 % 256 = c0 := by omega
    rw [byte_m (by omega) (by omega), q, byte_n _ b0, h0]
  · have q : W / 2 ^ 16 % 256 = c1 := by omega
    rw [byte_m (by omega) (by omega), q, byte_n _ b1, h1]
  · have q : W / 2 ^ 8 % 256 = c2 := by omega
    rw [byte_m (by omega) (by omega), q, byte_n _ b2, h2]
  · have q : W / 2 ^ 0 % 256 = c3 := by omega
    rw [byte_m (by omega) (by omega), q, byte_n _ b3, h3]
/-- only the tape and what is above change -/
def Tw (x y : Hp) (t hi : Nat) : Prop := ∀ q, q < hi → q ≠ t → q ≠ t + 1 → Sm y x q
theorem Tw.rf {x : Hp} {t hi : Nat} : Tw x x t hi := fun q _ _ _ => ⟨rfl, rfl, fun _ => rfl, fun _ => rfl, rfl, rfl, rfl⟩
theorem Tw.tr {x y w : Hp} {t hi : Nat} (h : Tw x y t hi) (g : Tw y w t hi) : Tw x w t hi := fun q a b c => (g q a b c).tr (h q a b c)
theorem Tw.lo {x y : Hp} {t hi hi' : Nat} (h : Tw x y t hi) (e : hi' ≤ hi) : Tw x y t hi' := fun q a b c => h q (by omega) b c
theorem Tw.str {x y : Hp} {t hi a v : Nat} {l : List Nat} (g : Tw x y t hi) (h : StrR x a v l) (ha : a < hi ∧ v < hi ∧ t + 1 < a ∧ t + 1 < v) : StrR y a v l := by
  obtain ⟨p1, p2, p3, p4, p5, p6, p7, p8⟩ := h
  have ga := g a ha.1 (by omega) (by omega)
  have gv := g v ha.2.1 (by omega) (by omega)
  exact ⟨by rw [ga.1]; exact p1, (ga.2.2.1 1).trans p2, (ga.2.2.2.1 0).trans p3, by rw [gv.1]; exact p4, gv.2.1.trans p5, p6, p7, fun j hj => by rw [gv.2.2.2.2.1]; exact p8 j hj⟩
/-- a row of five words, i bytes of twenty in -/
def FiR (x : Hp) (q d i : Nat) (l : List Nat) : Prop := h_k x q = 101 ∧ h_n x q = 5 ∧ ∀ g, g < 5 → h_ai x q g = nI (wB l (d + 4 * g) (min (i - 4 * g) 4))
theorem wB_lt {l : List Nat} (hl : ∀ c ∈ l, c < 128) {p n : Nat} (h : n ≤ 3) : wB l p n < 2 ^ 23 := by
  have b0 := getD_lt hl (p + 0)
  have b1 := getD_lt hl (p + 1)
  have b2 := getD_lt hl (p + 2)
  have c : n = 0 ∨ n = 1 ∨ n = 2 ∨ n = 3 := by omega
  rcases c with c | c | c | c <;> subst c <;> simp only [wB] <;> omega
section SY
variable {N : Nat} {z : Nat → Nat}
theorem app_1 {x : Hp} {q d : Nat} {l : List Nat} {v : Int32} {s : Int32} {k i : Nat} (h : TpR x q (pad l (d + i))) (hl : ∀ c ∈ l, c < 128) (hd : d + i < 2000) (hv : v = nI (wB l d 4)) (hs : (s.toBitVec.smod 32).toNat = k) (hk : (k = 24 ∧ i = 0) ∨ (k = 16 ∧ i = 1) ∨ (k = 8 ∧ i = 2) ∨ (k = 0 ∧ i = 3)) : TpR (p_i (p_ai x (q + 1) (d + i) ((v >>> s).toInt8.toInt32).toInt8.toInt32) 201 q (nI (d + i + 1))) q (pad l (d + i + 1)) := by
  obtain ⟨a1, a2, a3, a4, a5, a6, a7⟩ := h
  subst hv
  refine ⟨a1, a2, a3, a4, ?_, ?_, fun j hj => ?_⟩
  · rw [p_i_eq, pad_len]
  · rw [pad_len]; omega
  · rw [pad_len] at hj
    rw [pad_get hj]
    show h_ai (p_ai x (q + 1) (d + i) _) (q + 1) j = _
    simp only [HPAI]
    by_cases c : j = d + i
    · rw [if_pos ⟨trivial, c⟩, byte_k hl s hs hk, c]
    · rw [if_neg (fun e => c e.2)]
      rw [pad_len] at a7
      rw [a7 j (by omega), pad_get (by omega)]
theorem app_s {x : Hp} {q d : Nat} {l : List Nat} (h : TpR x q (pad l d)) (hl : ∀ c ∈ l, c < 128) (hd : d + 4 ≤ 2000) (hN : 6 ≤ N) : ∃ y, f_X8_append N z q (nI (wB l d 4)) x = some ((), y) ∧ TpR y q (pad l (d + 4)) ∧ (∀ b, b ≠ q → b ≠ q + 1 → Sm y x b) ∧ h_sz y = h_sz x ∧ h_sl y = h_sl x := by
  have step : ∀ (i n : Nat) (x : Hp) (s s' : Int32) (k : Nat), TpR x q (pad l (d + i)) → d + i < 2000 → ¬ s < 0 → s + (-8 : Int32) = s' → ((s &&& 31).toBitVec.smod 32).toNat = k → ((k = 24 ∧ i = 0) ∨ (k = 16 ∧ i = 1) ∨ (k = 8 ∧ i = 2) ∨ (k = 0 ∧ i = 3)) → ∃ y, f_X8_append_b3 N z (n + 1) q (nI (wB l d 4)) s x = f_X8_append_b3 N z n q (nI (wB l d 4)) s' y ∧ TpR y q (pad l (d + i + 1)) ∧ (∀ b, b ≠ q → b ≠ q + 1 → Sm y x b) ∧ h_sz y = h_sz x ∧ h_sl y = h_sl x := fun i n x s s' k h hdi h0 h8 hs hk => by
    have g := app_1 h hl hdi rfl hs hk
    obtain ⟨a1, a2, a3, a4, a5, a6, a7⟩ := h
    rw [pad_len] at a5
    refine ⟨_, ?_, g, fun b h1 h2 => (Sm_pi h1).tr (Sm_pai h2), rfl, rfl⟩
    rw [f_X8_append_b3, if_neg h0, geti_s a1, a5, if_neg (nI_pos (by omega)), geti_s a1, a5, getr_s a1, a2, alen_s a3, a4, if_neg (nI_ge (by omega) (by omega)), getr_s a1, a2, geti_s a1, a5, asti_s a3 (by omega) (by omega), geti_s (by exact a1)]
    rw [show h_i (p_ai x (q + 1) (d + i) ((nI (wB l d 4) >>> (s &&& 31)).toInt8.toInt32).toInt8.toInt32) 201 q = nI (d + i) from a5, nI_1, puti_s (by exact a1)]
    unfold f_X8_append_b49
    rw [h8]
  obtain ⟨M, hM⟩ : ∃ M, N = M + 5 := ⟨N - 5, by omega⟩
  obtain ⟨y1, e1, t1, s1, z1, w1⟩ := step 0 (M + 4) x 24 16 24 h (by omega) (by decide) (by decide) (by decide) (by omega)
  obtain ⟨y2, e2, t2, s2, z2, w2⟩ := step 1 (M + 3) y1 16 8 16 t1 (by omega) (by decide) (by decide) (by decide) (by omega)
  obtain ⟨y3, e3, t3, s3, z3, w3⟩ := step 2 (M + 2) y2 8 0 8 t2 (by omega) (by decide) (by decide) (by decide) (by omega)
  obtain ⟨y4, e4, t4, s4, z4, w4⟩ := step 3 (M + 1) y3 0 (-8) 0 t3 (by omega) (by decide) (by decide) (by decide) (by omega)
  refine ⟨y4, ?_, t4, fun b h1 h2 => (s4 b h1 h2).tr ((s3 b h1 h2).tr ((s2 b h1 h2).tr (s1 b h1 h2))), by omega, by omega⟩
  unfold f_X8_append
  have e5 : f_X8_append_b3 N z (M + 1) q (nI (wB l d 4)) (-8) y4 = some ((), y4) := by
    rw [f_X8_append_b3, if_pos (by decide)]
  rw [show f_X8_append_b3 N z N = f_X8_append_b3 N z (M + 5) by rw [hM], e1, e2, e3, e4, e5]
end SY
