/-! ===== what cells choose ===== -/
def laneA0 (k : Nat) (p : Nat → Nat) : Nat → Int32 := fun f => if f = 80 then nI k else if f = 83 then nI (p 0) else if f = 84 then nI (p 1) else if f = 85 then nI (p 2) else if f = 91 then nI (p 2) else if f = 92 then nI (p 3) else if f = 93 then nI (p 4) else if f = 94 then nI (p 5) else 0
def folkF0 (g : Nat → Nat) : Nat → Int32 := fun f => if f = 60 then nI (g 0) else if f = 61 then nI (g 1) else if f = 63 then nI (g 2) else if f = 64 then nI (g 3) else 0
def mdV (w n mm : Nat) : Nat → Int32 := fun f => if f = 162 then nI w else if f = 163 then nI n else if f = 164 then nI mm else 0
def mdOf (w n mm : Nat) (P : Nat → Nat → Nat) (O : Nat → Option Nat) (G : Nat → Nat → Nat) : Md := (fun k => laneA0 k (P k), fun _ => [], O, fun j => folkF0 (G j), mdV w n mm, n, mm)
def LnOk (p : Nat → Nat) : Prop := p 0 ≤ 30 ∧ p 1 ≤ 30 ∧ p 2 ≤ 99 ∧ p 3 ≤ 3 ∧ 1 ≤ p 4 ∧ p 4 ≤ 60 ∧ p 5 ≤ 1
def FoOk (n : Nat) (g : Nat → Nat) : Prop := g 0 < n ∧ 1 ≤ g 1 ∧ g 1 ≤ 30 ∧ 1 ≤ g 2 ∧ g 2 ≤ 30 ∧ g 3 ≤ 99
section CH
variable {N : Nat} {z : Nat → Nat}
/-- only numbers of the object a are written -/
def PI (x y : Hp) (a : Nat) : Prop := h_k y = h_k x ∧ h_n y = h_n x ∧ h_r y = h_r x ∧ h_ai y = h_ai x ∧ h_al y = h_al x ∧ h_ar y = h_ar x ∧ h_sz y = h_sz x ∧ h_sl y = h_sl x ∧ ∀ f q, q ≠ a → h_i y f q = h_i x f q
theorem PI.rf {x : Hp} {a : Nat} : PI x x a := ⟨rfl, rfl, rfl, rfl, rfl, rfl, rfl, rfl, fun _ _ _ => rfl⟩
theorem PI.tr {x y w : Hp} {a : Nat} (h : PI x y a) (g : PI y w a) : PI x w a := by
  obtain ⟨a1, a2, a3, a4, a5, a6, a7, a8, a9⟩ := h
  obtain ⟨b1, b2, b3, b4, b5, b6, b7, b8, b9⟩ := g
  exact ⟨b1.trans a1, b2.trans a2, b3.trans a3, b4.trans a4, b5.trans a5, b6.trans a6, b7.trans a7, b8.trans a8, fun f q hq => (b9 f q hq).trans (a9 f q hq)⟩
theorem PI.pi {x : Hp} {f a : Nat} {v : Int32} : PI x (p_i x f a v) a := ⟨rfl, rfl, rfl, rfl, rfl, rfl, rfl, rfl, fun g q hq => p_i_na hq⟩
def Fs (x : Hp) (a : Nat) (F : Nat → Int32) : Prop := h_k x a = 14 ∧ ∀ f, h_i x f a = F f
theorem Fs.pi {x : Hp} {a f : Nat} {F : Nat → Int32} {v : Int32} (h : Fs x a F) : Fs (p_i x f a v) a (up1 F f v) := by
  refine ⟨h.1, fun g => ?_⟩
  rw [p_i_i, up1]
  by_cases c : g = f
  · rw [if_pos ⟨c, rfl⟩, if_pos c]
  · rw [if_neg (fun q => c q.1), if_neg c]
    exact h.2 g
variable {k58 : Option Nat → Option Nat → Int32 → Int32 → Hp → Option (Option Nat × Hp)} {v0 : Option Nat} {v2 v4 : Int32} {o a k n : Nat}
def fin64 (F : Nat → Int32) (p : Nat → Nat) : Nat → Int32 := up1 (up1 (up1 (up1 (up1 (up1 (up1 F 262 (nI (p 0))) 263 (nI (p 1))) 264 (nI (p 2))) 265 (nI (p 3))) 267 (nI (p 4))) 268 (nI (p 5))) 266 (nI (p 2))
theorem astr_s {β : Type} {x : Hp} {q kd kv j b : Nat} {k : Hp → Option β} (h : h_k x q = kd) (hj : j < h_n x q) (hn : h_n x q < 2 ^ 31) (hb : h_k x b = kv) : astr (some q) x kd kv (nI j) (some b) k = k (p_ar x q j (some b)) := by
  unfold astr
  rw [idx_s h hj hn]
  exact if_pos hb
theorem ch_263 {x : Hp} {F : Nat → Int32} {e p2 : Nat} (h : Fs x a F) (hk : h_k x o = 15) (hr : h_r x 285 o = some (o + 4)) (h4 : h_k x (o + 4) = 106) (hn : h_n x (o + 4) = n) (hkn : k < n) (hn5 : n ≤ 5) (he : e ≤ 1) (hF : F 264 = nI p2) : ∃ y, f_L_chosen_b263 N z k58 v0 (some o) v2 (nI k) (some a) (nI e) (some a) x = k58 v0 (some o) v2 (nI (k + 1)) (p_ar y (o + 4) k (some a)) ∧ Fs y a (up1 (up1 F 268 (nI e)) 266 (nI p2)) ∧ PI x y a := by
  have hb : nI e = 0 ∨ nI e = 1 := by
    have : e = 0 ∨ e = 1 := by omega
    rcases this with c | c <;> subst c
    · exact Or.inl rfl
    · exact Or.inr rfl
  have h1 := h.pi (f := 268) (v := nI e)
  have h2 := h1.pi (f := 266) (v := nI p2)
  refine ⟨_, ?_, h2, PI.pi.tr PI.pi⟩
  unfold f_L_chosen_b263
  rw [bool, if_pos hb, puti_s h.1, geti_s (by exact h.1), h1.2, up1_ne (by decide), hF, puti_s (by exact h.1), getr_s (by exact hk), show h_r (p_i (p_i x 268 a (nI e)) 266 a (nI p2)) 285 o = some (o + 4) from hr, astr_s (by exact h4) (by show k < h_n x (o + 4); omega) (by show h_n x (o + 4) < _; omega) (by exact h.1), nI_1]
theorem ch_237 {x : Hp} {F : Nat → Int32} {q p2 : Nat} {s0 s1 : Int32} (h : Fs x a F) (hk : h_k x o = 15) (hr : h_r x 285 o = some (o + 4)) (h4 : h_k x (o + 4) = 106) (hn : h_n x (o + 4) = n) (hkn : k < n) (hn5 : n ≤ 5) (h0 : s0 = nI q) (hq : 0 < q) (hq2 : q ≤ 60) (hF : F 264 = nI p2) : ∃ y p4 p5, f_L_chosen_b237 N z k58 v0 (some o) v2 (nI k) v4 (some a) s0 s1 1 (some a) x = k58 v0 (some o) v2 (nI (k + 1)) (p_ar y (o + 4) k (some a)) ∧ 1 ≤ p4 ∧ p4 ≤ 60 ∧ p5 ≤ 1 ∧ Fs y a (up1 (up1 (up1 F 267 (nI p4)) 268 (nI p5)) 266 (nI p2)) ∧ PI x y a := by
  obtain ⟨r, r1, r2⟩ := below_s (N := N) (z := z) s1 hq (by omega)
  obtain ⟨e, e1, e2⟩ := below_s (N := N) (z := z) (v4 >>> ((7 : Int32) &&& 31)) (k := 2) (by decide) (by decide)
  have e2' : ∀ x : Hp, f_L_below N z (v4 >>> ((7 : Int32) &&& 31)) (2 : Int32) x = some (nI e, x) := e2
  have h1 := h.pi (f := 267) (v := nI (1 + r))
  have go : ∀ c, c ≤ 1 → ∃ y p4 p5, f_L_chosen_b263 N z k58 v0 (some o) v2 (nI k) (some a) (nI c) (some a) (p_i x 267 a (nI (1 + r))) = k58 v0 (some o) v2 (nI (k + 1)) (p_ar y (o + 4) k (some a)) ∧ 1 ≤ p4 ∧ p4 ≤ 60 ∧ p5 ≤ 1 ∧ Fs y a (up1 (up1 (up1 F 267 (nI p4)) 268 (nI p5)) 266 (nI p2)) ∧ PI x y a := by
    intro c hc
    obtain ⟨y, d1, d2, d3⟩ := ch_263 (N := N) (z := z) (k58 := k58) (v0 := v0) (v2 := v2) (o := o) (k := k) (n := n) (e := c) (p2 := p2) h1 hk hr h4 hn hkn hn5 hc (by rw [up1_ne (by decide)]; exact hF)
    exact ⟨y, 1 + r, c, d1, by omega, by omega, hc, d2, PI.pi.tr d3⟩
  unfold f_L_chosen_b237
  rw [h0, r2, bnd_s, show (1 : Int32) = nI 1 from rfl, nI_add, puti_s h.1, e2', bnd_s]
  by_cases c : nI e = 0
  · rw [if_pos c]
    exact go 1 (by omega)
  · rw [if_neg c]
    exact go 0 (by omega)
theorem ch_192 {x : Hp} {F : Nat → Int32} {q : Nat} {s0 s1 : Int32} (h : Fs x a F) (hk : h_k x o = 15) (hr : h_r x 285 o = some (o + 4)) (h4 : h_k x (o + 4) = 106) (hn : h_n x (o + 4) = n) (hkn : k < n) (hn5 : n ≤ 5) (h0 : s0 = nI q) (hq : 0 < q) (hq2 : q ≤ 100) : ∃ y p2 p3 p4 p5, f_L_chosen_b192 N z k58 v0 (some o) v2 (nI k) v4 (some a) s0 s1 (some a) x = k58 v0 (some o) v2 (nI (k + 1)) (p_ar y (o + 4) k (some a)) ∧ p2 ≤ 99 ∧ p3 ≤ 3 ∧ 1 ≤ p4 ∧ p4 ≤ 60 ∧ p5 ≤ 1 ∧ Fs y a (up1 (up1 (up1 (up1 (up1 F 264 (nI p2)) 265 (nI p3)) 267 (nI p4)) 268 (nI p5)) 266 (nI p2)) ∧ PI x y a := by
  obtain ⟨r, r1, r2⟩ := below_s (N := N) (z := z) s1 hq (by omega)
  obtain ⟨e, e1, e2⟩ := below_s (N := N) (z := z) (v4 >>> ((5 : Int32) &&& 31)) (k := 4) (by decide) (by decide)
  have e2' : ∀ x : Hp, f_L_below N z (v4 >>> ((5 : Int32) &&& 31)) (4 : Int32) x = some (nI e, x) := e2
  obtain ⟨f, f1, f2⟩ := below_s (N := N) (z := z) (v4 >>> ((2 : Int32) &&& 31)) (k := 2) (by decide) (by decide)
  have f2' : ∀ x : Hp, f_L_below N z (v4 >>> ((2 : Int32) &&& 31)) (2 : Int32) x = some (nI f, x) := f2
  have h1 := h.pi (f := 264) (v := nI r)
  have h2 := h1.pi (f := 265) (v := nI e)
  have hF : up1 (up1 F 264 (nI r)) 265 (nI e) 264 = nI r := by rw [up1_ne (by decide), up1_eq]
  unfold f_L_chosen_b192
  rw [h0, r2, bnd_s, puti_s h.1, e2', bnd_s, puti_s (by exact h.1), f2', bnd_s]
  by_cases c : nI f = 0
  · rw [if_pos c]
    obtain ⟨y, p4, p5, d1, d2, d3, d4, d5, d6⟩ := ch_237 (N := N) (z := z) (k58 := k58) (v0 := v0) (v2 := v2) (v4 := v4) (o := o) (k := k) (n := n) (s1 := v4 >>> ((6 : Int32) &&& 31)) (q := 60) h2 hk hr h4 hn hkn hn5 rfl (by decide) (by decide) hF
    exact ⟨y, r, e, p4, p5, d1, by omega, by omega, d2, d3, d4, d5, (PI.pi.tr PI.pi).tr d6⟩
  · rw [if_neg c]
    obtain ⟨y, p4, p5, d1, d2, d3, d4, d5, d6⟩ := ch_237 (N := N) (z := z) (k58 := k58) (v0 := v0) (v2 := v2) (v4 := v4) (o := o) (k := k) (n := n) (s1 := v4 >>> ((6 : Int32) &&& 31)) (q := 9) h2 hk hr h4 hn hkn hn5 rfl (by decide) (by decide) hF
    exact ⟨y, r, e, p4, p5, d1, by omega, by omega, d2, d3, d4, d5, (PI.pi.tr PI.pi).tr d6⟩
theorem ch_148 {x : Hp} {F : Nat → Int32} {q : Nat} {s0 s1 : Int32} (h : Fs x a F) (hk : h_k x o = 15) (hr : h_r x 285 o = some (o + 4)) (h4 : h_k x (o + 4) = 106) (hn : h_n x (o + 4) = n) (hkn : k < n) (hn5 : n ≤ 5) (h0 : s0 = nI q) (hq : 0 < q) (hq2 : q ≤ 31) : ∃ y p, f_L_chosen_b148 N z k58 v0 (some o) v2 (nI k) v4 (some a) s0 s1 (some a) x = k58 v0 (some o) v2 (nI (k + 1)) (p_ar y (o + 4) k (some a)) ∧ LnOk p ∧ Fs y a (fin64 F p) ∧ PI x y a := by
  obtain ⟨r, r1, r2⟩ := below_s (N := N) (z := z) s1 hq (by omega)
  obtain ⟨e, e1, e2⟩ := below_s (N := N) (z := z) (v4 >>> ((3 : Int32) &&& 31)) (k := 31) (by decide) (by decide)
  have e2' : ∀ x : Hp, f_L_below N z (v4 >>> ((3 : Int32) &&& 31)) (31 : Int32) x = some (nI e, x) := e2
  obtain ⟨f, f1, f2⟩ := below_s (N := N) (z := z) (v4 >>> ((1 : Int32) &&& 31)) (k := 2) (by decide) (by decide)
  have f2' : ∀ x : Hp, f_L_below N z (v4 >>> ((1 : Int32) &&& 31)) (2 : Int32) x = some (nI f, x) := f2
  have h1 := h.pi (f := 262) (v := nI r)
  have h2 := h1.pi (f := 263) (v := nI e)
  have fin : ∀ y p2 p3 p4 p5, f_L_chosen_b192 N z k58 v0 (some o) v2 (nI k) v4 (some a) s0 s1 (some a) x = f_L_chosen_b192 N z k58 v0 (some o) v2 (nI k) v4 (some a) s0 s1 (some a) x → p2 ≤ 99 → p3 ≤ 3 → 1 ≤ p4 → p4 ≤ 60 → p5 ≤ 1 → Fs y a (up1 (up1 (up1 (up1 (up1 (up1 (up1 F 262 (nI r)) 263 (nI e)) 264 (nI p2)) 265 (nI p3)) 267 (nI p4)) 268 (nI p5)) 266 (nI p2)) → ∃ p, LnOk p ∧ Fs y a (fin64 F p) := by
    intro y p2 p3 p4 p5 _ b2 b3 b4 b5 b6 hf
    exact ⟨fun i => if i = 0 then r else if i = 1 then e else if i = 2 then p2 else if i = 3 then p3 else if i = 4 then p4 else p5, ⟨by simp; omega, by simp; omega, by simp; omega, by simp; omega, by simp; omega, by simp; omega, by simp; omega⟩, hf⟩
  unfold f_L_chosen_b148
  rw [h0, r2, bnd_s, puti_s h.1, e2', bnd_s, puti_s (by exact h.1), f2', bnd_s]
  by_cases c : nI f = 0
  · rw [if_pos c]
    obtain ⟨y, p2, p3, p4, p5, d1, d2, d3, d4, d5, d6, d7, d8⟩ := ch_192 (N := N) (z := z) (k58 := k58) (v0 := v0) (v2 := v2) (v4 := v4) (o := o) (k := k) (n := n) (s1 := v4 >>> ((4 : Int32) &&& 31)) (q := 100) h2 hk hr h4 hn hkn hn5 rfl (by decide) (by decide)
    obtain ⟨p, g1, g2⟩ := fin y p2 p3 p4 p5 rfl d2 d3 d4 d5 d6 d7
    exact ⟨y, p, d1, g1, g2, (PI.pi.tr PI.pi).tr d8⟩
  · rw [if_neg c]
    obtain ⟨y, p2, p3, p4, p5, d1, d2, d3, d4, d5, d6, d7, d8⟩ := ch_192 (N := N) (z := z) (k58 := k58) (v0 := v0) (v2 := v2) (v4 := v4) (o := o) (k := k) (n := n) (s1 := v4 >>> ((4 : Int32) &&& 31)) (q := 9) h2 hk hr h4 hn hkn hn5 rfl (by decide) (by decide)
    obtain ⟨p, g1, g2⟩ := fin y p2 p3 p4 p5 rfl d2 d3 d4 d5 d6 d7
    exact ⟨y, p, d1, g1, g2, (PI.pi.tr PI.pi).tr d8⟩
theorem ch_124 {x : Hp} {F : Nat → Int32} {ov : Option Nat} (h : Fs x a F) (hk : h_k x o = 15) (hr : h_r x 285 o = some (o + 4)) (h4 : h_k x (o + 4) = 106) (hn : h_n x (o + 4) = n) (hkn : k < n) (hn5 : n ≤ 5) : ∃ y p, f_L_chosen_b124 N z k58 v0 (some o) v2 (nI k) v4 (some a) ov (some a) x = k58 v0 (some o) v2 (nI (k + 1)) (p_ar y (o + 4) k (some a)) ∧ LnOk p ∧ Fs y a (fin64 F p) ∧ PI (p_r x 260 a ov) y a := by
  obtain ⟨e, e1, e2⟩ := below_s (N := N) (z := z) v4 (k := 2) (by decide) (by decide)
  have e2' : ∀ x : Hp, f_L_below N z v4 (2 : Int32) x = some (nI e, x) := e2
  have h1 : Fs (p_r x 260 a ov) a F := h
  have hr1 : h_r (p_r x 260 a ov) 285 o = some (o + 4) := by rw [p_r_ne (by decide)]; exact hr
  unfold f_L_chosen_b124
  rw [putr_s h.1, e2', bnd_s]
  by_cases c : nI e = 0
  · rw [if_pos c]
    exact ch_148 (q := 31) h1 hk hr1 h4 hn hkn hn5 rfl (by decide) (by decide)
  · rw [if_neg c]
    exact ch_148 (q := 5) h1 hk hr1 h4 hn hkn hn5 rfl (by decide) (by decide)
end CH
