/-! ===== PURE: reading the maps behind writes; the combinators where nothing is wrong ===== -/
theorem HPK : (∀ (x : Hp) (f a : Nat) (v : Int32), h_k (p_i x f a v) = h_k x) ∧ (∀ (x : Hp) (f a : Nat) (v : Option Nat), h_k (p_r x f a v) = h_k x) ∧ (∀ (x : Hp) (a j : Nat) (v : Int32), h_k (p_ai x a j v) = h_k x) ∧ (∀ (x : Hp) (a j : Nat) (v : Int64), h_k (p_al x a j v) = h_k x) ∧ (∀ (x : Hp) (a j : Nat) (v : Option Nat), h_k (p_ar x a j v) = h_k x) ∧ (∀ (x : Hp) (a : Nat) (g : Nat → Int32), h_k (p_aw x a g) = h_k x) := ⟨fun _ _ _ _ => rfl, fun _ _ _ _ => rfl, fun _ _ _ _ => rfl, fun _ _ _ _ => rfl, fun _ _ _ _ => rfl, fun _ _ _ => rfl⟩
theorem HPN : (∀ (x : Hp) (f a : Nat) (v : Int32), h_n (p_i x f a v) = h_n x) ∧ (∀ (x : Hp) (f a : Nat) (v : Option Nat), h_n (p_r x f a v) = h_n x) ∧ (∀ (x : Hp) (a j : Nat) (v : Int32), h_n (p_ai x a j v) = h_n x) ∧ (∀ (x : Hp) (a j : Nat) (v : Int64), h_n (p_al x a j v) = h_n x) ∧ (∀ (x : Hp) (a j : Nat) (v : Option Nat), h_n (p_ar x a j v) = h_n x) ∧ (∀ (x : Hp) (a : Nat) (g : Nat → Int32), h_n (p_aw x a g) = h_n x) := ⟨fun _ _ _ _ => rfl, fun _ _ _ _ => rfl, fun _ _ _ _ => rfl, fun _ _ _ _ => rfl, fun _ _ _ _ => rfl, fun _ _ _ => rfl⟩
theorem HPI : (∀ (x : Hp) (f a : Nat) (v : Int32) (f' a' : Nat), h_i (p_i x f a v) f' a' = if f' = f ∧ a' = a then v else h_i x f' a') ∧ (∀ (x : Hp) (f a : Nat) (v : Option Nat), h_i (p_r x f a v) = h_i x) ∧ (∀ (x : Hp) (a j : Nat) (v : Int32), h_i (p_ai x a j v) = h_i x) ∧ (∀ (x : Hp) (a j : Nat) (v : Int64), h_i (p_al x a j v) = h_i x) ∧ (∀ (x : Hp) (a j : Nat) (v : Option Nat), h_i (p_ar x a j v) = h_i x) ∧ (∀ (x : Hp) (a : Nat) (g : Nat → Int32), h_i (p_aw x a g) = h_i x) := ⟨fun _ _ _ _ _ _ => rfl, fun _ _ _ _ => rfl, fun _ _ _ _ => rfl, fun _ _ _ _ => rfl, fun _ _ _ _ => rfl, fun _ _ _ => rfl⟩
theorem HPR : (∀ (x : Hp) (f a : Nat) (v : Int32), h_r (p_i x f a v) = h_r x) ∧ (∀ (x : Hp) (f a : Nat) (v : Option Nat) (f' a' : Nat), h_r (p_r x f a v) f' a' = if f' = f ∧ a' = a then v else h_r x f' a') ∧ (∀ (x : Hp) (a j : Nat) (v : Int32), h_r (p_ai x a j v) = h_r x) ∧ (∀ (x : Hp) (a j : Nat) (v : Int64), h_r (p_al x a j v) = h_r x) ∧ (∀ (x : Hp) (a j : Nat) (v : Option Nat), h_r (p_ar x a j v) = h_r x) ∧ (∀ (x : Hp) (a : Nat) (g : Nat → Int32), h_r (p_aw x a g) = h_r x) := ⟨fun _ _ _ _ => rfl, fun _ _ _ _ _ _ => rfl, fun _ _ _ _ => rfl, fun _ _ _ _ => rfl, fun _ _ _ _ => rfl, fun _ _ _ => rfl⟩
theorem HPAI : (∀ (x : Hp) (f a : Nat) (v : Int32), h_ai (p_i x f a v) = h_ai x) ∧ (∀ (x : Hp) (f a : Nat) (v : Option Nat), h_ai (p_r x f a v) = h_ai x) ∧ (∀ (x : Hp) (a j : Nat) (v : Int32) (a' j' : Nat), h_ai (p_ai x a j v) a' j' = if a' = a ∧ j' = j then v else h_ai x a' j') ∧ (∀ (x : Hp) (a j : Nat) (v : Int64), h_ai (p_al x a j v) = h_ai x) ∧ (∀ (x : Hp) (a j : Nat) (v : Option Nat), h_ai (p_ar x a j v) = h_ai x) := ⟨fun _ _ _ _ => rfl, fun _ _ _ _ => rfl, fun _ _ _ _ _ _ => rfl, fun _ _ _ _ => rfl, fun _ _ _ _ => rfl⟩
theorem HPAL : (∀ (x : Hp) (f a : Nat) (v : Int32), h_al (p_i x f a v) = h_al x) ∧ (∀ (x : Hp) (f a : Nat) (v : Option Nat), h_al (p_r x f a v) = h_al x) ∧ (∀ (x : Hp) (a j : Nat) (v : Int32), h_al (p_ai x a j v) = h_al x) ∧ (∀ (x : Hp) (a j : Nat) (v : Int64) (a' j' : Nat), h_al (p_al x a j v) a' j' = if a' = a ∧ j' = j then v else h_al x a' j') ∧ (∀ (x : Hp) (a j : Nat) (v : Option Nat), h_al (p_ar x a j v) = h_al x) := ⟨fun _ _ _ _ => rfl, fun _ _ _ _ => rfl, fun _ _ _ _ => rfl, fun _ _ _ _ _ _ => rfl, fun _ _ _ _ => rfl⟩
theorem HPAR : (∀ (x : Hp) (f a : Nat) (v : Int32), h_ar (p_i x f a v) = h_ar x) ∧ (∀ (x : Hp) (f a : Nat) (v : Option Nat), h_ar (p_r x f a v) = h_ar x) ∧ (∀ (x : Hp) (a j : Nat) (v : Int32), h_ar (p_ai x a j v) = h_ar x) ∧ (∀ (x : Hp) (a j : Nat) (v : Int64), h_ar (p_al x a j v) = h_ar x) ∧ (∀ (x : Hp) (a j : Nat) (v : Option Nat) (a' j' : Nat), h_ar (p_ar x a j v) a' j' = if a' = a ∧ j' = j then v else h_ar x a' j') := ⟨fun _ _ _ _ => rfl, fun _ _ _ _ => rfl, fun _ _ _ _ => rfl, fun _ _ _ _ => rfl, fun _ _ _ _ _ _ => rfl⟩
theorem HPZ : (∀ (x : Hp) (f a : Nat) (v : Int32), h_sz (p_i x f a v) = h_sz x) ∧ (∀ (x : Hp) (f a : Nat) (v : Option Nat), h_sz (p_r x f a v) = h_sz x) ∧ (∀ (x : Hp) (a j : Nat) (v : Int32), h_sz (p_ai x a j v) = h_sz x) ∧ (∀ (x : Hp) (a j : Nat) (v : Int64), h_sz (p_al x a j v) = h_sz x) ∧ (∀ (x : Hp) (a j : Nat) (v : Option Nat), h_sz (p_ar x a j v) = h_sz x) ∧ (∀ (x : Hp) (f a : Nat) (v : Int32), h_sl (p_i x f a v) = h_sl x) ∧ (∀ (x : Hp) (f a : Nat) (v : Option Nat), h_sl (p_r x f a v) = h_sl x) ∧ (∀ (x : Hp) (a j : Nat) (v : Int32), h_sl (p_ai x a j v) = h_sl x) ∧ (∀ (x : Hp) (a j : Nat) (v : Int64), h_sl (p_al x a j v) = h_sl x) ∧ (∀ (x : Hp) (a j : Nat) (v : Option Nat), h_sl (p_ar x a j v) = h_sl x) := ⟨fun _ _ _ _ => rfl, fun _ _ _ _ => rfl, fun _ _ _ _ => rfl, fun _ _ _ _ => rfl, fun _ _ _ _ => rfl, fun _ _ _ _ => rfl, fun _ _ _ _ => rfl, fun _ _ _ _ => rfl, fun _ _ _ _ => rfl, fun _ _ _ _ => rfl⟩
section CS
variable {β α : Type} {x : Hp} {o kd f : Nat}
theorem obj_s {k : Nat → Option β} (h : h_k x o = kd) : obj (some o) x kd k = k o := by simp [obj, h]
theorem geti_s {k : Int32 → Option β} (h : h_k x o = kd) : geti (some o) x kd f k = k (h_i x f o) := by simp [geti, obj, h]
theorem getr_s {k : Option Nat → Option β} (h : h_k x o = kd) : getr (some o) x kd f k = k (h_r x f o) := by simp [getr, obj, h]
theorem puti_s {v : Int32} {k : Hp → Option β} (h : h_k x o = kd) : puti (some o) x kd f v k = k (p_i x f o v) := by simp [puti, obj, h]
theorem putr_s {v : Option Nat} {k : Hp → Option β} (h : h_k x o = kd) : putr (some o) x kd f v k = k (p_r x f o v) := by simp [putr, obj, h]
theorem alen_s {k : Int32 → Option β} (h : h_k x o = kd) : alen (some o) x kd k = k (nI (h_n x o)) := by simp [alen, obj, h, nI]
theorem nI_ix {j n : Nat} (hj : j < n) (hn : n < 2 ^ 31) : 0 ≤ (nI j).toInt ∧ (nI j).toInt < n := by rw [nI_toInt (by omega)]; omega
theorem idx_s {j : Nat} {k : Nat → Nat → Option β} (h : h_k x o = kd) (hj : j < h_n x o) (hn : h_n x o < 2 ^ 31) : idx (some o) x kd (nI j) k = k o j := by
  have h1 := nI_ix hj hn
  have h2 : (nI j).toNatClampNeg = j := nI_clamp (by omega)
  simp only [idx, obj, if_pos h, if_pos h1, h2]
theorem aldi_s {j : Nat} {k : Int32 → Option β} (h : h_k x o = kd) (hj : j < h_n x o) (hn : h_n x o < 2 ^ 31) : aldi (some o) x kd (nI j) k = k (h_ai x o j) := idx_s h hj hn
theorem aldl_s {j : Nat} {k : Int64 → Option β} (h : h_k x o = kd) (hj : j < h_n x o) (hn : h_n x o < 2 ^ 31) : aldl (some o) x kd (nI j) k = k (h_al x o j) := idx_s h hj hn
theorem aldr_s {j : Nat} {k : Option Nat → Option β} (h : h_k x o = kd) (hj : j < h_n x o) (hn : h_n x o < 2 ^ 31) : aldr (some o) x kd (nI j) k = k (h_ar x o j) := idx_s h hj hn
theorem asti_s {j : Nat} {v : Int32} {k : Hp → Option β} (h : h_k x o = kd) (hj : j < h_n x o) (hn : h_n x o < 2 ^ 31) : asti (some o) x kd (nI j) v k = k (p_ai x o j v) := idx_s h hj hn
theorem astl_s {j : Nat} {v : Int64} {k : Hp → Option β} (h : h_k x o = kd) (hj : j < h_n x o) (hn : h_n x o < 2 ^ 31) : astl (some o) x kd (nI j) v k = k (p_al x o j v) := idx_s h hj hn
theorem bnd_s {a : α} {k : α → Hp → Option (β × Hp)} : bnd (some (a, x)) k = k a x := rfl
end CS
/-- what lies outside lo .. hi stays; nothing is made -/
def Fr (x y : Hp) (lo hi : Nat) : Prop := h_sz y = h_sz x ∧ h_sl y = h_sl x ∧ h_k y = h_k x ∧ h_n y = h_n x ∧ ∀ a, ¬ (lo ≤ a ∧ a < hi) → Sm y x a
theorem Fr.rf {x : Hp} {lo hi : Nat} : Fr x x lo hi := ⟨rfl, rfl, rfl, rfl, fun _ _ => ⟨rfl, rfl, fun _ => rfl, fun _ => rfl, rfl, rfl, rfl⟩⟩
theorem Sm.tr {x y z : Hp} {a : Nat} (h : Sm x y a) (g : Sm y z a) : Sm x z a := ⟨h.1.trans g.1, h.2.1.trans g.2.1, fun f => (h.2.2.1 f).trans (g.2.2.1 f), fun f => (h.2.2.2.1 f).trans (g.2.2.2.1 f), h.2.2.2.2.1.trans g.2.2.2.2.1, h.2.2.2.2.2.1.trans g.2.2.2.2.2.1, h.2.2.2.2.2.2.trans g.2.2.2.2.2.2⟩
theorem Fr.tr {x y z : Hp} {lo hi : Nat} (h : Fr x y lo hi) (g : Fr y z lo hi) : Fr x z lo hi := ⟨g.1.trans h.1, g.2.1.trans h.2.1, g.2.2.1.trans h.2.2.1, g.2.2.2.1.trans h.2.2.2.1, fun a ha => (g.2.2.2.2 a ha).tr (h.2.2.2.2 a ha)⟩
theorem Fr.wd {x y : Hp} {lo hi lo' hi' : Nat} (h : Fr x y lo hi) (h1 : lo' ≤ lo) (h2 : hi ≤ hi') : Fr x y lo' hi' := ⟨h.1, h.2.1, h.2.2.1, h.2.2.2.1, fun a ha => h.2.2.2.2 a (fun q => ha ⟨Nat.le_trans h1 q.1, Nat.lt_of_lt_of_le q.2 h2⟩)⟩
theorem Fr.pi {x : Hp} {f a lo hi : Nat} {v : Int32} (h : lo ≤ a ∧ a < hi) : Fr x (p_i x f a v) lo hi := ⟨rfl, rfl, rfl, rfl, fun q hq => Sm_pi (fun e => hq (e ▸ h))⟩
theorem Fr.pr {x : Hp} {f a lo hi : Nat} {v : Option Nat} (h : lo ≤ a ∧ a < hi) : Fr x (p_r x f a v) lo hi := ⟨rfl, rfl, rfl, rfl, fun q hq => Sm_pr (fun e => hq (e ▸ h))⟩
theorem Fr.pai {x : Hp} {a j lo hi : Nat} {v : Int32} (h : lo ≤ a ∧ a < hi) : Fr x (p_ai x a j v) lo hi := ⟨rfl, rfl, rfl, rfl, fun q hq => Sm_pai (fun e => hq (e ▸ h))⟩
theorem Fr.pal {x : Hp} {a j lo hi : Nat} {v : Int64} (h : lo ≤ a ∧ a < hi) : Fr x (p_al x a j v) lo hi := ⟨rfl, rfl, rfl, rfl, fun q hq => Sm_pal (fun e => hq (e ▸ h))⟩
theorem Fr.par {x : Hp} {a j lo hi : Nat} {v : Option Nat} (h : lo ≤ a ∧ a < hi) : Fr x (p_ar x a j v) lo hi := ⟨rfl, rfl, rfl, rfl, fun q hq => Sm_par (fun e => hq (e ▸ h))⟩
theorem Fr.k {x y : Hp} {lo hi a : Nat} (h : Fr x y lo hi) : h_k y a = h_k x a := by rw [h.2.2.1]
theorem Fr.n {x y : Hp} {lo hi a : Nat} (h : Fr x y lo hi) : h_n y a = h_n x a := by rw [h.2.2.2.1]
theorem Fr.i {x y : Hp} {lo hi f a : Nat} (h : Fr x y lo hi) (ha : a < lo ∨ hi ≤ a) : h_i y f a = h_i x f a := (h.2.2.2.2 a (by omega)).2.2.1 f
theorem Fr.r {x y : Hp} {lo hi f a : Nat} (h : Fr x y lo hi) (ha : a < lo ∨ hi ≤ a) : h_r y f a = h_r x f a := (h.2.2.2.2 a (by omega)).2.2.2.1 f
theorem Fr.ai {x y : Hp} {lo hi a : Nat} (h : Fr x y lo hi) (ha : a < lo ∨ hi ≤ a) : h_ai y a = h_ai x a := (h.2.2.2.2 a (by omega)).2.2.2.2.1
theorem Fr.al {x y : Hp} {lo hi a : Nat} (h : Fr x y lo hi) (ha : a < lo ∨ hi ≤ a) : h_al y a = h_al x a := (h.2.2.2.2 a (by omega)).2.2.2.2.2.1
theorem Fr.ar {x y : Hp} {lo hi a : Nat} (h : Fr x y lo hi) (ha : a < lo ∨ hi ≤ a) : h_ar y a = h_ar x a := (h.2.2.2.2 a (by omega)).2.2.2.2.2.2
theorem p_i_i {x : Hp} {f a f' a' : Nat} {v : Int32} : h_i (p_i x f a v) f' a' = if f' = f ∧ a' = a then v else h_i x f' a' := rfl
theorem p_i_ne {x : Hp} {f a f' a' : Nat} {v : Int32} (h : f' ≠ f) : h_i (p_i x f a v) f' a' = h_i x f' a' := if_neg (fun e => h e.1)
theorem p_i_na {x : Hp} {f a f' a' : Nat} {v : Int32} (h : a' ≠ a) : h_i (p_i x f a v) f' a' = h_i x f' a' := if_neg (fun e => h e.2)
theorem p_r_ne {x : Hp} {f a f' a' : Nat} {v : Option Nat} (h : f' ≠ f) : h_r (p_r x f a v) f' a' = h_r x f' a' := if_neg (fun e => h e.1)
theorem p_r_na {x : Hp} {f a f' a' : Nat} {v : Option Nat} (h : a' ≠ a) : h_r (p_r x f a v) f' a' = h_r x f' a' := if_neg (fun e => h e.2)
theorem p_r_eq {x : Hp} {f a : Nat} {v : Option Nat} : h_r (p_r x f a v) f a = v := if_pos ⟨rfl, rfl⟩
theorem p_i_eq {x : Hp} {f a : Nat} {v : Int32} : h_i (p_i x f a v) f a = v := if_pos ⟨rfl, rfl⟩
/-! the queue of a lane: its numbers behind it; a ring of 60 -/
def qix (f j : Nat) : Nat := if f + j < 60 then f + j else f + j - 60
def QS (x : Hp) (q : Nat) : Prop := h_k x q = 7 ∧ h_r x 121 q = some (q + 1) ∧ h_k x (q + 1) = 101 ∧ h_n x (q + 1) = 60
def QR (x : Hp) (q : Nat) (l : List Int32) : Prop := QS x q ∧ l.length ≤ 60 ∧ h_i x 120 q = nI l.length ∧ ∃ f, f < 60 ∧ h_i x 122 q = nI f ∧ ∀ j, j < l.length → h_ai x (q + 1) (qix f j) = l.getD j 0
theorem QS.fr {x y : Hp} {q lo hi : Nat} (h : QS x q) (g : Fr x y lo hi) (hd : q + 2 ≤ lo ∨ hi ≤ q) : QS y q := by
  obtain ⟨h1, h2, h3, h4⟩ := h
  exact ⟨g.k.trans h1, (g.r (by omega)).trans h2, g.k.trans h3, g.n.trans h4⟩
theorem QR.fr {x y : Hp} {q lo hi : Nat} {l : List Int32} (h : QR x q l) (g : Fr x y lo hi) (hd : q + 2 ≤ lo ∨ hi ≤ q) : QR y q l := by
  obtain ⟨h0, h5, h6, f, hf, h7, h8⟩ := h
  exact ⟨h0.fr g hd, h5, (g.i (by omega)).trans h6, f, hf, (g.i (by omega)).trans h7, fun j hj => by rw [g.ai (by omega)]; exact h8 j hj⟩
/-- a write of a field that is no queue's -/
theorem QR.pi {x : Hp} {q f a : Nat} {v : Int32} {l : List Int32} (h : QR x q l) (h1 : f ≠ 120) (h2 : f ≠ 122) : QR (p_i x f a v) q l := by
  obtain ⟨h0, h5, h6, f, hf, h7, h8⟩ := h
  exact ⟨h0, h5, (p_i_ne h1.symm).trans h6, f, hf, (p_i_ne h2.symm).trans h7, h8⟩
theorem QR.pr {x : Hp} {q f a : Nat} {v : Option Nat} {l : List Int32} (h : QR x q l) (h1 : f ≠ 121) : QR (p_r x f a v) q l := by
  obtain ⟨⟨h1', h2, h3, h4⟩, h5, h6, f, hf, h7, h8⟩ := h
  exact ⟨⟨h1', (if_neg (fun e => h1 e.1.symm)).trans h2, h3, h4⟩, h5, h6, f, hf, h7, h8⟩
theorem slotOf_s {x : Hp} {N : Nat} {z : Nat → Nat} {q f p : Nat} (h : QS x q) (hf : f < 60) (hF : h_i x 122 q = nI f) (hp : p ≤ 60) : f_X4_slotOf N z q (nI p) x = some (nI (qix f p), x) := by
  obtain ⟨h1, h2, h3, h4⟩ := h
  unfold f_X4_slotOf
  rw [geti_s h1, getr_s h1, h2, alen_s h3, h4, hF, nI_add]
  by_cases hc : f + p < 60
  · rw [if_pos (nI_lt hc (by omega))]
    simp [qix, hc]
  · rw [if_neg (nI_nlt (by omega) (by omega)), getr_s h1, h2, alen_s h3, h4, pk_sub (by omega)]
    simp [qix, hc]
theorem qix_lt {f j : Nat} (hf : f < 60) (hj : j ≤ 60) : qix f j < 60 := by unfold qix; split <;> omega
theorem qix_ne {f i j : Nat} (hf : f < 60) (hi : i < 60) (hj : j < 60) (h : i ≠ j) : qix f i ≠ qix f j := by unfold qix; split <;> split <;> omega
theorem qix_1 {f j : Nat} (hf : f < 60) (hj : j < 60) : qix (qix f 1) j = qix f (j + 1) := by unfold qix; split <;> split <;> (try split) <;> omega
theorem queue_add {x : Hp} {N : Nat} {z : Nat → Nat} {q : Nat} {l : List Int32} {m : Int32} (h : QR x q l) (hl : l.length < 60) : ∃ y, f_X4_add N z q m x = some ((), y) ∧ QR y q (l ++ [m]) ∧ Fr x y q (q + 2) := by
  obtain ⟨h0, h5, h6, f, hf, h7, h8⟩ := h
  obtain ⟨h1, h2, h3, h4⟩ := id h0
  have hq := qix_lt hf (Nat.le_of_lt hl)
  refine ⟨p_i (p_ai x (q + 1) (qix f l.length) m) 120 q (nI (l.length + 1)), ?_, ?_, ?_⟩
  · unfold f_X4_add
    rw [geti_s h1, obj_s h1, h6, slotOf_s h0 hf h7 h5, bnd_s, geti_s h1, getr_s h1, h2, alen_s h3, h4, h6, if_neg (nI_ge hl (by omega)), if_neg (nI_pos (by omega)), getr_s h1, h2, alen_s h3, h4, if_neg (nI_ge hq (by omega)), getr_s h1, h2, asti_s h3 (by rw [h4]; exact hq) (by rw [h4]; omega), geti_s (by exact h1), puti_s (by exact h1)]
    simp only [HPI, h6, nI_1]
  · refine ⟨h0, by simp; omega, by simp [HPI], f, hf, ?_, fun j hj => ?_⟩
    · simp only [HPI]
      rw [if_neg (by simp)]
      exact h7
    · simp only [HPAI]
      by_cases hj2 : j = l.length
      · subst hj2
        simp
      · have hj3 : j < l.length := by simp at hj; omega
        have := qix_ne hf (by omega) hl hj2
        rw [if_neg (fun e => this e.2), h8 j hj3]
        simp [List.getD_eq_getElem?_getD, List.getElem?_append_left hj3]
  · exact (Fr.pai ⟨by omega, by omega⟩).tr (Fr.pi ⟨by omega, by omega⟩)
theorem queue_at {x : Hp} {N : Nat} {z : Nat → Nat} {q p : Nat} {l : List Int32} (h : QR x q l) (hp : p < l.length) : f_X4_at N z q (nI p) x = some (l.getD p 0, x) := by
  obtain ⟨h0, h5, h6, f, hf, h7, h8⟩ := h
  obtain ⟨h1, h2, h3, h4⟩ := id h0
  have hq := qix_lt (j := p) hf (by omega)
  unfold f_X4_at
  rw [obj_s h1, slotOf_s h0 hf h7 (by omega), bnd_s, if_neg (nI_pos (by omega)), getr_s h1, h2, alen_s h3, h4, if_neg (nI_ge hq (by omega)), getr_s h1, h2, aldi_s h3 (by rw [h4]; exact hq) (by rw [h4]; omega), h8 p hp]
theorem queue_drop {x : Hp} {N : Nat} {z : Nat → Nat} {q : Nat} {l : List Int32} {m : Int32} (h : QR x q (m :: l)) : ∃ y, f_X4_dropFront N z q x = some ((), y) ∧ QR y q l ∧ Fr x y q (q + 2) := by
  obtain ⟨h0, h5, h6, f, hf, h7, h8⟩ := h
  obtain ⟨h1, h2, h3, h4⟩ := id h0
  simp only [List.length_cons] at h5 h6 h8
  refine ⟨p_i (p_i x 122 q (nI (qix f 1))) 120 q (nI l.length), ?_, ?_, ?_⟩
  · unfold f_X4_dropFront
    rw [geti_s h1, h6, if_neg (nI_nle (by omega) (by omega)), obj_s h1, show (1 : Int32) = nI 1 from rfl, slotOf_s h0 hf h7 (by omega), bnd_s, puti_s h1, geti_s (by exact h1), puti_s (by exact h1), p_i_ne (by decide), h6, show nI 1 = (1 : Int32) from rfl, nI_pred]
  · refine ⟨h0, by omega, p_i_eq, qix f 1, qix_lt hf (by omega), ?_, fun j hj => ?_⟩
    · rw [p_i_ne (by decide), p_i_eq]
    · rw [qix_1 hf (by omega)]
      exact h8 (j + 1) (by omega)
  · exact (Fr.pi ⟨by omega, by omega⟩).tr (Fr.pi ⟨by omega, by omega⟩)
theorem queue_clear {x : Hp} {N : Nat} {z : Nat → Nat} {q : Nat} (h0 : QS x q) : ∃ y, f_X4_clear N z q x = some ((), y) ∧ QR y q [] ∧ Fr x y q (q + 2) := by
  obtain ⟨h1, h2, h3, h4⟩ := id h0
  refine ⟨p_i (p_i x 120 q 0) 122 q 0, ?_, ?_, ?_⟩
  · unfold f_X4_clear
    rw [puti_s h1, puti_s (by exact h1)]
  · exact ⟨h0, by simp, (p_i_ne (by decide)).trans p_i_eq, 0, by omega, p_i_eq, fun j hj => absurd hj (by simp)⟩
  · exact (Fr.pi ⟨by omega, by omega⟩).tr (Fr.pi ⟨by omega, by omega⟩)
theorem queue_copy_l {N : Nat} {z : Nat → Nat} {q q' : Nat} {l : List Int32} (hd : q + 2 ≤ q' ∨ q' + 2 ≤ q) : ∀ (n i : Nat) (x : Hp), QR x q (l.take i) → QR x q' l → i ≤ l.length → l.length < n + i → ∃ y, f_X4_copyFrom_b6 N z n q (some q') (nI i) x = some ((), y) ∧ QR y q l ∧ Fr x y q (q + 2)
  | 0, i, x, h, g, hi, hn => absurd hn (by omega)
  | n + 1, i, x, h, g, hi, hn => by
    have g1 := g.1.1
    have g5 := g.2.1
    have g6 := g.2.2.1
    unfold f_X4_copyFrom_b6
    rw [geti_s g1, g6]
    by_cases hc : i = l.length
    · subst hc
      rw [if_pos (nI_le (Nat.le_refl _) (by omega))]
      rw [List.take_length] at h
      exact ⟨x, rfl, h, Fr.rf⟩
    · have hl : i < l.length := by omega
      rw [if_neg (nI_ge hl (by omega)), obj_s g1, queue_at g hl, bnd_s, obj_s h.1.1]
      obtain ⟨y, e1, e2, e3⟩ := queue_add (N := N) (z := z) (m := l.getD i 0) h (by rw [List.length_take]; omega)
      rw [e1, bnd_s, nI_1]
      have e4 : l.take i ++ [l.getD i 0] = l.take (i + 1) := by
        rw [List.getD_eq_getElem?_getD, List.getElem?_eq_getElem hl, Option.getD_some]
        exact List.take_append_getElem hl
      rw [e4] at e2
      obtain ⟨w, d1, d2, d3⟩ := queue_copy_l hd n (i + 1) y e2 (g.fr e3 (by omega)) hl (by omega)
      exact ⟨w, d1, d2, e3.tr d3⟩
theorem queue_copy {x : Hp} {N : Nat} {z : Nat → Nat} {q q' : Nat} {l : List Int32} (h : QS x q) (g : QR x q' l) (hd : q + 2 ≤ q' ∨ q' + 2 ≤ q) (hN : 61 ≤ N) : ∃ y, f_X4_copyFrom N z q (some q') x = some ((), y) ∧ QR y q l ∧ Fr x y q (q + 2) := by
  unfold f_X4_copyFrom
  obtain ⟨y, e1, e2, e3⟩ := queue_clear (N := N) (z := z) h
  rw [obj_s h.1, e1, bnd_s]
  have := g.2.1
  obtain ⟨w, d1, d2, d3⟩ := queue_copy_l (N := N) (z := z) (l := l) hd N 0 y (by simpa using e2) (g.fr e3 (by omega)) (Nat.zero_le _) (by omega)
  exact ⟨w, d1, d2, e3.tr d3⟩
