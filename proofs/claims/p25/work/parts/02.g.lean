/-! ===== THE HEAP AS MAPS: kinds, lengths, fields by number, arrays, size, slots ===== -/
/-- the tables' words that a callee may be handed -/
def gT : List Cond := lw_tbl.filter goodWord
theorem gT_in (i : Nat) {w : Cond} (h : lw_tbl[i]? = some w) (hg : goodWord w = true) : w ∈ gT := List.mem_filter.mpr ⟨List.mem_of_getElem? h, hg⟩
theorem gT_good : ∀ w ∈ gT, (w.onTables && w.keeps) = true ∨ ∃ ty, w = .arrayClass ty := fun _ h => good_of_word (List.mem_filter.mp h).2
theorem gT_goodIn (ws : List Cond) (h : ∀ w ∈ ws, w ∈ gT) : GoodIn gT ws := fun w hw => ⟨h w hw, gT_good w (h w hw)⟩
abbrev Hp : Type := (Nat → Nat) × (Nat → Nat) × (Nat → Nat → Int32) × (Nat → Nat → Option Nat) × (Nat → Nat → Int32) × (Nat → Nat → Int64) × (Nat → Nat → Option Nat) × Nat × Nat
def h_k (x : Hp) : Nat → Nat := x.1
def h_n (x : Hp) : Nat → Nat := x.2.1
def h_i (x : Hp) : Nat → Nat → Int32 := x.2.2.1
def h_r (x : Hp) : Nat → Nat → Option Nat := x.2.2.2.1
def h_ai (x : Hp) : Nat → Nat → Int32 := x.2.2.2.2.1
def h_al (x : Hp) : Nat → Nat → Int64 := x.2.2.2.2.2.1
def h_ar (x : Hp) : Nat → Nat → Option Nat := x.2.2.2.2.2.2.1
def h_sz (x : Hp) : Nat := x.2.2.2.2.2.2.2.1
def h_sl (x : Hp) : Nat := x.2.2.2.2.2.2.2.2
def u2 {α : Type} (f : Nat → Nat → α) (a b : Nat) (v : α) : Nat → Nat → α := fun a' b' => if a' = a ∧ b' = b then v else f a' b'
/-- writes: a field (its number, the address), a place of an array -/
def p_i (x : Hp) (f a : Nat) (v : Int32) : Hp := (x.1, x.2.1, u2 x.2.2.1 f a v, x.2.2.2)
def p_r (x : Hp) (f a : Nat) (v : Option Nat) : Hp := (x.1, x.2.1, x.2.2.1, u2 x.2.2.2.1 f a v, x.2.2.2.2)
def p_ai (x : Hp) (a j : Nat) (v : Int32) : Hp := (x.1, x.2.1, x.2.2.1, x.2.2.2.1, u2 x.2.2.2.2.1 a j v, x.2.2.2.2.2)
def p_al (x : Hp) (a j : Nat) (v : Int64) : Hp := (x.1, x.2.1, x.2.2.1, x.2.2.2.1, x.2.2.2.2.1, u2 x.2.2.2.2.2.1 a j v, x.2.2.2.2.2.2)
def p_ar (x : Hp) (a j : Nat) (v : Option Nat) : Hp := (x.1, x.2.1, x.2.2.1, x.2.2.2.1, x.2.2.2.2.1, x.2.2.2.2.2.1, u2 x.2.2.2.2.2.2.1 a j v, x.2.2.2.2.2.2.2)
/-- the bytes (or ints) of a whole array at once -/
def p_aw (x : Hp) (a : Nat) (g : Nat → Int32) : Hp := (x.1, x.2.1, x.2.2.1, x.2.2.2.1, fun a' => if a' = a then g else x.2.2.2.2.1 a', x.2.2.2.2.2)
/-- a new cell: its kind, its length, its slots -/
def p_n (x : Hp) (k n w : Nat) : Hp := (fun a => if a = h_sz x then k else x.1 a, fun a => if a = h_sz x then n else x.2.1 a, fun f a => if a = h_sz x then 0 else x.2.2.1 f a, fun f a => if a = h_sz x then none else x.2.2.2.1 f a, fun a j => if a = h_sz x then 0 else x.2.2.2.2.1 a j, fun a j => if a = h_sz x then 0 else x.2.2.2.2.2.1 a j, fun a j => if a = h_sz x then none else x.2.2.2.2.2.2.1 a j, h_sz x + 1, h_sl x + w)
/-- which fields of a class are references, in the order of the slots -/
def gR : Nat → List Bool := fun c => match c with
  | 0 => [true, false, false, false]
  | 1 => [true, false, false, false]
  | 2 => [true, true, false, false, true]
  | 3 => [false, false, false, false, false]
  | 4 => [false, true, true, false, false, false, false, false, false, false, false, false, false, false, false, false, false, false]
  | 5 => [false, false, false, false, false]
  | 6 => [false, true, false]
  | 7 => [true, false, true, true, true, false, false]
  | 8 => [true, false, false, false, false, true, true, true, false, false, false]
  | 9 => [true, false]
  | 10 => [true, false]
  | 11 => [true, true, true, true, false]
  | 12 => [true, true, true, true, false]
  | 13 => [true, false, false, false, false, false, false, false, false, true, false, false, false, false, false, false, false, false, false]
  | 14 => [false, false, false, false, false, true, true, true]
  | _ => []
def fsv (x : Hp) (ci a : Nat) : Nat → List Bool → List Value
  | _, [] => []
  | k, b :: l => (if b = true then va_rf (h_r x (20 * ci + k) a) else .int (h_i x (20 * ci + k) a)) :: fsv x ci a (k + 1) l
def dfl (l : List Bool) : List Value := l.map (fun b => if b = true then .null else .int 0)
/-- arrays: 0 bytes, 1 ints, 2 longs, 3 .. references -/
def apay (x : Hp) (t a : Nat) : (Nat → Int32) ⊕ (Nat → Int64) ⊕ (Nat → UInt32) ⊕ (Nat → UInt64) ⊕ (Nat → Option Nat) := if t = 2 then .inr (.inl (h_al x a)) else if t < 2 then .inl (h_ai x a) else .inr (.inr (.inr (.inr (h_ar x a))))
/-- the kind of a cell: 0 is any; class c is c + 1, an array of sort t is 100 + t; 200 more: a cell from before, that nobody writes -/
def ent (cA : Nat → ClassId) (x : Hp) (a : Nat) : va_E :=
  if h_k x a < 100 then .inr (h_k x a - 1, fsv x (h_k x a - 1) a 0 (gR (h_k x a - 1))) else .inl (cA (h_k x a - 100), h_n x a, apay x (h_k x a - 100) a)
/-- cells from before: Strings, their bytes, the script -/
def oldAt (b0 : Nat) (U : State) (x : Hp) (a : Nat) (H : Heap) : Prop :=
  (h_k x a = 201 → va_O "java/lang/String" a (fun q => b0 ≤ q) U H ∧ va_OF "java/lang/String" "coder" "B" (.int (h_i x 1 a)) a (fun q => b0 ≤ q) U H ∧ va_OF "java/lang/String" "value" "[B" (va_rf (h_r x 0 a)) a (fun q => b0 ≤ q) U H) ∧
  (h_k x a = 300 → va_T .byte a (h_n x a) (fun j => .int (h_ai x a j)) (fun q => b0 ≤ q) U H) ∧
  (h_k x a = 301 → va_T .int a (h_n x a) (fun j => .int (h_ai x a j)) (fun q => b0 ≤ q) U H)
def cellAt (D : va_G) (cA : Nat → ClassId) (b0 : Nat) (U : State) (x : Hp) (a : Nat) (H : Heap) : Prop :=
  (h_k x a ≠ 0 → h_k x a < 200 → va_at D vwCl (a, ent cA x a) H ∧ b0 ≤ a) ∧ (200 ≤ h_k x a → a < b0 ∧ oldAt b0 U x a H)
def Rep (D : va_G) (cA : Nat → ClassId) (b0 : Nat) (U : State) (x : Hp) (H : Heap) : Prop :=
  H.size = h_sz x ∧ b0 ≤ h_sz x ∧ ∀ a, cellAt D cA b0 U x a H
/-- two heaps of maps that agree at an address -/
def Sm (x y : Hp) (a : Nat) : Prop := h_k x a = h_k y a ∧ h_n x a = h_n y a ∧ (∀ f, h_i x f a = h_i y f a) ∧ (∀ f, h_r x f a = h_r y f a) ∧ h_ai x a = h_ai y a ∧ h_al x a = h_al y a ∧ h_ar x a = h_ar y a
/-- the array classes -/
def gTy (cA : Nat → ClassId) : List (ClassId × FieldType) := [(cA 0, .byte), (cA 1, .int), (cA 2, .long), (cA 3, .object "BucketBrigade$Folk"), (cA 4, .object "BucketBrigade$Lane"), (cA 5, .object "BucketBrigade$Order"), (cA 6, .object "BucketBrigadeLaw$Lane"), (cA 7, .array .int)]
theorem oldAt.moved {b0 a : Nat} {u U : State} {x : Hp} {H : Heap} (hvm : u.vm.Alike U.vm) (h : oldAt b0 u x a H) : oldAt b0 U x a H :=
  ⟨fun e => ⟨(h.1 e).1.moved hvm, (h.1 e).2.1.moved hvm, (h.1 e).2.2.moved hvm⟩, fun e => (h.2.1 e).moved hvm, fun e => (h.2.2 e).moved hvm⟩
theorem oldAt.kept {b0 a : Nat} {U : State} {x : Hp} {H H1 : Heap} (h : oldAt b0 U x a H) (hq : ∀ q : Nat, q < H.size → ¬ b0 ≤ q → H1[q]? = H[q]?) : oldAt b0 U x a H1 :=
  ⟨fun e => ⟨(h.1 e).1.kept hq, (h.1 e).2.1.kept hq, (h.1 e).2.2.kept hq⟩, fun e => (h.2.1 e).kept hq, fun e => (h.2.2 e).kept hq⟩
theorem oldAt.same {b0 a : Nat} {U : State} {x y : Hp} {H : Heap} (hs : Sm y x a) (h : oldAt b0 U x a H) : oldAt b0 U y a H := by
  obtain ⟨e1, e2, e3, e4, e5, -, -⟩ := hs
  unfold oldAt at h ⊢
  rw [e1, e2, e3, e4, e5]
  exact h
theorem Rep.moved {D : va_G} {cA : Nat → ClassId} {b0 : Nat} {u U : State} {x : Hp} {H : Heap} (hvm : u.vm.Alike U.vm) (h : Rep D cA b0 u x H) : Rep D cA b0 U x H :=
  ⟨h.1, h.2.1, fun a => ⟨(h.2.2 a).1, fun e => ⟨((h.2.2 a).2 e).1, ((h.2.2 a).2 e).2.moved hvm⟩⟩⟩
theorem Rep.lt {D : va_G} {cA : Nat → ClassId} {b0 a : Nat} {U : State} {x : Hp} {H : Heap} (h : Rep D cA b0 U x H) (ha : h_k x a ≠ 0) : a < h_sz x := by
  by_cases h2 : h_k x a < 200
  · rw [← h.1]
    exact ((h.2.2 a).1 ha h2).1.lt
  · have := ((h.2.2 a).2 (by omega)).1
    have := h.2.1
    omega
theorem fsv_get {x : Hp} {ci a : Nat} : ∀ (l : List Bool) (j k : Nat) (b : Bool), l[k]? = some b → (fsv x ci a j l)[k]? = some (if b = true then va_rf (h_r x (20 * ci + (j + k)) a) else .int (h_i x (20 * ci + (j + k)) a))
  | [], _, _, _, h => by simp at h
  | c :: l, j, 0, b, h => by
    simp at h
    subst h
    simp [fsv]
  | c :: l, j, k + 1, b, h => by
    simp at h
    have := fsv_get (x := x) (ci := ci) (a := a) l (j + 1) k b h
    simp only [fsv, List.getElem?_cons_succ]
    rw [this]
    have e : j + 1 + k = j + (k + 1) := by omega
    rw [e]
theorem fsv_len {x : Hp} {ci a : Nat} : ∀ (l : List Bool) (j : Nat), (fsv x ci a j l).length = l.length
  | [], _ => rfl
  | _ :: l, j => by simp [fsv, fsv_len l (j + 1)]
/-- what a list of fields depends on -/
theorem fsv_congr {x y : Hp} {ci cj a b : Nat} : ∀ (l : List Bool) (j : Nat), (∀ k, j ≤ k → h_i x (20 * ci + k) a = h_i y (20 * cj + k) b) → (∀ k, j ≤ k → h_r x (20 * ci + k) a = h_r y (20 * cj + k) b) → fsv x ci a j l = fsv y cj b j l
  | [], _, _, _ => rfl
  | c :: l, j, h1, h2 => by
    simp only [fsv]
    rw [h1 j (Nat.le_refl _), h2 j (Nat.le_refl _), fsv_congr l (j + 1) (fun k hk => h1 k (by omega)) (fun k hk => h2 k (by omega))]
theorem fsv_pi {x : Hp} {ci a k : Nat} {v : Int32} : ∀ (l : List Bool) (j i : Nat), j + i = k → l[i]? = some false → fsv (p_i x (20 * ci + k) a v) ci a j l = (fsv x ci a j l).set i (.int v)
  | [], _, _, _, h => by simp at h
  | c :: l, j, 0, e, h => by
    simp at h
    subst h
    simp at e
    subst e
    simp only [fsv, List.set_cons_zero]
    congr 1
    · simp [h_i, p_i, u2]
    · refine fsv_congr l (j + 1) (fun k hk => ?_) (fun k hk => rfl)
      have : ¬ k = j := by omega
      simp [h_i, p_i, u2, this]
  | c :: l, j, i + 1, e, h => by
    simp at h
    simp only [fsv, List.set_cons_succ]
    rw [fsv_pi l (j + 1) i (by omega) h]
    congr 1
    have : ¬ j = k := by omega
    simp [h_i, p_i, u2, this, h_r]
theorem fsv_pr {x : Hp} {ci a k : Nat} {v : Option Nat} : ∀ (l : List Bool) (j i : Nat), j + i = k → l[i]? = some true → fsv (p_r x (20 * ci + k) a v) ci a j l = (fsv x ci a j l).set i (va_rf v)
  | [], _, _, _, h => by simp at h
  | c :: l, j, 0, e, h => by
    simp at h
    subst h
    simp at e
    subst e
    simp only [fsv, List.set_cons_zero]
    congr 1
    · simp [h_r, p_r, u2]
    · refine fsv_congr l (j + 1) (fun k hk => rfl) (fun k hk => ?_)
      have : ¬ k = j := by omega
      simp [h_r, p_r, u2, this]
  | c :: l, j, i + 1, e, h => by
    simp at h
    simp only [fsv, List.set_cons_succ]
    rw [fsv_pr l (j + 1) i (by omega) h]
    congr 1
    have : ¬ j = k := by omega
    simp [h_r, p_r, u2, this, h_i]
theorem fsv_new {x : Hp} {ci k n w : Nat} : ∀ (l : List Bool) (j : Nat), fsv (p_n x k n w) ci (h_sz x) j l = dfl l
  | [], _ => rfl
  | c :: l, j => by
    simp only [fsv, dfl, List.map_cons]
    rw [fsv_new l (j + 1)]
    congr 1
    cases c <;> simp [h_i, h_r, p_n, va_rf]
/-- a class's facts: its number, name, fields, how many -/
def Cl (ci : Nat) (C : String) (T : u_T) (N : Nat) (ty : Nat → FieldType) : Prop :=
  vwCl[ci]? = some (C, T, N) ∧ ci < 99 ∧ (∀ w ∈ u_ws C T N, w ∈ gT) ∧ (∀ k, k < N → parseFieldDescriptor (T k).2.2.1 = some (ty k)) ∧ (∀ a, a < N → ∀ b, b < N → a ≠ b → (T a).2.1 ≠ (T b).2.1) ∧ (gR ci).length = N ∧ (∀ j, j < N → defaultValue (ty j) = vp_V (dfl (gR ci)) j)
theorem ent_obj {cA : Nat → ClassId} {x : Hp} {a ci : Nat} (h : h_k x a = ci + 1) (hc : ci < 99) : ent cA x a = .inr (ci, fsv x ci a 0 (gR ci)) := by
  unfold ent
  rw [h, if_pos (by omega)]
  rfl
theorem ent_arr {cA : Nat → ClassId} {x : Hp} {a t : Nat} (h : h_k x a = 100 + t) : ent cA x a = .inl (cA t, h_n x a, apay x t a) := by
  unfold ent
  rw [h, if_neg (by omega)]
  have : 100 + t - 100 = t := by omega
  rw [this]
theorem ent_congr {cA : Nat → ClassId} {x y : Hp} {a : Nat} (hs : Sm x y a) : ent cA x a = ent cA y a := by
  obtain ⟨h1, h2, h3, h4, h5, h6, h7⟩ := hs
  unfold ent apay
  rw [h1, h2, h5, h6, h7, fsv_congr (x := x) (y := y) (cj := h_k y a - 1) (b := a) _ 0 (fun k _ => h3 _) (fun k _ => h4 _)]
/-- a write at one address -/
theorem Rep.put {D : va_G} {cA : Nat → ClassId} {b0 a : Nat} {U : State} {x y : Hp} {H H1 : Heap} (h : Rep D cA b0 U x H) (z : H1.size = H.size) (o : ∀ q : Nat, q ≠ a → H1[q]? = H[q]?) (hk0 : h_k x a ≠ 0) (hk2 : h_k x a < 200) (e1 : h_sz y = h_sz x) (e2 : h_k y a = h_k x a) (e3 : ∀ q, q ≠ a → Sm y x q) (e4 : va_at D vwCl (a, ent cA y a) H1) : Rep D cA b0 U y H1 := by
  have hb : b0 ≤ a := ((h.2.2 a).1 hk0 hk2).2
  refine ⟨by rw [z, e1]; exact h.1, by rw [e1]; exact h.2.1, fun q => ?_⟩
  by_cases hqa : q = a
  · subst hqa
    refine ⟨fun _ _ => ⟨e4, hb⟩, fun h2 => ?_⟩
    rw [e2] at h2
    omega
  · have hs := e3 q hqa
    refine ⟨fun h1 h2 => ?_, fun h2 => ?_⟩
    · rw [hs.1] at h1 h2
      have h3 := (h.2.2 q).1 h1 h2
      rw [ent_congr hs]
      exact ⟨h3.1.kept (o q hqa), h3.2⟩
    · rw [hs.1] at h2
      have h3 := (h.2.2 q).2 h2
      exact ⟨h3.1, (h3.2.kept (fun q' _ hq' => o q' (fun e => hq' (by rw [e]; exact hb)))).same hs⟩
theorem Sm_pn {x : Hp} {k n w q : Nat} (h : q ≠ h_sz x) : Sm (p_n x k n w) x q :=
  ⟨by simp [h_k, p_n, h], by simp [h_n, p_n, h], fun f => by simp [h_i, p_n, h], fun f => by simp [h_r, p_n, h], by funext j; simp [h_ai, p_n, h], by funext j; simp [h_al, p_n, h], by funext j; simp [h_ar, p_n, h]⟩
theorem Rep.push {D : va_G} {cA : Nat → ClassId} {b0 k n w : Nat} {U : State} {x : Hp} {H H1 : Heap} (h : Rep D cA b0 U x H) (z : H1.size = H.size + 1) (o : ∀ q : Nat, q < H.size → H1[q]? = H[q]?) (hk : k < 200) (e4 : va_at D vwCl (h_sz x, ent cA (p_n x k n w) (h_sz x)) H1) : Rep D cA b0 U (p_n x k n w) H1 := by
  have hz := h.1
  have hb := h.2.1
  refine ⟨?_, ?_, fun q => ?_⟩
  · show H1.size = h_sz x + 1
    omega
  · show b0 ≤ h_sz x + 1
    omega
  · by_cases hqa : q = h_sz x
    · subst hqa
      refine ⟨fun _ _ => ⟨e4, hb⟩, fun h2 => ?_⟩
      have : h_k (p_n x k n w) (h_sz x) = k := by simp [h_k, p_n]
      omega
    · have hs : Sm (p_n x k n w) x q := Sm_pn hqa
      refine ⟨fun h1 h2 => ?_, fun h2 => ?_⟩
      · rw [hs.1] at h1 h2
        have h3 := (h.2.2 q).1 h1 h2
        rw [ent_congr hs]
        exact ⟨h3.1.kept (o q (by rw [hz]; exact h.lt h1)), h3.2⟩
      · rw [hs.1] at h2
        have h3 := (h.2.2 q).2 h2
        exact ⟨h3.1, (h3.2.kept (fun q' hq _ => o q' hq)).same hs⟩
theorem Rep.at_obj {D : va_G} {cA : Nat → ClassId} {b0 a ci : Nat} {U : State} {x : Hp} {H : Heap} (h : Rep D cA b0 U x H) (hk : h_k x a = ci + 1) (hc : ci < 99) : va_P D vwCl [(a, .inr (ci, fsv x ci a 0 (gR ci)))] H := by
  have h1 := ((h.2.2 a).1 (by omega) (by omega)).1
  rw [ent_obj hk hc] at h1
  intro k q hq
  have hz : k < 1 := (List.getElem?_eq_some_iff.mp hq).1
  rw [show k = 0 by omega] at hq
  cases hq
  exact h1
theorem Rep.at_arr {D : va_G} {cA : Nat → ClassId} {b0 a t : Nat} {U : State} {x : Hp} {H : Heap} (h : Rep D cA b0 U x H) (hk : h_k x a = 100 + t) (ht : t < 99) : H[a]? = some (vp_cell (cA t) (h_n x a, apay x t a)) := by
  have h1 := ((h.2.2 a).1 (by omega) (by omega)).1
  rw [ent_arr hk] at h1
  exact h1
/-! ===== END the heap as maps ===== -/
