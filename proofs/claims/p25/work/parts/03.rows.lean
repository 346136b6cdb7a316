/-! ===== A METHOD AS A FUNCTION ON MAPS; G: the machine, from here, does what the function says ===== -/
/-- the String constants that the run reads: class, entry, text, number -/
def gStr : List (String × Nat × String × Nat) := [("BucketBrigade$Tokens", 25, "well lane under rate most burst rank holds drops old new folk to brings every from raise cap shut when minute spare tokens waits sent lost lent full dry not and or min max ", 0), ("BucketBrigadeLaw$Sim", 226, "well 3;well ", 1), ("BucketBrigadeLaw$Sim", 228, ";", 2), ("BucketBrigadeLaw$Sim", 230, "lane l", 3), ("BucketBrigadeLaw$Sim", 232, " under l", 4), ("BucketBrigadeLaw$Sim", 234, " rate ", 5), ("BucketBrigadeLaw$Sim", 236, " most ", 6), ("BucketBrigadeLaw$Sim", 238, " burst ", 7), ("BucketBrigadeLaw$Sim", 240, " rank ", 8), ("BucketBrigadeLaw$Sim", 242, " holds ", 9), ("BucketBrigadeLaw$Sim", 244, " drops ", 10), ("BucketBrigadeLaw$Sim", 246, "old", 11), ("BucketBrigadeLaw$Sim", 248, "new", 12), ("BucketBrigadeLaw$Sim", 250, ";\n", 13), ("BucketBrigadeLaw$Sim", 252, "folk f", 14), ("BucketBrigadeLaw$Sim", 254, " to l", 15), ("BucketBrigadeLaw$Sim", 256, " brings ", 16), ("BucketBrigadeLaw$Sim", 258, " every ", 17), ("BucketBrigadeLaw$Sim", 260, " from ", 18), ("BucketBrigadeLaw$Sim", 262, "raise l", 19), ("BucketBrigadeLaw$Sim", 264, "cap l", 20), ("BucketBrigadeLaw$Sim", 266, "shut l", 21), ("BucketBrigadeLaw$Sim", 268, " to ", 22), ("BucketBrigadeLaw$Sim", 108, "", 23), ("BucketBrigadeLaw$Sim", 121, "minute - ", 24), ("BucketBrigadeLaw$Sim", 123, "spare+tokens l", 25), ("BucketBrigadeLaw$Sim", 125, "waits l", 26), ("BucketBrigadeLaw$Sim", 127, " * 2 - ", 27), ("BucketBrigadeLaw$Sim", 129, "sent l", 28), ("BucketBrigadeLaw$Sim", 131, "/2", 29), ("BucketBrigadeLaw$Sim", 133, "lost l", 30), ("BucketBrigadeLaw$Sim", 135, " - lent l", 31), ("BucketBrigadeLaw$Sim", 137, "min(", 32), ("BucketBrigadeLaw$Sim", 139, ",30 - tokens l", 33), ("BucketBrigadeLaw$Sim", 141, ")", 34), ("BucketBrigadeLaw$Sim", 270, " when ", 35), ("BucketBrigadeLaw$Sim", 147, "full l", 36), ("BucketBrigadeLaw$Sim", 149, "not dry l", 37), ("BucketBrigadeLaw$Sim", 151, "minute >= ", 38), ("BucketBrigadeLaw$Sim", 153, "dry l", 39), ("BucketBrigadeLaw$Sim", 155, " or spare < ", 40), ("BucketBrigadeLaw$Sim", 157, "[not full l", 41), ("BucketBrigadeLaw$Sim", 159, " and minute / 4 * 4 = minute]", 42), ("BucketBrigadeLaw$Sim", 165, " > ", 43), ("BucketBrigadeLaw$Sim", 167, "2 > 1", 44), ("BucketBrigadeLaw$Sim", 275, "; ", 45)]
/-- the private methods of the builder's superclass -/
def gPv : List MethodName := [yJ5_ensureCapacityInternal_d00df, yJ5_newCapacity_0f7a4, yJ5_putStringAt_47b60, yJ5_inflateIfNeededFor_a7421]
/-- a formatter, that is only handed on -/
def zfm (z : Nat → Nat) : Option Nat := if z 103 = 0 then none else some (z 102)
/-- the JDK's statics that it reads: class, name, type, value -/
def gZs (z : Nat → Nat) : List (String × String × String × Value) := [("java/lang/String", "COMPACT_STRINGS", "Z", .int 1), ("java/lang/Integer", "DigitTens", "[B", .ref (z 100)), ("java/lang/Integer", "DigitOnes", "[B", .ref (z 101)), ("jdk/internal/util/Preconditions", "SIOOBE_FORMATTER", "Ljava/util/function/BiFunction;", va_rf (zfm z))]
/-- methods of other classes of a nest -/
def gNw : List Cond := tables_1.filter (fun w => match w with | .methodLinkNest _ _ _ _ => true | _ => false)
/-- arrays of references of which the tables tell -/
def gAO : List String := ["BucketBrigade$Order", "BucketBrigade$Lane", "BucketBrigade$Folk", "BucketBrigadeLaw$Lane"]
def va_AI (U : State) : Prop := (Cond.arrayOver (.array .int)).before #[] U = true
theorem va_AI.moved {u U : State} (hvm : u.vm.Alike U.vm) (h : va_AI u) : va_AI U := over_moved hvm h
/-- what a walk may lean on: the classes, the nest, the strings, the statics, the arrays -/
def Ev (z : Nat → Nat) (D : va_G) (cA : Nat → ClassId) (b0 : Nat) (U : State) : Prop :=
  va_K D vwCl (gTy cA) U ∧ (∀ w ∈ gNw, va_Nw w U) ∧ (∀ q ∈ gStr, vk_R q.1 q.2.1 q.2.2.1 (z q.2.2.2) U) ∧ (∀ q ∈ gZs z, va_Z q.1 q.2.1 q.2.2.1 q.2.2.2 (fun a => b0 ≤ a) U U.heap) ∧ (∀ C ∈ gAO, va_AO C U) ∧ va_AI U ∧ va_Nw (.castable "[B" "java/lang/Cloneable") U ∧ (∀ y ∈ gPv, va_Nw (.privateMethod y) U)
/-- code, class, name, locals, how it returns, frames -/
abbrev Mt : Type := ByteArray × String × String × Nat × Instr × Nat
def Cx (z : Nat → Nat) (M : Mt) (D : va_G) (cA : Nat → ClassId) (b0 : Nat) (p : Program) (R : Room) (s : State) (m : MethodId) (args : Array Value) (meth : Method) (c : Code) : Prop :=
  p.tables.exec = Jvm.exec ∧ c.code = M.1 ∧ c.maxLocals = M.2.2.2.1 ∧ s.vm.findClass M.2.1 = some m.cls ∧ (∀ w ∈ gT, w.before args s = true) ∧ meth.name = M.2.2.1 ∧ Ev z D cA b0 s ∧ M.2.2.2.2.2 ≤ R.frames ∧ 64 * M.2.2.2.2.2 ≤ R.locals
/-- the end of a method: its return instruction, over the heap that the function says -/
def Fi (l : Launch) (M : Mt) (okv : Prop) (rv : Option Value) (D : va_G) (cA : Nat → ClassId) (b0 : Nat) (p : Program) (e : Env) (R : Room) (s : State) (m : MethodId) (args : Array Value) (below : List Frame) (meth : Method) (c : Code) (z0 s0 : Nat) (Q : State → Prop) (xe : Hp) : Prop :=
  ∀ (pc : Nat) (H : Heap) (locs : List Loc) (ls : Array Slot), okv → decode M.1 pc = .ok (M.2.2.2.2.1, 1) → Rep D cA b0 s xe H → va_S (fun q => b0 ≤ q) s.heap H locs → W p l e R s m args below meth c H locs (h_sz xe - z0) (h_sl xe - s0) Q (F0 m pc ls rv.toList)
def G {α : Type} (l : Launch) (z : Nat → Nat) (M : Mt) (okv : α → Prop) (en : α → Option Value) (pc : Nat) (lv : List (Nat × Value)) (st : List Value) (x : Hp) (E : Option (α × Hp)) : Prop :=
  ∀ (v : α) (xe : Hp), E = some (v, xe) → (h_sz x ≤ h_sz xe ∧ h_sl x ≤ h_sl xe) ∧
    ∀ (D : va_G) (cA : Nat → ClassId) (b0 : Nat) (p : Program) (e : Env) (R : Room) (s : State) (m : MethodId) (args : Array Value) (below : List Frame) (meth : Method) (c : Code) (z0 s0 : Nat) (Q : State → Prop),
      Cx z M D cA b0 p R s m args meth c → h_sz xe - z0 ≤ R.cells → h_sl xe - s0 ≤ R.slots → Fi l M (okv v) (en v) D cA b0 p e R s m args below meth c z0 s0 Q xe →
      ∀ (H : Heap) (locs : List Loc) (ls : Array Slot), z0 ≤ h_sz x → s0 ≤ h_sl x → Rep D cA b0 s x H → va_S (fun q => b0 ≤ q) s.heap H locs → lv_has ls M.2.2.2.1 lv →
      W p l e R s m args below meth c H locs (h_sz x - z0) (h_sl x - s0) Q (F0 m pc ls st)
/-! the combinators -/
section COMB
variable {α β : Type}
def bnd (y : Option (α × Hp)) (k : α → Hp → Option (β × Hp)) : Option (β × Hp) := match y with
  | none => none
  | some (a, x) => k a x
/-- a field of an object of class number c (its kind c + 1) -/
def obj (r : Option Nat) (x : Hp) (kd : Nat) (k : Nat → Option β) : Option β := match r with
  | none => none
  | some b => if h_k x b = kd then k b else none
def geti (r : Option Nat) (x : Hp) (kd f : Nat) (k : Int32 → Option β) : Option β := obj r x kd fun b => k (h_i x f b)
def getr (r : Option Nat) (x : Hp) (kd f : Nat) (k : Option Nat → Option β) : Option β := obj r x kd fun b => k (h_r x f b)
def puti (r : Option Nat) (x : Hp) (kd f : Nat) (v : Int32) (k : Hp → Option β) : Option β := obj r x kd fun b => k (p_i x f b v)
def putr (r : Option Nat) (x : Hp) (kd f : Nat) (v : Option Nat) (k : Hp → Option β) : Option β := obj r x kd fun b => k (p_r x f b v)
/-- a truth value, or nothing -/
def bool (v : Int32) (k : Option β) : Option β := if v = 0 ∨ v = 1 then k else none
def idx (r : Option Nat) (x : Hp) (kd : Nat) (i : Int32) (k : Nat → Nat → Option β) : Option β := obj r x kd fun b => if 0 ≤ i.toInt ∧ i.toInt < h_n x b then k b i.toNatClampNeg else none
def aldi (r : Option Nat) (x : Hp) (kd : Nat) (i : Int32) (k : Int32 → Option β) : Option β := idx r x kd i fun b j => k (h_ai x b j)
def aldl (r : Option Nat) (x : Hp) (kd : Nat) (i : Int32) (k : Int64 → Option β) : Option β := idx r x kd i fun b j => k (h_al x b j)
def aldr (r : Option Nat) (x : Hp) (kd : Nat) (i : Int32) (k : Option Nat → Option β) : Option β := idx r x kd i fun b j => k (h_ar x b j)
def asti (r : Option Nat) (x : Hp) (kd : Nat) (i : Int32) (v : Int32) (k : Hp → Option β) : Option β := idx r x kd i fun b j => k (p_ai x b j v)
def astl (r : Option Nat) (x : Hp) (kd : Nat) (i : Int32) (v : Int64) (k : Hp → Option β) : Option β := idx r x kd i fun b j => k (p_al x b j v)
/-- a reference into an array: null, or an object of the kind kv -/
def astr (r : Option Nat) (x : Hp) (kd kv : Nat) (i : Int32) (v : Option Nat) (k : Hp → Option β) : Option β := idx r x kd i fun b j => match v with
  | none => k (p_ar x b j none)
  | some q => if h_k x q = kv then k (p_ar x b j (some q)) else none
def alen (r : Option Nat) (x : Hp) (kd : Nat) (k : Int32 → Option β) : Option β := obj r x kd fun b => k (Int32.ofNat (h_n x b))
def newo (x : Hp) (kd w : Nat) (k : Option Nat → Hp → Option β) : Option β := k (some (h_sz x)) (p_n x kd 0 w)
def newa (x : Hp) (kd : Nat) (n : Int32) (k : Option Nat → Hp → Option β) : Option β := if 0 ≤ n.toInt ∧ n.toInt ≤ 60000000 then k (some (h_sz x)) (p_n x kd n.toNatClampNeg n.toNatClampNeg) else none
/-- division by what is not 0 -/
def nz (y : Int32) (k : Option β) : Option β := if y = 0 then none else k
def nn (r : Option Nat) (k : Nat → Option β) : Option β := match r with
  | none => none
  | some b => k b
end COMB
section ROWS
variable {α : Type} {l : Launch} {z : Nat → Nat} {M : Mt} {okv : α → Prop} {en : α → Option Value} {pc : Nat} {lv : List (Nat × Value)} {st : List Value} {x : Hp} {E E1 E2 : Option (α × Hp)}
theorem G_none : G l z M okv en pc lv st x (none : Option (α × Hp)) := fun v xe h => by cases h
theorem G_ret {v : α} (hok : okv v) (hdg : decode M.1 pc = .ok (M.2.2.2.2.1, 1)) (hst : st = (en v).toList) : G l z M okv en pc lv st x (some (v, x)) := by
  intro v' xe h
  cases h
  subst hst
  exact ⟨⟨Nat.le_refl _, Nat.le_refl _⟩, fun D cA b0 p e R s m args below meth c z0 s0 Q C h1 h2 hF H locs ls h3 h4 hR hS hl => hF pc H locs ls hok hdg hR hS⟩
/-- one row that leaves heap and locals -/
theorem G_st {pc' : Nat} {st' : List Value} (h : ∀ {D : va_G} {cA : Nat → ClassId} {b0 : Nat} {p : Program} {e : Env} {R : Room} {s : State} {m : MethodId} {args : Array Value} {below : List Frame} {meth : Method} {c : Code} {H : Heap} {locs : List Loc} {cells slots : Nat} {Q : State → Prop} {ls : Array Slot},
      Cx z M D cA b0 p R s m args meth c → lv_has ls M.2.2.2.1 lv → W p l e R s m args below meth c H locs cells slots Q (F0 m pc' ls st') → W p l e R s m args below meth c H locs cells slots Q (F0 m pc ls st))
    (k : G l z M okv en pc' lv st' x E) : G l z M okv en pc lv st x E := by
  intro v xe hE
  obtain ⟨h0, k⟩ := k v xe hE
  exact ⟨h0, fun D cA b0 p e R s m args below meth c z0 s0 Q C h1 h2 hF H locs ls h3 h4 hR hS hl => h C hl (k D cA b0 p e R s m args below meth c z0 s0 Q C h1 h2 hF H locs ls h3 h4 hR hS hl)⟩
/-- one row that leaves the heap and names new locals -/
theorem G_sto {pc' : Nat} {st' : List Value} {lv' : List (Nat × Value)} (h : ∀ {D : va_G} {cA : Nat → ClassId} {b0 : Nat} {p : Program} {e : Env} {R : Room} {s : State} {m : MethodId} {args : Array Value} {below : List Frame} {meth : Method} {c : Code} {H : Heap} {locs : List Loc} {cells slots : Nat} {Q : State → Prop} {ls : Array Slot},
      Cx z M D cA b0 p R s m args meth c → lv_has ls M.2.2.2.1 lv → (∀ ls' : Array Slot, lv_has ls' M.2.2.2.1 lv' → W p l e R s m args below meth c H locs cells slots Q (F0 m pc' ls' st')) → W p l e R s m args below meth c H locs cells slots Q (F0 m pc ls st))
    (k : G l z M okv en pc' lv' st' x E) : G l z M okv en pc lv st x E := by
  intro v xe hE
  obtain ⟨h0, k⟩ := k v xe hE
  exact ⟨h0, fun D cA b0 p e R s m args below meth c z0 s0 Q C h1 h2 hF H locs ls h3 h4 hR hS hl => h C hl (fun ls' hl' => k D cA b0 p e R s m args below meth c z0 s0 Q C h1 h2 hF H locs ls' h3 h4 hR hS hl')⟩
/-- a branch -/
theorem G_br {pa pb : Nat} {st' : List Value} {cond : Prop} [Decidable cond] (h : ∀ {D : va_G} {cA : Nat → ClassId} {b0 : Nat} {p : Program} {e : Env} {R : Room} {s : State} {m : MethodId} {args : Array Value} {below : List Frame} {meth : Method} {c : Code} {H : Heap} {locs : List Loc} {cells slots : Nat} {Q : State → Prop} {ls : Array Slot},
      Cx z M D cA b0 p R s m args meth c → (cond → W p l e R s m args below meth c H locs cells slots Q (F0 m pa ls st')) → (¬ cond → W p l e R s m args below meth c H locs cells slots Q (F0 m pb ls st')) → W p l e R s m args below meth c H locs cells slots Q (F0 m pc ls st))
    (k1 : cond → G l z M okv en pa lv st' x E1) (k2 : ¬ cond → G l z M okv en pb lv st' x E2) : G l z M okv en pc lv st x (if cond then E1 else E2) := by
  intro v xe hE
  by_cases hc : cond
  · rw [if_pos hc] at hE
    obtain ⟨h0, k⟩ := k1 hc v xe hE
    exact ⟨h0, fun D cA b0 p e R s m args below meth c z0 s0 Q C h1 h2 hF H locs ls h3 h4 hR hS hl => h C (fun _ => k D cA b0 p e R s m args below meth c z0 s0 Q C h1 h2 hF H locs ls h3 h4 hR hS hl) (fun q => absurd hc q)⟩
  · rw [if_neg hc] at hE
    obtain ⟨h0, k⟩ := k2 hc v xe hE
    exact ⟨h0, fun D cA b0 p e R s m args below meth c z0 s0 Q C h1 h2 hF H locs ls h3 h4 hR hS hl => h C (fun q => absurd q hc) (fun _ => k D cA b0 p e R s m args below meth c z0 s0 Q C h1 h2 hF H locs ls h3 h4 hR hS hl)⟩
/-- a split that no instruction makes (of a switch) -/
theorem G_if {cond : Prop} [Decidable cond] (k1 : cond → G l z M okv en pc lv st x E1) (k2 : ¬ cond → G l z M okv en pc lv st x E2) : G l z M okv en pc lv st x (if cond then E1 else E2) := by
  intro v xe hE
  by_cases hc : cond
  · rw [if_pos hc] at hE
    exact k1 hc v xe hE
  · rw [if_neg hc] at hE
    exact k2 hc v xe hE
theorem G_lv (ks : List Nat) {lv' : List (Nat × Value)} (h : lv_pick lv ks = lv') (k : G l z M okv en pc lv' st x E) : G l z M okv en pc lv st x E := by
  intro v xe hE
  obtain ⟨h0, k⟩ := k v xe hE
  exact ⟨h0, fun D cA b0 p e R s m args below meth c z0 s0 Q C h1 h2 hF H locs ls h3 h4 hR hS hl => k D cA b0 p e R s m args below meth c z0 s0 Q C h1 h2 hF H locs ls h3 h4 hR hS (lv_sub hl ks h)⟩
theorem rf_cat (r : Option Nat) : (va_rf r).category = 1 := by cases r <;> rfl
/-- which locals a store at i leaves -/
def sok (i : Nat) : List (Nat × Value) → Prop
  | [] => True
  | q :: l => (q.1 ≠ i ∧ (q.1 + 1 = i → q.2.category = 1)) ∧ sok i l
theorem sok_of {i : Nat} : ∀ (l : List (Nat × Value)), sok i l → ∀ q ∈ l, q.1 ≠ i ∧ (q.1 + 1 = i → q.2.category = 1)
  | [], _, _, h => by cases h
  | _ :: l, h, q, hq => by
    rcases List.mem_cons.mp hq with rfl | hq
    · exact h.1
    · exact sok_of l h.2 q hq
def sok2 (i : Nat) : List (Nat × Value) → Prop
  | [] => True
  | q :: l => q.1 ≠ i + 1 ∧ sok2 i l
theorem sok2_of {i : Nat} : ∀ (l : List (Nat × Value)), sok2 i l → ∀ q ∈ l, q.1 ≠ i + 1
  | [], _, _, h => by cases h
  | _ :: l, h, q, hq => by
    rcases List.mem_cons.mp hq with rfl | hq
    · exact h.1
    · exact sok2_of l h.2 q hq
theorem sok_a {i a : Nat} {v : Value} {l : List (Nat × Value)} (h1 : a ≠ i) (h2 : a + 1 ≠ i) (h : sok i l) : sok i ((a, v) :: l) := ⟨⟨h1, fun q => absurd q h2⟩, h⟩
theorem sok_b {i a : Nat} {v : Value} {l : List (Nat × Value)} (h1 : a ≠ i) (h2 : v.category = 1) (h : sok i l) : sok i ((a, v) :: l) := ⟨⟨h1, fun _ => h2⟩, h⟩
theorem sok2_a {i a : Nat} {v : Value} {l : List (Nat × Value)} (h1 : a ≠ i + 1) (h : sok2 i l) : sok2 i ((a, v) :: l) := ⟨h1, h⟩
/-! stack and locals -/
theorem G_iconst {n : Int} {v : Int32} (hdg : decode M.1 pc = .ok (.iconst n, 1)) (hv : Int32.ofInt n = v) (k : G l z M okv en (pc + 1) lv (.int v :: st) x E) : G l z M okv en pc lv st x E := G_st (fun C _ k => lv_iconst C.1 C.2.1 hdg hv k) k
theorem G_bipush {n : Int} {v : Int32} (hdg : decode M.1 pc = .ok (.bipush n, 2)) (hv : (Int8.ofInt n).toInt32 = v) (k : G l z M okv en (pc + 2) lv (.int v :: st) x E) : G l z M okv en pc lv st x E := G_st (fun C _ k => lv_bipush C.1 C.2.1 hdg hv k) k
theorem G_sipush {n : Int} {v : Int32} (hdg : decode M.1 pc = .ok (.sipush n, 3)) (hv : (Int16.ofInt n).toInt32 = v) (k : G l z M okv en (pc + 3) lv (.int v :: st) x E) : G l z M okv en pc lv st x E := G_st (fun C _ k => lv_sipush C.1 C.2.1 hdg hv k) k
theorem G_lconst {n : Fin 2} {v : Int64} (hdg : decode M.1 pc = .ok (.lconst n, 1)) (hv : Int64.ofNat (n : Nat) = v) (k : G l z M okv en (pc + 1) lv (.long v :: st) x E) : G l z M okv en pc lv st x E := G_st (fun C _ k => lv_lconst C.1 C.2.1 hdg hv k) k
theorem G_ldc {i : Nat} {v : Int32} (hw : Cond.constant M.2.1 i v ∈ gT) (hdg : decode M.1 pc = .ok (.ldc i, 2)) (k : G l z M okv en (pc + 2) lv (.int v :: st) x E) : G l z M okv en pc lv st x E := G_st (fun C _ k => lv_ldc C.1 C.2.1 C.2.2.2.1 (C.2.2.2.2.1 _ hw) hdg k) k
theorem G_ldc2 {i : Nat} {v : Int64} (hw : Cond.constantLong M.2.1 i v ∈ gT) (hdg : decode M.1 pc = .ok (.ldc2_w i, 3)) (k : G l z M okv en (pc + 3) lv (.long v :: st) x E) : G l z M okv en pc lv st x E := G_st (fun C _ k => lv_ldc2 C.1 C.2.1 C.2.2.2.1 (C.2.2.2.2.1 _ hw) hdg k) k
theorem G_null (hdg : decode M.1 pc = .ok (.aconst_null, 1)) (k : G l z M okv en (pc + 1) lv (va_rf none :: st) x E) : G l z M okv en pc lv st x E := G_st (fun C _ k => lv_null C.1 C.2.1 hdg k) k
theorem G_iload_n {k0 : Fin 4} {i : Nat} {v : Int32} (j : Nat) (hdg : decode M.1 pc = .ok (.iload_n k0, 1)) (hi : (k0 : Nat) = i) (hj : lv[j]? = some (i, .int v)) (k : G l z M okv en (pc + 1) lv (.int v :: st) x E) : G l z M okv en pc lv st x E := G_st (fun C hl k => lv_iload_n C.1 C.2.1 hdg hi (lv_at hl j hj) k) k
theorem G_iload {i : Nat} {v : Int32} (j : Nat) (hdg : decode M.1 pc = .ok (.iload i, 2)) (hj : lv[j]? = some (i, .int v)) (k : G l z M okv en (pc + 2) lv (.int v :: st) x E) : G l z M okv en pc lv st x E := G_st (fun C hl k => lv_iload C.1 C.2.1 hdg (lv_at hl j hj) k) k
theorem G_lload_n {k0 : Fin 4} {i : Nat} {v : Int64} (j : Nat) (hdg : decode M.1 pc = .ok (.lload_n k0, 1)) (hi : (k0 : Nat) = i) (hj : lv[j]? = some (i, .long v)) (k : G l z M okv en (pc + 1) lv (.long v :: st) x E) : G l z M okv en pc lv st x E := G_st (fun C hl k => lv_lload_n C.1 C.2.1 hdg hi (lv_at hl j hj) k) k
theorem G_lload {i : Nat} {v : Int64} (j : Nat) (hdg : decode M.1 pc = .ok (.lload i, 2)) (hj : lv[j]? = some (i, .long v)) (k : G l z M okv en (pc + 2) lv (.long v :: st) x E) : G l z M okv en pc lv st x E := G_st (fun C hl k => lv_lload C.1 C.2.1 hdg (lv_at hl j hj) k) k
theorem G_aload_n {k0 : Fin 4} {i : Nat} {v : Option Nat} (j : Nat) (hdg : decode M.1 pc = .ok (.aload_n k0, 1)) (hi : (k0 : Nat) = i) (hj : lv[j]? = some (i, va_rf v)) (k : G l z M okv en (pc + 1) lv (va_rf v :: st) x E) : G l z M okv en pc lv st x E := G_st (fun C hl k => by
  cases v with
  | none => exact lv_aload_nN C.1 C.2.1 hdg hi (lv_at hl j hj) k
  | some a => exact lv_aload_n C.1 C.2.1 hdg hi (lv_at hl j hj) k) k
theorem G_aload {i : Nat} {v : Option Nat} (j : Nat) (hdg : decode M.1 pc = .ok (.aload i, 2)) (hj : lv[j]? = some (i, va_rf v)) (k : G l z M okv en (pc + 2) lv (va_rf v :: st) x E) : G l z M okv en pc lv st x E := G_st (fun C hl k => by
  cases v with
  | none => exact lv_aloadN C.1 C.2.1 hdg (lv_at hl j hj) k
  | some a => exact lv_aload C.1 C.2.1 hdg (lv_at hl j hj) k) k
theorem lvst {ls' : Array Slot} {nL i : Nat} {v : Value} {lv l2 : List (Nat × Value)} (ks : List Nat) (hk : lv_pick lv ks = l2) (hs : sok i l2) (h : lv_has ls' nL ((i, v) :: lv.filter (fun q => !(q.1 == i) && !(q.1 + 1 == i && q.2.category == 2)))) : lv_has ls' nL ((i, v) :: l2) := by
  refine ⟨h.1, h.2.1, fun q hq => ?_⟩
  rcases List.mem_cons.mp hq with rfl | hq
  · exact h.2.2 _ List.mem_cons_self
  · refine h.2.2 q (List.mem_cons_of_mem _ (List.mem_filter.mpr ⟨?_, ?_⟩))
    · rw [← hk] at hq
      obtain ⟨k, -, hk⟩ := List.mem_filterMap.mp hq
      exact List.mem_of_getElem? hk
    · obtain ⟨h1, h2⟩ := sok_of l2 hs q hq
      by_cases h3 : q.1 + 1 = i
      · simp [h1, h2 h3]
      · simp [h1, h3]
theorem lvst2 {ls' : Array Slot} {nL i : Nat} {v : Value} {lv l2 : List (Nat × Value)} (ks : List Nat) (hk : lv_pick lv ks = l2) (hs : sok i l2) (hs2 : sok2 i l2) (h : lv_has ls' nL ((i, v) :: lv.filter (fun q => !(q.1 == i) && (!(q.1 == i + 1) && !(q.1 + 1 == i && q.2.category == 2))))) : lv_has ls' nL ((i, v) :: l2) := by
  refine ⟨h.1, h.2.1, fun q hq => ?_⟩
  rcases List.mem_cons.mp hq with rfl | hq
  · exact h.2.2 _ List.mem_cons_self
  · refine h.2.2 q (List.mem_cons_of_mem _ (List.mem_filter.mpr ⟨?_, ?_⟩))
    · rw [← hk] at hq
      obtain ⟨k, -, hk⟩ := List.mem_filterMap.mp hq
      exact List.mem_of_getElem? hk
    · obtain ⟨h1, h2⟩ := sok_of l2 hs q hq
      have h4 := sok2_of l2 hs2 q hq
      by_cases h3 : q.1 + 1 = i
      · simp [h1, h2 h3, h4]
      · simp [h1, h3, h4]
theorem G_istore_n {k0 : Fin 4} {i : Nat} {v : Int32} {l2 : List (Nat × Value)} (ks : List Nat) (hdg : decode M.1 pc = .ok (.istore_n k0, 1)) (hi : (k0 : Nat) = i) (hn : i < M.2.2.2.1) (hk : lv_pick lv ks = l2) (hs : sok i l2) (k : G l z M okv en (pc + 1) ((i, .int v) :: l2) st x E) : G l z M okv en pc lv (.int v :: st) x E := G_sto (fun C hl k => lv_istore_n C.1 C.2.1 hdg hi hl hn rfl (fun ls' h => k ls' (lvst ks hk hs h))) k
theorem G_istore {i : Nat} {v : Int32} {l2 : List (Nat × Value)} (ks : List Nat) (hdg : decode M.1 pc = .ok (.istore i, 2)) (hn : i < M.2.2.2.1) (hk : lv_pick lv ks = l2) (hs : sok i l2) (k : G l z M okv en (pc + 2) ((i, .int v) :: l2) st x E) : G l z M okv en pc lv (.int v :: st) x E := G_sto (fun C hl k => lv_istore C.1 C.2.1 hdg hl hn rfl (fun ls' h => k ls' (lvst ks hk hs h))) k
theorem G_lstore_n {k0 : Fin 4} {i : Nat} {v : Int64} {l2 : List (Nat × Value)} (ks : List Nat) (hdg : decode M.1 pc = .ok (.lstore_n k0, 1)) (hi : (k0 : Nat) = i) (hn : i + 1 < M.2.2.2.1) (hk : lv_pick lv ks = l2) (hs : sok i l2) (hs2 : sok2 i l2) (k : G l z M okv en (pc + 1) ((i, .long v) :: l2) st x E) : G l z M okv en pc lv (.long v :: st) x E := G_sto (fun C hl k => lv_lstore_n C.1 C.2.1 hdg hi hl hn rfl (fun ls' h => k ls' (lvst2 ks hk hs hs2 h))) k
theorem G_lstore {i : Nat} {v : Int64} {l2 : List (Nat × Value)} (ks : List Nat) (hdg : decode M.1 pc = .ok (.lstore i, 2)) (hn : i + 1 < M.2.2.2.1) (hk : lv_pick lv ks = l2) (hs : sok i l2) (hs2 : sok2 i l2) (k : G l z M okv en (pc + 2) ((i, .long v) :: l2) st x E) : G l z M okv en pc lv (.long v :: st) x E := G_sto (fun C hl k => lv_lstore C.1 C.2.1 hdg hl hn rfl (fun ls' h => k ls' (lvst2 ks hk hs hs2 h))) k
theorem G_astore_n {k0 : Fin 4} {i : Nat} {v : Option Nat} {l2 : List (Nat × Value)} (ks : List Nat) (hdg : decode M.1 pc = .ok (.astore_n k0, 1)) (hi : (k0 : Nat) = i) (hn : i < M.2.2.2.1) (hk : lv_pick lv ks = l2) (hs : sok i l2) (k : G l z M okv en (pc + 1) ((i, va_rf v) :: l2) st x E) : G l z M okv en pc lv (va_rf v :: st) x E := G_sto (fun C hl k => by
  cases v with
  | none => exact lv_astore_nN C.1 C.2.1 hdg hi hl hn rfl (fun ls' h => k ls' (lvst ks hk hs h))
  | some a => exact lv_astore_n C.1 C.2.1 hdg hi hl hn rfl (fun ls' h => k ls' (lvst ks hk hs h))) k
theorem G_astore {i : Nat} {v : Option Nat} {l2 : List (Nat × Value)} (ks : List Nat) (hdg : decode M.1 pc = .ok (.astore i, 2)) (hn : i < M.2.2.2.1) (hk : lv_pick lv ks = l2) (hs : sok i l2) (k : G l z M okv en (pc + 2) ((i, va_rf v) :: l2) st x E) : G l z M okv en pc lv (va_rf v :: st) x E := G_sto (fun C hl k => by
  cases v with
  | none => exact lv_astoreN C.1 C.2.1 hdg hl hn rfl (fun ls' h => k ls' (lvst ks hk hs h))
  | some a => exact lv_astore C.1 C.2.1 hdg hl hn rfl (fun ls' h => k ls' (lvst ks hk hs h))) k
theorem G_iinc {i : Nat} {n : Int} {v w : Int32} {l2 : List (Nat × Value)} (j : Nat) (ks : List Nat) (hdg : decode M.1 pc = .ok (.iinc i n, 3)) (hj : lv[j]? = some (i, .int v)) (hv : v + Int32.ofInt n = w) (hn : i < M.2.2.2.1) (hk : lv_pick lv ks = l2) (hs : sok i l2) (k : G l z M okv en (pc + 3) ((i, .int w) :: l2) st x E) : G l z M okv en pc lv st x E := G_sto (fun C hl k => lv_iinc C.1 C.2.1 hdg hl hj hv hn rfl (fun ls' h => k ls' (lvst ks hk hs h))) k
theorem G_iadd {a b : Int32} (hdg : decode M.1 pc = .ok (.iadd, 1)) (k : G l z M okv en (pc + 1) lv (.int (a + b) :: st) x E) : G l z M okv en pc lv (.int b :: .int a :: st) x E := G_st (fun C _ k => lv_iadd C.1 C.2.1 hdg k) k
theorem G_isub {a b : Int32} (hdg : decode M.1 pc = .ok (.isub, 1)) (k : G l z M okv en (pc + 1) lv (.int (a - b) :: st) x E) : G l z M okv en pc lv (.int b :: .int a :: st) x E := G_st (fun C _ k => lv_isub C.1 C.2.1 hdg k) k
theorem G_imul {a b : Int32} (hdg : decode M.1 pc = .ok (.imul, 1)) (k : G l z M okv en (pc + 1) lv (.int (a * b) :: st) x E) : G l z M okv en pc lv (.int b :: .int a :: st) x E := G_st (fun C _ k => lv_imul C.1 C.2.1 hdg k) k
theorem G_iand {a b : Int32} (hdg : decode M.1 pc = .ok (.iand, 1)) (k : G l z M okv en (pc + 1) lv (.int (a &&& b) :: st) x E) : G l z M okv en pc lv (.int b :: .int a :: st) x E := G_st (fun C _ k => lv_iand C.1 C.2.1 hdg k) k
theorem G_ior {a b : Int32} (hdg : decode M.1 pc = .ok (.ior, 1)) (k : G l z M okv en (pc + 1) lv (.int (a ||| b) :: st) x E) : G l z M okv en pc lv (.int b :: .int a :: st) x E := G_st (fun C _ k => lv_ior C.1 C.2.1 hdg k) k
theorem G_ishl {a b : Int32} (hdg : decode M.1 pc = .ok (.ishl, 1)) (k : G l z M okv en (pc + 1) lv (.int (a <<< (b &&& 31)) :: st) x E) : G l z M okv en pc lv (.int b :: .int a :: st) x E := G_st (fun C _ k => lv_ishl C.1 C.2.1 hdg k) k
theorem G_ishr {a b : Int32} (hdg : decode M.1 pc = .ok (.ishr, 1)) (k : G l z M okv en (pc + 1) lv (.int (a >>> (b &&& 31)) :: st) x E) : G l z M okv en pc lv (.int b :: .int a :: st) x E := G_st (fun C _ k => lv_ishr C.1 C.2.1 hdg k) k
theorem G_ineg {a : Int32} (hdg : decode M.1 pc = .ok (.ineg, 1)) (k : G l z M okv en (pc + 1) lv (.int (-a) :: st) x E) : G l z M okv en pc lv (.int a :: st) x E := G_st (fun C _ k => lv_ineg C.1 C.2.1 hdg k) k
theorem G_idiv {a b : Int32} (hdg : decode M.1 pc = .ok (.idiv, 1)) (k : G l z M okv en (pc + 1) lv (.int (a / b) :: st) x E) : G l z M okv en pc lv (.int b :: .int a :: st) x (nz b E) := by
  unfold nz
  exact G_if (fun _ => G_none) (fun hne => G_st (fun C _ k => lv_idiv C.1 C.2.1 hdg hne k) k)
theorem G_irem {a b : Int32} (hdg : decode M.1 pc = .ok (.irem, 1)) (k : G l z M okv en (pc + 1) lv (.int (a - a / b * b) :: st) x E) : G l z M okv en pc lv (.int b :: .int a :: st) x (nz b E) := by
  unfold nz
  exact G_if (fun _ => G_none) (fun hne => G_st (fun C _ k => lv_irem C.1 C.2.1 hdg hne k) k)
theorem G_ladd {a b : Int64} (hdg : decode M.1 pc = .ok (.ladd, 1)) (k : G l z M okv en (pc + 1) lv (.long (a + b) :: st) x E) : G l z M okv en pc lv (.long b :: .long a :: st) x E := G_st (fun C _ k => lv_ladd C.1 C.2.1 hdg k) k
theorem G_lmul {a b : Int64} (hdg : decode M.1 pc = .ok (.lmul, 1)) (k : G l z M okv en (pc + 1) lv (.long (a * b) :: st) x E) : G l z M okv en pc lv (.long b :: .long a :: st) x E := G_st (fun C _ k => lv_lmul C.1 C.2.1 hdg k) k
theorem G_lcmp {a b : Int64} (hdg : decode M.1 pc = .ok (.lcmp, 1)) (k : G l z M okv en (pc + 1) lv (.int (lg_cmp a b) :: st) x E) : G l z M okv en pc lv (.long b :: .long a :: st) x E := G_st (fun C _ k => W.lcmp C.1 C.2.1 hdg k) k
theorem G_i2l {a : Int32} (hdg : decode M.1 pc = .ok (.i2l, 1)) (k : G l z M okv en (pc + 1) lv (.long a.toInt64 :: st) x E) : G l z M okv en pc lv (.int a :: st) x E := G_st (fun C _ k => lv_i2l C.1 C.2.1 hdg rfl k) k
theorem G_l2i {a : Int64} (hdg : decode M.1 pc = .ok (.l2i, 1)) (k : G l z M okv en (pc + 1) lv (.int a.toInt32 :: st) x E) : G l z M okv en pc lv (.long a :: st) x E := G_st (fun C _ k => lv_l2i C.1 C.2.1 hdg rfl k) k
theorem G_i2b {a : Int32} (hdg : decode M.1 pc = .ok (.i2b, 1)) (k : G l z M okv en (pc + 1) lv (.int a.toInt8.toInt32 :: st) x E) : G l z M okv en pc lv (.int a :: st) x E := G_st (fun C _ k => lv_i2b C.1 C.2.1 hdg rfl k) k
theorem G_i2c {a : Int32} (hdg : decode M.1 pc = .ok (.i2c, 1)) (k : G l z M okv en (pc + 1) lv (.int (a.toUInt32 % 65536).toInt32 :: st) x E) : G l z M okv en pc lv (.int a :: st) x E := G_st (fun C _ k => lv_i2c C.1 C.2.1 hdg rfl k) k
theorem G_i2d {a : Int32} (hdg : decode M.1 pc = .ok (.i2d, 1)) (k : G l z M okv en (pc + 1) lv (.double (FP.i2d a) :: st) x E) : G l z M okv en pc lv (.int a :: st) x E := G_st (fun C _ k => lv_i2d C.1 C.2.1 hdg k) k
theorem G_dconst0 (hdg : decode M.1 pc = .ok (.dconst 0, 1)) (k : G l z M okv en (pc + 1) lv (.double FP.dconst0 :: st) x E) : G l z M okv en pc lv st x E := G_st (fun C _ k => lv_dconst0 C.1 C.2.1 hdg k) k
theorem G_dcmp {a b : UInt64} {op : CmpOp} (hdg : decode M.1 pc = .ok (.dcmp op, 1)) (k : G l z M okv en (pc + 1) lv (.int (Op.cmpValue (FP.dcmp a b) op) :: st) x E) : G l z M okv en pc lv (.double b :: .double a :: st) x E := G_st (fun C _ k => lv_dcmp C.1 C.2.1 hdg k) k
theorem G_dup {va : Value} (hdg : decode M.1 pc = .ok (.dup, 1)) (hva : va.category = 1) (k : G l z M okv en (pc + 1) lv (va :: va :: st) x E) : G l z M okv en pc lv (va :: st) x E := G_st (fun C _ k => lv_dup C.1 C.2.1 hdg hva k) k
theorem G_dup2 {va vb : Value} (hdg : decode M.1 pc = .ok (.dup2, 1)) (hva : va.category = 1) (hvb : vb.category = 1) (k : G l z M okv en (pc + 1) lv (va :: vb :: va :: vb :: st) x E) : G l z M okv en pc lv (va :: vb :: st) x E := G_st (fun C _ k => lv_dup2_11 C.1 C.2.1 hdg hva hvb k) k
theorem G_dup_x1 {va vb : Value} (hdg : decode M.1 pc = .ok (.dup_x1, 1)) (hva : va.category = 1) (hvb : vb.category = 1) (k : G l z M okv en (pc + 1) lv (va :: vb :: va :: st) x E) : G l z M okv en pc lv (va :: vb :: st) x E := G_st (fun C _ k => lv_dup_x1 C.1 C.2.1 hdg hva hvb k) k
theorem G_pop {va : Value} (hdg : decode M.1 pc = .ok (.pop, 1)) (hva : va.category = 1) (k : G l z M okv en (pc + 1) lv st x E) : G l z M okv en pc lv (va :: st) x E := G_st (fun C _ k => lv_pop C.1 C.2.1 hdg hva k) k
theorem G_goto {off : Int} {tgt : Nat} (hdg : decode M.1 pc = .ok (.goto off, 3)) (ht : (pc : Int) + off = (tgt : Int)) (k : G l z M okv en tgt lv st x E) : G l z M okv en pc lv st x E := G_st (fun C _ k => lv_goto C.1 C.2.1 hdg ht k) k
/-! branches -/
theorem G_if_eq {a : Int32} {off : Int} {tgt : Nat} (hdg : decode M.1 pc = .ok (.ifCond .eq off, 3)) (ht : (pc : Int) + off = (tgt : Int)) (k1 : a = 0 → G l z M okv en tgt lv st x E1) (k2 : ¬ a = 0 → G l z M okv en (pc + 3) lv st x E2) : G l z M okv en pc lv (.int a :: st) x (if a = 0 then E1 else E2) := G_br (fun C k1 k2 => lv_if_eq C.1 C.2.1 hdg ht k1 k2) k1 k2
theorem G_if_ne {a : Int32} {off : Int} {tgt : Nat} (hdg : decode M.1 pc = .ok (.ifCond .ne off, 3)) (ht : (pc : Int) + off = (tgt : Int)) (k1 : a = 0 → G l z M okv en (pc + 3) lv st x E1) (k2 : ¬ a = 0 → G l z M okv en tgt lv st x E2) : G l z M okv en pc lv (.int a :: st) x (if a = 0 then E1 else E2) := G_br (fun C k1 k2 => lv_if_ne C.1 C.2.1 hdg ht k2 k1) k1 k2
theorem G_if_lt {a : Int32} {off : Int} {tgt : Nat} (hdg : decode M.1 pc = .ok (.ifCond .lt off, 3)) (ht : (pc : Int) + off = (tgt : Int)) (k1 : a < 0 → G l z M okv en tgt lv st x E1) (k2 : ¬ a < 0 → G l z M okv en (pc + 3) lv st x E2) : G l z M okv en pc lv (.int a :: st) x (if a < 0 then E1 else E2) := G_br (fun C k1 k2 => lv_if_lt C.1 C.2.1 hdg ht k1 k2) k1 k2
theorem G_if_ge {a : Int32} {off : Int} {tgt : Nat} (hdg : decode M.1 pc = .ok (.ifCond .ge off, 3)) (ht : (pc : Int) + off = (tgt : Int)) (k1 : 0 ≤ a → G l z M okv en tgt lv st x E1) (k2 : ¬ 0 ≤ a → G l z M okv en (pc + 3) lv st x E2) : G l z M okv en pc lv (.int a :: st) x (if 0 ≤ a then E1 else E2) := G_br (fun C k1 k2 => lv_if_ge C.1 C.2.1 hdg ht k1 k2) k1 k2
theorem G_if_gt {a : Int32} {off : Int} {tgt : Nat} (hdg : decode M.1 pc = .ok (.ifCond .gt off, 3)) (ht : (pc : Int) + off = (tgt : Int)) (k1 : 0 < a → G l z M okv en tgt lv st x E1) (k2 : ¬ 0 < a → G l z M okv en (pc + 3) lv st x E2) : G l z M okv en pc lv (.int a :: st) x (if 0 < a then E1 else E2) := G_br (fun C k1 k2 => lv_if_gt C.1 C.2.1 hdg ht k1 k2) k1 k2
theorem G_if_le {a : Int32} {off : Int} {tgt : Nat} (hdg : decode M.1 pc = .ok (.ifCond .le off, 3)) (ht : (pc : Int) + off = (tgt : Int)) (k1 : a ≤ 0 → G l z M okv en tgt lv st x E1) (k2 : ¬ a ≤ 0 → G l z M okv en (pc + 3) lv st x E2) : G l z M okv en pc lv (.int a :: st) x (if a ≤ 0 then E1 else E2) := G_br (fun C k1 k2 => lv_if_le C.1 C.2.1 hdg ht k1 k2) k1 k2
theorem G_icmp_eq {a b : Int32} {off : Int} {tgt : Nat} (hdg : decode M.1 pc = .ok (.if_icmp .eq off, 3)) (ht : (pc : Int) + off = (tgt : Int)) (k1 : a = b → G l z M okv en tgt lv st x E1) (k2 : ¬ a = b → G l z M okv en (pc + 3) lv st x E2) : G l z M okv en pc lv (.int b :: .int a :: st) x (if a = b then E1 else E2) := G_br (fun C k1 k2 => lv_icmp_eq C.1 C.2.1 hdg ht k1 k2) k1 k2
theorem G_icmp_ne {a b : Int32} {off : Int} {tgt : Nat} (hdg : decode M.1 pc = .ok (.if_icmp .ne off, 3)) (ht : (pc : Int) + off = (tgt : Int)) (k1 : a = b → G l z M okv en (pc + 3) lv st x E1) (k2 : ¬ a = b → G l z M okv en tgt lv st x E2) : G l z M okv en pc lv (.int b :: .int a :: st) x (if a = b then E1 else E2) := G_br (fun C k1 k2 => lv_icmp_ne C.1 C.2.1 hdg ht k2 k1) k1 k2
theorem G_icmp_lt {a b : Int32} {off : Int} {tgt : Nat} (hdg : decode M.1 pc = .ok (.if_icmp .lt off, 3)) (ht : (pc : Int) + off = (tgt : Int)) (k1 : a < b → G l z M okv en tgt lv st x E1) (k2 : ¬ a < b → G l z M okv en (pc + 3) lv st x E2) : G l z M okv en pc lv (.int b :: .int a :: st) x (if a < b then E1 else E2) := G_br (fun C k1 k2 => lv_icmp_lt C.1 C.2.1 hdg ht k1 k2) k1 k2
theorem G_icmp_ge {a b : Int32} {off : Int} {tgt : Nat} (hdg : decode M.1 pc = .ok (.if_icmp .ge off, 3)) (ht : (pc : Int) + off = (tgt : Int)) (k1 : b ≤ a → G l z M okv en tgt lv st x E1) (k2 : ¬ b ≤ a → G l z M okv en (pc + 3) lv st x E2) : G l z M okv en pc lv (.int b :: .int a :: st) x (if b ≤ a then E1 else E2) := G_br (fun C k1 k2 => lv_icmp_ge C.1 C.2.1 hdg ht k1 k2) k1 k2
theorem G_icmp_gt {a b : Int32} {off : Int} {tgt : Nat} (hdg : decode M.1 pc = .ok (.if_icmp .gt off, 3)) (ht : (pc : Int) + off = (tgt : Int)) (k1 : b < a → G l z M okv en tgt lv st x E1) (k2 : ¬ b < a → G l z M okv en (pc + 3) lv st x E2) : G l z M okv en pc lv (.int b :: .int a :: st) x (if b < a then E1 else E2) := G_br (fun C k1 k2 => lv_icmp_gt C.1 C.2.1 hdg ht k1 k2) k1 k2
theorem G_icmp_le {a b : Int32} {off : Int} {tgt : Nat} (hdg : decode M.1 pc = .ok (.if_icmp .le off, 3)) (ht : (pc : Int) + off = (tgt : Int)) (k1 : a ≤ b → G l z M okv en tgt lv st x E1) (k2 : ¬ a ≤ b → G l z M okv en (pc + 3) lv st x E2) : G l z M okv en pc lv (.int b :: .int a :: st) x (if a ≤ b then E1 else E2) := G_br (fun C k1 k2 => lv_icmp_le C.1 C.2.1 hdg ht k1 k2) k1 k2
theorem G_acmp_eq {a b : Option Nat} {off : Int} {tgt : Nat} (hdg : decode M.1 pc = .ok (.if_acmp .eq off, 3)) (ht : (pc : Int) + off = (tgt : Int)) (k1 : a = b → G l z M okv en tgt lv st x E1) (k2 : ¬ a = b → G l z M okv en (pc + 3) lv st x E2) : G l z M okv en pc lv (va_rf b :: va_rf a :: st) x (if a = b then E1 else E2) := G_br (fun C k1 k2 => lv_acmp_eq C.1 C.2.1 hdg ht k1 k2) k1 k2
theorem G_acmp_ne {a b : Option Nat} {off : Int} {tgt : Nat} (hdg : decode M.1 pc = .ok (.if_acmp .ne off, 3)) (ht : (pc : Int) + off = (tgt : Int)) (k1 : a = b → G l z M okv en (pc + 3) lv st x E1) (k2 : ¬ a = b → G l z M okv en tgt lv st x E2) : G l z M okv en pc lv (va_rf b :: va_rf a :: st) x (if a = b then E1 else E2) := G_br (fun C k1 k2 => lv_acmp_ne C.1 C.2.1 hdg ht k2 k1) k1 k2
theorem G_ifnull {a : Option Nat} {off : Int} {tgt : Nat} (hdg : decode M.1 pc = .ok (.ifnull off, 3)) (ht : (pc : Int) + off = (tgt : Int)) (k1 : a = none → G l z M okv en tgt lv st x E1) (k2 : ¬ a = none → G l z M okv en (pc + 3) lv st x E2) : G l z M okv en pc lv (va_rf a :: st) x (if a = none then E1 else E2) := G_br (fun C k1 k2 => by
  cases a with
  | none => exact lv_ifnullN C.1 C.2.1 hdg ht (k1 rfl)
  | some b => exact lv_ifnull C.1 C.2.1 hdg (k2 (by simp))) k1 k2
theorem G_ifnonnull {a : Option Nat} {off : Int} {tgt : Nat} (hdg : decode M.1 pc = .ok (.ifnonnull off, 3)) (ht : (pc : Int) + off = (tgt : Int)) (k1 : a = none → G l z M okv en (pc + 3) lv st x E1) (k2 : ¬ a = none → G l z M okv en tgt lv st x E2) : G l z M okv en pc lv (va_rf a :: st) x (if a = none then E1 else E2) := G_br (fun C k1 k2 => by
  cases a with
  | none => exact lv_ifnonnullN C.1 C.2.1 hdg (k1 rfl)
  | some b => exact lv_ifnonnull C.1 C.2.1 hdg ht (k2 (by simp))) k1 k2
/-! switches: where the value is known -/
theorem G_lookup {dflt : Int} {ps : Array (Int × Int)} {len : Nat} {a : Int32} {off : Int} {tgt : Nat} (hdg : decode M.1 pc = .ok (.lookupswitch dflt ps, len)) (hp : (ps.toList.zip (ps.toList.drop 1)).all (fun (a, next) => a.1 < next.1) = true) (ho : Op.lookupswitch.offset ps.toList dflt a.toInt = off) (ht : (pc : Int) + off = (tgt : Int)) (k : G l z M okv en tgt lv st x E) : G l z M okv en pc lv (.int a :: st) x E := G_st (fun C _ k => lv_lookup C.1 C.2.1 hdg hp ho ht k) k
theorem G_tableOut {dflt lo hi : Int} {offs : Array Int} {len : Nat} {a : Int32} {tgt : Nat} (hdg : decode M.1 pc = .ok (.tableswitch dflt lo hi offs, len)) (h : a.toInt < lo ∨ hi < a.toInt) (ht : (pc : Int) + dflt = (tgt : Int)) (k : G l z M okv en tgt lv st x E) : G l z M okv en pc lv (.int a :: st) x E := G_st (fun C _ k => lv_tableOut C.1 C.2.1 hdg h ht k) k
theorem G_tableIn {dflt lo hi : Int} {offs : Array Int} {len : Nat} {a : Int32} {off : Int} {tgt : Nat} (hdg : decode M.1 pc = .ok (.tableswitch dflt lo hi offs, len)) (h1 : ¬ a.toInt < lo) (h2 : ¬ hi < a.toInt) (ho : offs[(a.toInt - lo).toNat]? = some off) (ht : (pc : Int) + off = (tgt : Int)) (k : G l z M okv en tgt lv st x E) : G l z M okv en pc lv (.int a :: st) x E := G_st (fun C _ k => lv_tableIn C.1 C.2.1 hdg h1 h2 ho ht k) k
end ROWS
