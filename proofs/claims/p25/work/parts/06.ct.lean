/-! ===== ARRAYS OF REFERENCES, LENGTHS, AND THE CONTRACT OF A WALK ===== -/
section ROWSD
variable {α : Type} {l : Launch} {z : Nat → Nat} {M : Mt} {okv : α → Prop} {en : α → Option Value} {pc : Nat} {lv : List (Nat × Value)} {st : List Value} {x : Hp}
theorem w_len {a : Nat} {f : Nat → Value} {n : Nat} : (arrV a n f).slots.size.toInt32 = Int32.ofNat n := by rw [arrV_size] <;> rfl
theorem G_alen {r : Option Nat} {kd t : Nat} {kk : Int32 → Option (α × Hp)} (hkd : kd = 100 + t) (ht2 : t < 8) (hdg : decode M.1 pc = .ok (.arraylength, 1)) (k0 : ∀ v, G l z M okv en (pc + 1) lv (.int v :: st) x (kk v)) : G l z M okv en pc lv (va_rf r :: st) x (alen r x kd kk) := by
  refine G_obj fun b hr hkb => ?_
  subst hr; subst hkd
  refine G_rd (fun {D cA b0 p e R s m args below meth c H locs cells slots Q ls} C hR hS k2 => ?_) (k0 (Int32.ofNat (h_n x b)))
  obtain ⟨hx, hb, -, hown, hts, hnm, ⟨hK, -⟩, -⟩ := C
  have h1 := hR.at_arr hkb (by omega)
  have hP : va_P D vwCl [(b, .inl (cA t, (h_n x b, apay x t b)))] H := fun k q hq => by
    have hz : k < 1 := (List.getElem?_eq_some_iff.mp hq).1
    rw [show k = 0 by omega] at hq
    cases hq
    exact h1
  have go : ∀ ty : FieldType, (gTy cA)[t]? = some (cA t, ty) → W p l e R s m args below meth c H locs cells slots Q (F0 m pc ls (.ref b :: st)) := fun ty h => va_alen (ty := ty) hx hb hK hP 0 t rfl h rfl hdg k2
  rcases (show t = 0 ∨ t = 1 ∨ t = 2 ∨ t = 3 ∨ t = 4 ∨ t = 5 ∨ t = 6 ∨ t = 7 by omega) with rfl | rfl | rfl | rfl | rfl | rfl | rfl | rfl
  · exact go _ rfl
  · exact go _ rfl
  · exact go _ rfl
  · exact go _ rfl
  · exact go _ rfl
  · exact go _ rfl
  · exact go _ rfl
  · exact go _ rfl
/-- an object of class number ci into a row of such -/
theorem G_aast {r v : Option Nat} {i : Int32} {kd kv t ci N : Nat} {C : String} {T : u_T} {ty : Nat → FieldType} {kk : Hp → Option (α × Hp)} (hcl : Cl ci C T N ty) (hkd : kd = 100 + t) (hkv : kv = ci + 1) (ht : 2 < t) (ht2 : t < 7) (hty : ∀ cA, (gTy cA)[t]? = some (cA t, .object C)) (hdg : decode M.1 pc = .ok (.aastore, 1)) (k0 : ∀ y, G l z M okv en (pc + 1) lv st y (kk y)) : G l z M okv en pc lv (va_rf v :: .int i :: va_rf r :: st) x (astr r x kd kv i v kk) := by
  refine G_idx fun b hr hkb hi => ?_
  subst hr; subst hkd; subst hkv
  have fin : ∀ {w : Option Nat} {D : va_G} {cA : Nat → ClassId} {b0 : Nat} {s : State} {H H1 : Heap} {locs : List Loc}, Rep D cA b0 s x H → va_S (fun q => b0 ≤ q) s.heap H locs → H1[b]? = some ((vp_cell (cA t) (h_n x b, .inr (.inr (.inr (.inr (h_ar x b)))))).setSlot i.toNatClampNeg (va_rf w)) → H1.size = H.size → (∀ q, q ≠ b → H1[q]? = H[q]?) → Rep D cA b0 s (p_ar x b i.toNatClampNeg w) H1 ∧ va_S (fun q => b0 ≤ q) s.heap H1 (locs ++ [⟨b, i.toNatClampNeg⟩]) := by
    intro w D cA b0 s H H1 locs hR hS e zz oq
    refine w_arr (t := t) (y := p_ar x b i.toNatClampNeg w) (n := 0) (by omega) hR hkb hS zz oq rfl rfl (fun q hq => Sm_par hq) ?_
    rw [e, w_apay ht, vp_cell_q, vp_cell_q, arrV_store]
    congr 2
    funext q
    by_cases hq : q = i.toNatClampNeg
    · subst hq
      simp [updV, h_ar, p_ar, u2]
    · simp [updV, h_ar, p_ar, u2, hq]
  have hsz : ∀ (cB : ClassId), ¬ (i < 0 ∨ (arrV cB (h_n x b) (fun j => va_rf (h_ar x b j))).slots.size ≤ i.toNatClampNeg) := fun cB => by rw [arrV_size]; exact h_in hi
  cases v with
  | none =>
    refine G_wr (y := p_ar x b i.toNatClampNeg none) rfl rfl (fun {D cA b0 p e R s m args below meth c H locs cells slots Q ls} C0 hR hS k2 => ?_) (k0 _)
    obtain ⟨hx, hb, -, hown, hts, hnm, ⟨hK, -⟩, -⟩ := C0
    have h1 := hR.at_arr hkb (by omega)
    rw [w_apay ht] at h1
    exact va_WaastN (C := C) hx hb h1 ((hK.2 t _ (hty cA)).1 _ (fun j => va_rf (h_ar x b j))) (fun h => by cases h) (hsz _) rfl rfl hdg fun H1 e zz oq => (fun hh => k2 H1 _ hh.1 hh.2) (fin (w := none) hR hS e zz oq)
  | some v =>
    refine G_if (fun hkv => ?_) (fun _ => G_none)
    refine G_wr (y := p_ar x b i.toNatClampNeg (some v)) rfl rfl (fun {D cA b0 p e R s m args below meth c H locs cells slots Q ls} C0 hR hS k2 => ?_) (k0 _)
    obtain ⟨hx, hb, -, hown, hts, hnm, ⟨hK, -⟩, -⟩ := C0
    have h1 := hR.at_arr hkb (by omega)
    rw [w_apay ht] at h1
    obtain ⟨r', hr', cellV, g1, g2, g3, -⟩ := hR.at_obj hkv hcl.2.1 0 _ rfl
    have hcls := (hK.1 ci _ hcl.1).2
    obtain ⟨kA, comp, c1, c2, c3, -⟩ := (hK.2 t _ (hty cA)).2
    have hcomp : comp = D.1 ci := Option.some.inj (c3.symm.trans hcls.1)
    subst hcomp
    obtain ⟨kC, hkC, -⟩ := hcls.2
    exact W.aast hx hb h1 (fun q h => by cases h) (fun h => by cases h) c1 c2 rfl hkC ⟨fun q => h_in hi (Or.inl q), Nat.not_le.mp fun q => hsz (cA t) (Or.inr q)⟩ g1 (fun q h => by rw [g3] at h; cases h) (by rw [g2]; exact hkC) (by rw [g2]; exact va_assign hcls) rfl rfl hdg fun H1 e zz oq => (fun hh => k2 H1 _ hh.1 hh.2) (fin (w := some v) hR hS e zz oq)
theorem G_anew {C : String} {i t kd : Nat} {n : Int32} {kk : Option Nat → Hp → Option (α × Hp)} (hkd : kd = 100 + t) (ht : 2 < t) (ht2 : t < 7) (hty : ∀ cA, (gTy cA)[t]? = some (cA t, .object C)) (w1 : Cond.classLink M.2.1 i C ∈ gT) (w2 : C ∈ gAO) (hdg : decode M.1 pc = .ok (.anewarray i, 3))
    (k0 : ∀ r y, G l z M okv en (pc + 3) lv (va_rf r :: st) y (kk r y)) : G l z M okv en pc lv (.int n :: st) x (newa x kd n kk) := by
  subst hkd
  refine G_if (fun hn => ?_) (fun _ => G_none)
  have hcl : n.toNatClampNeg ≤ 60000000 := by rw [Int32_clamp]; omega
  refine G_mk (fun {D cA b0 p e R s m args below meth c H locs cells slots Q ls} C0 hR hS hcl' hsl k => ?_) (k0 (some (h_sz x)) (p_n x (100 + t) n.toNatClampNeg n.toNatClampNeg))
  obtain ⟨hx, hb, hml, hown, hts, hnm, hE, hf1, hf2⟩ := C0
  refine W.anew hx hb hown (hts _ w1) (va_AO.use (hE.2.2.2.2.1 C w2)) rfl hdg rfl (Int32_nneg hn.1) (by omega) hcl' hsl fun cB kA comp f1 f2 f3 f4 => ?_
  generalize hH1 : H.push ({ cls := cB, slots := Array.replicate n.toNatClampNeg .null, vm := .none } : Cell) = H1
  have z1 : H1.size = H.size + 1 := by rw [← hH1, Array.size_push]
  have e1 : H1[h_sz x]? = some (arrV cB n.toNatClampNeg (fun _ => .null)) := by rw [← hH1, ← hR.1, Array.getElem?_push_size, ← arrV_new]
  have o1 : ∀ q : Nat, q < H.size → H1[q]? = H[q]? := fun q hq => by rw [← hH1, Array.getElem?_push, if_neg (Nat.ne_of_lt hq)]
  obtain ⟨kA', comp', -, -, -, h2⟩ := (hE.1.2 t _ (hty cA)).2
  have h3 := Option.some.inj (f1.symm.trans h2)
  dsimp only at h3
  subst h3
  rw [hR.1]
  refine k H1 (hR.push z1 o1 (by omega) ?_) ⟨Nat.le_trans hS.1 (by omega), fun q h1 h2 => (o1 q (Nat.lt_of_lt_of_le h1 hS.1)).trans (hS.2.1 q h1 h2), hS.2.2⟩
  exact w_pn (q := .inr (.inr (.inr (.inr (fun _ => none))))) (by rw [w_apay ht]; congr 4; funext j; simp [h_ar, p_n]) e1
end ROWSD
/-! the contract out of the walk, by the kind of what is returned -/
section CTOF
variable {l : Launch} {z : Nat → Nat} {y : MethodName} {b : ByteArray} {n d : Nat} {av : List Value}
theorem ct_of {α : Type} {okv : α → Prop} {en : α → Option Value} {ri : Instr} {ret : Option FieldType} {f : Hp → Option (α × Hp)} (hG : ∀ x, G l z (b, y.cls, y.name, n, ri, d) okv en 0 (lv_args 0 av) [] x (f x)) (hy : plainName y.cls = true) (hs : (lg_sl av).length ≤ n)
    (hret : ∀ {p : Program} {e : Env} {R : Room} {s : State} {m : MethodId} {args : Array Value} {below : List Frame} {meth : Method} {c : Code} {H : Heap} {locs : List Loc} {cells slots : Nat} {Qc : Array Value → State → Outcome → State → Prop} {free : Addr → Prop} {v : α} {pc : Nat} {ls : Array Slot}, okv v → p.tables.exec = Jvm.exec → c.code = b → meth.sig.returnType = ret → meth.locks = false → (∀ t : State, t.heap = H → s.WarmedH t.vm → Qc args s (.returned (en v)) t) → (∀ q ∈ locs, free q.base) → decode b pc = .ok (ri, 1) → W p l e R s m args below meth c H locs cells slots (MQ below Qc args s cells slots free) (F0 m pc ls (en v).toList)) : Ct l z y b n ret d en av f := by
  intro x v xe hE
  obtain ⟨h0, k⟩ := hG x v xe hE
  refine ⟨h0, fun D cA b0 => Met.ofW (cc := b) (maxL := n) (ret := ret) hy rfl ?_⟩
  intro p e s m args below meth c s₁ B hml hv
  obtain ⟨rfl, hR, hEv⟩ := hv
  have hts := atoms_spec (ws := .code y b n ret :: gT) B.pre
  have hl := lv_entry av (n := n) hs
  rw [lg_entry_eq]
  generalize (lg_sl av ++ List.replicate (n - (lg_sl av).length) Slot.unset).toArray = ls at hl ⊢
  have h1 := k D cA b0 p e (headSpec (.code y b n ret :: gT) ({ frames := d, cells := h_sz xe - h_sz x, slots := h_sl xe - h_sl x, locals := 64 * d })).room s m av.toArray below meth c (h_sz x) (h_sl x) (MQ below (gQc D cA b0 (en v) xe) av.toArray s (h_sz xe - h_sz x) (h_sl xe - h_sl x) (fun q => b0 ≤ q))
    ⟨B.exec, B.bytes, hml, findClass_of_methodNamed B.named, fun w hw => hts w (List.mem_cons_of_mem _ hw), (name_of_methodNamed B.named B.method).1, hEv, Nat.le_refl _, Nat.le_refl _⟩ (Nat.le_refl _) (Nat.le_refl _)
    (fun pc H locs ls ok hdg hR' hS' => hret ok B.exec B.bytes B.returns B.notSynchronized (fun t ht hW => ⟨⟨rfl, by rw [ht]; exact hR'.moved hW.alike⟩, hS'.F ht⟩) hS'.2.2 hdg) s.heap [] ls (Nat.le_refl _) (Nat.le_refl _) hR va_S.rf hl
  rw [Nat.sub_self, Nat.sub_self] at h1
  exact h1
theorem Ct_i {f : Hp → Option (Int32 × Hp)} (hG : ∀ x, G l z (b, y.cls, y.name, n, .ireturn, d) (fun _ => True) (fun v => some (.int v)) 0 (lv_args 0 av) [] x (f x)) (hy : plainName y.cls = true) (hs : (lg_sl av).length ≤ n) : Ct l z y b n (some .int) d (fun v : Int32 => some (.int v)) av f :=
  ct_of hG hy hs (fun _ hx hb hr hlk hq hf hdg => W.iret hx hb hr hq hf hdg hlk)
theorem Ct_z {f : Hp → Option (Int32 × Hp)} (hG : ∀ x, G l z (b, y.cls, y.name, n, .ireturn, d) (fun v => v = 0 ∨ v = 1) (fun v => some (.int v)) 0 (lv_args 0 av) [] x (f x)) (hy : plainName y.cls = true) (hs : (lg_sl av).length ≤ n) : Ct l z y b n (some .boolean) d (fun v : Int32 => some (.int v)) av f :=
  ct_of hG hy hs (fun ok hx hb hr hlk hq hf hdg => W.zret hx hb hr (nar_bool ok).1 hq hf hdg hlk)
theorem Ct_v {f : Hp → Option (Unit × Hp)} (hG : ∀ x, G l z (b, y.cls, y.name, n, .return_, d) (fun _ => True) (fun _ => none) 0 (lv_args 0 av) [] x (f x)) (hy : plainName y.cls = true) (hs : (lg_sl av).length ≤ n) : Ct l z y b n none d (fun _ : Unit => none) av f :=
  ct_of hG hy hs (fun _ hx hb hr hlk hq hf hdg => W.vret hx hb hr hq hf hdg hlk)
theorem Ct_r {C : String} {f : Hp → Option (Option Nat × Hp)} (hG : ∀ x, G l z (b, y.cls, y.name, n, .areturn, d) (fun _ => True) (fun v => some (va_rf v)) 0 (lv_args 0 av) [] x (f x)) (hy : plainName y.cls = true) (hs : (lg_sl av).length ≤ n) : Ct l z y b n (some (.object C)) d (fun v : Option Nat => some (va_rf v)) av f :=
  ct_of hG hy hs (fun {p e R s m args below meth c H locs cells slots Qc free v pc ls} _ hx hb hr hlk hq hf hdg => W.aret hx hb hr (Or.inl ⟨_, rfl⟩) (by cases v with | none => exact Or.inl rfl | some a => exact Or.inr ⟨a, rfl⟩) hq hf hdg hlk)
theorem Ct_ra {T : FieldType} {f : Hp → Option (Option Nat × Hp)} (hG : ∀ x, G l z (b, y.cls, y.name, n, .areturn, d) (fun _ => True) (fun v => some (va_rf v)) 0 (lv_args 0 av) [] x (f x)) (hy : plainName y.cls = true) (hs : (lg_sl av).length ≤ n) : Ct l z y b n (some (.array T)) d (fun v : Option Nat => some (va_rf v)) av f :=
  ct_of hG hy hs (fun {p e R s m args below meth c H locs cells slots Qc free v pc ls} _ hx hb hr hlk hq hf hdg => W.aret hx hb hr (Or.inr ⟨_, rfl⟩) (by cases v with | none => exact Or.inl rfl | some a => exact Or.inr ⟨a, rfl⟩) hq hf hdg hlk)
theorem Ct_l {f : Hp → Option (Int64 × Hp)} (hG : ∀ x, G l z (b, y.cls, y.name, n, .lreturn, d) (fun _ => True) (fun v => some (.long v)) 0 (lv_args 0 av) [] x (f x)) (hy : plainName y.cls = true) (hs : (lg_sl av).length ≤ n) : Ct l z y b n (some .long) d (fun v : Int64 => some (.long v)) av f :=
  ct_of hG hy hs (fun _ hx hb hr hlk hq hf hdg => W.lret hx hb hr hq hf hdg hlk)
theorem Ct_d {f : Hp → Option (UInt64 × Hp)} (hG : ∀ x, G l z (b, y.cls, y.name, n, .dreturn, d) (fun _ => True) (fun v => some (.double v)) 0 (lv_args 0 av) [] x (f x)) (hy : plainName y.cls = true) (hs : (lg_sl av).length ≤ n) : Ct l z y b n (some .double) d (fun v : UInt64 => some (.double v)) av f :=
  ct_of hG hy hs (fun _ hx hb hr hlk hq hf hdg => W.dret hx hb hr hq hf hdg hlk)
end CTOF
theorem lgl_n : (lg_sl []).length = 0 := rfl
theorem lgl_i {v : Int32} {l : List Value} : (lg_sl (.int v :: l)).length = (lg_sl l).length + 1 := by simp [lg_sl, Value.category]
theorem lgl_o {v : Nat} {l : List Value} : (lg_sl (.ref v :: l)).length = (lg_sl l).length + 1 := by simp [lg_sl, Value.category]
theorem lgl_r {v : Option Nat} {l : List Value} : (lg_sl (va_rf v :: l)).length = (lg_sl l).length + 1 := by cases v <;> simp [lg_sl, va_rf, Value.category]
theorem lgl_j {v : Int64} {l : List Value} : (lg_sl (.long v :: l)).length = (lg_sl l).length + 2 := by simp [lg_sl, Value.category]
theorem lva_n {i : Nat} : lv_args i [] = [] := rfl
theorem lva_i {i : Nat} {v : Int32} {l : List Value} : lv_args i (.int v :: l) = (i, .int v) :: lv_args (i + 1) l := by simp [lv_args, Value.category]
theorem lva_o {i : Nat} {v : Nat} {l : List Value} : lv_args i (.ref v :: l) = (i, va_rf (some v)) :: lv_args (i + 1) l := by simp [lv_args, Value.category, va_rf]
theorem lva_r {i : Nat} {v : Option Nat} {l : List Value} : lv_args i (va_rf v :: l) = (i, va_rf v) :: lv_args (i + 1) l := by cases v <;> simp [lv_args, va_rf, Value.category]
theorem lva_j {i : Nat} {v : Int64} {l : List Value} : lv_args i (.long v :: l) = (i, .long v) :: lv_args (i + 2) l := by simp [lv_args, Value.category]
theorem hw_n : (([] : List Value).map fun v => v.category).sum = 0 := rfl
theorem hw_i {v : Int32} {l : List Value} : ((Value.int v :: l).map fun v => v.category).sum = 1 + (l.map fun v => v.category).sum := by simp [Value.category]
theorem hw_r {v : Option Nat} {l : List Value} : ((va_rf v :: l).map fun v => v.category).sum = 1 + (l.map fun v => v.category).sum := by cases v <;> simp [va_rf, Value.category]
theorem hw_j {v : Int64} {l : List Value} : ((Value.long v :: l).map fun v => v.category).sum = 2 + (l.map fun v => v.category).sum := by simp [Value.category]
theorem hw_d {v : UInt64} {l : List Value} : ((Value.double v :: l).map fun v => v.category).sum = 2 + (l.map fun v => v.category).sum := by simp [Value.category]
/-! rows of rows of ints; cells from before -/
section ROWSE
variable {α : Type} {l : Launch} {z : Nat → Nat} {M : Mt} {okv : α → Prop} {en : α → Option Value} {pc : Nat} {lv : List (Nat × Value)} {st : List Value} {x : Hp}
theorem G_anewA {i : Nat} {n : Int32} {kk : Option Nat → Hp → Option (α × Hp)} (w1 : Cond.classLink M.2.1 i "[I" ∈ gT) (hdg : decode M.1 pc = .ok (.anewarray i, 3))
    (k0 : ∀ r y, G l z M okv en (pc + 3) lv (va_rf r :: st) y (kk r y)) : G l z M okv en pc lv (.int n :: st) x (newa x 107 n kk) := by
  refine G_if (fun hn => ?_) (fun _ => G_none)
  have hcl : n.toNatClampNeg ≤ 60000000 := by rw [Int32_clamp]; omega
  refine G_mk (fun {D cA b0 p e R s m args below meth c H locs cells slots Q ls} C0 hR hS hcl' hsl k => ?_) (k0 (some (h_sz x)) (p_n x (100 + 7) n.toNatClampNeg n.toNatClampNeg))
  obtain ⟨hx, hb, hml, hown, hts, hnm, hE, hf1, hf2⟩ := C0
  refine W.anewA (t := .int) hx hb hown (hts _ w1) (over_moved (Vm.Alike.refl _) hE.2.2.2.2.2.1) rfl hdg rfl (Int32_nneg hn.1) (by omega) hcl' hsl fun cB kA comp f1 f2 f3 f4 => ?_
  generalize hH1 : H.push ({ cls := cB, slots := Array.replicate n.toNatClampNeg .null, vm := .none } : Cell) = H1
  have z1 : H1.size = H.size + 1 := by rw [← hH1, Array.size_push]
  have e1 : H1[h_sz x]? = some (arrV cB n.toNatClampNeg (fun _ => .null)) := by rw [← hH1, ← hR.1, Array.getElem?_push_size, ← arrV_new]
  have o1 : ∀ q : Nat, q < H.size → H1[q]? = H[q]? := fun q hq => by rw [← hH1, Array.getElem?_push, if_neg (Nat.ne_of_lt hq)]
  have h2 : s.vm.findClass ("[" ++ (FieldType.array .int).toString) = some (cA 7) := (hE.1.2 7 _ rfl).2
  have h3 := Option.some.inj (f1.symm.trans h2)
  subst h3
  rw [hR.1]
  refine k H1 (hR.push z1 o1 (by omega) ?_) ⟨Nat.le_trans hS.1 (by omega), fun q h1 h2 => (o1 q (Nat.lt_of_lt_of_le h1 hS.1)).trans (hS.2.1 q h1 h2), hS.2.2⟩
  exact w_pn (q := .inr (.inr (.inr (.inr (fun _ => none))))) (by rw [w_apay (by omega)]; congr 4; funext j; simp [h_ar, p_n]) e1
theorem G_aastA {r v : Option Nat} {i : Int32} {kk : Hp → Option (α × Hp)} (hdg : decode M.1 pc = .ok (.aastore, 1)) (k0 : ∀ y, G l z M okv en (pc + 1) lv st y (kk y)) : G l z M okv en pc lv (va_rf v :: .int i :: va_rf r :: st) x (nn v fun _ => astr r x 107 101 i v kk) := by
  refine G_nn fun w hw => ?_
  subst hw
  refine G_idx fun b hr hkb hi => ?_
  subst hr
  have hsz : ∀ (cB : ClassId), ¬ (i < 0 ∨ (arrV cB (h_n x b) (fun j => va_rf (h_ar x b j))).slots.size ≤ i.toNatClampNeg) := fun cB => by rw [arrV_size]; exact h_in hi
  refine G_if (fun hkv => ?_) (fun _ => G_none)
  refine G_wr (y := p_ar x b i.toNatClampNeg (some w)) rfl rfl (fun {D cA b0 p e R s m args below meth c H locs cells slots Q ls} C0 hR hS k2 => ?_) (k0 _)
  obtain ⟨hx, hb, -, hown, hts, hnm, hE, -⟩ := C0
  have hK := hE.1
  have h1 := hR.at_arr (t := 7) hkb (by omega)
  rw [w_apay (by omega)] at h1
  have h2 := hR.at_arr (t := 1) hkv (by omega)
  obtain ⟨comp, c7, k7, g1, -, g3, g4, g5⟩ := arrayOverA_spec hE.2.2.2.2.2.1
  have h7 : s.vm.findClass ("[" ++ (FieldType.array .int).toString) = some (cA 7) := (hK.2 7 _ rfl).2
  have h1' : s.vm.findClass ("[" ++ FieldType.int.toString) = some (cA 1) := (hK.2 1 _ rfl).2
  have e7 := Option.some.inj (g5.symm.trans h7)
  have e1 : comp = cA 1 := Option.some.inj (g1.symm.trans h1')
  subst e7; subst e1
  obtain ⟨kC, hkC, -⟩ := Vm.findClass_spec g1
  refine W.aast hx hb h1 (fun q h => by cases h) (fun h => by cases h) g3 g4 rfl hkC ⟨fun q => h_in hi (Or.inl q), Nat.not_le.mp fun q => hsz (cA 7) (Or.inr q)⟩ h2 (fun q h => by cases h) hkC (va_asg _ _) rfl rfl hdg fun H1 e zz oq => ?_
  refine (fun hh => k2 H1 _ hh.1 hh.2) (w_arr (t := 7) (y := p_ar x b i.toNatClampNeg (some w)) (n := 0) (by omega) hR hkb hS zz oq rfl rfl (fun q hq => Sm_par hq) ?_)
  rw [e, w_apay (by omega), vp_cell_q, vp_cell_q, arrV_store]
  congr 2
  funext q
  by_cases hq : q = i.toNatClampNeg
  · subst hq
    simp [updV, h_ar, p_ar, u2, va_rf]
  · simp [updV, h_ar, p_ar, u2, hq]
theorem G_ialdO {r : Option Nat} {i : Int32} {kk : Int32 → Option (α × Hp)} (hdg : decode M.1 pc = .ok (.iaload, 1)) (k0 : ∀ v, G l z M okv en (pc + 1) lv (.int v :: st) x (kk v)) : G l z M okv en pc lv (.int i :: va_rf r :: st) x (aldi r x 301 i kk) := by
  refine G_idx fun b hr hkb hi => ?_
  subst hr
  refine G_rd (fun C hR hS k2 => ?_) (k0 (h_ai x b i.toNatClampNeg))
  obtain ⟨cell, h1, h2, h3, h4, h5, h6, -⟩ := ((hR.2.2 b).2 (by omega)).2.2.2 hkb
  have hlt : i.toNatClampNeg < h_n x b := Nat.not_le.mp fun q => h_in hi (Or.inr q)
  exact W.iald (v := .int (h_ai x b i.toNatClampNeg)) C.1 C.2.1 h1 h2 h3 (fun q => q.elim (fun q => h_in hi (Or.inl q)) (fun q => by omega)) (h6 _ hlt) rfl rfl hdg k2
theorem G_baldO {r : Option Nat} {i : Int32} {kk : Int32 → Option (α × Hp)} (hdg : decode M.1 pc = .ok (.baload, 1)) (k0 : ∀ v, G l z M okv en (pc + 1) lv (.int v :: st) x (kk v)) : G l z M okv en pc lv (.int i :: va_rf r :: st) x (aldi r x 300 i kk) := by
  refine G_idx fun b hr hkb hi => ?_
  subst hr
  refine G_rd (fun C hR hS k2 => ?_) (k0 (h_ai x b i.toNatClampNeg))
  obtain ⟨cell, h1, h2, h3, h4, h5, h6, -⟩ := ((hR.2.2 b).2 (by omega)).2.2.1 hkb
  have hlt : i.toNatClampNeg < h_n x b := Nat.not_le.mp fun q => h_in hi (Or.inr q)
  exact W.bald (v := .int (h_ai x b i.toNatClampNeg)) C.1 C.2.1 h1 h2 h3 (fun q => q.elim (fun q => h_in hi (Or.inl q)) (fun q => by omega)) (h6 _ hlt) rfl rfl hdg k2
theorem G_alenO {r : Option Nat} {kk : Int32 → Option (α × Hp)} (hdg : decode M.1 pc = .ok (.arraylength, 1)) (k0 : ∀ v, G l z M okv en (pc + 1) lv (.int v :: st) x (kk v)) : G l z M okv en pc lv (va_rf r :: st) x (alen r x 301 kk) := by
  refine G_obj fun b hr hkb => ?_
  subst hr
  refine G_rd (fun C hR hS k2 => ?_) (k0 (Int32.ofNat (h_n x b)))
  obtain ⟨cell, h1, h2, h3, h4, h5, h6, -⟩ := ((hR.2.2 b).2 (by omega)).2.2.2 hkb
  exact W.alen C.1 C.2.1 h1 h2 h5 rfl rfl hdg k2
/-- a division of doubles that isn't NaN -/
def nnan {β : Type} (v : UInt64) (k : Option β) : Option β := if v &&& 0x7fffffffffffffff ≤ 0x7ff0000000000000 then k else none
theorem G_ddiv {a b : UInt64} {E : Option (α × Hp)} (hdg : decode M.1 pc = .ok (.ddiv, 1)) (k : G l z M okv en (pc + 1) lv (.double (FP.ddiv a b) :: st) x E) : G l z M okv en pc lv (.double b :: .double a :: st) x (nnan (FP.ddiv a b) E) :=
  G_if (fun hne => G_st (fun C _ k => lv_ddiv C.1 C.2.1 hdg hne k) k) (fun _ => G_none)
theorem G_mmin {i : Nat} {a b : Int32} {E : Option (α × Hp)} (w1 : Cond.methodLink M.2.1 i Lib.Math.min.name ∈ gT) (w2 : Cond.static Lib.Math.min.name ∈ gT) (w3 : Cond.initialized "java/lang/Math" ∈ gT) (w4 : Cond.code Lib.Math.min.name Lib.Math.min.code 2 (some .int) ∈ gT) (hd : 1 ≤ M.2.2.2.2.2) (hW : (st.map fun v => v.category).sum ≤ 8) (hdg : decode M.1 pc = .ok (.invokestatic i, 3)) (k : G l z M okv en (pc + 3) lv (.int (if b < a then b else a) :: st) x E) : G l z M okv en pc lv (.int b :: .int a :: st) x E := by
  intro v xe hE
  obtain ⟨h0, k⟩ := k v xe hE
  refine ⟨h0, fun D cA b0 p e R s m args below meth c z0 s0 Q C h1 h2 hF H locs ls h3 h4 hR hS hl => ?_⟩
  have k1 := k D cA b0 p e R s m args below meth c z0 s0 Q C h1 h2 hF H locs ls h3 h4 hR hS hl
  obtain ⟨hx, hb, hml, hown, hts, hnm, hE, hf1, hf2⟩ := C
  exact va_mmin hx hb (hml.trans hl.1.symm) hown (hts _ w1) (hts _ w2) (hts _ w3) (hts _ w4) (Nat.le_trans hd hf1) (by omega) (by omega) (by omega) hdg k1
theorem G_mmax {i : Nat} {a b : Int32} {E : Option (α × Hp)} (w1 : Cond.methodLink M.2.1 i Lib.Math.max.name ∈ gT) (w2 : Cond.static Lib.Math.max.name ∈ gT) (w3 : Cond.initialized "java/lang/Math" ∈ gT) (w4 : Cond.code Lib.Math.max.name Lib.Math.max.code 2 (some .int) ∈ gT) (hd : 1 ≤ M.2.2.2.2.2) (hW : (st.map fun v => v.category).sum ≤ 8) (hdg : decode M.1 pc = .ok (.invokestatic i, 3)) (k : G l z M okv en (pc + 3) lv (.int (if a < b then b else a) :: st) x E) : G l z M okv en pc lv (.int b :: .int a :: st) x E := by
  intro v xe hE
  obtain ⟨h0, k⟩ := k v xe hE
  refine ⟨h0, fun D cA b0 p e R s m args below meth c z0 s0 Q C h1 h2 hF H locs ls h3 h4 hR hS hl => ?_⟩
  have k1 := k D cA b0 p e R s m args below meth c z0 s0 Q C h1 h2 hF H locs ls h3 h4 hR hS hl
  obtain ⟨hx, hb, hml, hown, hts, hnm, hE, hf1, hf2⟩ := C
  exact va_mmax hx hb (hml.trans hl.1.symm) hown (hts _ w1) (hts _ w2) (hts _ w3) (hts _ w4) (Nat.le_trans hd hf1) (by omega) (by omega) (by omega) hdg k1
end ROWSE
