/-! ===== NEW CELLS, CALLS, CONTRACTS ===== -/
theorem Ev.warm {z : Nat → Nat} {D : va_G} {cA : Nat → ClassId} {b0 : Nat} {s U : State} {locs : List Loc} (hW : s.WarmedH U.vm) (hS : va_S (fun q => b0 ≤ q) s.heap U.heap locs) (h : Ev z D cA b0 s) : Ev z D cA b0 U := by
  refine ⟨va_K.moved hW.alike h.1, fun w hw => ?_, fun q hq => (h.2.2.1 q hq).warm hW, fun q hq => ((h.2.2.2.1 q hq).moved hW.alike).kept hS.2.1, fun C hC => (h.2.2.2.2.1 C hC).moved hW.alike, h.2.2.2.2.2.1.moved hW.alike, va_Nw.warmC hW h.2.2.2.2.2.2.1, fun y hy => Cond.privateMethod_warm hW (h.2.2.2.2.2.2.2 y hy)⟩
  have h1 := h.2.1 w hw
  have h2 := (List.mem_filter.mp hw).2
  cases w <;> first | exact va_Nw.warmM hW h1 | exact absurd h2 Bool.false_ne_true
theorem Ev.same {z : Nat → Nat} {D : va_G} {cA : Nat → ClassId} {b0 : Nat} {s U : State} (hv : s.vm = U.vm) (hh : U.heap = s.heap) (h : Ev z D cA b0 s) : Ev z D cA b0 U := by
  refine ⟨va_K.moved (by rw [hv]; exact Vm.Alike.refl _) h.1, fun w hw => ?_, fun q hq => (h.2.2.1 q hq).same hv.symm, fun q hq => by rw [hh]; exact (h.2.2.2.1 q hq).moved (by rw [hv]; exact Vm.Alike.refl _), fun C hC => (h.2.2.2.2.1 C hC).moved (by rw [hv]; exact Vm.Alike.refl _), h.2.2.2.2.2.1.moved (by rw [hv]; exact Vm.Alike.refl _), va_Nw.same rfl hv h.2.2.2.2.2.2.1, fun y hy => va_Nw.same rfl hv (h.2.2.2.2.2.2.2 y hy)⟩
  have h1 := h.2.1 w hw
  have h2 := (List.mem_filter.mp hw).2
  cases w <;> first | exact va_Nw.same rfl hv h1 | exact absurd h2 Bool.false_ne_true
/-- what a method asks: its arguments, the heap -/
def gPc (z : Nat → Nat) (D : va_G) (cA : Nat → ClassId) (b0 : Nat) (av : List Value) (x : Hp) : Array Value → State → Prop := va_Pc av (fun U => Rep D cA b0 U x U.heap ∧ Ev z D cA b0 U)
def gQc (D : va_G) (cA : Nat → ClassId) (b0 : Nat) (rv : Option Value) (xe : Hp) : Array Value → State → Outcome → State → Prop := fun _ st oc t => (oc = .returned rv ∧ Rep D cA b0 t xe t.heap) ∧ va_F (fun q => b0 ≤ q) st t
/-- a method's contract, as a function on maps -/
def Ct {α : Type} (l : Launch) (z : Nat → Nat) (y : MethodName) (b : ByteArray) (n : Nat) (ret : Option FieldType) (d : Nat) (en : α → Option Value) (av : List Value) (f : Hp → Option (α × Hp)) : Prop :=
  ∀ (x : Hp) (v : α) (xe : Hp), f x = some (v, xe) → (h_sz x ≤ h_sz xe ∧ h_sl x ≤ h_sl xe) ∧ ∀ (D : va_G) (cA : Nat → ClassId) (b0 : Nat),
    Met l y (.code y b n ret :: gT) ({ frames := d, cells := h_sz xe - h_sz x, slots := h_sl xe - h_sl x, locals := 64 * d }) (gPc z D cA b0 av x) (gQc D cA b0 (en v) xe) (h_sz xe - h_sz x) (h_sl xe - h_sl x) (fun q => b0 ≤ q)
theorem gPc_blind {z : Nat → Nat} {D : va_G} {cA : Nat → ClassId} {b0 : Nat} {av : List Value} {x : Hp} : FrameBlind (gPc z D cA b0 av x) := fun a U g mk h => ⟨h.1, Rep.moved (u := U) (U := U.calling g mk a) (Vm.Alike.refl U.vm) h.2.1, Ev.same (s := U) (U := U.calling g mk a) rfl rfl h.2.2⟩
theorem gPc_pre {z : Nat → Nat} {D : va_G} {cA : Nat → ClassId} {b0 : Nat} {av : List Value} {x : Hp} {s : State} {H : Heap} {locs : List Loc} (hR : Rep D cA b0 s x H) (hS : va_S (fun q => b0 ≤ q) s.heap H locs) (hE : Ev z D cA b0 s) : ∀ U : State, U.heap = H → s.WarmedH U.vm → gPc z D cA b0 av x av.toArray U := fun U hU hW => ⟨rfl, by rw [hU]; exact hR.moved hW.alike, hE.warm hW (locs := locs) (by rw [hU]; exact hS)⟩
section WC
variable {p : Program} {l : Launch} {e : Env} {R : Room} {s : State} {m : MethodId} {args : Array Value} {below : List Frame} {meth : Method} {c : Code} {H : Heap} {locs : List Loc} {cells slots : Nat} {Q : State → Prop}
variable {pc : Nat} {ls : Array Slot} {rest st0 : List Value} {D : va_G} {cA : Nat → ClassId} {b0 : Nat} {xe : Hp}
theorem w_call {rv : Option Value} {mc ms : Nat} {a : Array Value} (hr : va_Run p l e R s m args below meth c H locs cells slots mc ms (F0 m pc ls st0) rest (gQc D cA b0 rv xe a) (fun q => b0 ≤ q)) (hS : va_S (fun q => b0 ≤ q) s.heap H locs)
    (kk : ∀ (H1 : Heap) (locs1 : List Loc), Rep D cA b0 s xe H1 → va_S (fun q => b0 ≤ q) s.heap H1 locs1 → W p l e R s m args below meth c H1 locs1 (cells + mc) (slots + ms) Q (F0 m (pc + 3) ls (rv.toList ++ rest))) : W p l e R s m args below meth c H locs cells slots Q (F0 m pc ls st0) := by
  intro T hT X
  obtain ⟨v, st₀, t, T', L, h0, X', hL, e1, e2, ⟨⟨hv, hR⟩, hz, hk⟩, st⟩ := hr T hT X
  cases hv
  rw [h0] at hz hk
  obtain ⟨t2, a1, b1⟩ := kk T'.heap (locs ++ L) (by rw [e1]; exact hR.moved (by rw [← e2]; exact X'.warmed.alike.symm))
    ⟨Nat.le_trans hS.1 (by rw [e1]; exact hz), fun q h1 h2 => by rw [e1, hk q (Nat.lt_of_lt_of_le h1 hS.1) h2]; exact hS.2.1 q h1 h2, fun q hq => by
      rcases List.mem_append.mp hq with h | h
      · exact hS.2.2 q h
      · exact hL q h⟩ T' rfl X'
  exact ⟨t2, st t2 a1, b1⟩
end WC
section ROWSC
variable {α γ : Type} {l : Launch} {z : Nat → Nat} {M : Mt} {okv : α → Prop} {en : α → Option Value} {pc : Nat} {lv : List (Nat × Value)} {st : List Value} {x : Hp}
/-- a call, by its run -/
theorem G_call {eg : γ → Option Value} {y : MethodName} {b : ByteArray} {n' d' : Nat} {ret : Option FieldType} {av : List Value} {f : Hp → Option (γ × Hp)} {kk : γ → Hp → Option (α × Hp)} {rest : List Value} (hC : Ct l z y b n' ret d' eg av f)
    (hrun : ∀ {D : va_G} {cA : Nat → ClassId} {b0 : Nat} {p : Program} {e : Env} {R : Room} {s : State} {m : MethodId} {args : Array Value} {below : List Frame} {meth : Method} {c : Code} {H : Heap} {locs : List Loc} {cells slots : Nat} {ls : Array Slot} {mc ms : Nat} {Qc : Array Value → State → Outcome → State → Prop},
      Cx z M D cA b0 p R s m args meth c → Rep D cA b0 s x H → va_S (fun q => b0 ≤ q) s.heap H locs → lv_has ls M.2.2.2.1 lv → cells + mc ≤ R.cells → slots + ms ≤ R.slots → Met l y (.code y b n' ret :: gT) ({ frames := d', cells := mc, slots := ms, locals := 64 * d' }) (gPc z D cA b0 av x) Qc mc ms (fun q => b0 ≤ q) →
      va_Run p l e R s m args below meth c H locs cells slots mc ms (F0 m pc ls st) rest (Qc av.toArray) (fun q => b0 ≤ q))
    (k0 : ∀ v y, G l z M okv en (pc + 3) lv ((eg v).toList ++ rest) y (kk v y)) : G l z M okv en pc lv st x (bnd (f x) kk) := by
  intro v xe hE
  cases hf : f x with
  | none => rw [hf] at hE; cases hE
  | some r =>
    obtain ⟨w, x1⟩ := r
    rw [hf] at hE
    obtain ⟨⟨g1, g2⟩, hM⟩ := hC x w x1 hf
    obtain ⟨⟨g3, g4⟩, k⟩ := k0 w x1 v xe hE
    refine ⟨⟨by omega, by omega⟩, fun D cA b0 p e R s m args below meth c z0 s0 Q C h1 h2 hF H locs ls h3 h4 hR hS hl => ?_⟩
    refine w_call (hrun C hR hS hl (by omega) (by omega) (hM D cA b0)) hS fun H1 locs1 hR1 hS1 => ?_
    have := k D cA b0 p e R s m args below meth c z0 s0 Q C h1 h2 hF H1 locs1 ls (by omega) (by omega) hR1 hS1 hl
    rw [show h_sz x1 - z0 = h_sz x - z0 + (h_sz x1 - h_sz x) by omega, show h_sl x1 - s0 = h_sl x - s0 + (h_sl x1 - h_sl x) by omega] at this
    exact this
/-- a callee's name: its class, its parameters -/
def Yn (y : MethodName) (n : Nat) : Prop := y.cls ≠ "java/lang/invoke/MethodHandle" ∧ y.cls ≠ "java/lang/invoke/VarHandle" ∧ (parseMethodDescriptor y.desc).map (fun d => d.parameters.length) = some n
theorem gT_ws {y : MethodName} {b : ByteArray} {n' : Nat} {ret : Option FieldType} (h : Cond.code y b n' ret ∈ gT) : GoodIn gT (.code y b n' ret :: gT) := gT_goodIn _ (fun w hw => by
  rcases List.mem_cons.mp hw with rfl | hw
  · exact h
  · exact hw)
theorem G_callS {eg : γ → Option Value} {y : MethodName} {b : ByteArray} {n' d' i : Nat} {ret : Option FieldType} {av : List Value} {f : Hp → Option (γ × Hp)} {kk : γ → Hp → Option (α × Hp)} (rest : List Value) (hC : Ct l z y b n' ret d' eg av f)
    (hy : Yn y av.length) (hd : d' + 1 ≤ M.2.2.2.2.2) (hn : n' ≤ 45) (w1 : Cond.methodLink M.2.1 i y ∈ gT) (w2 : Cond.static y ∈ gT) (w3 : Cond.initialized y.cls ∈ gT) (w4 : Cond.code y b n' ret ∈ gT) (hst : st = av.reverse ++ rest) (hW : (rest.map fun v => v.category).sum ≤ 8) (hdg : decode M.1 pc = .ok (.invokestatic i, 3))
    (k0 : ∀ v y, G l z M okv en (pc + 3) lv ((eg v).toList ++ rest) y (kk v y)) : G l z M okv en pc lv st x (bnd (f x) kk) := by
  refine G_call (rest := rest) hC (fun C hR hS hl hc hs hM => ?_) k0
  obtain ⟨hx, hb, hml, hown, hts, hnm, hE, hf1, hf2⟩ := C
  exact va_runS (own := M.2.1) (Ts := gT) ⟨hx, hb, hml, hown, hts⟩ hM ⟨callB_of av.length hts (gT_ws w4) rfl rfl rfl (hts _ w3) (hts _ w1) hy ⟨Nat.le_trans hd hf1, Nat.le_trans (show 8 + (n' + 11) + 64 * d' ≤ 64 * M.2.2.2.2.2 by omega) hf2⟩, hts _ w2⟩ ⟨gPc_blind, gPc_pre hR hS hE⟩ rfl rfl hl.1 hst (lv_room hW) hdg ⟨hc, hs⟩
theorem G_callV {eg : γ → Option Value} {y : MethodName} {b : ByteArray} {n' d' i : Nat} {ret : Option FieldType} {av : List Value} {r : Option Nat} {f : Nat → Hp → Option (γ × Hp)} {kk : γ → Hp → Option (α × Hp)} {kd ci N : Nat} {C : String} {T : u_T} {ty : Nat → FieldType} (rest : List Value) (hC : ∀ q, Ct l z y b n' ret d' eg (.ref q :: av) (f q)) (hcl : Cl ci C T N ty) (hkd : kd = ci + 1)
    (hy : Yn y av.length) (hd : d' + 1 ≤ M.2.2.2.2.2) (hn : n' ≤ 45) (w1 : Cond.methodLink M.2.1 i y ∈ gT) (w2 : Cond.instanceMethod y ∈ gT) (w5 : Cond.selects C y y ∈ gT) (w3 : Cond.initialized y.cls ∈ gT) (w4 : Cond.code y b n' ret ∈ gT) (hst : st = av.reverse ++ va_rf r :: rest) (hW : (rest.map fun v => v.category).sum ≤ 8) (hdg : decode M.1 pc = .ok (.invokevirtual i, 3))
    (k0 : ∀ v y, G l z M okv en (pc + 3) lv ((eg v).toList ++ rest) y (kk v y)) : G l z M okv en pc lv st x (obj r x kd fun q => bnd (f q x) kk) := by
  refine G_obj fun q hr hkb => ?_
  subst hr; subst hkd
  refine G_call (rest := rest) (hC q) (fun C hR hS hl hc hs hM => ?_) k0
  obtain ⟨hx, hb, hml, hown, hts, hnm, hE, hf1, hf2⟩ := C
  exact va_runV (own := M.2.1) (Ts := gT) (b := q) (As := av) ⟨hx, hb, hml, hown, hts⟩ hM ⟨callB_of av.length hts (gT_ws w4) rfl rfl rfl (hts _ w3) (hts _ w1) hy ⟨Nat.le_trans hd hf1, Nat.le_trans (show 8 + (n' + 11) + 64 * d' ≤ 64 * M.2.2.2.2.2 by omega) hf2⟩, hts _ w2, hts _ w5⟩ ⟨gPc_blind, va_recv (q0 := 0) hE.1 (hR.at_obj hkb hcl.2.1) hcl.1 rfl, gPc_pre hR hS hE⟩ rfl rfl hl.1 hst (lv_room hW) hdg ⟨hc, hs⟩
theorem G_callI {y : MethodName} {b : ByteArray} {n' d' i kd : Nat} {av : List Value} {r : Option Nat} {f : Nat → Hp → Option (Unit × Hp)} {kk : Unit → Hp → Option (α × Hp)} (rest : List Value) (hC : ∀ q, Ct l z y b n' none d' (fun _ => none) (.ref q :: av) (f q)) (hy1 : y.name = "<init>")
    (hy : Yn y av.length) (hd : d' + 1 ≤ M.2.2.2.2.2) (hn : n' ≤ 45) (w1 : Cond.methodLink M.2.1 i y ∈ gT) (w2 : Cond.instanceMethod y ∈ gT) (w3 : Cond.initialized y.cls ∈ gT) (w4 : Cond.code y b n' none ∈ gT) (hst : st = av.reverse ++ va_rf r :: rest) (hW : (rest.map fun v => v.category).sum ≤ 8) (hdg : decode M.1 pc = .ok (.invokespecial i, 3))
    (k0 : ∀ y, G l z M okv en (pc + 3) lv rest y (kk () y)) : G l z M okv en pc lv st x (obj r x kd fun q => bnd (f q x) kk) := by
  refine G_obj fun q hr hkb => ?_
  subst hr
  refine G_call (rest := rest) (hC q) (fun C hR hS hl hc hs hM => ?_) (fun _ => k0)
  obtain ⟨hx, hb, hml, hown, hts, hnm, hE, hf1, hf2⟩ := C
  exact va_runI (own := M.2.1) (Ts := gT) (b := q) (As := av) ⟨hx, hb, hml, hown, hts⟩ hM ⟨callB_of av.length hts (gT_ws w4) rfl rfl rfl (hts _ w3) (hts _ w1) hy ⟨Nat.le_trans hd hf1, Nat.le_trans (show 8 + (n' + 11) + 64 * d' ≤ 64 * M.2.2.2.2.2 by omega) hf2⟩, hy1, hts _ w2⟩ ⟨gPc_blind, gPc_pre hR hS hE⟩ rfl rfl hl.1 hst (lv_room hW) hdg ⟨hc, hs⟩
/-- a private constructor of a nest mate -/
theorem G_callN {y : MethodName} {b : ByteArray} {n' d' i kd : Nat} {host : String} {av : List Value} {r : Option Nat} {f : Nat → Hp → Option (Unit × Hp)} {kk : Unit → Hp → Option (α × Hp)} (rest : List Value) (hC : ∀ q, Ct l z y b n' none d' (fun _ => none) (.ref q :: av) (f q)) (hy1 : y.name = "<init>")
    (hy : Yn y av.length) (hd : d' + 1 ≤ M.2.2.2.2.2) (hn : n' ≤ 45) (w1 : Cond.methodLinkNest M.2.1 i y host ∈ gNw) (w2 : Cond.instanceMethod y ∈ gT) (w3 : Cond.initialized y.cls ∈ gT) (w4 : Cond.code y b n' none ∈ gT) (hst : st = av.reverse ++ va_rf r :: rest) (hW : (rest.map fun v => v.category).sum ≤ 8) (hdg : decode M.1 pc = .ok (.invokespecial i, 3))
    (k0 : ∀ y, G l z M okv en (pc + 3) lv rest y (kk () y)) : G l z M okv en pc lv st x (obj r x kd fun q => bnd (f q x) kk) := by
  refine G_obj fun q hr hkb => ?_
  subst hr
  refine G_call (rest := rest) (hC q) (fun C hR hS hl hc hs hM => ?_) (fun _ => k0)
  obtain ⟨hx, hb, hml, hown, hts, hnm, hE, hf1, hf2⟩ := C
  exact va_runIN (own := M.2.1) (Ts := gT) (b := q) (As := av) ⟨hx, hb, hml, hown, hts⟩ hM ⟨va_cnB av.length hts (gT_ws w4) rfl rfl rfl (hE.2.1 _ w1) (hts _ w3) hy ⟨Nat.le_trans hd hf1, Nat.le_trans (show 8 + (n' + 11) + 64 * d' ≤ 64 * M.2.2.2.2.2 by omega) hf2⟩, hy1, hts _ w2⟩ ⟨gPc_blind, gPc_pre hR hS hE⟩ rfl rfl hl.1 hst (lv_room hW) hdg ⟨hc, hs⟩
theorem G_objInit {r : Option Nat} {i : Nat} {E : Nat → Option (α × Hp)} (w1 : Cond.methodLink M.2.1 i Lib.objectInit ∈ gT) (w2 : Cond.instanceMethod Lib.objectInit ∈ gT) (w3 : Cond.code Lib.objectInit ⟨#[0xb1]⟩ 1 none ∈ gT) (hd : 1 ≤ M.2.2.2.2.2) (hW : (st.map fun v => v.category).sum ≤ 8) (hdg : decode M.1 pc = .ok (.invokespecial i, 3))
    (k0 : ∀ q, G l z M okv en (pc + 3) lv st x (E q)) : G l z M okv en pc lv (va_rf r :: st) x (nn r E) := by
  refine G_nn fun q hr => ?_
  subst hr
  refine G_st (fun C hl k => ?_) (k0 q)
  obtain ⟨hx, hb, hml, hown, hts, hnm, hE, hf1, hf2⟩ := C
  refine W.objInit hx hb hown (hts _ w1) (hts _ w2) (hts _ w3) rfl (hl.1.trans hml.symm) rfl hdg (Nat.le_trans hd hf1) ?_ k
  have := lv_room (pc := pc) (ls := #[]) (rest := []) (m := ‹_›) hW
  have h0 : 2 * (F0 ‹_› pc ‹_› (va_rf (some q) :: st)).monitorRoom + (st.map fun v => v.category).sum ≤ 8 := lv_room hW
  omega
/-! new objects, new arrays -/
theorem G_new {i ci kd N : Nat} {C : String} {T : u_T} {ty : Nat → FieldType} {kk : Option Nat → Hp → Option (α × Hp)} (hc : Cl ci C T N ty) (hkd : kd = ci + 1) (w1 : Cond.classLink M.2.1 i C ∈ gT) (w2 : Cond.instantiable C N ∈ gT) (w3 : Cond.initialized C ∈ gT) (hdg : decode M.1 pc = .ok (.new i, 3))
    (k0 : ∀ r y, G l z M okv en (pc + 3) lv (va_rf r :: st) y (kk r y)) : G l z M okv en pc lv st x (newo x kd N kk) := by
  subst hkd
  refine G_mk (fun C0 hR hS hcl hsl k => ?_) (k0 (some (h_sz x)) (p_n x (ci + 1) 0 N))
  obtain ⟨hx, hb, hml, hown, hts, hnm, hE, hf1, hf2⟩ := C0
  obtain ⟨hcl', hci, hin, hty, hnm', hgl, hdf⟩ := hc
  have hKn := hE.1.1 ci _ hcl'
  refine W.newcK hx hb hown (hts _ w1) (hts _ w2) (hts _ w3) rfl hdg hcl hsl hKn.2.1 hR.1 fun H1 kC hkC e1 z1 o1 => ?_
  have hz : H1.size = _ + 1 := z1.trans (by rw [← hR.1])
  refine k H1 (hR.push hz (fun q hq => o1 q (by rw [← hR.1]; exact hq)) (by omega) ?_) ⟨Nat.le_trans hS.1 (by omega), fun q h1 h2 => (o1 q (by rw [← hR.1]; exact Nat.lt_of_lt_of_le h1 hS.1)).trans (hS.2.1 q h1 h2), hS.2.2⟩
  have hk : h_k (p_n x (ci + 1) 0 N) (h_sz x) = ci + 1 := by simp [h_k, p_n]
  rw [ent_obj hk hci, fsv_new]
  exact ⟨_, hcl', (u_born ty hts hin hKn hkC e1 hty).to hdf⟩
theorem Int32_nneg {n : Int32} (h : 0 ≤ n.toInt) : ¬ n < 0 := by
  rw [Int32.lt_iff_toInt_lt, Int32.toInt_zero]
  omega
theorem Int32_clamp {n : Int32} : n.toNatClampNeg = n.toInt.toNat := rfl
theorem w_pn {D : va_G} {cA : Nat → ClassId} {x : Hp} {H1 : Heap} {t n w : Nat} {q : (Nat → Int32) ⊕ (Nat → Int64) ⊕ (Nat → UInt32) ⊕ (Nat → UInt64) ⊕ (Nat → Option Nat)} (hq : apay (p_n x (100 + t) n w) t (h_sz x) = q) (h : H1[h_sz x]? = some (vp_cell (cA t) (n, q))) : va_at D vwCl (h_sz x, ent cA (p_n x (100 + t) n w) (h_sz x)) H1 := by
  have hk : h_k (p_n x (100 + t) n w) (h_sz x) = 100 + t := by simp [h_k, p_n]
  have hn : h_n (p_n x (100 + t) n w) (h_sz x) = n := by simp [h_n, p_n]
  rw [ent_arr hk, hn, hq]
  exact h
theorem G_newa {at_ : ArrayType} {t kd : Nat} {n : Int32} {kk : Option Nat → Hp → Option (α × Hp)} (hkd : kd = 100 + t) (ht : (t = 0 ∧ at_ = .byte) ∨ (t = 1 ∧ at_ = .int) ∨ (t = 2 ∧ at_ = .long)) (w1 : Cond.arrayClass (newarray.typeOf at_) ∈ gT) (hdg : decode M.1 pc = .ok (.newarray at_, 2))
    (k0 : ∀ r y, G l z M okv en (pc + 2) lv (va_rf r :: st) y (kk r y)) : G l z M okv en pc lv (.int n :: st) x (newa x kd n kk) := by
  subst hkd
  refine G_if (fun hn => ?_) (fun _ => G_none)
  have hcl : n.toNatClampNeg ≤ 60000000 := by rw [Int32_clamp]; omega
  refine G_mk (fun C0 hR hS hcl' hsl k => ?_) (k0 (some (h_sz x)) (p_n x (100 + t) n.toNatClampNeg n.toNatClampNeg))
  obtain ⟨hx, hb, hml, hown, hts, hnm, hE, hf1, hf2⟩ := C0
  refine va_newaK hx hb (hts _ w1) rfl hdg rfl (Int32_nneg hn.1) rfl (by rcases ht with ⟨-, rfl⟩ | ⟨-, rfl⟩ | ⟨-, rfl⟩ <;> simp only [newarray.typeOf, componentBytes] <;> omega) hcl' hsl hR.1 fun H1 cB e1 z1 o1 hAr hNm => ?_
  have hz : H1.size = _ + 1 := z1.trans (by rw [← hR.1])
  refine k H1 (hR.push hz (fun q hq => o1 q (by rw [← hR.1]; exact hq)) (by omega) ?_) ⟨Nat.le_trans hS.1 (by omega), fun q h1 h2 => (o1 q (by rw [← hR.1]; exact Nat.lt_of_lt_of_le h1 hS.1)).trans (hS.2.1 q h1 h2), hS.2.2⟩
  rcases ht with ⟨rfl, rfl⟩ | ⟨rfl, rfl⟩ | ⟨rfl, rfl⟩
  · have h2 : _ = some _ := (hE.1.2 0 _ rfl).2
    have h3 := Option.some.inj (hNm.symm.trans h2)
    subst h3
    exact w_pn (q := .inl (fun _ => 0)) (by rw [apay_0]; congr 1; funext j; simp [h_ai, p_n]) e1
  · have h2 : _ = some _ := (hE.1.2 1 _ rfl).2
    have h3 := Option.some.inj (hNm.symm.trans h2)
    subst h3
    exact w_pn (q := .inl (fun _ => 0)) (by rw [apay_1]; congr 1; funext j; simp [h_ai, p_n]) e1
  · have h2 : _ = some _ := (hE.1.2 2 _ rfl).2
    have h3 := Option.some.inj (hNm.symm.trans h2)
    subst h3
    exact w_pn (q := .inr (.inl (fun _ => 0))) (by rw [apay_2]; congr 2; funext j; simp [h_al, p_n]) e1
end ROWSC
