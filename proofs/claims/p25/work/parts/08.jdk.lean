/-! ===== STRINGS AND THEIR BUILDERS: the rows that their code needs ===== -/
section JCOMB
variable {β : Type}
/-- a String, made or from before -/
def objS (r : Option Nat) (x : Hp) (k : Nat → Option β) : Option β := match r with
  | none => none
  | some b => if h_k x b = 1 ∨ h_k x b = 201 then k b else none
def gsr (r : Option Nat) (x : Hp) (k : Option Nat → Option β) : Option β := objS r x fun b => k (h_r x 0 b)
def gsi (r : Option Nat) (x : Hp) (k : Int32 → Option β) : Option β := objS r x fun b => k (h_i x 1 b)
/-- bytes, made or from before -/
def objB (r : Option Nat) (x : Hp) (k : Nat → Option β) : Option β := match r with
  | none => none
  | some b => if h_k x b = 100 ∨ h_k x b = 300 then k b else none
def alenB (r : Option Nat) (x : Hp) (k : Int32 → Option β) : Option β := objB r x fun b => k (Int32.ofNat (h_n x b))
def aldb (r : Option Nat) (x : Hp) (i : Int32) (k : Int32 → Option β) : Option β := objB r x fun b => if 0 ≤ i.toInt ∧ i.toInt < h_n x b then k (h_ai x b i.toNatClampNeg) else none
/-- System.arraycopy of bytes, of one row into another -/
def acpy (r : Option Nat) (x : Hp) (sp : Int32) (q : Option Nat) (dp n : Int32) (k : Hp → Option β) : Option β := objB r x fun a => obj q x 100 fun b =>
  if a ≠ b ∧ 0 ≤ sp.toInt ∧ 0 ≤ dp.toInt ∧ 0 ≤ n.toInt ∧ sp.toNatClampNeg + n.toNatClampNeg ≤ h_n x a ∧ dp.toNatClampNeg + n.toNatClampNeg ≤ h_n x b ∧ (∀ i, i < n.toNatClampNeg → fits .byte (.int (h_ai x a (sp.toNatClampNeg + i))) = true) then k (p_aw x b (va_cpy (h_ai x a) (h_ai x b) sp.toNatClampNeg dp.toNatClampNeg n.toNatClampNeg)) else none
/-- a copy of a row of bytes -/
def clonb (r : Option Nat) (x : Hp) (k : Option Nat → Hp → Option β) : Option β := obj r x 100 fun b => if (∀ i, i < h_n x b → fits .byte (.int (h_ai x b i)) = true) then k (some (h_sz x)) (p_aw (p_n x 100 (h_n x b) (h_n x b)) (h_sz x) (h_ai x b)) else none
def castb (r : Option Nat) (x : Hp) (k : Option β) : Option β := obj r x 100 fun _ => k
def byt (v : Int32) (k : Option β) : Option β := if v = 0 ∨ v = 1 then k else none
def chr (v : Int32) (k : Option β) : Option β := if 0 ≤ v.toInt ∧ v.toInt < 65536 then k else none
end JCOMB
abbrev okB : Int32 → Prop := fun v => v = 0 ∨ v = 1
abbrev okC : Int32 → Prop := fun v => 0 ≤ v.toInt ∧ v.toInt < 65536
theorem nar_byt {v : Int32} (h : v = 0 ∨ v = 1) : narrow .byte (.int v) = .int v ∧ fits .byte (.int v) = true := by rcases h with rfl | rfl <;> exact ⟨rfl, rfl⟩
theorem nar_chr {v : Int32} (h : 0 ≤ v.toInt ∧ v.toInt < 65536) : narrow .char (.int v) = .int v := by
  have h1 : v = nI v.toInt.toNat := Int32.toInt_inj.mp (by rw [nI_toInt (by omega)]; omega)
  rw [h1]
  exact (pk_charN (by omega)).1
theorem Ct_b {l : Launch} {z : Nat → Nat} {y : MethodName} {b : ByteArray} {n d : Nat} {av : List Value} {f : Hp → Option (Int32 × Hp)} (hG : ∀ x, G l z (b, y.cls, y.name, n, .ireturn, d) (fun v => v = 0 ∨ v = 1) (fun v => some (.int v)) 0 (lv_args 0 av) [] x (f x)) (hy : plainName y.cls = true) (hs : (lg_sl av).length ≤ n) : Ct l z y b n (some .byte) d (fun v : Int32 => some (.int v)) av f :=
  ct_of hG hy hs (fun ok hx hb hr hlk hq hf hdg => W.zret hx hb hr (nar_byt ok).1 hq hf hdg hlk)
theorem Ct_c {l : Launch} {z : Nat → Nat} {y : MethodName} {b : ByteArray} {n d : Nat} {av : List Value} {f : Hp → Option (Int32 × Hp)} (hG : ∀ x, G l z (b, y.cls, y.name, n, .ireturn, d) okC (fun v => some (.int v)) 0 (lv_args 0 av) [] x (f x)) (hy : plainName y.cls = true) (hs : (lg_sl av).length ≤ n) : Ct l z y b n (some .char) d (fun v : Int32 => some (.int v)) av f :=
  ct_of hG hy hs (fun ok hx hb hr hlk hq hf hdg => W.zret hx hb hr (nar_chr ok) hq hf hdg hlk)
section PRIV
variable {p : Program} {l : Launch} {e : Env} {R : Room} {s : State} {m : MethodId} {args : Array Value} {below : List Frame} {meth : Method} {c : Code} {T : State} {locs : List Loc} {cells slots : Nat} {H : Heap} {Q : State → Prop}
/-- a private method of a superclass, called on an object of a subclass -/
theorem w_callVP (X : Stand p l e R s m args below meth c T locs cells slots) (hexec : p.tables.exec = Jvm.exec) {own : String} {index : Nat} {y : MethodName} {bytes : ByteArray} {maxL : Nat} {ret : Option FieldType}
    (hown : s.vm.findClass own = some m.cls) (hlink : (Cond.methodLink own index y).before args s = true) (hinst : (Cond.instanceMethod y).before args s = true) (hpriv : (Cond.privateMethod y).before args s = true)
    (hni : ∀ mk, s.methodNamed? y = some mk → ∃ kP : Class, s.vm.classes[mk.cls]? = some kP ∧ kP.isInterface = false)
    (hcode : (Cond.code y bytes maxL ret).before args s = true) (hy : y.cls ≠ "java/lang/invoke/MethodHandle" ∧ y.cls ≠ "java/lang/invoke/VarHandle")
    {W : Nat} {Pre : Pt → Array Value → Prop} {Post : Pt → Array Value → Option Value → Pt → Prop} (hK : Back l R p e below s args y 3 W Pre Post)
    {b : Addr} {cellB : Cell} (hcell : T.heap[b]? = some cellB) (hobj : cellB.vm.isStatics = false)
    {g : JFrame} (hg : g.method = m) (hsize : g.locals.size = c.maxLocals) {argsL rest : List Value} (hlen : ∀ sig, parseMethodDescriptor y.desc = some sig → argsL.length = sig.parameters.length)
    (hstack : g.stack = argsL.reverse ++ .ref b :: rest) (hW : 2 * g.monitorRoom + (rest.map fun v => v.category).sum ≤ W) (hdg : decode c.code g.pc = .ok (.invokevirtual index, 3))
    (hpre : ∀ vm₁, s.WarmedH vm₁ → Pre ⟨T.setVm vm₁, locs, cells, slots⟩ (Value.ref b :: argsL).toArray) :
    ∃ (v : Option Value) (vm₁ : Vm) (B : Pt), s.WarmedH vm₁ ∧ Stand p l e R s m args below meth c B.U B.locs B.cells B.slots ∧ Post ⟨T.setVm vm₁, locs, cells, slots⟩ (Value.ref b :: argsL).toArray v B ∧
      ∀ target, Steps p.tables e below (B.U.setTop { g with pc := g.pc + 3, stack := v.toList ++ rest }) target → Steps p.tables e below (T.setTop g) target := by
  obtain ⟨mk, methM, hnamed, hmethM, hstM, habM⟩ := Cond.instanceMethod_spec hinst
  obtain ⟨methM', cM, hmethM', -, -, -, -, -, -, hsigM⟩ := Cond.code_spec hnamed hcode
  cases hmethM.symm.trans hmethM'
  obtain ⟨kP, hkP, hkPi⟩ := hni mk hnamed
  have hselP : selectMethod e.platform s.vm cellB.cls mk = .method mk := by rw [Launch.admits_selectMethod X.admits]; exact selectMethod_private hmethM (Cond.privateMethod_at hpriv mk methM hnamed hmethM)
  obtain ⟨vm₁, X₁, hstep₁⟩ := X.invokevirtual hexec hown hlink hnamed hmethM hstM hkP hkPi hy (a := b) (cell := cellB) hcell
    (fun z h => by rw [h] at hobj; cases hobj) hselP hmethM habM hkP hkPi (g := g) hg (argsL := argsL) (rest := rest) (hlen _ hsigM) hstack hdg
  obtain ⟨v, B, X', hpost, hsteps⟩ := hK m meth c ⟨T.setVm vm₁, locs, cells, slots⟩ { g with stack := rest } (.invokevirtual index) mk (Value.ref b :: argsL).toArray X₁ hg hsize hdg hW (X₁.named hnamed) (hpre vm₁ X₁.warmed)
  exact ⟨v, vm₁, B, X₁.warmed, X', hpost, fun target h => hstep₁ _ fun acts => by rw [doInvoke_state]; exact hsteps.trans h⟩
variable {y : MethodName} {bytes cc : ByteArray} {maxL nL mc ms n index : Nat} {ret : Option FieldType} {ws : List Cond} {rm : Room} {Pc : Array Value → State → Prop} {Qc : Array Value → State → Outcome → State → Prop} {free : Addr → Prop} {Ts : List Cond} {own C : String} {b : Addr} {As rest : List Value} {g : JFrame}
theorem w_runVP (S : CallFix p m c cc nL s args Ts own) (hM : Met l y ws rm Pc Qc mc ms free) (cw : CallB R s args own index y bytes maxL ret ws rm mc ms n ∧ (Cond.instanceMethod y).before args s = true ∧ (Cond.privateMethod y).before args s = true ∧ (∀ mk, s.methodNamed? y = some mk → ∃ kP : Class, s.vm.classes[mk.cls]? = some kP ∧ kP.isInterface = false)) (hp : PreV s H C b Pc As)
    (hg : g.method = m) (hn : As.length = n) (hsize : g.locals.size = nL) (hstack : g.stack = As.reverse ++ .ref b :: rest) (hW : 2 * g.monitorRoom + (rest.map fun v => v.category).sum ≤ 8) (hdg : decode cc g.pc = .ok (.invokevirtual index, 3)) (hf : cells + mc ≤ R.cells ∧ slots + ms ≤ R.slots) :
    va_Run p l e R s m args below meth c H locs cells slots mc ms g rest (Qc (Value.ref b :: As).toArray) (free) := by
  have hK : Back l R p e below s args y 3 8 (PreOf R mc ms Pc) (PostOf Qc mc ms free) := callBack cw.1 hM hp.1
  obtain ⟨⟨-, -, -, -, -, -, hcode, -, hy, hlen, hl⟩, hin, hpr, hni⟩ := cw
  obtain ⟨hx, hb, hml, ho, -⟩ := S
  obtain ⟨-, ⟨cellB, hcB, hoB, hclB⟩, hPc⟩ := hp
  intro T hT X
  obtain ⟨v, vm₁, ⟨U', l2, c2, s2⟩, hW₁, X', ⟨g', mk, t, L, e1, e2, hq, h1, hL, h2, h3⟩, st⟩ := w_callVP X hx (bytes := bytes) (maxL := maxL) (ret := ret) ho hl hin hpr hni hcode hy hK (by rw [hT]; exact hcB) hoB hg (hsize.trans hml.symm) (argsL := As) (rest := rest) (fun sig h => hn.trans (hlen sig h)) hstack hW (by rw [hb]; exact hdg)
    (fun vm₁ hW₁ => ⟨hf.1, hf.2, hPc (T.setVm vm₁) hT hW₁⟩)
  dsimp only [Pt.U, Pt.locs, Pt.cells, Pt.slots] at X' e1 e2 h1 h2 h3 st
  subst h1; subst h2; subst h3
  exact ⟨v, (T.setVm vm₁).calling g' mk (Value.ref b :: As).toArray, t, U', L, hT, X', hL, e1, e2, hq, st⟩
variable {pc : Nat} {ls : Array Slot} {a a0 : Nat}
theorem w_copy (hexec : p.tables.exec = Jvm.exec) (hb : c.code = cc) (hml : c.maxLocals = ls.size) (hown : s.vm.findClass own = some m.cls) (hlink : (Cond.methodLink own index arraycopyName).before args s = true) (hnat : (Cond.native arraycopyName).before args s = true) (hstat : (Cond.static arraycopyName).before args s = true) (hini : (Cond.initialized "java/lang/System").before args s = true)
    {scr : Cell} {n0 n1 : Nat} {f g : Nat → Int32} {c1 : ClassId} (hc0 : H[a0]? = some scr) (hs2 : s.isArrayOf scr .byte) (hs3 : scr.vm ≠ .unknown) (hs4 : n0 ≤ scr.slots.size) (hs5 : ∀ j : Nat, j < n0 → scr.slots[j]? = some (.int (f j))) (hc1 : H[a]? = some (vp_cell c1 (n1, .inl g))) (hA1 : ArrOfT s c1 .byte)
    {sp dp n : Int32} (h1 : 0 ≤ sp.toInt) (h2 : 0 ≤ dp.toInt) (h3 : 0 ≤ n.toInt) (h4 : sp.toNatClampNeg + n.toNatClampNeg ≤ n0) (h5 : dp.toNatClampNeg + n.toNatClampNeg ≤ n1) (hfit : ∀ i : Nat, i < n.toNatClampNeg → fits .byte (.int (f (sp.toNatClampNeg + i))) = true)
    (hframes : 1 ≤ R.frames) (hlocals : (rest.map fun v => v.category).sum + (nativeFrameWords "java/lang/System" "arraycopy" 5 + 11) ≤ R.locals) (hdg : decode cc pc = .ok (.invokestatic index, 3))
    (kk : ∀ (H1 : Heap) (L : List Loc), H1[a]? = some (vp_cell c1 (n1, .inl (va_cpy f g sp.toNatClampNeg dp.toNatClampNeg n.toNatClampNeg))) → H1.size = H.size → (∀ q : Nat, q ≠ a → H1[q]? = H[q]?) → (∀ z ∈ L, z.base = a) → W p l e R s m args below meth c H1 (locs ++ L) cells slots Q (F0 m (pc + 3) ls rest)) : W p l e R s m args below meth c H locs cells slots Q (F0 m pc ls (.int n :: .int dp :: .ref a :: .int sp :: .ref a0 :: rest)) := by
  have nn : ∀ z : Int32, 0 ≤ z.toInt → z.toInt = (z.toNatClampNeg : Int) := by
    intro z hz0
    show z.toInt = ((z.toInt.toNat : Nat) : Int)
    omega
  intro T hT X
  obtain ⟨hs6, k0, hk0, cm0, hkk0⟩ := hs2
  obtain ⟨-, k1, hk1, cm1, hkk1⟩ := hA1 n1 (fun j => .int (g j))
  obtain ⟨vm', X', step⟩ := X.arraycopy hexec hown hlink hnat hstat hini (src := a0) (dst := a) (cs := scr) (cd := vp_cell c1 (n1, .inl g)) (srcPos := sp) (destPos := dp) (n := n) (by rw [hT]; exact hc0) (by rw [hT]; exact hc1)
    hs6 (fun _ h => by cases h) hs3 (fun h => by cases h) hk0 hk1 hkk0 hkk1 (by simp [refKind]) (Int32_nneg h1) (Int32_nneg h2) (Int32_nneg h3)
    (by rw [nn sp h1, nn n h3]; omega)
    (by rw [nn dp h2, nn n h3]; show ¬ _ > ((arrV c1 n1 (fun j => .int (g j))).slots.size : Int); rw [arrV_size]; omega)
    (fun vm₁ _ i hi => by
      have e : scr.slots.getD (sp.toNatClampNeg + i) .null = .int (f (sp.toNatClampNeg + i)) := by
        rw [Array.getD_eq_getD_getElem?, hs5 _ (by omega)]
        rfl
      refine ⟨?_, ?_⟩
      · rw [e]
        exact hfit i hi
      · rw [e]
        exact trivial)
    (g := F0 m pc ls (.int n :: .int dp :: .ref a :: .int sp :: .ref a0 :: rest)) rfl (by rw [hml]) (rest := rest) rfl (by rw [hb]; exact hdg) hframes (by show 2 * 0 + _ + _ ≤ _; omega)
  have e1 : copied scr (vp_cell c1 (n1, .inl g)) sp dp n = vp_cell c1 (n1, .inl (va_cpy f g sp.toNatClampNeg dp.toNatClampNeg n.toNatClampNeg)) := va_copiedX (fun z => .int z) scr c1 f g hs5 h4
  rw [e1] at X' step
  have hl : a < H.size := (Array.getElem?_eq_some_iff.mp hc1).1
  have hheap : ((T.setVm vm').setCell a (vp_cell c1 (n1, .inl (va_cpy f g sp.toNatClampNeg dp.toNatClampNeg n.toNatClampNeg)))).heap = H.setIfInBounds a (vp_cell c1 (n1, .inl (va_cpy f g sp.toNatClampNeg dp.toNatClampNeg n.toNatClampNeg))) := by rw [← hT]; rfl
  obtain ⟨t, a1, b1⟩ := kk _ _ (show (H.setIfInBounds a _)[a]? = some _ by simp [Array.getElem?_setIfInBounds, hl]) (by simp) (fun q hq => by simp [Array.getElem?_setIfInBounds, Ne.symm hq]) (fun q hq => by
      obtain ⟨z, -, hz⟩ := List.mem_map.mp hq
      rw [← hz]) _ hheap X'
  exact ⟨t, step t a1, b1⟩
theorem w_clone (hexec : p.tables.exec = Jvm.exec) (hb : c.code = cc) (hml : c.maxLocals = ls.size) {ad : String} (hown : s.vm.findClass own = some m.cls)
    (hlink : (Cond.methodLink own index ⟨ad, "clone", "()Ljava/lang/Object;"⟩).before args s = true) (hsame : (Cond.sameMethod ad "java/lang/Object" "clone" "()Ljava/lang/Object;").before args s = true)
    (hnat : (Cond.native ⟨"java/lang/Object", "clone", "()Ljava/lang/Object;"⟩).before args s = true) (hinst : (Cond.instanceMethod ⟨"java/lang/Object", "clone", "()Ljava/lang/Object;"⟩).before args s = true)
    (hsel : (Cond.selects ad ⟨ad, "clone", "()Ljava/lang/Object;"⟩ ⟨"java/lang/Object", "clone", "()Ljava/lang/Object;"⟩).before args s = true) (hcl : va_Nw (.castable ad "java/lang/Cloneable") s)
    {cB : ClassId} {v : vp_A} {ty : FieldType} (hc1 : H[a]? = some (vp_cell cB v)) (hA : ArrOfT s cB ty)
    (hnm : s.vm.findClass ad = some cB) (hfit : ∀ (i : Nat) (w : Value), (vp_cell cB v).slots[i]? = some w → fits ty w = true)
    (hframes : 1 ≤ R.frames) (hlocals : (rest.map fun v => v.category).sum + 14 ≤ R.locals) (hcells : cells + 1 ≤ R.cells) (hslots : slots + v.1 ≤ R.slots) (hdg : decode cc pc = .ok (.invokevirtual index, 3))
    (kk : ∀ (H1 : Heap), H1[H.size]? = some (vp_cell cB v) → H1.size = H.size + 1 → (∀ q : Nat, q < H.size → H1[q]? = H[q]?) →
      W p l e R s m args below meth c H1 locs (cells + 1) (slots + v.1) Q (F0 m (pc + 3) ls (.ref H.size :: rest))) : W p l e R s m args below meth c H locs cells slots Q (F0 m pc ls (.ref a :: rest)) := by
  have hsz : (vp_cell cB v).slots.size = v.1 := by
    obtain ⟨n, f | f | f | f | f⟩ := v <;> exact arrV_size _ _ _
  have hvm0 : (vp_cell cB v).vm = .none := by
    obtain ⟨n, f | f | f | f | f⟩ := v <;> rfl
  have hcl0 : (vp_cell cB v).cls = cB := by
    obtain ⟨n, f | f | f | f | f⟩ := v <;> rfl
  have hcellE : ({ cls := (vp_cell cB v).cls, slots := (vp_cell cB v).slots } : Cell) = vp_cell cB v := by
    obtain ⟨n, f | f | f | f | f⟩ := v <;> rfl
  obtain ⟨c0, t0', f1, f2, f3⟩ := Cond.castable_spec (va_Nw.use (A := args) rfl hcl)
  cases hnm.symm.trans f1
  intro T hT X
  have hcellT : T.heap[a]? = some (vp_cell cB v) := by rw [hT]; exact hc1
  obtain ⟨-, kA, hkA, comp, hkind⟩ := State.isArrayOf_alike X.warmed.alike (hA 0 (fun _ => .null))
  obtain ⟨-, kS, hkS, compS, hkindS⟩ := hA 0 (fun _ => .null)
  obtain ⟨vm', X', st⟩ := X.cloneArray hexec hown hlink hsame hnat hinst hsel (a := a) (cell := vp_cell cB v) hcellT (fun k h => by rw [hvm0] at h; cases h) (by rw [hvm0]; exact fun h => by cases h) (by rw [hcl0]; exact hnm) f2 (by rw [hcl0]; exact f3)
    (fun i w hw => by
      rw [hcl0]
      have hk' : T.vm.classes[cB]? = some kA := hkA
      simpa [State.fitsSlot, State.slotType?, hk', hkind] using hfit i w hw)
    (g := F0 m pc ls (.ref a :: rest)) rfl (by rw [hml]) rfl (by rw [hb]; exact hdg) hframes (by show 2 * 0 + _ + 14 ≤ _; omega) hcells (by rw [hsz]; exact hslots) (hloader := by rw [hcl0]; exact Vm.clonesLoader_of_array hkS hkindS)
  rw [hcellE, hsz] at X'
  generalize hH1 : H.push (vp_cell cB v) = H1
  have z1 : H1.size = H.size + 1 := by rw [← hH1, Array.size_push]
  have e1 : H1[H.size]? = some (vp_cell cB v) := by rw [← hH1, Array.getElem?_push_size]
  have o1 : ∀ q : Nat, q < H.size → H1[q]? = H[q]? := fun q hq => by rw [← hH1, Array.getElem?_push, if_neg (Nat.ne_of_lt hq)]
  obtain ⟨t, b1, b2⟩ := kk H1 e1 z1 o1 ((T.setVm vm').pushCell (vp_cell cB v)) (by rw [← hH1, ← hT]; rfl) X'
  refine ⟨t, st t ?_, b2⟩
  rw [hcellE, hT]
  exact b1
end PRIV
section ROWSJ
variable {α γ : Type} {l : Launch} {z : Nat → Nat} {M : Mt} {okv : α → Prop} {en : α → Option Value} {pc : Nat} {lv : List (Nat × Value)} {st : List Value} {x : Hp}
theorem G_objS {r : Option Nat} {k : Nat → Option (α × Hp)} (h : ∀ b, r = some b → (h_k x b = 1 ∨ h_k x b = 201) → G l z M okv en pc lv st x (k b)) : G l z M okv en pc lv st x (objS r x k) := by
  cases r with
  | none => exact G_none
  | some b => exact G_if (fun hk => h b rfl hk) (fun _ => G_none)
theorem G_objB {r : Option Nat} {k : Nat → Option (α × Hp)} (h : ∀ b, r = some b → (h_k x b = 100 ∨ h_k x b = 300) → G l z M okv en pc lv st x (k b)) : G l z M okv en pc lv st x (objB r x k) := by
  cases r with
  | none => exact G_none
  | some b => exact G_if (fun hk => h b rfl hk) (fun _ => G_none)
theorem G_byt {v : Int32} {E : Option (α × Hp)} (h : v = 0 ∨ v = 1 → G l z M okv en pc lv st x E) : G l z M okv en pc lv st x (byt v E) := G_if h (fun _ => G_none)
theorem G_chr {v : Int32} {E : Option (α × Hp)} (h : 0 ≤ v.toInt ∧ v.toInt < 65536 → G l z M okv en pc lv st x E) : G l z M okv en pc lv st x (chr v E) := G_if h (fun _ => G_none)
theorem G_ldcS {i q : Nat} {own tx : String} {E : Option (α × Hp)} (hs : (own, i, tx, q) ∈ gStr) (hown : M.2.1 = own) (hdg : decode M.1 pc = .ok (.ldc i, 2)) (k : G l z M okv en (pc + 2) lv (va_rf (some (z q)) :: st) x E) : G l z M okv en pc lv st x E :=
  G_st (fun C _ k => va_ldcS C.1 C.2.1 (own := own) (tx := tx) (hown ▸ C.2.2.2.1) (C.2.2.2.2.2.2.1.2.2.1 _ hs) hdg k) k
theorem G_ldcwS {i q : Nat} {own tx : String} {E : Option (α × Hp)} (hs : (own, i, tx, q) ∈ gStr) (hown : M.2.1 = own) (hdg : decode M.1 pc = .ok (.ldc_w i, 3)) (k : G l z M okv en (pc + 3) lv (va_rf (some (z q)) :: st) x E) : G l z M okv en pc lv st x E :=
  G_st (fun {D cA b0 p e R s m args below meth c H locs cells slots Q ls} C _ k => by
    have hR := C.2.2.2.2.2.2.1.2.2.1 _ hs
    intro T hT X
    obtain ⟨t, a1, b1⟩ := k T hT X
    exact ⟨t, X.ldcStringW C.1 (own := own) (text := tx) (a := z q) (hown ▸ C.2.2.2.1) hR.1 hR.2 (g := F0 m pc ls st) rfl (by rw [C.2.1]; exact hdg) t a1, b1⟩) k
theorem G_gsr {r : Option Nat} {i : Nat} {kk : Option Nat → Option (α × Hp)} (hw : Cond.fieldLink M.2.1 i RJ0 "value" "[B" ∈ gT) (hc : Cl 0 RJ0 TJ0 4 tyJ0) (hdg : decode M.1 pc = .ok (.getfield i, 3)) (k0 : ∀ v, G l z M okv en (pc + 3) lv (va_rf v :: st) x (kk v)) : G l z M okv en pc lv (va_rf r :: st) x (gsr r x kk) := by
  refine G_objS fun b hr hkb => ?_
  subst hr
  refine G_rd (fun C hR hS k2 => ?_) (k0 (h_r x 0 b))
  obtain ⟨hx, hb, -, hown, hts, -, ⟨hK, -⟩, -⟩ := C
  rcases hkb with hkb | hkb
  · obtain ⟨hcl, hci, hin, -⟩ := hc
    exact va_get hx hb hts hin hown hK (hR.at_obj hkb hci) 0 rfl hcl 0 (by decide) (hts _ hw) (fun _ h => h) (fsv_get (x := x) (ci := 0) (a := b) (gR 0) 0 0 true rfl) hdg k2
  · obtain ⟨cf, k, fi, f, cell, h1, h2, h3, h4, h5, h6⟩ := (((hR.2.2 b).2 (by omega)).2.1 hkb).2.2
    exact W.getf hx hb hown (hts _ hw) h1 h2 h3 h4 (v := va_rf (h_r x 0 b)) h5 rfl rfl hdg k2
theorem G_gsi {r : Option Nat} {i : Nat} {kk : Int32 → Option (α × Hp)} (hw : Cond.fieldLink M.2.1 i RJ0 "coder" "B" ∈ gT) (hc : Cl 0 RJ0 TJ0 4 tyJ0) (hdg : decode M.1 pc = .ok (.getfield i, 3)) (k0 : ∀ v, G l z M okv en (pc + 3) lv (.int v :: st) x (kk v)) : G l z M okv en pc lv (va_rf r :: st) x (gsi r x kk) := by
  refine G_objS fun b hr hkb => ?_
  subst hr
  refine G_rd (fun C hR hS k2 => ?_) (k0 (h_i x 1 b))
  obtain ⟨hx, hb, -, hown, hts, -, ⟨hK, -⟩, -⟩ := C
  rcases hkb with hkb | hkb
  · obtain ⟨hcl, hci, hin, -⟩ := hc
    exact va_get hx hb hts hin hown hK (hR.at_obj hkb hci) 0 rfl hcl 1 (by decide) (hts _ hw) (fun _ h => h) (fsv_get (x := x) (ci := 0) (a := b) (gR 0) 0 1 false rfl) hdg k2
  · obtain ⟨cf, k, fi, f, cell, h1, h2, h3, h4, h5, h6⟩ := (((hR.2.2 b).2 (by omega)).2.1 hkb).2.1
    exact W.getf hx hb hown (hts _ hw) h1 h2 h3 h4 (v := .int (h_i x 1 b)) h5 rfl rfl hdg k2
theorem G_alenB {r : Option Nat} {kk : Int32 → Option (α × Hp)} (hdg : decode M.1 pc = .ok (.arraylength, 1)) (k0 : ∀ v, G l z M okv en (pc + 1) lv (.int v :: st) x (kk v)) : G l z M okv en pc lv (va_rf r :: st) x (alenB r x kk) := by
  refine G_objB fun b hr hkb => ?_
  subst hr
  refine G_rd (fun C hR hS k2 => ?_) (k0 (Int32.ofNat (h_n x b)))
  obtain ⟨hx, hb, -, hown, hts, -, ⟨hK, -⟩, -⟩ := C
  rcases hkb with hkb | hkb
  · have h1 := hR.at_arr (t := 0) hkb (by omega)
    exact va_alen (ty := .byte) (ws := [(b, .inl (_, (h_n x b, apay x 0 b)))]) hx hb hK (fun k q hq => by
      have hz : k < 1 := (List.getElem?_eq_some_iff.mp hq).1
      rw [show k = 0 by omega] at hq
      cases hq
      exact h1) 0 0 rfl rfl rfl hdg k2
  · obtain ⟨cell, h1, h2, h3, h4, h5, h6, -⟩ := ((hR.2.2 b).2 (by omega)).2.2.1 hkb
    exact W.alen hx hb h1 h2 h5 rfl rfl hdg k2
theorem G_aldb {r : Option Nat} {i : Int32} {kk : Int32 → Option (α × Hp)} (hdg : decode M.1 pc = .ok (.baload, 1)) (k0 : ∀ v, G l z M okv en (pc + 1) lv (.int v :: st) x (kk v)) : G l z M okv en pc lv (.int i :: va_rf r :: st) x (aldb r x i kk) := by
  refine G_objB fun b hr hkb => ?_
  rcases hkb with hkb | hkb
  · refine G_if (fun hi => ?_) (fun _ => G_none)
    have := G_bald (l := l) (z := z) (okv := okv) (en := en) (lv := lv) (st := st) (x := x) (r := r) (i := i) hdg k0
    rw [hr] at this ⊢
    simpa only [aldi, idx, obj, if_pos hkb, if_pos hi] using this
  · refine G_if (fun hi => ?_) (fun _ => G_none)
    have := G_baldO (l := l) (z := z) (okv := okv) (en := en) (lv := lv) (st := st) (x := x) (r := r) (i := i) hdg k0
    rw [hr] at this ⊢
    simpa only [aldi, idx, obj, if_pos hkb, if_pos hi] using this
/-- a static of the JDK's: an int, a reference -/
theorem G_getsi {i : Nat} {E : Option (α × Hp)} {C n d ref : String} {v : Int32} (k : Nat) (hz : ∀ z, (gZs z)[k]? = some (C, n, d, .int v)) (hw : Cond.fieldLink M.2.1 i ref n d ∈ gT) (href : ref = C) (hdg : decode M.1 pc = .ok (.getstatic i, 3)) (k0 : G l z M okv en (pc + 3) lv (.int v :: st) x E) : G l z M okv en pc lv st x E := by
  refine G_rd (fun C0 hR hS k2 => ?_) k0
  obtain ⟨hx, hb, -, hown, hts, -, hE, -⟩ := C0
  subst href
  exact va_gets hx hb (hE.2.2.2.1 _ (List.mem_of_getElem? (hz z))) hS hown (hts _ hw) (fun _ h => h) hdg k2
theorem G_getsr {i : Nat} {E : Option (α × Hp)} {C n d ref : String} {v : Option Nat} (k : Nat) (hz : (gZs z)[k]? = some (C, n, d, va_rf v)) (hw : Cond.fieldLink M.2.1 i ref n d ∈ gT) (href : ref = C) (hdg : decode M.1 pc = .ok (.getstatic i, 3)) (k0 : G l z M okv en (pc + 3) lv (va_rf v :: st) x E) : G l z M okv en pc lv st x E := by
  refine G_rd (fun C0 hR hS k2 => ?_) k0
  obtain ⟨hx, hb, -, hown, hts, -, hE, -⟩ := C0
  subst href
  exact va_gets hx hb (hE.2.2.2.1 _ (List.mem_of_getElem? hz)) hS hown (hts _ hw) (fun _ h => h) hdg k2
/-! calls on a String, made or from before -/
theorem G_callVS {eg : γ → Option Value} {y : MethodName} {b : ByteArray} {n' d' i : Nat} {ret : Option FieldType} {av : List Value} {r : Option Nat} {f : Nat → Hp → Option (γ × Hp)} {kk : γ → Hp → Option (α × Hp)} (rest : List Value) (hC : ∀ q, Ct l z y b n' ret d' eg (.ref q :: av) (f q)) (hcl : Cl 0 RJ0 TJ0 4 tyJ0)
    (hy : Yn y av.length) (hd : d' + 1 ≤ M.2.2.2.2.2) (hn : n' ≤ 45) (w1 : Cond.methodLink M.2.1 i y ∈ gT) (w2 : Cond.instanceMethod y ∈ gT) (w5 : Cond.selects RJ0 y y ∈ gT) (w3 : Cond.initialized y.cls ∈ gT) (w4 : Cond.code y b n' ret ∈ gT) (hst : st = av.reverse ++ va_rf r :: rest) (hW : (rest.map fun v => v.category).sum ≤ 8) (hdg : decode M.1 pc = .ok (.invokevirtual i, 3))
    (k0 : ∀ v y, G l z M okv en (pc + 3) lv ((eg v).toList ++ rest) y (kk v y)) : G l z M okv en pc lv st x (objS r x fun q => bnd (f q x) kk) := by
  refine G_objS fun q hr hkb => ?_
  subst hr
  refine G_call (rest := rest) (hC q) (fun C hR hS hl hc hs hM => ?_) k0
  obtain ⟨hx, hb, hml, hown, hts, hnm, hE, hf1, hf2⟩ := C
  exact va_runV (own := M.2.1) (Ts := gT) (b := q) (As := av) ⟨hx, hb, hml, hown, hts⟩ hM ⟨callB_of av.length hts (gT_ws w4) rfl rfl rfl (hts _ w3) (hts _ w1) hy ⟨Nat.le_trans hd hf1, Nat.le_trans (show 8 + (n' + 11) + 64 * d' ≤ 64 * M.2.2.2.2.2 by omega) hf2⟩, hts _ w2, hts _ w5⟩ ⟨gPc_blind, by
    rcases hkb with hkb | hkb
    · exact va_recv (q0 := 0) hE.1 (hR.at_obj hkb hcl.2.1) hcl.1 rfl
    · obtain ⟨cell, h1, h2, h3, -⟩ := (((hR.2.2 q).2 (by omega)).2.1 hkb).1
      exact ⟨cell, h1, h2, h3⟩, gPc_pre hR hS hE⟩ rfl rfl hl.1 hst (lv_room hW) hdg ⟨hc, hs⟩
/-- an inherited method, or one that overrides the one named -/
theorem G_callU {eg : γ → Option Value} {C owner : String} {w y : MethodName} {b : ByteArray} {n' d' i : Nat} {ret : Option FieldType} {av : List Value} {r : Option Nat} {f : Nat → Hp → Option (γ × Hp)} {kk : γ → Hp → Option (α × Hp)} {kd ci N : Nat} {T : u_T} {ty : Nat → FieldType} (rest : List Value) (hC : ∀ q, Ct l z y b n' ret d' eg (.ref q :: av) (f q)) (hcl : Cl ci C T N ty) (hkd : kd = ci + 1)
    (hy : owner ≠ "java/lang/invoke/MethodHandle" ∧ owner ≠ "java/lang/invoke/VarHandle" ∧ (parseMethodDescriptor w.desc).map (fun d => d.parameters.length) = some av.length) (hd : d' + 1 ≤ M.2.2.2.2.2) (hn : n' ≤ 45) (w1 : Cond.methodLink M.2.1 i w ∈ gT) (w6 : Cond.sameMethod w.cls owner w.name w.desc ∈ gT) (w7 : Cond.instanceMethod ⟨owner, w.name, w.desc⟩ ∈ gT) (w5 : Cond.selects C w y ∈ gT) (w2 : Cond.instanceMethod y ∈ gT) (w3 : Cond.initialized y.cls ∈ gT) (w4 : Cond.code y b n' ret ∈ gT) {bq : ByteArray} {m0 : Nat} {r0 : Option FieldType} (w8 : Cond.code ⟨owner, w.name, w.desc⟩ bq m0 r0 ∈ gT) (hst : st = av.reverse ++ va_rf r :: rest) (hW : (rest.map fun v => v.category).sum ≤ 8) (hdg : decode M.1 pc = .ok (.invokevirtual i, 3))
    (k0 : ∀ v y, G l z M okv en (pc + 3) lv ((eg v).toList ++ rest) y (kk v y)) : G l z M okv en pc lv st x (obj r x kd fun q => bnd (f q x) kk) := by
  refine G_obj fun q hr hkb => ?_
  subst hr; subst hkd
  refine G_call (rest := rest) (hC q) (fun C0 hR hS hl hc hs hM => ?_) k0
  obtain ⟨hx, hb, hml, hown, hts, hnm, hE, hf1, hf2⟩ := C0
  have hG : GoodIn gT (va_wsO M.2.1 i C owner w y (.code y b n' ret :: gT)) := gT_goodIn _ (fun v hv => by
    unfold va_wsO at hv
    rcases List.mem_append.mp hv with hv | hv
    · simp only [List.mem_cons, List.not_mem_nil, or_false] at hv
      rcases hv with rfl | rfl | rfl | rfl | rfl | rfl
      · exact w1
      · exact w6
      · exact w7
      · exact w5
      · exact w2
      · exact w3
    · exact (gT_ws w4 v hv).1)
  exact va_runU (own := M.2.1) (Ts := gT) (b := q) (As := av) ⟨hx, hb, hml, hown, hts⟩ hM (va_cwO av.length hts hG rfl rfl rfl w8 hy ⟨Nat.le_trans hd hf1, Nat.le_trans (show 8 + (n' + 11) + 64 * d' ≤ 64 * M.2.2.2.2.2 by omega) hf2⟩) ⟨gPc_blind, va_recv (q0 := 0) hE.1 (hR.at_obj hkb hcl.2.1) hcl.1 rfl, gPc_pre hR hS hE⟩ rfl rfl hl.1 hst (lv_room hW) hdg ⟨hc, hs⟩
/-- super.m(..) -/
theorem G_callSU {eg : γ → Option Value} {C : String} {y : MethodName} {b : ByteArray} {n' d' i : Nat} {ret : Option FieldType} {av : List Value} {r : Option Nat} {f : Nat → Hp → Option (γ × Hp)} {kk : γ → Hp → Option (α × Hp)} {kd ci N : Nat} {T : u_T} {ty : Nat → FieldType} (rest : List Value) (hC : ∀ q, Ct l z y b n' ret d' eg (.ref q :: av) (f q)) (hcl : Cl ci C T N ty) (hkd : kd = ci + 1)
    (hy : y.name ≠ "<init>" ∧ (parseMethodDescriptor y.desc).map (fun d => d.parameters.length) = some av.length) (hd : d' + 1 ≤ M.2.2.2.2.2) (hn : n' ≤ 45) (w1 : Cond.methodLink M.2.1 i y ∈ gT) (w6 : Cond.sameMethod y.cls y.cls y.name y.desc ∈ gT) (w7 : Cond.superclass M.2.1 y.cls ∈ gT) (w2 : Cond.instanceMethod y ∈ gT) (w3 : Cond.initialized y.cls ∈ gT) (w4 : Cond.code y b n' ret ∈ gT) (hst : st = av.reverse ++ va_rf r :: rest) (hW : (rest.map fun v => v.category).sum ≤ 8) (hdg : decode M.1 pc = .ok (.invokespecial i, 3))
    (k0 : ∀ v y, G l z M okv en (pc + 3) lv ((eg v).toList ++ rest) y (kk v y)) : G l z M okv en pc lv st x (obj r x kd fun q => bnd (f q x) kk) := by
  refine G_obj fun q hr hkb => ?_
  subst hr; subst hkd
  refine G_call (rest := rest) (hC q) (fun C0 hR hS hl hc hs hM => ?_) k0
  obtain ⟨hx, hb, hml, hown, hts, hnm, hE, hf1, hf2⟩ := C0
  have hG : GoodIn gT (va_wsSU M.2.1 i y (.code y b n' ret :: gT)) := gT_goodIn _ (fun v hv => by
    unfold va_wsSU at hv
    rcases List.mem_append.mp hv with hv | hv
    · simp only [List.mem_cons, List.not_mem_nil, or_false] at hv
      rcases hv with rfl | rfl | rfl | rfl | rfl
      · exact w1
      · exact w6
      · exact w7
      · exact w2
      · exact w3
    · exact (gT_ws w4 v hv).1)
  exact va_runSU (own := M.2.1) (Ts := gT) (C := C) (b := q) (As := av) (hE.1.1 ci _ hcl.1).2 ⟨hx, hb, hml, hown, hts⟩ hM (va_cwSU av.length hts hG rfl rfl rfl hy ⟨Nat.le_trans hd hf1, Nat.le_trans (show 8 + (n' + 11) + 64 * d' ≤ 64 * M.2.2.2.2.2 by omega) hf2⟩) ⟨gPc_blind, va_recv (q0 := 0) hE.1 (hR.at_obj hkb hcl.2.1) hcl.1 rfl, gPc_pre hR hS hE⟩ rfl rfl hl.1 hst (lv_room hW) hdg ⟨hc, hs⟩
/-- a private method of the superclass -/
theorem G_callP {eg : γ → Option Value} {C : String} {y w : MethodName} {b : ByteArray} {n' d' i : Nat} {ret : Option FieldType} {av : List Value} {r : Option Nat} {f : Nat → Hp → Option (γ × Hp)} {kk : γ → Hp → Option (α × Hp)} {kd ci N : Nat} {T : u_T} {ty : Nat → FieldType} (rest : List Value) (hC : ∀ q, Ct l z y b n' ret d' eg (.ref q :: av) (f q)) (hcl : Cl ci C T N ty) (hkd : kd = ci + 1)
    (hy : Yn y av.length) (hd : d' + 1 ≤ M.2.2.2.2.2) (hn : n' ≤ 45) (w1 : Cond.methodLink M.2.1 i y ∈ gT) (w2 : Cond.instanceMethod y ∈ gT) (w5 : y ∈ gPv) (w3 : Cond.initialized y.cls ∈ gT) (w4 : Cond.code y b n' ret ∈ gT) (w6 : Cond.selects C w w ∈ gT) (hyw : w.cls = y.cls) (hst : st = av.reverse ++ va_rf r :: rest) (hW : (rest.map fun v => v.category).sum ≤ 8) (hdg : decode M.1 pc = .ok (.invokevirtual i, 3))
    (k0 : ∀ v y, G l z M okv en (pc + 3) lv ((eg v).toList ++ rest) y (kk v y)) : G l z M okv en pc lv st x (obj r x kd fun q => bnd (f q x) kk) := by
  refine G_obj fun q hr hkb => ?_
  subst hr; subst hkd
  refine G_call (rest := rest) (hC q) (fun C0 hR hS hl hc hs hM => ?_) k0
  obtain ⟨hx, hb, hml, hown, hts, hnm, hE, hf1, hf2⟩ := C0
  exact w_runVP (own := M.2.1) (Ts := gT) (C := C) (b := q) (As := av) ⟨hx, hb, hml, hown, hts⟩ hM ⟨callB_of av.length hts (gT_ws w4) rfl rfl rfl (hts _ w3) (hts _ w1) hy ⟨Nat.le_trans hd hf1, Nat.le_trans (show 8 + (n' + 11) + 64 * d' ≤ 64 * M.2.2.2.2.2 by omega) hf2⟩, hts _ w2, va_Nw.use rfl (hE.2.2.2.2.2.2.2 y w5), fun mk hmk => by
    obtain ⟨c2, r2, m2, q1, q2, q3, q4, kP, hkP, hkPi⟩ := Cond.selects_spec (hts _ w6)
    have e1 := findClass_of_methodNamed hmk
    have e2 := findClass_of_methodNamed q3
    rw [hyw] at e2
    have e3 : m2.cls = mk.cls := Option.some.inj (e2.symm.trans e1)
    exact ⟨kP, by rw [← e3]; exact hkP, hkPi⟩⟩ ⟨gPc_blind, va_recv (q0 := 0) hE.1 (hR.at_obj hkb hcl.2.1) hcl.1 rfl, gPc_pre hR hS hE⟩ rfl rfl hl.1 hst (lv_room hW) hdg ⟨hc, hs⟩
theorem Sm_paw {x : Hp} {a q : Nat} {g : Nat → Int32} (h : q ≠ a) : Sm (p_aw x a g) x q := ⟨rfl, rfl, fun _ => rfl, fun _ => rfl, by simp [h_ai, p_aw, h], rfl, rfl⟩
theorem nfw : nativeFrameWords "java/lang/System" "arraycopy" 5 ≤ 30 := by decide +kernel
theorem G_acpy {r q : Option Nat} {sp dp n : Int32} {i : Nat} {kk : Hp → Option (α × Hp)} (w1 : Cond.methodLink M.2.1 i arraycopyName ∈ gT) (w2 : Cond.native arraycopyName ∈ gT) (w3 : Cond.static arraycopyName ∈ gT) (w4 : Cond.initialized "java/lang/System" ∈ gT) (hd : 1 ≤ M.2.2.2.2.2) (hW : (st.map fun v => v.category).sum ≤ 8) (hdg : decode M.1 pc = .ok (.invokestatic i, 3))
    (k0 : ∀ y, G l z M okv en (pc + 3) lv st y (kk y)) : G l z M okv en pc lv (.int n :: .int dp :: va_rf q :: .int sp :: va_rf r :: st) x (acpy r x sp q dp n kk) := by
  refine G_objB fun a hr hka => ?_
  refine G_obj fun b hq hkb => ?_
  subst hr; subst hq
  refine G_if (fun hh => ?_) (fun _ => G_none)
  obtain ⟨hab, h1, h2, h3, h4, h5, hfit⟩ := hh
  intro v xe hE
  obtain ⟨h0, k⟩ := k0 (p_aw x b (va_cpy (h_ai x a) (h_ai x b) sp.toNatClampNeg dp.toNatClampNeg n.toNatClampNeg)) v xe hE
  refine ⟨h0, fun D cA b0 p e R s m args below meth c z0 s0 Q C g1 g2 hF H locs ls g3 g4 hR hS hl => ?_⟩
  have C' := C
  obtain ⟨hx, hb, hml, hown, hts, hnm, hE', hf1, hf2⟩ := C
  have hc1 := hR.at_arr (t := 0) hkb (by omega)
  rw [apay_0] at hc1
  have hA1 : ArrOfT s (cA 0) .byte := (hE'.1.2 0 _ rfl).1
  obtain ⟨scr, hc0, hs2, hs3, hs4, hs5⟩ : ∃ scr : Cell, H[a]? = some scr ∧ s.isArrayOf scr .byte ∧ scr.vm ≠ .unknown ∧ h_n x a ≤ scr.slots.size ∧ ∀ j : Nat, j < h_n x a → scr.slots[j]? = some (.int (h_ai x a j)) := by
    rcases hka with hka | hka
    · have h6 := hR.at_arr (t := 0) hka (by omega)
      rw [apay_0] at h6
      have h7 : H[a]? = some (arrV (cA 0) (h_n x a) (fun j => .int (h_ai x a j))) := h6
      refine ⟨arrV (cA 0) (h_n x a) (fun j => .int (h_ai x a j)), h7, hA1 _ _, fun h => ?_, ?_, fun j hj => ?_⟩
      · cases h
      · rw [arrV_size]
        exact Nat.le_refl _
      · rw [arrV_read _ _ hj]
    · obtain ⟨cell, e1, e2, e3, e4, e5, e6, -⟩ := ((hR.2.2 a).2 (by omega)).2.2.1 hka
      exact ⟨cell, e1, e2, e3, e4, e6⟩
  have hnf := nfw
  refine w_copy (rest := st) hx hb (hml.trans hl.1.symm) hown (hts _ w1) (hts _ w2) (hts _ w3) (hts _ w4) hc0 hs2 hs3 hs4 hs5 hc1 hA1 h1 h2 h3 h4 h5 hfit (Nat.le_trans hd hf1) (by omega) hdg fun H1 L e1 e2 e3 e4 => ?_
  have hba : b0 ≤ b := ((hR.2.2 b).1 (by omega) (by omega)).2
  refine k D cA b0 p e R s m args below meth c z0 s0 Q C' g1 g2 hF H1 (locs ++ L) ls g3 g4 (hR.put e2 e3 (by omega) (by omega) rfl rfl (fun q hq => Sm_paw hq) ?_) ⟨by rw [e2]; exact hS.1, fun q f1 f2 => (e3 q (fun z => f2 (by rw [z]; exact hba))).trans (hS.2.1 q f1 f2), fun q hq => by
    rcases List.mem_append.mp hq with h | h
    · exact hS.2.2 q h
    · rw [e4 q h]
      exact hba⟩ hl
  rw [ent_arr (t := 0) (show h_k (p_aw x b _) b = 100 + 0 from hkb), apay_0]
  have : h_ai (p_aw x b (va_cpy (h_ai x a) (h_ai x b) sp.toNatClampNeg dp.toNatClampNeg n.toNatClampNeg)) b = va_cpy (h_ai x a) (h_ai x b) sp.toNatClampNeg dp.toNatClampNeg n.toNatClampNeg := by simp [h_ai, p_aw]
  rw [this]
  exact e1
theorem G_clonb {r : Option Nat} {i : Nat} {kk : Option Nat → Hp → Option (α × Hp)} (w1 : Cond.methodLink M.2.1 i ⟨"[B", "clone", "()Ljava/lang/Object;"⟩ ∈ gT) (w2 : Cond.sameMethod "[B" "java/lang/Object" "clone" "()Ljava/lang/Object;" ∈ gT) (w3 : Cond.native ⟨"java/lang/Object", "clone", "()Ljava/lang/Object;"⟩ ∈ gT) (w4 : Cond.instanceMethod ⟨"java/lang/Object", "clone", "()Ljava/lang/Object;"⟩ ∈ gT) (w5 : Cond.selects "[B" ⟨"[B", "clone", "()Ljava/lang/Object;"⟩ ⟨"java/lang/Object", "clone", "()Ljava/lang/Object;"⟩ ∈ gT) (hd : 1 ≤ M.2.2.2.2.2) (hW : (st.map fun v => v.category).sum ≤ 8) (hdg : decode M.1 pc = .ok (.invokevirtual i, 3))
    (k0 : ∀ r y, G l z M okv en (pc + 3) lv (va_rf r :: st) y (kk r y)) : G l z M okv en pc lv (va_rf r :: st) x (clonb r x kk) := by
  refine G_obj fun b hr hkb => ?_
  subst hr
  refine G_if (fun hfit => ?_) (fun _ => G_none)
  intro v xe hE
  obtain ⟨h0, k⟩ := k0 (some (h_sz x)) (p_aw (p_n x 100 (h_n x b) (h_n x b)) (h_sz x) (h_ai x b)) v xe hE
  have z1 : h_sz (p_aw (p_n x 100 (h_n x b) (h_n x b)) (h_sz x) (h_ai x b)) = h_sz x + 1 := rfl
  have z2 : h_sl (p_aw (p_n x 100 (h_n x b) (h_n x b)) (h_sz x) (h_ai x b)) = h_sl x + h_n x b := rfl
  rw [z1, z2] at h0
  refine ⟨⟨by omega, by omega⟩, fun D cA b0 p e R s m args below meth c z0 s0 Q C g1 g2 hF H locs ls g3 g4 hR hS hl => ?_⟩
  have C' := C
  obtain ⟨hx, hb, hml, hown, hts, hnm, hE', hf1, hf2⟩ := C
  have hc1 := hR.at_arr (t := 0) hkb (by omega)
  rw [apay_0] at hc1
  have hA1 : ArrOfT s (cA 0) .byte := (hE'.1.2 0 _ rfl).1
  have hnm0 : s.vm.findClass "[B" = some (cA 0) := (hE'.1.2 0 _ rfl).2
  refine w_clone (rest := st) hx hb (hml.trans hl.1.symm) hown (hts _ w1) (hts _ w2) (hts _ w3) (hts _ w4) (hts _ w5) hE'.2.2.2.2.2.2.1 hc1 hA1 hnm0 (fun j w hw => ?_) (Nat.le_trans hd hf1) (by omega) (by omega) (by show _ + h_n x b ≤ _; omega) hdg fun H1 e1 e2 e3 => ?_
  · have hj : j < h_n x b := by
      have := (Array.getElem?_eq_some_iff.mp hw).1
      have e5 : (vp_cell (cA 0) (h_n x b, .inl (h_ai x b))).slots.size = h_n x b := arrV_size _ _ _
      omega
    have e6 : (vp_cell (cA 0) (h_n x b, .inl (h_ai x b))).slots[j]? = some (.int (h_ai x b j)) := arrV_read _ _ hj
    cases e6.symm.trans hw
    exact hfit j hj
  · rw [hR.1] at e1 e2 ⊢
    have hk9 : h_k (p_n x 100 (h_n x b) (h_n x b)) (h_sz x) = 100 + 0 := by simp [h_k, p_n]
    have hR1 : Rep D cA b0 s (p_aw (p_n x 100 (h_n x b) (h_n x b)) (h_sz x) (h_ai x b)) H1 := by
      refine ⟨e2, ?_, fun q => ?_⟩
      · have := hR.2.1
        show b0 ≤ h_sz x + 1
        omega
      · by_cases hqa : q = h_sz x
        · subst hqa
          refine ⟨fun _ _ => ⟨?_, hR.2.1⟩, fun h2 => ?_⟩
          · rw [ent_arr (t := 0) (show h_k (p_aw (p_n x 100 (h_n x b) (h_n x b)) (h_sz x) (h_ai x b)) (h_sz x) = 100 + 0 from hk9), apay_0]
            have e7 : h_ai (p_aw (p_n x 100 (h_n x b) (h_n x b)) (h_sz x) (h_ai x b)) (h_sz x) = h_ai x b := by simp [h_ai, p_aw]
            have e8 : h_n (p_aw (p_n x 100 (h_n x b) (h_n x b)) (h_sz x) (h_ai x b)) (h_sz x) = h_n x b := by simp [h_n, p_aw, p_n]
            rw [e7, e8]
            exact e1
          · have : h_k (p_aw (p_n x 100 (h_n x b) (h_n x b)) (h_sz x) (h_ai x b)) (h_sz x) = 100 + 0 := hk9
            omega
        · have hs1 : Sm (p_n x 100 (h_n x b) (h_n x b)) x q := Sm_pn hqa
          have hs2 : Sm (p_aw (p_n x 100 (h_n x b) (h_n x b)) (h_sz x) (h_ai x b)) (p_n x 100 (h_n x b) (h_n x b)) q := Sm_paw hqa
          have hs : Sm (p_aw (p_n x 100 (h_n x b) (h_n x b)) (h_sz x) (h_ai x b)) x q := ⟨hs2.1.trans hs1.1, hs2.2.1.trans hs1.2.1, fun f => (hs2.2.2.1 f).trans (hs1.2.2.1 f), fun f => (hs2.2.2.2.1 f).trans (hs1.2.2.2.1 f), hs2.2.2.2.2.1.trans hs1.2.2.2.2.1, hs2.2.2.2.2.2.1.trans hs1.2.2.2.2.2.1, hs2.2.2.2.2.2.2.trans hs1.2.2.2.2.2.2⟩
          refine ⟨fun h1 h2 => ?_, fun h2 => ?_⟩
          · rw [hs.1] at h1 h2
            have h3 := (hR.2.2 q).1 h1 h2
            rw [ent_congr hs]
            exact ⟨h3.1.kept (e3 q (by rw [hR.1]; exact hR.lt h1)), h3.2⟩
          · rw [hs.1] at h2
            have h3 := (hR.2.2 q).2 h2
            exact ⟨h3.1, (h3.2.kept (fun q' hq _ => e3 q' hq)).same hs⟩
    have := k D cA b0 p e R s m args below meth c z0 s0 Q C' g1 g2 hF H1 locs ls (by rw [z1]; omega) (by rw [z2]; omega) hR1 ⟨Nat.le_trans hS.1 (by rw [e2, hR.1]; omega), fun q f1 f2 => (e3 q (Nat.lt_of_lt_of_le f1 hS.1)).trans (hS.2.1 q f1 f2), hS.2.2⟩ hl
    rw [z1, z2, show h_sz x + 1 - z0 = h_sz x - z0 + 1 by omega, show h_sl x + h_n x b - s0 = h_sl x - s0 + h_n x b by omega] at this
    exact this
theorem G_castb {r : Option Nat} {i : Nat} {E : Option (α × Hp)} (w1 : Cond.classLink M.2.1 i "[B" ∈ gT) (hdg : decode M.1 pc = .ok (.checkcast i, 3)) (k0 : G l z M okv en (pc + 3) lv (va_rf r :: st) x E) : G l z M okv en pc lv (va_rf r :: st) x (castb r x E) := by
  refine G_obj fun b hr hkb => ?_
  subst hr
  refine G_rd (fun C hR hS k2 => ?_) k0
  obtain ⟨hx, hb, -, hown, hts, -, ⟨hK, -⟩, -⟩ := C
  have h1 := hR.at_arr (t := 0) hkb (by omega)
  exact va_castA (ws := [(b, .inl (_, (h_n x b, apay x 0 b)))]) (D := (fun _ => 0, fun _ _ => 0)) (cl := vwCl) hx hb hown (hts _ w1) (fun k q hq => by
      have hz : k < 1 := (List.getElem?_eq_some_iff.mp hq).1
      rw [show k = 0 by omega] at hq
      cases hq
      exact h1) 0 rfl (hK.2 0 _ rfl).2 hdg k2
end ROWSJ
