/-- what is left to show, of the law's function alone -/
def PureLaw : Prop := ∀ (z : Nat → Nat) (b L : Nat) (xs : Nat → Int32) (x : Hp), L ≤ 260 → St0 z b L xs x → ∃ (N : Nat) (xe : Hp), f_L_law N z (some b) x = some (1, xe) ∧ h_sz xe ≤ h_sz x + 600086 ∧ h_sl xe ≤ h_sl x + 7301442
/-! THE CLAIM OUT OF ONE WALK OF THE LAW'S BODY. Your part is whole_start (and what it stands on); all else here is the same for every law, but numbers. -/
def R_law : String := "BucketBrigadeLaw"
def lw_P (b : Addr) (xs : List Int32) (args : Array Value) (s : State) : Prop := args = #[.ref b] ∧ s.IntsAt b xs ∧ xs.length ≤ 260 ∧ (Jvm.Cond.and given_1 narrow_1).before args s = true
/-- what a walk over the start with the record d0 says of its end, said of the start itself -/
theorem lw_closed {s t : State} {o : Outcome} {d0 : Drawn} {L : List Loc} {k n : Nat} (hd0 : s.drawn.sameBut d0 lw_cs) (hv : ∃ v, o = .returned v) (hW : (s.setDrawn d0).WarmedH t.vm) (hs : (s.setDrawn d0).sameButNew ({ t with vm := s.vm } : State) L k n) : State.butDraws s t lw_cs (fun t1 => Framed s o t1 L k n) := by
  have h2 : t.drawn = d0 := congrArg State.drawn hs.1
  refine ⟨⟨hv, hW, State.sameButNew.setDrawn hs s.drawn⟩, ?_, by decide⟩
  rw [h2]
  exact hd0
def lw_Q (_ : Array Value) (s : State) (o : Outcome) (t : State) : Prop := o = .returned (some (.int 1)) ∧ State.butDraws s t lw_cs (fun t1 => Framed s o t1 [] 600086 7301442)
def lw_Z (below : List Frame) (a : Array Value) (s : State) : State → Prop := fun t => ∃ o, t.status = .running ∧ Ended t below o ∧ lw_Q a s o t
/-- the law's own end, with 1 on the stack, nothing written that was there before, its room as the claim has it; d0: the record of draws at this point (at the entry s.drawn: begin with 'refine W.base ?_' and 'have hd0 := Drawn.sameBut.refl s.drawn lw_cs') -/
theorem lw_ret {p : Program} {l : Launch} {e : Env} {s : State} {m : MethodId} {below : List Frame} {meth : Method} {c : Code} {b : Nat} {d0 : Drawn} (hd0 : s.drawn.sameBut d0 lw_cs) (hx : p.tables.exec = Jvm.exec) (hb : c.code = code) (hr : meth.sig.returnType = ret) (hlocks : meth.locks = false) {pc : Nat} {H : Heap} {ls : Array Slot} (hdg : decode code pc = .ok (.ireturn, 1)) : W p l e room_1 (s.setDrawn d0) m #[Value.ref b] below meth c H [] 600086 7301442 (lw_Z below #[Value.ref b] s) (F0 m pc ls [.int 1]) := by
  intro T hT X
  obtain ⟨fs, hret, hrun, hended, hW, hframe⟩ := X.leave (v := some (.int 1)) (hlocks := hlocks) (fun h => by rw [hr] at h; cases h)
  have hmeth' : T.vm.method? m = some meth := X.method'
  refine ⟨T.setFrames fs, ?_, .returned (some (.int 1)), hrun, hended, rfl, lw_closed hd0 ⟨_, rfl⟩ hW hframe⟩
  jvm_step X.here [X.here.top, hx, hb, hdg, hmeth', hr, ret, narrow_b1]
  (try refine ⟨rfl, ?_⟩); (try refine ⟨rfl, ?_⟩)
  first | (intro acts; rw [hret _ acts rfl rfl rfl]) | rw [hret _ _ rfl rfl rfl]
  exact Steps.refl _
/-- what holds at the law's entry: the machine, the code, the tables' words (any of lw_tbl by 'hts w (by decide +kernel)'), the script of L ints xs at the cell b, what the Statement gives of the start (any of its parts by flat_of_before) -/
def lw_At (p : Program) (s : State) (m : MethodId) (meth : Method) (c : Code) (b L : Nat) (xs : Nat → Int32) : Prop :=
  p.tables.exec = Jvm.exec ∧ c.code = code ∧ meth.sig.returnType = ret ∧ c.maxLocals = 18 ∧ s.vm.findClass R_law = some m.cls ∧ (∀ w ∈ lw_tbl, w.before #[Value.ref b] s = true) ∧ va_X b L xs s s.heap ∧ b < s.heap.size ∧ meth.locks = false ∧ (Jvm.Cond.and given_1 narrow_1).before #[Value.ref b] s = true
set_option maxRecDepth 100000 in
set_option maxHeartbeats 4000000 in
/-- the claim's walk, out of what its function answers -/
theorem whole_open (hp : PureLaw) {p : Program} {e : Env} {s : State} {m : MethodId} {below : List Frame} {meth : Method} {c : Code} (l : Launch) {b L : Nat} {xs : Nat → Int32} (hL : L ≤ 260) (C0 : lw_At p s m meth c b L xs) : W p l e room_1 s m #[Value.ref b] below meth c s.heap [] 0 0 (lw_Z below #[Value.ref b] s) (entryFrame m ([Value.ref b] : List Value).toArray 18) := by
  obtain ⟨hx, hb, hr, hml, hown, hts, hX, hbl, hlocks, hgv⟩ := id C0
  have hs : ∀ w ∈ gL, w.before #[Value.ref b] s = true := flat_of_before _ hgv
  have hA : ∀ a : Nat, a < s.heap.size → ¬ (fun q => s.heap.size ≤ q) a := fun a h => Nat.not_le.mpr h
  obtain ⟨F, hF⟩ := Classical.axiomOfChoice (st_cls hts)
  obtain ⟨cA, hcA⟩ := Classical.axiomOfChoice (st_arr hts)
  obtain ⟨D, hD⟩ : ∃ D : va_G, D = (fun k => (F k).1, fun k => (F k).2) := ⟨_, rfl⟩
  have hK : va_K D vwCl (gTy cA) s := by
    rw [hD]
    refine ⟨fun k r hr => hF k r hr, fun t q hq => ?_⟩
    match t, hq with
    | 0, hq => cases hq; exact hcA 0 _ rfl
    | 1, hq => cases hq; exact hcA 1 _ rfl
    | 2, hq => cases hq; exact hcA 2 _ rfl
    | 3, hq => cases hq; exact hcA 3 _ rfl
    | 4, hq => cases hq; exact hcA 4 _ rfl
    | 5, hq => cases hq; exact hcA 5 _ rfl
    | 6, hq => cases hq; exact hcA 6 _ rfl
    | 7, hq => cases hq; exact hcA 7 _ rfl
    | t + 8, hq => simp [gTy] at hq
  obtain ⟨Z, hZ⟩ := Classical.axiomOfChoice (sc_all (A := fun q => s.heap.size ≤ q) hs hA)
  obtain ⟨dt, t1, t2⟩ := dg_DigitTens (A := fun q => s.heap.size ≤ q) hs hA
  obtain ⟨dn, t3, t4⟩ := dg_DigitOnes (A := fun q => s.heap.size ≤ q) hs hA
  obtain ⟨fm, hfm⟩ := st_fm hs
  obtain ⟨z, z1, z2, z3, z4, z5⟩ : ∃ z : Nat → Nat, (∀ k, k < gK → z k = (Z k).1) ∧ (∀ k, k < gK → z (200 + k) = (Z k).2) ∧ z 100 = dt ∧ z 101 = dn ∧ zfm z = fm := by
    refine ⟨fun i => if i < 60 then (Z i).1 else if i = 100 then dt else if i = 101 then dn else if i = 102 then fm.getD 0 else if i = 103 then (if fm = none then 0 else 1) else (Z (i - 200)).2, fun k hk => ?_, fun k hk => ?_, rfl, rfl, ?_⟩
    · have : k < 60 := Nat.lt_of_lt_of_le hk (by decide)
      exact if_pos this
    · have h1 : ¬ 200 + k < 60 := by omega
      have h2 : ¬ 200 + k = 100 := by omega
      have h3 : ¬ 200 + k = 101 := by omega
      have h4 : ¬ 200 + k = 102 := by omega
      have h5 : ¬ 200 + k = 103 := by omega
      simp only [h1, h2, h3, h4, h5, if_false]
      rw [show 200 + k - 200 = k by omega]
    · cases fm <;> rfl
  have hlen : ∀ (k : Nat) (r : String × Nat × String × Nat), gStr[k]? = some r → k < gK := fun k r h => (List.getElem?_eq_some_iff.mp h).1
  have hsome : ∀ k, k < gK → ∃ r, gStr[k]? = some r := fun k hk => ⟨_, List.getElem?_eq_getElem (l := gStr) (i := k) hk⟩
  have hSc : ∀ k, k < gK → Sc s (fun q => s.heap.size ≤ q) k ((Z k).1, (Z k).2) := fun k hk => by
    obtain ⟨r, hr⟩ := hsome k hk
    exact (hZ k r hr).2.2
  have hEv : Ev z D cA s.heap.size s := by
    refine st_ev hts hs hK (fun q hq => ?_) (by rw [z3]; exact t1) (by rw [z4]; exact t3) (by rw [z5]; exact hfm)
    obtain ⟨k, hk⟩ := List.getElem?_of_mem hq
    obtain ⟨e1, e2, -⟩ := hZ k q hk
    rw [e2, z1 k (hlen k q hk)]
    exact e1
  have hSt : ClassAt s "java/lang/String" (D.1 0) := (hK.1 0 _ rfl).2
  obtain ⟨hRep, hSt0⟩ := hp0_ok (D := D) (cA := cA) (adK := fun k => (Z k).1) (adV := fun k => (Z k).2) hSt hL hX hSc t2 t4
  obtain ⟨N, xe, hE, g1, g2⟩ := hp z b L xs _ hL (hSt0 z z1 z2 z3 z4)
  obtain ⟨x0, hx0⟩ : ∃ x0, x0 = hp0 s b (fun k => (Z k).1) (fun k => (Z k).2) dt dn := ⟨_, rfl⟩
  rw [← hx0] at hRep hE g1 g2
  obtain ⟨h0, kk⟩ := g_L_law l N z meth.name (some b) x0 1 xe hE
  have hl := lv_entry ([.ref b]) (n := 18) (Nat.le_of_ble_eq_true rfl)
  rw [lg_entry_eq]
  generalize (lg_sl ([.ref b]) ++ List.replicate (18 - (lg_sl ([.ref b])).length) Slot.unset).toArray = ls at hl ⊢
  have hl : lv_has ls 18 [(0, .ref b)] := hl
  have fin := kk D cA s.heap.size p e room_1 s m #[Value.ref b] below meth c (h_sz x0) (h_sl x0) (lw_Z below #[Value.ref b] s)
    ⟨hx, hb, hml, hown, fun w hw => hts w (List.mem_filter.mp hw).1, rfl, hEv, Nat.le_of_ble_eq_true rfl, Nat.le_of_ble_eq_true rfl⟩
    (show h_sz xe - h_sz x0 ≤ 600086 by omega) (show h_sl xe - h_sl x0 ≤ 7301442 by omega)
    (fun pc H locs ls _ hdg hR hS => by
      refine va_forget (fun q hq => hS.2.2 q hq) ?_
      refine W.widen (k := 600086) (n := 7301442) (by omega) (by omega) ?_
      exact W.base (lw_ret (Drawn.sameBut.refl s.drawn lw_cs) hx hb hr hlocks hdg))
    s.heap [] ls (Nat.le_refl _) (Nat.le_refl _) hRep va_S.rf hl
  rw [Nat.sub_self, Nat.sub_self] at fin
  exact fin
