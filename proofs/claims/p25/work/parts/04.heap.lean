/-! ===== ROWS THAT READ AND WRITE THE HEAP ===== -/
theorem Sm_pi {x : Hp} {f a q : Nat} {v : Int32} (h : q ≠ a) : Sm (p_i x f a v) x q := ⟨rfl, rfl, fun f' => by simp [h_i, p_i, u2, h], fun _ => rfl, rfl, rfl, rfl⟩
theorem Sm_pr {x : Hp} {f a q : Nat} {v : Option Nat} (h : q ≠ a) : Sm (p_r x f a v) x q := ⟨rfl, rfl, fun _ => rfl, fun f' => by simp [h_r, p_r, u2, h], rfl, rfl, rfl⟩
theorem Sm_pai {x : Hp} {a j q : Nat} {v : Int32} (h : q ≠ a) : Sm (p_ai x a j v) x q := ⟨rfl, rfl, fun _ => rfl, fun _ => rfl, by funext i; simp [h_ai, p_ai, u2, h], rfl, rfl⟩
theorem Sm_pal {x : Hp} {a j q : Nat} {v : Int64} (h : q ≠ a) : Sm (p_al x a j v) x q := ⟨rfl, rfl, fun _ => rfl, fun _ => rfl, rfl, by funext i; simp [h_al, p_al, u2, h], rfl⟩
theorem Sm_par {x : Hp} {a j q : Nat} {v : Option Nat} (h : q ≠ a) : Sm (p_ar x a j v) x q := ⟨rfl, rfl, fun _ => rfl, fun _ => rfl, rfl, rfl, by funext i; simp [h_ar, p_ar, u2, h]⟩
section WH
variable {p : Program} {l : Launch} {e : Env} {R : Room} {s : State} {m : MethodId} {args : Array Value} {below : List Frame} {meth : Method} {c : Code} {H : Heap} {locs : List Loc} {cells slots : Nat} {Q : State → Prop}
variable {cc : ByteArray} {own : String} {pc : Nat} {ls : Array Slot} {rest : List Value} {D : va_G} {cA : Nat → ClassId} {b0 a : Nat} {x y : Hp}
theorem w_put {tys : List (ClassId × FieldType)} (hexec : p.tables.exec = Jvm.exec) (hb : c.code = cc) (hts : ∀ w ∈ gT, w.before args s = true) (hown : s.vm.findClass own = some m.cls) (hK : va_K D vwCl tys s) {ci k i N : Nat} {C ref : String} {T : u_T} {ty : Nat → FieldType} (hc : Cl ci C T N ty) (hk : k < N) (hR : Rep D cA b0 s x H) (hka : h_k x a = ci + 1) (hS : va_S (fun q => b0 ≤ q) s.heap H locs)
    (hw : Cond.fieldLink own i ref (T k).2.1 (T k).2.2.1 ∈ gT) (href : ref = (T k).1) (hfin : (T k).2.2.2 = false ∨ ((T k).2.2.2 = true ∧ meth.name = "<init>" ∧ (T k).1 = own)) {v : Value} (hn : narrow (ty k) v = v) (hfit : fits (ty k) v = true)
    (hy1 : h_sz y = h_sz x) (hy2 : h_k y a = h_k x a) (hy3 : ∀ q, q ≠ a → Sm y x q) (hy4 : fsv y ci a 0 (gR ci) = (fsv x ci a 0 (gR ci)).set k v) (hdg : decode cc pc = .ok (.putfield i, 3))
    (kk : ∀ (H' : Heap) (locs' : List Loc), Rep D cA b0 s y H' → va_S (fun q => b0 ≤ q) s.heap H' locs' → W p l e R s m args below meth c H' locs' cells slots Q (F0 m (pc + 3) ls rest)) : W p l e R s m args below meth c H locs cells slots Q (F0 m pc ls (v :: .ref a :: rest)) := by
  obtain ⟨hcl, hci, hin, hty, hnm, hgl, -⟩ := hc
  have hlen : k < (fsv x ci a 0 (gR ci)).length := by rw [fsv_len, hgl]; exact hk
  have hap := va_apart (own := own) hts hin ty hty hnm hK hcl
  obtain ⟨r, h1, cell, q1, q2, q3, q4⟩ := hR.at_obj hka hci 0 _ rfl
  have hr : r = (C, T, N) := Option.some.inj (h1.symm.trans hcl)
  subst hr
  obtain ⟨hSl, hfc, kC, hkC, hkind⟩ := hK.1 ci _ hcl
  obtain ⟨cf, kf, fi, f, hi, hsl⟩ := hSl k hk
  have hlink := hts _ hw
  have hba : b0 ≤ a := ((hR.2.2 a).1 (by omega) (by omega)).2
  have hst := (u_facts hfc hkC (u_lays hts hin hk) hi).1
  have done : ∀ (H' : Heap), H'[a]? = some (cell.setSlot f.slot v) → H'.size = H.size → (∀ q, q ≠ a → H'[q]? = H[q]?) → W p l e R s m args below meth c H' (locs ++ [⟨a, f.slot⟩]) cells slots Q (F0 m (pc + 3) ls rest) := by
    intro H' e1 e2 e3
    rw [hsl] at e1
    refine kk H' _ (hR.put e2 e3 (by omega) (by omega) hy1 hy2 hy3 ?_) (hS.put e2 e3 hba)
    rw [ent_obj (hy2.trans hka) hci, hy4]
    exact ⟨_, hcl, t_OB.to (V := updV (vp_V (fsv x ci a 0 (gR ci))) k v) ⟨_, e1, q2, q3, t_set q4 hap hk v⟩ (fun j _ => vp_updV_set hlen v j)⟩
  subst href
  rcases hfin with hfin | ⟨hfin, hin2, hdecl⟩
  · have hlay := hts _ (hin _ (u_in_lay hk))
    unfold u_lay at hlay
    rw [if_neg (by rw [hfin]; decide)] at hlay
    have h6 := u_store hfc hkC hkind hlay hi (hty k hk) hn hfit
    exact W.putK hexec hb (f := f) ⟨hown, hlink, ⟨_, _, _, hi⟩, hst⟩ (by rw [q2]; exact h6) q1 q3 (by rw [hsl]; exact k2_hasslot (q4 k hk)) rfl rfl hdg done
  · have hlay := hts _ (hin _ (u_in_lay hk))
    unfold u_lay at hlay
    rw [if_pos hfin] at hlay
    have hcf : m.cls = cf := by
      obtain ⟨_, _, c', _, _, _, -, -, hf', -, -, -, hown2, -⟩ := Cond.laysFinal_spec hlay
      have e1 : c' = cf := by have := hi.symm.trans hf'; simp at this; exact this.1.symm
      rw [hdecl] at hown2
      rw [← e1]; exact Option.some.inj (hown.symm.trans hown2)
    have h6 := u_fits hfc hkC hkind (Or.inr hlay) hi (hty k hk) hn hfit
    exact W.putFinK hexec hb hown hlink hi hst hcf hin2 (by rw [q2]; exact h6) q1 q3 (by rw [hsl]; exact k2_hasslot (q4 k hk)) rfl rfl hdg done
theorem h_in {i : Int32} {n : Nat} (h : 0 ≤ i.toInt ∧ i.toInt < n) : ¬ (i < 0 ∨ n ≤ i.toNatClampNeg) := vp_in_iff.mpr h
/-- what stands behind a store into an array -/
theorem w_arr {t n : Nat} (ht : t < 99) (hR : Rep D cA b0 s x H) (hka : h_k x a = 100 + t) (hS : va_S (fun q => b0 ≤ q) s.heap H locs) {H' : Heap} {j : Nat} (e2 : H'.size = H.size) (e3 : ∀ q, q ≠ a → H'[q]? = H[q]?) (hy1 : h_sz y = h_sz x) (hy2 : h_k y a = h_k x a) (hy3 : ∀ q, q ≠ a → Sm y x q) (e1 : H'[a]? = some (vp_cell (cA t) (h_n y a, apay y t a))) : Rep D cA b0 s y H' ∧ va_S (fun q => b0 ≤ q) s.heap H' (locs ++ [⟨a, j⟩]) := by
  have hba : b0 ≤ a := ((hR.2.2 a).1 (by omega) (by omega)).2
  refine ⟨hR.put e2 e3 (by omega) (by omega) hy1 hy2 hy3 ?_, hS.put e2 e3 hba⟩
  rw [ent_arr (hy2.trans hka)]
  exact e1
end WH
section ROWSH
variable {α : Type} {l : Launch} {z : Nat → Nat} {M : Mt} {okv : α → Prop} {en : α → Option Value} {pc : Nat} {lv : List (Nat × Value)} {st : List Value} {x : Hp}
/-- a row with a guard that names the object: G of obj -/
theorem G_obj {r : Option Nat} {kd : Nat} {k : Nat → Option (α × Hp)} (h : ∀ b, r = some b → h_k x b = kd → G l z M okv en pc lv st x (k b)) : G l z M okv en pc lv st x (obj r x kd k) := by
  cases r with
  | none => exact G_none
  | some b =>
    show G l z M okv en pc lv st x (if h_k x b = kd then k b else none)
    exact G_if (fun hk => h b rfl hk) (fun _ => G_none)
/-- a row that reads the heap -/
theorem G_rd {E : Option (α × Hp)} {pc' : Nat} {st' : List Value} (h : ∀ {D : va_G} {cA : Nat → ClassId} {b0 : Nat} {p : Program} {e : Env} {R : Room} {s : State} {m : MethodId} {args : Array Value} {below : List Frame} {meth : Method} {c : Code} {H : Heap} {locs : List Loc} {cells slots : Nat} {Q : State → Prop} {ls : Array Slot},
      Cx z M D cA b0 p R s m args meth c → Rep D cA b0 s x H → va_S (fun q => b0 ≤ q) s.heap H locs → W p l e R s m args below meth c H locs cells slots Q (F0 m pc' ls st') → W p l e R s m args below meth c H locs cells slots Q (F0 m pc ls st))
    (k : G l z M okv en pc' lv st' x E) : G l z M okv en pc lv st x E := by
  intro v xe hE
  obtain ⟨h0, k⟩ := k v xe hE
  exact ⟨h0, fun D cA b0 p e R s m args below meth c z0 s0 Q C h1 h2 hF H locs ls h3 h4 hR hS hl => h C hR hS (k D cA b0 p e R s m args below meth c z0 s0 Q C h1 h2 hF H locs ls h3 h4 hR hS hl)⟩
/-- a row that writes -/
theorem G_wr {E : Option (α × Hp)} {y : Hp} {pc' : Nat} {st' : List Value} (e1 : h_sz y = h_sz x) (e2 : h_sl y = h_sl x) (h : ∀ {D : va_G} {cA : Nat → ClassId} {b0 : Nat} {p : Program} {e : Env} {R : Room} {s : State} {m : MethodId} {args : Array Value} {below : List Frame} {meth : Method} {c : Code} {H : Heap} {locs : List Loc} {cells slots : Nat} {Q : State → Prop} {ls : Array Slot},
      Cx z M D cA b0 p R s m args meth c → Rep D cA b0 s x H → va_S (fun q => b0 ≤ q) s.heap H locs → (∀ (H' : Heap) (locs' : List Loc), Rep D cA b0 s y H' → va_S (fun q => b0 ≤ q) s.heap H' locs' → W p l e R s m args below meth c H' locs' cells slots Q (F0 m pc' ls st')) → W p l e R s m args below meth c H locs cells slots Q (F0 m pc ls st))
    (k : G l z M okv en pc' lv st' y E) : G l z M okv en pc lv st x E := by
  intro v xe hE
  obtain ⟨h0, k⟩ := k v xe hE
  rw [e1, e2] at h0
  refine ⟨h0, fun D cA b0 p e R s m args below meth c z0 s0 Q C h1 h2 hF H locs ls h3 h4 hR hS hl => h C hR hS fun H' locs' hR' hS' => ?_⟩
  have := k D cA b0 p e R s m args below meth c z0 s0 Q C h1 h2 hF H' locs' ls (by rw [e1]; exact h3) (by rw [e2]; exact h4) hR' hS' hl
  rw [e1, e2] at this
  exact this
/-- a row that makes a cell -/
theorem G_mk {E : Option (α × Hp)} {k0 n w : Nat} {pc' : Nat} {st' : List Value} (h : ∀ {D : va_G} {cA : Nat → ClassId} {b0 : Nat} {p : Program} {e : Env} {R : Room} {s : State} {m : MethodId} {args : Array Value} {below : List Frame} {meth : Method} {c : Code} {H : Heap} {locs : List Loc} {cells slots : Nat} {Q : State → Prop} {ls : Array Slot},
      Cx z M D cA b0 p R s m args meth c → Rep D cA b0 s x H → va_S (fun q => b0 ≤ q) s.heap H locs → cells + 1 ≤ R.cells → slots + w ≤ R.slots → (∀ (H' : Heap), Rep D cA b0 s (p_n x k0 n w) H' → va_S (fun q => b0 ≤ q) s.heap H' locs → W p l e R s m args below meth c H' locs (cells + 1) (slots + w) Q (F0 m pc' ls st')) → W p l e R s m args below meth c H locs cells slots Q (F0 m pc ls st))
    (k : G l z M okv en pc' lv st' (p_n x k0 n w) E) : G l z M okv en pc lv st x E := by
  intro v xe hE
  obtain ⟨h0, k⟩ := k v xe hE
  have e1 : h_sz (p_n x k0 n w) = h_sz x + 1 := rfl
  have e2 : h_sl (p_n x k0 n w) = h_sl x + w := rfl
  rw [e1, e2] at h0
  refine ⟨⟨by omega, by omega⟩, fun D cA b0 p e R s m args below meth c z0 s0 Q C h1 h2 hF H locs ls h3 h4 hR hS hl => h C hR hS (by omega) (by omega) fun H' hR' hS' => ?_⟩
  have := k D cA b0 p e R s m args below meth c z0 s0 Q C h1 h2 hF H' locs ls (by rw [e1]; omega) (by rw [e2]; omega) hR' hS' hl
  rw [e1, e2, show h_sz x + 1 - z0 = h_sz x - z0 + 1 by omega, show h_sl x + w - s0 = h_sl x - s0 + w by omega] at this
  exact this
theorem G_geti {r : Option Nat} {kd f ci k i N : Nat} {C ref : String} {T : u_T} {ty : Nat → FieldType} {kk : Int32 → Option (α × Hp)} (hc : Cl ci C T N ty) (hk : k < N) (hg : (gR ci)[k]? = some false) (hkd : kd = ci + 1) (hf : f = 20 * ci + k) (hw : Cond.fieldLink M.2.1 i ref (T k).2.1 (T k).2.2.1 ∈ gT) (href : ref = (T k).1) (hdg : decode M.1 pc = .ok (.getfield i, 3))
    (k0 : ∀ v, G l z M okv en (pc + 3) lv (.int v :: st) x (kk v)) : G l z M okv en pc lv (va_rf r :: st) x (geti r x kd f kk) := by
  refine G_obj fun b hr hkb => ?_
  subst hr; subst hkd; subst hf; subst href
  refine G_rd (fun C hR hS k2 => ?_) (k0 (h_i x (20 * ci + k) b))
  obtain ⟨hx, hb, -, hown, hts, -, ⟨hK, -⟩, -⟩ := C
  obtain ⟨hcl, hci, hin, -⟩ := hc
  have hv := fsv_get (x := x) (ci := ci) (a := b) (gR ci) 0 k false hg
  rw [Nat.zero_add] at hv
  exact va_get hx hb hts hin hown hK (hR.at_obj hkb hci) 0 rfl hcl k hk (hts _ hw) (fun _ h => h) hv hdg k2
theorem G_getr {r : Option Nat} {kd f ci k i N : Nat} {C ref : String} {T : u_T} {ty : Nat → FieldType} {kk : Option Nat → Option (α × Hp)} (hc : Cl ci C T N ty) (hk : k < N) (hg : (gR ci)[k]? = some true) (hkd : kd = ci + 1) (hf : f = 20 * ci + k) (hw : Cond.fieldLink M.2.1 i ref (T k).2.1 (T k).2.2.1 ∈ gT) (href : ref = (T k).1) (hdg : decode M.1 pc = .ok (.getfield i, 3))
    (k0 : ∀ v, G l z M okv en (pc + 3) lv (va_rf v :: st) x (kk v)) : G l z M okv en pc lv (va_rf r :: st) x (getr r x kd f kk) := by
  refine G_obj fun b hr hkb => ?_
  subst hr; subst hkd; subst hf; subst href
  refine G_rd (fun C hR hS k2 => ?_) (k0 (h_r x (20 * ci + k) b))
  obtain ⟨hx, hb, -, hown, hts, -, ⟨hK, -⟩, -⟩ := C
  obtain ⟨hcl, hci, hin, -⟩ := hc
  have hv := fsv_get (x := x) (ci := ci) (a := b) (gR ci) 0 k true hg
  rw [Nat.zero_add] at hv
  exact va_get hx hb hts hin hown hK (hR.at_obj hkb hci) 0 rfl hcl k hk (hts _ hw) (fun _ h => h) hv hdg k2
/-- a field may be written here: it isn't final, or this is its class's constructor -/
def Wf (M : Mt) (T : u_T) (k : Nat) : Prop := (T k).2.2.2 = false ∨ ((T k).2.2.2 = true ∧ M.2.2.1 = "<init>" ∧ (T k).1 = M.2.1)
theorem G_puti {r : Option Nat} {kd f ci k i N : Nat} {C ref : String} {T : u_T} {ty : Nat → FieldType} {v : Int32} {kk : Hp → Option (α × Hp)} (hc : Cl ci C T N ty) (hk : k < N) (hg : (gR ci)[k]? = some false) (hkd : kd = ci + 1) (hf : f = 20 * ci + k) (hw : Cond.fieldLink M.2.1 i ref (T k).2.1 (T k).2.2.1 ∈ gT) (href : ref = (T k).1) (hfin : Wf M T k) (hn : narrow (ty k) (.int v) = .int v) (hfit : fits (ty k) (.int v) = true) (hdg : decode M.1 pc = .ok (.putfield i, 3))
    (k0 : ∀ y, G l z M okv en (pc + 3) lv st y (kk y)) : G l z M okv en pc lv (.int v :: va_rf r :: st) x (puti r x kd f v kk) := by
  refine G_obj fun b hr hkb => ?_
  subst hr; subst hkd; subst hf
  refine G_wr (y := p_i x (20 * ci + k) b v) rfl rfl (fun C hR hS k2 => ?_) (k0 _)
  obtain ⟨hx, hb, -, hown, hts, hnm, ⟨hK, -⟩, -⟩ := C
  exact w_put (y := p_i x (20 * ci + k) b v) hx hb hts hown hK hc hk hR hkb hS hw href (by rw [hnm]; exact hfin) hn hfit rfl rfl (fun q hq => Sm_pi hq) (fsv_pi (k := k) (gR ci) 0 k (Nat.zero_add k) hg) hdg k2
theorem G_putr {r : Option Nat} {kd f ci k i N : Nat} {C ref : String} {T : u_T} {ty : Nat → FieldType} {v : Option Nat} {kk : Hp → Option (α × Hp)} (hc : Cl ci C T N ty) (hk : k < N) (hg : (gR ci)[k]? = some true) (hkd : kd = ci + 1) (hf : f = 20 * ci + k) (hw : Cond.fieldLink M.2.1 i ref (T k).2.1 (T k).2.2.1 ∈ gT) (href : ref = (T k).1) (hfin : Wf M T k) (hn : narrow (ty k) (va_rf v) = va_rf v) (hfit : fits (ty k) (va_rf v) = true) (hdg : decode M.1 pc = .ok (.putfield i, 3))
    (k0 : ∀ y, G l z M okv en (pc + 3) lv st y (kk y)) : G l z M okv en pc lv (va_rf v :: va_rf r :: st) x (putr r x kd f v kk) := by
  refine G_obj fun b hr hkb => ?_
  subst hr; subst hkd; subst hf
  refine G_wr (y := p_r x (20 * ci + k) b v) rfl rfl (fun C hR hS k2 => ?_) (k0 _)
  obtain ⟨hx, hb, -, hown, hts, hnm, ⟨hK, -⟩, -⟩ := C
  exact w_put (y := p_r x (20 * ci + k) b v) hx hb hts hown hK hc hk hR hkb hS hw href (by rw [hnm]; exact hfin) hn hfit rfl rfl (fun q hq => Sm_pr hq) (fsv_pr (k := k) (gR ci) 0 k (Nat.zero_add k) hg) hdg k2
theorem nar_obj {C : String} {v : Option Nat} : narrow (.object C) (va_rf v) = va_rf v ∧ fits (.object C) (va_rf v) = true := by cases v <;> exact ⟨rfl, rfl⟩
theorem nar_arr {t : FieldType} {v : Option Nat} : narrow (.array t) (va_rf v) = va_rf v ∧ fits (.array t) (va_rf v) = true := by cases v <;> exact ⟨rfl, rfl⟩
theorem nar_int {v : Int32} : narrow .int (.int v) = .int v ∧ fits .int (.int v) = true := ⟨rfl, rfl⟩
theorem nar_bool {v : Int32} (h : v = 0 ∨ v = 1) : narrow .boolean (.int v) = .int v ∧ fits .boolean (.int v) = true := by rcases h with rfl | rfl <;> exact ⟨rfl, rfl⟩
theorem G_bool {v : Int32} {E : Option (α × Hp)} (h : v = 0 ∨ v = 1 → G l z M okv en pc lv st x E) : G l z M okv en pc lv st x (bool v E) := G_if h (fun _ => G_none)
theorem G_nn {r : Option Nat} {k : Nat → Option (α × Hp)} (h : ∀ b, r = some b → G l z M okv en pc lv st x (k b)) : G l z M okv en pc lv st x (nn r k) := by
  cases r with
  | none => exact G_none
  | some b => exact h b rfl
/-! arrays -/
theorem G_idx {r : Option Nat} {kd : Nat} {i : Int32} {k : Nat → Nat → Option (α × Hp)} (h : ∀ b, r = some b → h_k x b = kd → (0 ≤ i.toInt ∧ i.toInt < h_n x b) → G l z M okv en pc lv st x (k b i.toNatClampNeg)) : G l z M okv en pc lv st x (idx r x kd i k) :=
  G_obj fun b hr hk => G_if (fun hi => h b hr hk hi) (fun _ => G_none)
theorem G_iald {r : Option Nat} {i : Int32} {kk : Int32 → Option (α × Hp)} (hdg : decode M.1 pc = .ok (.iaload, 1)) (k0 : ∀ v, G l z M okv en (pc + 1) lv (.int v :: st) x (kk v)) : G l z M okv en pc lv (.int i :: va_rf r :: st) x (aldi r x 101 i kk) := by
  refine G_idx fun b hr hkb hi => ?_
  subst hr
  refine G_rd (fun C hR hS k2 => ?_) (k0 (h_ai x b i.toNatClampNeg))
  obtain ⟨hx, hb, -, hown, hts, hnm, ⟨hK, -⟩, -⟩ := C
  have h1 := hR.at_arr (t := 1) hkb (by omega)
  exact va_iald hx hb hK (ws := [(b, .inl (_, h_n x b, .inl (h_ai x b)))]) (fun k q hq => by
    have hz : k < 1 := (List.getElem?_eq_some_iff.mp hq).1
    rw [show k = 0 by omega] at hq
    cases hq
    exact h1) 0 1 rfl rfl (h_in hi) hdg k2
theorem G_bald {r : Option Nat} {i : Int32} {kk : Int32 → Option (α × Hp)} (hdg : decode M.1 pc = .ok (.baload, 1)) (k0 : ∀ v, G l z M okv en (pc + 1) lv (.int v :: st) x (kk v)) : G l z M okv en pc lv (.int i :: va_rf r :: st) x (aldi r x 100 i kk) := by
  refine G_idx fun b hr hkb hi => ?_
  subst hr
  refine G_rd (fun C hR hS k2 => ?_) (k0 (h_ai x b i.toNatClampNeg))
  obtain ⟨hx, hb, -, hown, hts, hnm, ⟨hK, -⟩, -⟩ := C
  have h1 := hR.at_arr (t := 0) hkb (by omega)
  exact va_bald hx hb hK (ws := [(b, .inl (_, h_n x b, .inl (h_ai x b)))]) (fun k q hq => by
    have hz : k < 1 := (List.getElem?_eq_some_iff.mp hq).1
    rw [show k = 0 by omega] at hq
    cases hq
    exact h1) 0 0 rfl rfl (h_in hi) hdg k2
theorem G_lald {r : Option Nat} {i : Int32} {kk : Int64 → Option (α × Hp)} (hdg : decode M.1 pc = .ok (.laload, 1)) (k0 : ∀ v, G l z M okv en (pc + 1) lv (.long v :: st) x (kk v)) : G l z M okv en pc lv (.int i :: va_rf r :: st) x (aldl r x 102 i kk) := by
  refine G_idx fun b hr hkb hi => ?_
  subst hr
  refine G_rd (fun C hR hS k2 => ?_) (k0 (h_al x b i.toNatClampNeg))
  obtain ⟨hx, hb, -, hown, hts, hnm, ⟨hK, -⟩, -⟩ := C
  have h1 := hR.at_arr (t := 2) hkb (by omega)
  exact va_lald hx hb hK (ws := [(b, .inl (_, h_n x b, .inr (.inl (h_al x b))))]) (fun k q hq => by
    have hz : k < 1 := (List.getElem?_eq_some_iff.mp hq).1
    rw [show k = 0 by omega] at hq
    cases hq
    exact h1) 0 2 rfl rfl (h_in hi) hdg k2
theorem apay_0 {x : Hp} {a : Nat} : apay x 0 a = .inl (h_ai x a) := rfl
theorem apay_1 {x : Hp} {a : Nat} : apay x 1 a = .inl (h_ai x a) := rfl
theorem apay_2 {x : Hp} {a : Nat} : apay x 2 a = .inr (.inl (h_al x a)) := rfl
theorem w_apay {x : Hp} {t a : Nat} (h : 2 < t) : apay x t a = .inr (.inr (.inr (.inr (h_ar x a)))) := by
  unfold apay
  rw [if_neg (by omega), if_neg (by omega)]
theorem G_aald {r : Option Nat} {i : Int32} {kd t : Nat} {kk : Option Nat → Option (α × Hp)} (hkd : kd = 100 + t) (ht : 2 < t) (ht2 : t < 8) (hdg : decode M.1 pc = .ok (.aaload, 1)) (k0 : ∀ v, G l z M okv en (pc + 1) lv (va_rf v :: st) x (kk v)) : G l z M okv en pc lv (.int i :: va_rf r :: st) x (aldr r x kd i kk) := by
  refine G_idx fun b hr hkb hi => ?_
  subst hr; subst hkd
  refine G_rd (fun {D cA b0 p e R s m args below meth c H locs cells slots Q ls} C hR hS k2 => ?_) (k0 (h_ar x b i.toNatClampNeg))
  obtain ⟨hx, hb, -, hown, hts, hnm, ⟨hK, -⟩, -⟩ := C
  have h1 := hR.at_arr hkb (by omega)
  rw [w_apay ht] at h1
  have hlt : i.toNatClampNeg < h_n x b := Nat.not_le.mp fun q => h_in hi (Or.inr q)
  have go : ∀ ty : FieldType, ty.isReference = true → ArrOfT s (cA t) ty → W p l e R s m args below meth c H locs cells slots Q (F0 m pc ls (.int i :: va_rf (some b) :: st)) := fun ty hty hA =>
    W.aald (v := va_rf (h_ar x b i.toNatClampNeg)) (ty := ty) hx hb h1 (hA _ (fun j => va_rf (h_ar x b j))) hty (fun q => by cases q) (by show ¬ (i < 0 ∨ (arrV _ _ _).slots.size ≤ _); rw [arrV_size]; exact h_in hi) (by show (arrV _ _ _).slots[_]? = _; rw [arrV_read _ _ hlt]) rfl rfl hdg k2
  have hT := hK.2
  rcases (show t = 3 ∨ t = 4 ∨ t = 5 ∨ t = 6 ∨ t = 7 by omega) with rfl | rfl | rfl | rfl | rfl
  · exact go _ rfl (hT 3 _ rfl).1
  · exact go _ rfl (hT 4 _ rfl).1
  · exact go _ rfl (hT 5 _ rfl).1
  · exact go _ rfl (hT 6 _ rfl).1
  · exact go _ rfl (hT 7 _ rfl).1
theorem G_iast {r : Option Nat} {i v : Int32} {kk : Hp → Option (α × Hp)} (hdg : decode M.1 pc = .ok (.iastore, 1)) (k0 : ∀ y, G l z M okv en (pc + 1) lv st y (kk y)) : G l z M okv en pc lv (.int v :: .int i :: va_rf r :: st) x (asti r x 101 i v kk) := by
  refine G_idx fun b hr hkb hi => ?_
  subst hr
  refine G_wr (y := p_ai x b i.toNatClampNeg v) rfl rfl (fun C hR hS k2 => ?_) (k0 _)
  obtain ⟨hx, hb, -, hown, hts, hnm, ⟨hK, -⟩, -⟩ := C
  have h1 := hR.at_arr (t := 1) hkb (by omega)
  refine W.iast hx hb h1 ((hK.2 1 _ rfl).1 (h_n x b) (fun j => .int (h_ai x b j))) (fun q => by cases q) (by show ¬ (i < 0 ∨ (arrV _ _ _).slots.size ≤ _); rw [arrV_size]; exact h_in hi) rfl rfl hdg fun H1 e zz oq => ?_
  refine (fun hh => k2 H1 _ hh.1 hh.2) (w_arr (t := 1) (y := p_ai x b i.toNatClampNeg v) (n := 0) (by omega) hR hkb hS zz oq rfl rfl (fun q hq => Sm_pai hq) ?_)
  rw [e, apay_1, apay_1, vp_cell_i, vp_cell_i, arrV_store]
  congr 2
  funext q
  by_cases hq : q = i.toNatClampNeg
  · subst hq
    simp [updV, h_ai, p_ai, u2]
  · simp [updV, h_ai, p_ai, u2, hq]
theorem G_bast {r : Option Nat} {i v : Int32} {kk : Hp → Option (α × Hp)} (hdg : decode M.1 pc = .ok (.bastore, 1)) (k0 : ∀ y, G l z M okv en (pc + 1) lv st y (kk y)) : G l z M okv en pc lv (.int v :: .int i :: va_rf r :: st) x (asti r x 100 i v.toInt8.toInt32 kk) := by
  refine G_idx fun b hr hkb hi => ?_
  subst hr
  refine G_wr (y := p_ai x b i.toNatClampNeg v.toInt8.toInt32) rfl rfl (fun C hR hS k2 => ?_) (k0 _)
  obtain ⟨hx, hb, -, hown, hts, hnm, ⟨hK, -⟩, -⟩ := C
  have h1 := hR.at_arr (t := 0) hkb (by omega)
  refine W.bast hx hb h1 ((hK.2 0 _ rfl).1 (h_n x b) (fun j => .int (h_ai x b j))) (fun q => by cases q) (by show ¬ (i < 0 ∨ (arrV _ _ _).slots.size ≤ _); rw [arrV_size]; exact h_in hi) rfl rfl hdg fun H1 e zz oq => ?_
  refine (fun hh => k2 H1 _ hh.1 hh.2) (w_arr (t := 0) (y := p_ai x b i.toNatClampNeg v.toInt8.toInt32) (n := 0) (by omega) hR hkb hS zz oq rfl rfl (fun q hq => Sm_pai hq) ?_)
  rw [e, apay_0, apay_0, vp_cell_i, vp_cell_i, arrV_store]
  congr 2
  funext q
  by_cases hq : q = i.toNatClampNeg
  · subst hq
    simp [updV, h_ai, p_ai, u2, narrow]
  · simp [updV, h_ai, p_ai, u2, hq]
theorem G_last {r : Option Nat} {i : Int32} {v : Int64} {kk : Hp → Option (α × Hp)} (hdg : decode M.1 pc = .ok (.lastore, 1)) (k0 : ∀ y, G l z M okv en (pc + 1) lv st y (kk y)) : G l z M okv en pc lv (.long v :: .int i :: va_rf r :: st) x (astl r x 102 i v kk) := by
  refine G_idx fun b hr hkb hi => ?_
  subst hr
  refine G_wr (y := p_al x b i.toNatClampNeg v) rfl rfl (fun C hR hS k2 => ?_) (k0 _)
  obtain ⟨hx, hb, -, hown, hts, hnm, ⟨hK, -⟩, -⟩ := C
  have h1 := hR.at_arr (t := 2) hkb (by omega)
  refine W.last hx hb h1 ((hK.2 2 _ rfl).1 (h_n x b) (fun j => .long (h_al x b j))) (fun q => by cases q) (by show ¬ (i < 0 ∨ (arrV _ _ _).slots.size ≤ _); rw [arrV_size]; exact h_in hi) rfl rfl hdg fun H1 e zz oq => ?_
  refine (fun hh => k2 H1 _ hh.1 hh.2) (w_arr (t := 2) (y := p_al x b i.toNatClampNeg v) (n := 0) (by omega) hR hkb hS zz oq rfl rfl (fun q hq => Sm_pal hq) ?_)
  rw [e, apay_2, apay_2, vp_cell_l, vp_cell_l, arrV_store]
  congr 2
  funext q
  by_cases hq : q = i.toNatClampNeg
  · subst hq
    simp [updV, h_al, p_al, u2]
  · simp [updV, h_al, p_al, u2, hq]
end ROWSH
