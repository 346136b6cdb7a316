/-! ===== THE FIRST HEAP, AND THE CLAIM OUT OF THE LAW'S FUNCTION ===== -/
section HP0
variable {s : State} {A : Nat → Prop} {b L : Nat} {xs : Nat → Int32} {adK adV : Nat → Nat} {dt dn : Nat}
noncomputable def hp0 (s : State) (b : Nat) (adK adV : Nat → Nat) (dt dn : Nat) : Hp :=
  (fun a => cif (a = b) 301 (cif (∃ k, k < gK ∧ a = adK k) 201 (cif ((∃ k, k < gK ∧ a = adV k) ∨ a = dt ∨ a = dn) 300 0)),
   fun a => (match s.heap[a]? with | some c => c.slots.size | none => 0) % 2 ^ 32,
   fun _ _ => 0,
   fun _ a => @dite _ (∃ k, k < gK ∧ a = adK k) (Classical.propDecidable _) (fun h => some (adV (Classical.choose h))) (fun _ => none),
   fun a j => match s.heap[a]? with | some c => (match c.slots[j]? with | some (.int v) => v | _ => 0) | none => 0,
   fun _ _ => 0, fun _ _ => none, s.heap.size, 0)
/-- an object of String's; an array -/
def isSO (s : State) (a : Nat) : Prop := ∃ cell : Cell, s.heap[a]? = some cell ∧ s.vm.findClass "java/lang/String" = some cell.cls
def isAR (s : State) (ty : FieldType) (a : Nat) : Prop := ∃ cell : Cell, s.heap[a]? = some cell ∧ s.isArrayOf cell ty
theorem so_ar {a : Nat} {ty : FieldType} {cS : ClassId} (hS : ClassAt s "java/lang/String" cS) (h1 : isSO s a) (h2 : isAR s ty a) : False := by
  obtain ⟨c1, e1, f1⟩ := h1
  obtain ⟨c2, e2, -, k, hk, comp, hkind⟩ := h2
  cases e1.symm.trans e2
  obtain ⟨g1, kC, g2, g3⟩ := hS
  have h3 := Option.some.inj (g1.symm.trans f1)
  subst h3
  cases g2.symm.trans hk
  rw [g3] at hkind
  cases hkind
theorem ar_ar {a : Nat} (h1 : isAR s .int a) (h2 : isAR s .byte a) : False := by
  obtain ⟨c1, e1, -, k1, hk1, comp1, hkind1⟩ := h1
  obtain ⟨c2, e2, -, k, hk, comp, hkind⟩ := h2
  cases e1.symm.trans e2
  cases hk1.symm.trans hk
  rw [hkind1] at hkind
  cases hkind
theorem t_isAR {ty : FieldType} {t N : Nat} {f : Nat → Value} (h : va_T ty t N f A s s.heap) : isAR s ty t := by
  obtain ⟨cell, h1, h2, -⟩ := h
  exact ⟨cell, h1, h2⟩
theorem t_lt {ty : FieldType} {t N : Nat} {f : Nat → Value} (h : va_T ty t N f A s s.heap) : t < s.heap.size := by
  obtain ⟨cell, h1, -⟩ := h
  exact (Array.getElem?_eq_some_iff.mp h1).1
theorem t_rep {ty : FieldType} {t N : Nat} {f : Nat → Int32} (hN : N < 2 ^ 31) (h : va_T ty t N (fun j => .int (f j)) A s s.heap) : h_n (hp0 s b adK adV dt dn) t = N ∧ ∀ j, j < N → h_ai (hp0 s b adK adV dt dn) t j = f j := by
  obtain ⟨cell, h1, h2, h3, h4, h5, h6, h7⟩ := h
  refine ⟨?_, fun j hj => ?_⟩
  · show (match s.heap[t]? with | some c => c.slots.size | none => 0) % 2 ^ 32 = N
    rw [h1]
    show cell.slots.size % 2 ^ 32 = N
    have h8 : (Int32.ofNat cell.slots.size).toBitVec.toNat = (Int32.ofNat N).toBitVec.toNat := congrArg (fun z : Int32 => z.toBitVec.toNat) h5
    have h9 : ∀ n : Nat, (Int32.ofNat n).toBitVec.toNat = n % 2 ^ 32 := fun n => by first | rfl | rw [Int32.toBitVec_ofNat, BitVec.toNat_ofNat]
    rw [h9, h9] at h8
    omega
  · show (match s.heap[t]? with | some c => (match c.slots[j]? with | some (.int v) => v | _ => 0) | none => 0) = f j
    rw [h1]
    show (match cell.slots[j]? with | some (.int v) => v | _ => 0) = f j
    rw [h6 j hj]
theorem t_same {ty : FieldType} {t N : Nat} {f : Nat → Int32} (hN : N < 2 ^ 31) (h : va_T ty t N (fun j => .int (f j)) A s s.heap) : va_T ty t (h_n (hp0 s b adK adV dt dn) t) (fun j => .int (h_ai (hp0 s b adK adV dt dn) t j)) A s s.heap := by
  obtain ⟨e1, e2⟩ := t_rep (b := b) (adK := adK) (adV := adV) (dt := dt) (dn := dn) hN h
  rw [e1]
  obtain ⟨cell, h1, h2, h3, h4, h5, h6, h7⟩ := h
  exact ⟨cell, h1, h2, h3, h4, h5, fun j hj => by show _ = some (Value.int (h_ai (hp0 s b adK adV dt dn) t j)); rw [e2 j hj]; exact h6 j hj, h7⟩
theorem x_T (hL : L ≤ 260) (hX : va_X b L xs s s.heap) (hA : ∀ a : Nat, a < s.heap.size → ¬ A a) : va_T .int b L (fun j => .int (xs j)) A s s.heap := by
  obtain ⟨scr, h1, h2, h3, h4, h5⟩ := hX
  exact ⟨scr, h1, h2, h3, by omega, by rw [h4] <;> rfl, h5, hA b (Array.getElem?_eq_some_iff.mp h1).1⟩
theorem of_uniq {o n d : String} {v w : Value} {t : Nat} (h1 : va_OF o n d v t A s s.heap) (h2 : va_OF o n d w t A s s.heap) : v = w := by
  obtain ⟨cf, k, i, f, cell, a1, a2, a3, a4, a5, -⟩ := h1
  obtain ⟨cf', k', i', f', cell', b1, b2, b3, b4, b5, -⟩ := h2
  cases a1.symm.trans b1
  cases a3.symm.trans b3
  exact Option.some.inj (a5.symm.trans b5)
theorem hp0_ok {D : va_G} {cA : Nat → ClassId} {cS : ClassId} (hS : ClassAt s "java/lang/String" cS) (hL : L ≤ 260) (hX : va_X b L xs s s.heap) (hSc : ∀ k, k < gK → Sc s (fun q => s.heap.size ≤ q) k (adK k, adV k)) (hdt : va_T .byte dt 100 (fun j => .int (nI (48 + j / 10))) (fun q => s.heap.size ≤ q) s s.heap) (hdn : va_T .byte dn 100 (fun j => .int (nI (48 + j % 10))) (fun q => s.heap.size ≤ q) s s.heap) :
    Rep D cA s.heap.size s (hp0 s b adK adV dt dn) s.heap ∧ ∀ z : Nat → Nat, (∀ k, k < gK → z k = adK k) → (∀ k, k < gK → z (200 + k) = adV k) → z 100 = dt → z 101 = dn → St0 z b L xs (hp0 s b adK adV dt dn) := by
  have hgB : ∀ k, k < gK → (gB.getD k []).length < 2 ^ 31 := by decide +kernel
  have hA : ∀ a : Nat, a < s.heap.size → ¬ (fun q => s.heap.size ≤ q) a := fun a h => Nat.not_le.mpr h
  have hbT := x_T (A := fun q => s.heap.size ≤ q) hL hX hA
  have hbI : isAR s .int b := t_isAR hbT
  have hkS : ∀ k, k < gK → isSO s (adK k) := fun k hk => by
    obtain ⟨cell, h1, h2, h3, h4⟩ := (hSc k hk).1
    exact ⟨cell, h1, h3⟩
  have hkB : ∀ k, k < gK → isAR s .byte (adV k) := fun k hk => t_isAR (hSc k hk).2.2.2
  have k301 : h_k (hp0 s b adK adV dt dn) b = 301 := cif_pos rfl
  have k201 : ∀ k, k < gK → h_k (hp0 s b adK adV dt dn) (adK k) = 201 := by
    intro k hk
    have n1 : ¬ adK k = b := fun e => so_ar hS (hkS k hk) (e ▸ hbI)
    exact (cif_neg n1).trans (cif_pos ⟨k, hk, rfl⟩)
  have k300 : ∀ a, isAR s .byte a → ((∃ k, k < gK ∧ a = adV k) ∨ a = dt ∨ a = dn) → h_k (hp0 s b adK adV dt dn) a = 300 := by
    intro a ha h
    have n1 : ¬ a = b := fun e => ar_ar hbI (e ▸ ha)
    have n2 : ¬ ∃ k, k < gK ∧ a = adK k := fun ⟨k, hk, e⟩ => so_ar hS (hkS k hk) (e ▸ ha)
    exact (cif_neg n1).trans ((cif_neg n2).trans (cif_pos h))
  have kall : ∀ a, h_k (hp0 s b adK adV dt dn) a ≠ 0 → a = b ∨ (∃ k, k < gK ∧ a = adK k) ∨ ((∃ k, k < gK ∧ a = adV k) ∨ a = dt ∨ a = dn) := by
    intro a h
    by_cases h1 : a = b
    · exact Or.inl h1
    · by_cases h2 : ∃ k, k < gK ∧ a = adK k
      · exact Or.inr (Or.inl h2)
      · by_cases h3 : (∃ k, k < gK ∧ a = adV k) ∨ a = dt ∨ a = dn
        · exact Or.inr (Or.inr h3)
        · exact absurd ((cif_neg h1).trans ((cif_neg h2).trans (cif_neg h3))) h
  have kval : ∀ k, k < gK → h_r (hp0 s b adK adV dt dn) 0 (adK k) = some (adV k) := by
    intro k hk
    have hex : ∃ j, j < gK ∧ adK k = adK j := ⟨k, hk, rfl⟩
    have h1 : h_r (hp0 s b adK adV dt dn) 0 (adK k) = some (adV (Classical.choose hex)) := dif_pos hex
    have h2 := Classical.choose_spec hex
    rw [h1]
    have h3 := (hSc _ h2.1).2.2.1
    dsimp only at h3
    rw [← h2.2] at h3
    have h4 := of_uniq h3 (hSc k hk).2.2.1
    injection h4 with h5
    rw [h5]
  have old : ∀ a, h_k (hp0 s b adK adV dt dn) a ≠ 0 → 200 ≤ h_k (hp0 s b adK adV dt dn) a ∧ a < s.heap.size ∧ oldAt s.heap.size s (hp0 s b adK adV dt dn) a s.heap := by
    intro a h
    rcases kall a h with rfl | ⟨k, hk, rfl⟩ | h3
    · refine ⟨by rw [k301]; omega, t_lt hbT, fun e => ?_, fun e => ?_, fun _ => t_same (by omega) hbT⟩
      · rw [k301] at e
        omega
      · rw [k301] at e
        omega
    · have hk' := k201 k hk
      obtain ⟨s1, s2, s3, s4⟩ := hSc k hk
      refine ⟨by rw [hk']; omega, ?_, fun _ => ⟨s1, s2, ?_⟩, fun e => ?_, fun e => ?_⟩
      · obtain ⟨cell, h1, -⟩ := s1
        exact (Array.getElem?_eq_some_iff.mp h1).1
      · rw [kval k hk]
        exact s3
      · rw [hk'] at e
        omega
      · rw [hk'] at e
        omega
    · have hT : ∃ (N : Nat) (f : Nat → Int32), N < 2 ^ 31 ∧ va_T .byte a N (fun j => .int (f j)) (fun q => s.heap.size ≤ q) s s.heap := by
        rcases h3 with ⟨k, hk, rfl⟩ | rfl | rfl
        · exact ⟨_, _, hgB k hk, (hSc k hk).2.2.2⟩
        · exact ⟨_, _, by omega, hdt⟩
        · exact ⟨_, _, by omega, hdn⟩
      obtain ⟨N, f, hN, hT⟩ := hT
      have hk' := k300 a (t_isAR hT) h3
      refine ⟨by rw [hk']; omega, t_lt hT, fun e => ?_, fun _ => t_same hN hT, fun e => ?_⟩
      · rw [hk'] at e
        omega
      · rw [hk'] at e
        omega
  refine ⟨⟨rfl, Nat.le_refl _, fun a => ⟨fun h1 h2 => absurd (old a h1).1 (by omega), fun h2 => (old a (by omega)).2⟩⟩, fun z z1 z2 z3 z4 => ⟨fun k hk => ?_, ?_, ?_, ?_, fun a h => ⟨(old a h).1, (old a h).2.1⟩⟩⟩
  · rw [z1 k hk, z2 k hk]
    obtain ⟨e1, e2⟩ := t_rep (b := b) (adK := adK) (adV := adV) (dt := dt) (dn := dn) (hgB k hk) (hSc k hk).2.2.2
    exact ⟨k201 k hk, rfl, kval k hk, k300 _ (hkB k hk) (Or.inl ⟨k, hk, rfl⟩), e1, e2⟩
  · rw [z3]
    obtain ⟨e1, e2⟩ := t_rep (b := b) (adK := adK) (adV := adV) (dt := dt) (dn := dn) (by omega) hdt
    exact ⟨k300 _ (t_isAR hdt) (Or.inr (Or.inl rfl)), e1, e2⟩
  · rw [z4]
    obtain ⟨e1, e2⟩ := t_rep (b := b) (adK := adK) (adV := adV) (dt := dt) (dn := dn) (by omega) hdn
    exact ⟨k300 _ (t_isAR hdn) (Or.inr (Or.inr rfl)), e1, e2⟩
  · obtain ⟨e1, e2⟩ := t_rep (b := b) (adK := adK) (adV := adV) (dt := dt) (dn := dn) (by omega) hbT
    exact ⟨k301, e1, e2⟩
end HP0
