/-! ===== the builder of strings ===== -/
def SbR (x : Hp) (sb v cap : Nat) (l : List Nat) : Prop := h_k x sb = 2 ∧ h_r x 20 sb = some v ∧ h_i x 21 sb = 0 ∧ h_i x 23 sb = nI l.length ∧ h_k x v = 100 ∧ h_n x v = cap ∧ l.length ≤ cap ∧ cap ≤ 5000 ∧ sb < v ∧ v < h_sz x ∧ (∀ c ∈ l, c < 128) ∧ (∀ j, j < l.length → h_ai x v j = nI (l.getD j 0)) ∧ ∀ j, j < cap → fits .byte (.int (h_ai x v j)) = true
theorem fit_n : ∀ c, c < 128 → fits .byte (.int (nI c)) = true := by decide +kernel
theorem byte_n : ∀ c, c < 128 → (nI c).toInt8.toInt32 = nI c := by decide +kernel
theorem sub_le0 {a b : Nat} (ha : a < 2 ^ 30) (hb : b < 2 ^ 30) : (nI a - nI b ≤ 0) ↔ a ≤ b := by
  rw [Int32.le_iff_toInt_le, pk_sub_toInt ha hb]
  have h0 : (0 : Int32).toInt = 0 := by decide
  rw [h0]
  omega
theorem shl0 (n : Nat) (h : n < 2 ^ 31) : nI n <<< ((0 : Int32) &&& 31) = nI n := by
  have := pk_shlN (n := n) ((0 : Int32) &&& 31) 0 (by decide) (by omega)
  rw [this]
  simp
theorem shl0' (v : Int32) : v <<< ((0 : Int32) &&& 31) = v := by
  have e : ((0 : Int32) &&& 31) = 0 := by decide
  rw [e]
  apply Int32.toBitVec_inj.mp
  simp
section SB
variable {N : Nat} {z : Nat → Nat}
/-- room is made -/
theorem sb_room {x : Hp} {sb v cap need : Nat} {l : List Nat} (h : SbR x sb v cap l) (hn : need ≤ 2400) : ∃ y v' cap', f_J5_ensureCapacityInternal_d00df N z sb (nI need) x = some ((), y) ∧ SbR y sb v' cap' l ∧ need ≤ cap' ∧ (∀ q, q < h_sz x → q ≠ sb → Sm y x q) ∧ h_sz x ≤ h_sz y ∧ h_sz y ≤ h_sz x + 1 ∧ h_sl y ≤ h_sl x + 5000 ∧ (v' = v ∨ h_sz x ≤ v') := by
  obtain ⟨s1, s2, s3, s4, s5, s6, s7, s8, s9, s10, s11, s12, s13⟩ := id h
  unfold f_J5_ensureCapacityInternal_d00df
  rw [getr_s s1, s2, alen_s s5, s6, geti_s s1, s3, shr0 cap (by omega)]
  by_cases c : need ≤ cap
  · rw [if_pos ((sub_le0 (by omega) (by omega)).mpr c)]
    exact ⟨x, v, cap, rfl, h, c, fun q _ _ => ⟨rfl, rfl, fun _ => rfl, fun _ => rfl, rfl, rfl, rfl⟩, Nat.le_refl _, by omega, by omega, Or.inl rfl⟩
  · rw [if_neg (fun q => c ((sub_le0 (by omega) (by omega)).mp q))]
    obtain ⟨m, hm⟩ : ∃ m, m = if need - cap < cap + 2 then cap + 2 else need - cap := ⟨_, rfl⟩
    have hm2 : m ≤ 2402 ∧ need ≤ cap + m ∧ 0 < m := by rw [hm]; split <;> omega
    have e1 : (if nI (need - cap) < nI (cap + 2) then nI (cap + 2) else nI (need - cap)) = nI m := by
      rw [hm]
      by_cases d : need - cap < cap + 2
      · rw [if_pos (nI_lt d (by omega)), if_pos d]
      · rw [if_neg (nI_nlt (by omega) (by omega)), if_neg d]
    have e2 : f_J8_newLength_cabcc N z (nI cap) (nI (need - cap)) (nI (cap + 2)) x = some (nI (cap + m), x) := by
      unfold f_J8_newLength_cabcc
      rw [e1, nI_add, if_neg (nI_nle (by omega) (by omega)), if_neg (show ¬ (2147483639 : Int32) < nI (cap + m) from nI_nlt (a := 2147483639) (by omega) (by decide))]
    have e3 : f_J5_newCapacity_0f7a4 N z sb (nI need) x = some (nI (cap + m), x) := by
      unfold f_J5_newCapacity_0f7a4
      rw [getr_s s1, s2, alen_s s5, s6, geti_s s1, geti_s s1, s3, shl0 need (by omega), pk_sub (by omega), show (2 : Int32) = nI 2 from rfl, shl0 2 (by decide), nI_add, e2, bnd_s, if_neg (show ¬ nI (cap + m) = (2147483647 : Int32) from fun q => absurd ((nI_eq (b := 2147483647) (by omega) (by decide)).mp q) (by omega)), geti_s s1, s3, shr0 (cap + m) (by omega)]
    obtain ⟨v', hv'⟩ : ∃ v', v' = h_sz x := ⟨_, rfl⟩
    obtain ⟨u, hu⟩ : ∃ u, u = p_aw (p_n x 100 (cap + m) (cap + m)) v' (va_cpy (h_ai x v) (h_ai (p_n x 100 (cap + m) (cap + m)) v') 0 0 cap) := ⟨_, rfl⟩
    have kv : h_k (p_n x 100 (cap + m) (cap + m)) v = 100 := by rw [pnk, if_neg (by omega)]; exact s5
    have nv : h_n (p_n x 100 (cap + m) (cap + m)) v = cap := by rw [pnn, if_neg (by omega)]; exact s6
    have av : h_ai (p_n x 100 (cap + m) (cap + m)) v = h_ai x v := by
      funext j
      show (if v = h_sz x then 0 else h_ai x v j) = h_ai x v j
      rw [if_neg (by omega)]
    have kv' : h_k (p_n x 100 (cap + m) (cap + m)) v' = 100 := by rw [pnk, if_pos hv']
    have nv' : h_n (p_n x 100 (cap + m) (cap + m)) v' = cap + m := by rw [pnn, if_pos hv']
    have av' : ∀ j, h_ai (p_n x 100 (cap + m) (cap + m)) v' j = 0 := fun j => by
      show (if v' = h_sz x then (0 : Int32) else h_ai x v' j) = 0
      rw [if_pos hv']
    have e4 : f_J7_copyOf_9075b N z (some v) (nI (cap + m)) x = some (some v', u) := by
      unfold f_J7_copyOf_9075b
      rw [alen_s s5, s6, if_neg (fun q => absurd ((nI_eq (by omega) (by omega)).mp q) (by omega)), newa_s (by omega), ← hv', alen_s kv, nv, if_neg (nI_nlt (by omega) (by omega))]
      unfold acpy
      show objB (some v) (p_n x 100 (cap + m) (cap + m)) _ = _
      have eo : ∀ {β : Type} (k : Nat → Option β), objB (some v) (p_n x 100 (cap + m) (cap + m)) k = k v := fun k => by
        show (if h_k (p_n x 100 (cap + m) (cap + m)) v = 100 ∨ _ then k v else none) = k v
        exact if_pos (Or.inl kv)
      rw [eo, obj_s kv', nI_clamp (by omega), nI_toInt (by omega)]
      have z0 : (0 : Int32).toInt = 0 := by decide
      have z1 : (0 : Int32).toNatClampNeg = 0 := by decide
      rw [z0, z1, nv, nv', if_pos ⟨by omega, by omega, by omega, by omega, by omega, by omega, fun i hi => by rw [av, Nat.zero_add]; exact s13 i hi⟩, av, ← hu]
    have ku : h_k u sb = 2 := by rw [hu]; show h_k (p_n x 100 (cap + m) (cap + m)) sb = 2; rw [pnk, if_neg (by omega)]; exact s1
    have au : ∀ j, h_ai u v' j = if j < cap then h_ai x v j else 0 := fun j => by
      rw [hu]
      show (if v' = v' then va_cpy (h_ai x v) (h_ai (p_n x 100 (cap + m) (cap + m)) v') 0 0 cap else _) j = _
      rw [if_pos rfl]
      by_cases d : j < cap
      · rw [pk_cpy_in (by omega) (by omega), if_pos d]
        congr 1
        omega
      · rw [pk_cpy_out (by omega), if_neg d, av' j]
    refine ⟨p_r u 20 sb (some v'), v', cap + m, ?_, ⟨ku, p_r_eq, ?_, ?_, ?_, ?_, by omega, by omega, by omega, ?_, s11, fun j hj => ?_, fun j hj => ?_⟩, by omega, fun q hq hq2 => ?_, ?_, ?_, ?_, Or.inr (by omega)⟩
    · rw [getr_s s1, s2, obj_s s1, e3, bnd_s, geti_s s1, s3, shl0 (cap + m) (by omega), e4, bnd_s, putr_s ku]
    · show h_i u 21 sb = 0
      rw [hu]; show h_i (p_n x 100 (cap + m) (cap + m)) 21 sb = 0; rw [pni, if_neg (by omega)]; exact s3
    · show h_i u 23 sb = _
      rw [hu]; show h_i (p_n x 100 (cap + m) (cap + m)) 23 sb = _; rw [pni, if_neg (by omega)]; exact s4
    · show h_k u v' = 100
      rw [hu]; exact kv'
    · show h_n u v' = cap + m
      rw [hu]; exact nv'
    · show v' < h_sz u
      rw [hu]; show v' < h_sz x + 1; omega
    · show h_ai u v' j = _
      rw [au, if_pos (by omega)]
      exact s12 j hj
    · show fits .byte (.int (h_ai u v' j)) = true
      rw [au]
      split
      · rename_i d; exact s13 j d
      · exact fit_n 0 (by decide)
    · have a1 : Sm (p_n x 100 (cap + m) (cap + m)) x q := Sm_pn (by omega)
      have a2 : Sm u (p_n x 100 (cap + m) (cap + m)) q := by
        rw [hu]
        refine ⟨rfl, rfl, fun _ => rfl, fun _ => rfl, ?_, rfl, rfl⟩
        show (if q = v' then _ else h_ai (p_n x 100 (cap + m) (cap + m)) q) = _
        rw [if_neg (by omega)]
      have a3 : Sm (p_r u 20 sb (some v')) u q := Sm_pr hq2
      exact (a3.tr a2).tr a1
    · show h_sz x ≤ h_sz u
      rw [hu]; show h_sz x ≤ h_sz x + 1; omega
    · show h_sz u ≤ _
      rw [hu]; show h_sz x + 1 ≤ _; omega
    · show h_sl u ≤ _
      rw [hu]; show h_sl x + (cap + m) ≤ _; omega
/-- bytes are put behind -/
theorem sb_str {x : Hp} {sb v cap a va : Nat} {l s : List Nat} (h : SbR x sb v cap l) (hs : StrR x a va s) (ha : a < h_sz x ∧ va < h_sz x ∧ a ≠ sb ∧ va ≠ sb ∧ va ≠ v) (hl : l.length + s.length ≤ 2400) : ∃ y v' cap', f_J4_append_15ec4 N z sb (some a) x = some (some sb, y) ∧ SbR y sb v' cap' (l ++ s) ∧ Ag x y 0 sb ∧ h_sz x ≤ h_sz y ∧ h_sz y ≤ h_sz x + 1 ∧ h_sl y ≤ h_sl x + 5000 := by
  obtain ⟨y, v', cap', e1, e2, e3, e4, e5, e6, e7, e8⟩ := sb_room (N := N) (z := z) (need := l.length + s.length) h hl
  obtain ⟨s1, s2, s3, s4, s5, s6, s7, s8, s9, s10, s11, s12, s13⟩ := id h
  obtain ⟨t1, t2, t3, t4, t5, t6, t7, t8, t9, t10, t11, t12, t13⟩ := id e2
  have hsy : StrR y a va s := by
    obtain ⟨p1, p2, p3, p4, p5, p6, p7, p8⟩ := hs
    have ga := e4 a ha.1 ha.2.2.1
    have gv := e4 va ha.2.1 ha.2.2.2.1
    exact ⟨by rw [ga.1]; exact p1, (ga.2.2.1 1).trans p2, (ga.2.2.2.1 0).trans p3, by rw [gv.1]; exact p4, gv.2.1.trans p5, p6, p7, fun j hj => by rw [gv.2.2.2.2.1]; exact p8 j hj⟩
  have hva : va ≠ v' := by
    rcases e8 with c | c
    · rw [c]; exact ha.2.2.2.2
    · omega
  have hslen := hsy.2.2.2.2.2.1
  obtain ⟨u, hu⟩ : ∃ u, u = p_aw y v' (va_cpy (h_ai y va) (h_ai y v') 0 l.length s.length) := ⟨_, rfl⟩
  have gb : f_J0_getBytes_840e7 N z a (some v') (nI l.length) 0 y = some ((), u) := by
    unfold f_J0_getBytes_840e7
    rw [hsy.o, str_coder hsy, bnd_s, if_pos rfl, hsy.gr, hsy.gr, hsy.al]
    unfold acpy
    rw [hsy.b, obj_s t5, shl0 l.length (by omega), nI_clamp (by omega), nI_clamp (by omega), nI_toInt (by omega), nI_toInt (by omega)]
    have z0 : (0 : Int32).toInt = 0 := by decide
    have z1 : (0 : Int32).toNatClampNeg = 0 := by decide
    have fitS : ∀ i, i < s.length → fits .byte (.int (h_ai y va (0 + i))) = true := fun i hi => by
      rw [Nat.zero_add, hsy.2.2.2.2.2.2.2 i hi]
      have e : s.getD i 0 = s[i] := by simp [List.getD_eq_getElem?_getD, hi]
      rw [e]
      exact fit_n _ (hsy.2.2.2.2.2.2.1 _ (List.getElem_mem hi))
    rw [z0, z1, hsy.2.2.2.2.1, t6, if_pos ⟨hva, by omega, by omega, by omega, by omega, by omega, fitS⟩, ← hu]
  have ku : h_k u sb = 2 := by rw [hu]; exact t1
  have inf : f_J5_inflateIfNeededFor_a7421 N z sb (some a) y = some ((), y) := by
    unfold f_J5_inflateIfNeededFor_a7421
    rw [if_neg (by decide), geti_s t1, t3, hsy.o, str_coder hsy, bnd_s, if_pos rfl]
  have put : f_J5_putStringAt_47b60 N z sb (nI l.length) (some a) y = some ((), u) := by
    unfold f_J5_putStringAt_47b60
    rw [obj_s t1, inf, bnd_s, getr_s t1, t2, geti_s t1, t3, hsy.o, gb, bnd_s]
  have au : ∀ j, h_ai u v' j = va_cpy (h_ai y va) (h_ai y v') 0 l.length s.length j := fun j => by
    rw [hu]
    show (if v' = v' then va_cpy (h_ai y va) (h_ai y v') 0 l.length s.length else _) j = _
    rw [if_pos rfl]
  refine ⟨p_i u 23 sb (nI (l.length + s.length)), v', cap', ?_, ⟨ku, ?_, ?_, ?_, ?_, ?_, ?_, t8, t9, ?_, ?_, fun j hj => ?_, fun j hj => ?_⟩, ?_, ?_, ?_, ?_⟩
  · unfold f_J4_append_15ec4 f_J5_append_cf1ce
    rw [obj_s s1, if_neg (by simp), hs.o, str_len hs, bnd_s, geti_s s1, s4, nI_add, obj_s s1, e1, bnd_s, geti_s t1, t4, obj_s t1, put, bnd_s, geti_s ku, show h_i u 23 sb = nI l.length by rw [hu]; exact t4, nI_add, puti_s ku, bnd_s]
  · show h_r u 20 sb = some v'
    rw [hu]; exact t2
  · rw [p_i_ne (by decide), hu]; exact t3
  · rw [p_i_eq, List.length_append]
  · show h_k u v' = 100
    rw [hu]; exact t5
  · show h_n u v' = cap'
    rw [hu]; exact t6
  · rw [List.length_append]; exact e3
  · show v' < h_sz u
    rw [hu]; exact t10
  · intro c hc
    rcases List.mem_append.mp hc with q | q
    · exact s11 c q
    · exact hs.2.2.2.2.2.2.1 c q
  · show h_ai u v' j = _
    rw [au]
    rw [List.length_append] at hj
    by_cases d : j < l.length
    · rw [pk_cpy_out (by omega), t12 j d]
      simp [List.getD_eq_getElem?_getD, List.getElem?_append_left d]
    · rw [pk_cpy_in (by omega) (by omega), Nat.zero_add, hsy.2.2.2.2.2.2.2 (j - l.length) (by omega)]
      simp [List.getD_eq_getElem?_getD, List.getElem?_append_right (show l.length ≤ j by omega)]
  · show fits .byte (.int (h_ai u v' j)) = true
    rw [au]
    by_cases d : l.length ≤ j ∧ j < l.length + s.length
    · rw [pk_cpy_in d.1 d.2, Nat.zero_add, hsy.2.2.2.2.2.2.2 (j - l.length) (by omega)]
      have hi : j - l.length < s.length := by omega
      have e : s.getD (j - l.length) 0 = s[j - l.length] := by simp [List.getD_eq_getElem?_getD, hi]
      rw [e]
      exact fit_n _ (hs.2.2.2.2.2.2.1 _ (List.getElem_mem hi))
    · rw [pk_cpy_out (by omega)]
      exact t13 j hj
  · intro q q1 q2
    have a1 := e4 q (by omega) (by omega)
    have a2 : Sm u y q := by
      rw [hu]
      refine ⟨rfl, rfl, fun _ => rfl, fun _ => rfl, ?_, rfl, rfl⟩
      show (if q = v' then _ else h_ai y q) = _
      rw [if_neg (by omega)]
    exact ((Sm_pi (by omega) : Sm (p_i u 23 sb (nI (l.length + s.length))) u q).tr a2).tr a1
  · show h_sz x ≤ h_sz u
    rw [hu]; exact e5
  · show h_sz u ≤ _
    rw [hu]; exact e6
  · show h_sl u ≤ _
    rw [hu]; exact e7
end SB
