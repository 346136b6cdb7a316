/-! ===== the builder of strings: made, numbers, and the end ===== -/
def dec (n : Nat) : List Nat := if n < 10 then [48 + n] else [48 + n / 10, 48 + n % 10]
theorem dec_ok : ∀ n, n < 100 → ((dec n).length ≤ 2 ∧ ∀ c ∈ dec n, c < 128) := by decide +kernel
theorem dec_i : ∀ n, n < 100 → ¬ nI n < 0 ∧ (0 ≤ nI n) ∧ (-(nI n) ≤ (-10 : Int32) ↔ 10 ≤ n) ∧ ¬ (-(nI n) ≤ (-100 : Int32)) ∧ (-100 : Int32) < -(nI n) ∧ ((-9 : Int32) ≤ -(nI n) ↔ n < 10) ∧ -(-(nI n)) = nI n := by decide +kernel
theorem sb_fin {y u : Hp} {sb v cap : Nat} {l s : List Nat} (h : SbR y sb v cap l) (hu : ∀ q, q ≠ v → Sm u y q) (hk : h_k u v = 100) (hn : h_n u v = cap) (hz : h_sz u = h_sz y) (hl : l.length + s.length ≤ cap) (hc : ∀ c ∈ s, c < 128) (ha : ∀ j, j < cap → h_ai u v j = if l.length ≤ j ∧ j < l.length + s.length then nI (s.getD (j - l.length) 0) else h_ai y v j) : SbR (p_i u 23 sb (nI (l.length + s.length))) sb v cap (l ++ s) := by
  obtain ⟨t1, t2, t3, t4, t5, t6, t7, t8, t9, t10, t11, t12, t13⟩ := h
  have g := hu sb (by omega)
  refine ⟨g.1.trans t1, (g.2.2.2.1 20).trans t2, (p_i_ne (by decide)).trans ((g.2.2.1 21).trans t3), ?_, hk, hn, ?_, t8, t9, ?_, ?_, fun j hj => ?_, fun j hj => ?_⟩
  · rw [p_i_eq, List.length_append]
  · rw [List.length_append]; exact hl
  · show v < h_sz u
    rw [hz]; exact t10
  · intro c q
    rcases List.mem_append.mp q with q | q
    · exact t11 c q
    · exact hc c q
  · show h_ai u v j = _
    rw [List.length_append] at hj
    rw [ha j (by omega)]
    by_cases d : j < l.length
    · rw [if_neg (by omega), t12 j d]
      simp [List.getD_eq_getElem?_getD, List.getElem?_append_left d]
    · rw [if_pos ⟨by omega, hj⟩]
      simp [List.getD_eq_getElem?_getD, List.getElem?_append_right (show l.length ≤ j by omega)]
  · show fits .byte (.int (h_ai u v j)) = true
    rw [ha j hj]
    by_cases d : l.length ≤ j ∧ j < l.length + s.length
    · rw [if_pos d]
      have hi : j - l.length < s.length := by omega
      have e : s.getD (j - l.length) 0 = s[j - l.length] := by simp [List.getD_eq_getElem?_getD, hi]
      rw [e]
      exact fit_n _ (hc _ (List.getElem_mem hi))
    · rw [if_neg d]
      exact t13 j hj
section SB2
variable {N : Nat} {z : Nat → Nat}
/-- made -/
theorem sb_new {x : Hp} {β : Type} {K : Option Nat → Hp → Option (β × Hp)} : ∃ y, (newo x 2 4 fun r x1 => obj r x1 2 fun q => bnd (f_J4_init_da8c8 N z q x1) fun _ x2 => K r x2) = K (some (h_sz x)) y ∧ SbR y (h_sz x) (h_sz x + 1) 16 [] ∧ Ag x y 0 (h_sz x) ∧ h_sz y = h_sz x + 2 ∧ h_sl y = h_sl x + 20 := by
  obtain ⟨a, ha⟩ : ∃ a, a = h_sz x := ⟨_, rfl⟩
  have k1 : h_k (p_n x 2 0 4) a = 2 := by rw [pnk, if_pos ha]
  have hv : h_sz (p_n x 2 0 4) = a + 1 := by show h_sz x + 1 = _; omega
  have k2 : h_k (p_n (p_n x 2 0 4) 100 16 16) a = 2 := by rw [pnk, if_neg (by omega)]; exact k1
  refine ⟨p_i (p_r (p_n (p_n x 2 0 4) 100 16 16) 20 a (some (a + 1))) 21 a 0, ?_, ?_, ?_, ?_, rfl⟩
  · rw [newo_s, ← ha, obj_s k1]
    unfold f_J4_init_da8c8 f_J5_init_d00df
    rw [obj_s k1, nn_s, if_neg (by decide), show (16 : Int32) = nI 16 from rfl, newa_s (by decide), hv, putr_s k2, puti_s (by exact k2), bnd_s, bnd_s]
  · rw [← ha]
    refine ⟨k2, ?_, p_i_eq, ?_, ?_, ?_, by simp, by omega, by omega, ?_, by simp, fun j hj => absurd hj (by simp), fun j hj => ?_⟩
    · show h_r (p_r (p_n (p_n x 2 0 4) 100 16 16) 20 a (some (a + 1))) 20 a = _
      rw [p_r_eq]
    · rw [p_i_ne (by decide)]
      show h_i (p_n (p_n x 2 0 4) 100 16 16) 23 a = _
      rw [pni, if_neg (by omega), pni, if_pos ha]
      rfl
    · show h_k (p_n (p_n x 2 0 4) 100 16 16) (a + 1) = 100
      rw [pnk, if_pos hv.symm]
    · show h_n (p_n (p_n x 2 0 4) 100 16 16) (a + 1) = 16
      rw [pnn, if_pos hv.symm]
    · show a + 1 < h_sz x + 1 + 1
      omega
    · show fits .byte (.int (if a + 1 = h_sz (p_n x 2 0 4) then 0 else _)) = true
      rw [if_pos hv.symm]
      rfl
  · rw [← ha]
    exact (((pn_ag (by omega)).tr (pn_ag (by show a ≤ h_sz x + 1; omega))).tr (pr_ag (by omega))).tr (pi_ag (by omega))
  · show h_sz x + 1 + 1 = _
    omega
/-- a number below 100 -/
theorem sb_int {x : Hp} {sb v cap b0 n : Nat} {l : List Nat} (h : SbR x sb v cap l) (hC : Cn z b0 x) (hb : b0 ≤ sb) (hn : n < 100) (hl : l.length + (dec n).length ≤ 2400) (hN : 2 ≤ N) : ∃ y v' cap', f_J4_append_bf812 N z sb (nI n) x = some (some sb, y) ∧ SbR y sb v' cap' (l ++ dec n) ∧ Ag x y 0 sb ∧ h_sz x ≤ h_sz y ∧ h_sz y ≤ h_sz x + 1 ∧ h_sl y ≤ h_sl x + 5000 := by
  obtain ⟨y, v', cap', e1, e2, e3, e4, e5, e6, e7, e8⟩ := sb_room (N := N) (z := z) (need := l.length + (dec n).length) h hl
  obtain ⟨s1, s2, s3, s4, s5, s6, s7, s8, s9, s10, s11, s12, s13⟩ := id h
  obtain ⟨t1, t2, t3, t4, t5, t6, t7, t8, t9, t10, t11, t12, t13⟩ := id e2
  obtain ⟨d1, d2, d3, d4, d5, d6, d7⟩ := dec_i n hn
  obtain ⟨M, hM⟩ : ∃ M, N = M + 2 := ⟨N - 2, by omega⟩
  have g : Ag x y 0 sb := fun q q1 q2 => e4 q (by omega) (by omega)
  obtain ⟨-, ⟨c1, c2, c3, c4⟩, ⟨c5, c6, c7, c8⟩⟩ := hC.ag g (by omega)
  have size : f_J6_stringSize_0f7a4 N z (nI n) x = some (nI (dec n).length, x) := by
    unfold f_J6_stringSize_0f7a4 f_J6_stringSize_0f7a4_b11
    rw [if_neg d1, hM, f_J6_stringSize_0f7a4_b16, if_neg (by decide)]
    by_cases c : n < 10
    · rw [if_neg (fun q => absurd (d3.mp q) (by omega)), dec, if_pos c]
      rfl
    · rw [if_pos (d3.mpr (by omega)), f_J6_stringSize_0f7a4_b16, if_neg (by decide), show (10 : Int32) * -10 = -100 from by decide, if_neg d4, dec, if_neg c]
      rfl
  have lat : f_J5_isLatin1_aae02 N z sb y = some (1, y) := by
    unfold f_J5_isLatin1_aae02
    rw [if_neg (by decide), geti_s t1, t3, if_pos rfl]
  have chars : ∃ u, f_J6_getChars_ba4f3 N z (nI n) (nI (l.length + (dec n).length)) (some v') y = some (nI l.length, u) ∧ (∀ q, q ≠ v' → Sm u y q) ∧ h_k u v' = 100 ∧ h_n u v' = cap' ∧ h_sz u = h_sz y ∧ h_sl u = h_sl y ∧ ∀ j, h_ai u v' j = if l.length ≤ j ∧ j < l.length + (dec n).length then nI ((dec n).getD (j - l.length) 0) else h_ai y v' j := by
    unfold f_J6_getChars_ba4f3 f_J6_getChars_ba4f3_b12
    rw [if_pos d2, if_pos rfl, hM, f_J6_getChars_ba4f3_b22, if_pos d5, d7, aldi_s c6 (by omega) (by omega), c8 n hn]
    by_cases c : n < 10
    · have hd : dec n = [48 + n] := by rw [dec, if_pos c]
      have hd2 : 48 + n % 10 = 48 + n := by omega
      rw [hd] at e3 ⊢
      rw [show ([48 + n] : List Nat).length = 1 from rfl] at e3 ⊢
      rw [show nI (l.length + 1) + (-1 : Int32) = nI l.length from by rw [← nI_add, show nI 1 = (1 : Int32) from rfl]; grind, byte_n _ (by omega), asti_s t5 (by omega) (by omega), if_pos (d6.mpr c), hd2]
      unfold f_J6_getChars_ba4f3_b104
      rw [if_pos rfl]
      refine ⟨_, rfl, fun q hq => Sm_pai hq, t5, t6, rfl, rfl, fun j => ?_⟩
      simp only [HPAI]
      by_cases k : j = l.length
      · rw [if_pos ⟨trivial, k⟩, if_pos ⟨by omega, by omega⟩, k, Nat.sub_self]
        rfl
      · rw [if_neg (fun q => k q.2), if_neg (by omega)]
    · have hd : dec n = [48 + n / 10, 48 + n % 10] := by rw [dec, if_neg c]
      rw [hd] at e3 ⊢
      rw [show ([48 + n / 10, 48 + n % 10] : List Nat).length = 2 from rfl] at e3 ⊢
      obtain ⟨w, hw⟩ : ∃ w, w = p_ai y v' (l.length + 1) (nI (48 + n % 10)) := ⟨_, rfl⟩
      have kz : h_k w (z 100) = 300 := by rw [hw]; exact c2
      have nz : h_n w (z 100) = 100 := by rw [hw]; exact c3
      have az : h_ai w (z 100) n = nI (48 + n / 10) := by
        rw [hw]
        simp only [HPAI]
        rw [if_neg (fun q => absurd q.1 (by omega))]
        exact c4 n hn
      have kw : h_k w v' = 100 := by rw [hw]; exact t5
      have nw : h_n w v' = cap' := by rw [hw]; exact t6
      rw [show nI (l.length + 2) + (-1 : Int32) = nI (l.length + 1) from by rw [← nI_add, ← nI_add, show nI 1 = (1 : Int32) from rfl, show nI 2 = (2 : Int32) from rfl]; grind, byte_n _ (by omega), asti_s t5 (by omega) (by omega), ← hw, if_neg (fun q => absurd (d6.mp q) c), aldi_s kz (by omega) (by omega), az, show nI (l.length + 1) + (-1 : Int32) = nI l.length from by rw [← nI_add, show nI 1 = (1 : Int32) from rfl]; grind, byte_n _ (by omega), asti_s kw (by omega) (by omega)]
      unfold f_J6_getChars_ba4f3_b104
      rw [if_pos rfl]
      refine ⟨_, rfl, fun q hq => (Sm_pai hq).tr (by rw [hw]; exact Sm_pai hq), kw, nw, by rw [hw]; rfl, by rw [hw]; rfl, fun j => ?_⟩
      rw [hw]
      simp only [HPAI]
      by_cases k : j = l.length
      · rw [if_pos ⟨trivial, k⟩, if_pos ⟨by omega, by omega⟩, k, Nat.sub_self]
        rfl
      · rw [if_neg (fun q => k q.2)]
        by_cases k2 : j = l.length + 1
        · rw [if_pos ⟨trivial, k2⟩, if_pos ⟨by omega, by omega⟩, k2, show l.length + 1 - l.length = 1 by omega]
          rfl
        · rw [if_neg (fun q => k2 q.2), if_neg (by omega)]
  obtain ⟨u, u1, u2, u3, u4, u5, u6, u7⟩ := chars
  have ku : h_k u sb = 2 := (u2 sb (by omega)).1.trans t1
  refine ⟨p_i u 23 sb (nI (l.length + (dec n).length)), v', cap', ?_, sb_fin e2 u2 u3 u4 u5 e3 (dec_ok n hn).2 (fun j _ => u7 j), fun q q1 q2 => ?_, ?_, ?_, ?_⟩
  · unfold f_J4_append_bf812 f_J5_append_c97b9
    rw [obj_s s1, geti_s s1, s4, size, bnd_s, nI_add, obj_s s1, e1, bnd_s, obj_s t1, lat, bnd_s, if_neg (by decide), getr_s t1, t2, u1, bnd_s, puti_s ku, bnd_s]
  · exact ((Sm_pi (by omega) : Sm (p_i u 23 sb (nI (l.length + (dec n).length))) u q).tr (u2 q (by omega))).tr (g q q1 q2)
  · show h_sz x ≤ h_sz u
    rw [u5]; exact e5
  · show h_sz u ≤ _
    rw [u5]; exact e6
  · show h_sl u ≤ _
    rw [u6]; exact e7
/-- the end: a String of it -/
theorem sb_end {x : Hp} {sb v cap : Nat} {l : List Nat} (h : SbR x sb v cap l) (hl : l.length ≤ 2400) : ∃ y, f_J4_toString_0e30d N z sb x = some (some (h_sz x), y) ∧ StrR y (h_sz x) (h_sz x + 1) l ∧ Ag x y 0 (h_sz x) ∧ h_sz y = h_sz x + 2 ∧ h_sl y ≤ h_sl x + 5004 := by
  obtain ⟨s1, s2, s3, s4, s5, s6, s7, s8, s9, s10, s11, s12, s13⟩ := id h
  obtain ⟨a, ha⟩ : ∃ a, a = h_sz x := ⟨_, rfl⟩
  obtain ⟨w, hw⟩ : ∃ w, w = p_i (p_n x 1 0 4) 1 a 0 := ⟨_, rfl⟩
  have g0 : Ag x (p_n x 1 0 4) 0 a := pn_ag (by omega)
  have g : Ag x w 0 a := by rw [hw]; exact g0.tr (pi_ag (by omega))
  have k0 : h_k (p_n x 1 0 4) a = 1 := by rw [pnk, if_pos ha]
  have kw : h_k w a = 1 := by rw [hw]; exact k0
  have zw : h_sz w = a + 1 := by rw [hw]; show h_sz x + 1 = _; omega
  have lw : h_sl w = h_sl x + 4 := by rw [hw]; rfl
  have k5 : h_k w v = 100 := (g.k ⟨by omega, by omega⟩).trans s5
  have k6 : h_n w v = cap := (g.n ⟨by omega, by omega⟩).trans s6
  have k7 : ∀ j, h_ai w v j = h_ai x v j := fun j => by rw [g.ai ⟨by omega, by omega⟩]
  have copy : ∃ u, f_J7_copyOfRange_39247 N z (some v) 0 (nI l.length) w = some (some (a + 1), u) ∧ h_k u (a + 1) = 100 ∧ h_n u (a + 1) = l.length ∧ (∀ j, j < l.length → h_ai u (a + 1) j = h_ai x v j) ∧ Ag w u 0 (a + 1) ∧ h_sz u = a + 2 ∧ h_sl u ≤ h_sl w + 5000 := by
    unfold f_J7_copyOfRange_39247
    rw [if_pos rfl, alen_s k5, k6]
    by_cases c : l.length = cap
    · rw [if_pos (by rw [c])]
      unfold clonb
      rw [obj_s k5, if_pos (fun i hi => by rw [k7]; exact s13 i (by omega)), k6, zw]
      have kc : h_k (p_aw (p_n w 100 cap cap) (a + 1) (h_ai w v)) (a + 1) = 100 := by
        show h_k (p_n w 100 cap cap) (a + 1) = 100
        rw [pnk, if_pos zw.symm]
      unfold castb
      refine ⟨_, obj_s kc, kc, ?_, fun j hj => ?_, fun q q1 q2 => ?_, ?_, ?_⟩
      · show h_n (p_n w 100 cap cap) (a + 1) = _
        rw [pnn, if_pos zw.symm, c]
      · show (if a + 1 = a + 1 then h_ai w v else _) j = _
        rw [if_pos rfl, k7]
      · exact (Sm_paw (by omega) : Sm (p_aw (p_n w 100 cap cap) (a + 1) (h_ai w v)) (p_n w 100 cap cap) q).tr (Sm_pn (by omega))
      · show h_sz w + 1 = _
        omega
      · show h_sl w + cap ≤ _
        omega
    · rw [if_neg (fun q => c ((nI_eq (by omega) (by omega)).mp q))]
      unfold f_J7_copyOfRange_39247_b10 f_J7_copyOfRangeByte_39247 f_J7_checkLength_df160
      rw [if_pos (show (0 : Int32) ≤ nI l.length from nI_le (a := 0) (by omega) (by omega)), bnd_s, show nI l.length - 0 = nI l.length by grind, newa_s (by omega), zw]
      have kv : h_k (p_n w 100 l.length l.length) v = 100 := by rw [pnk, if_neg (by omega)]; exact k5
      have nv : h_n (p_n w 100 l.length l.length) v = cap := by rw [pnn, if_neg (by omega)]; exact k6
      have av : ∀ j, h_ai (p_n w 100 l.length l.length) v j = h_ai x v j := fun j => by
        show (if v = h_sz w then 0 else h_ai w v j) = _
        rw [if_neg (by omega), k7]
      have kq : h_k (p_n w 100 l.length l.length) (a + 1) = 100 := by rw [pnk, if_pos zw.symm]
      have nq : h_n (p_n w 100 l.length l.length) (a + 1) = l.length := by rw [pnn, if_pos zw.symm]
      have eo : ∀ {β : Type} (k : Nat → Option β), objB (some v) (p_n w 100 l.length l.length) k = k v := fun k => by
        show (if h_k (p_n w 100 l.length l.length) v = 100 ∨ _ then k v else none) = k v
        exact if_pos (Or.inl kv)
      have z0 : (0 : Int32).toInt = 0 := by decide
      have z1 : (0 : Int32).toNatClampNeg = 0 := by decide
      have fitS : ∀ i, i < l.length → fits .byte (.int (h_ai (p_n w 100 l.length l.length) v (0 + i))) = true := fun i hi => by
        rw [av, Nat.zero_add]
        exact s13 i (by omega)
      rw [alen_s kv, nv, show nI cap - 0 = nI cap by grind, if_pos (nI_lt (by omega) (by omega))]
      unfold acpy
      rw [eo, obj_s kq, nI_clamp (by omega), nI_toInt (by omega), z0, z1, nv, nq, if_pos ⟨by omega, by omega, by omega, by omega, by omega, by omega, fitS⟩, bnd_s]
      refine ⟨_, rfl, ?_, ?_, fun j hj => ?_, fun q q1 q2 => ?_, ?_, ?_⟩
      · exact kq
      · exact nq
      · show (if a + 1 = a + 1 then va_cpy _ _ _ _ _ else _) j = _
        rw [if_pos rfl, pk_cpy_in (by omega) (by omega), av]
        congr 1
        omega
      · exact (Sm_paw (by omega) : Sm (p_aw (p_n w 100 l.length l.length) (a + 1) _) (p_n w 100 l.length l.length) q).tr (Sm_pn (by omega))
      · show h_sz w + 1 = _
        omega
      · show h_sl w + l.length ≤ _
        omega
  obtain ⟨u, u1, u2, u3, u4, u5, u6, u7⟩ := copy
  have ku : h_k u a = 1 := (u5.k ⟨by omega, by omega⟩).trans kw
  have q1 : h_k (p_n x 1 0 4) sb = 2 := (g0.k ⟨by omega, by omega⟩).trans s1
  have q2 : h_r (p_n x 1 0 4) 20 sb = some v := (g0.r ⟨by omega, by omega⟩).trans s2
  have q3 : h_i (p_n x 1 0 4) 21 sb = 0 := (g0.i ⟨by omega, by omega⟩).trans s3
  have q4 : h_i (p_n x 1 0 4) 23 sb = nI l.length := (g0.i ⟨by omega, by omega⟩).trans s4
  refine ⟨p_r u 0 a (some (a + 1)), ?_, ?_, ?_, ?_, ?_⟩
  · unfold f_J4_toString_0e30d
    rw [newo_s, ← ha, obj_s k0]
    unfold f_J0_init_81219 f_J0_init_db425 f_J5_getValue_6d5f1 f_J4_length_8abf5 f_J5_length_8abf5 f_J5_isLatin1_aae02
    rw [obj_s k0, nn_s, obj_s q1, getr_s q1, q2, bnd_s, obj_s q1, obj_s q1, geti_s q1, q4, bnd_s, bnd_s, obj_s q1, if_neg (by decide), geti_s q1, q3, if_pos rfl, bnd_s, if_neg (by decide), puti_s k0, ← hw, u1, bnd_s, putr_s ku, bnd_s, bnd_s]
  · rw [← ha]
    refine ⟨Or.inl ku, ?_, p_r_eq, Or.inl u2, u3, by omega, s11, fun j hj => (u4 j hj).trans (s12 j hj)⟩
    show h_i u 1 a = 0
    rw [u5.i ⟨by omega, by omega⟩, hw, p_i_eq]
  · rw [← ha]
    exact (g.tr (u5.wd (Nat.le_refl _) (by omega))).tr (pr_ag (by omega))
  · show h_sz u = _
    omega
  · show h_sl u ≤ _
    omega
end SB2
