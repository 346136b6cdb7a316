/-! ===== taking pails in, folk, tokens, a minute ===== -/
def WfQ (m : Md) : Prop := ∀ k, k < m_n m → ∃ H, 1 ≤ H ∧ H ≤ 60 ∧ m_A m k 93 = nI H ∧ (m_Q m k).length ≤ H
def tkP (m : Md) (k : Nat) : Md := sL m k (tkA (m_A m k) (m_Q m k)) (tkQ (m_V m 161) (m_A m k) (m_Q m k))
def takeN : Nat → Md → Nat → Md
  | 0, m, _ => m
  | c + 1, m, k => takeN c (tkP m k) k
def takeI (m : Md) (k c : Nat) : Md := sV (takeN c m k) 169 (m_V m 169 + nI c)
theorem tkA_ne {A : Nat → Int32} {Q : List Int32} {f : Nat} (h : f ≠ 87) : tkA A Q f = A f := by
  unfold tkA
  split
  · rfl
  · exact up1_ne h
theorem WfQ.tk {m : Md} {k : Nat} (h : WfQ m) (hk : k < m_n m) : WfQ (tkP m k) := by
  intro j hj
  obtain ⟨H, h1, h2, h3, h4⟩ := h j hj
  refine ⟨H, h1, h2, ?_⟩
  by_cases c : j = k
  · subst c
    simp only [tkP, sL_x, up1_eq]
    refine ⟨(tkA_ne (by decide)).trans h3, ?_⟩
    unfold tkQ
    by_cases d : nI (m_Q m j).length < m_A m j 93
    · rw [if_pos d]
      rw [h3] at d
      have := (nI_ltI (by omega) (by omega)).mp d
      simp
      omega
    · rw [if_neg d]
      rw [h3] at d
      have := mt (nI_ltI (a := (m_Q m j).length) (b := H) (by omega) (by omega)).mpr d
      split
      · exact h4
      · simp
        omega
  · simp only [tkP, sL_x, up1_ne c]
    exact ⟨h3, h4⟩
theorem takeN_x : ∀ (c : Nat) (m : Md) (k : Nat), m_V (takeN c m k) = m_V m ∧ m_n (takeN c m k) = m_n m ∧ m_O (takeN c m k) = m_O m ∧ m_F (takeN c m k) = m_F m ∧ m_m (takeN c m k) = m_m m
  | 0, m, k => ⟨rfl, rfl, rfl, rfl, rfl⟩
  | c + 1, m, k => takeN_x c (tkP m k) k
theorem WfQ.tkN : ∀ (c : Nat) {m : Md} {k : Nat}, WfQ m → k < m_n m → WfQ (takeN c m k)
  | 0, m, k, h, _ => h
  | c + 1, m, k, h, hk => WfQ.tkN c (h.tk hk) hk
theorem WfQ.sv {m : Md} {f : Nat} {v : Int32} (h : WfQ m) : WfQ (sV m f v) := h
theorem WfQ.sf {m : Md} {j f : Nat} {v : Int32} (h : WfQ m) : WfQ (sF m j f v) := h
section MN
variable {N : Nat} {z : Nat → Nat} {s B : Nat}
theorem Site.tk {x : Hp} {m : Md} {k : Nat} {mi : Int32} (h : Site x s B m) (w : WfQ m) (hk : k < m_n m) (hm : m_V m 161 = mi) : ∃ y, f_X2_takePail N z (s + 5 + 3 * k) mi x = some ((), y) ∧ Site y s B (tkP m k) ∧ Fr x y s (s + 31) := by
  have hn := h.2.1
  obtain ⟨H, h1, h2, h3, h4⟩ := w k hk
  obtain ⟨y, e1, e2, e3⟩ := lane_take (N := N) (z := z) (m := mi) (h.l hk) h3 h1 h2 h4
  refine ⟨y, e1, ?_, e3.wd (by omega) (by omega)⟩
  unfold tkP
  rw [hm]
  exact h.up hk e3 e2 ((tkA_ne (by decide)).trans (h.n80 hk))
theorem takes_l {k : Nat} : ∀ (n r c : Nat) (x : Hp) (m : Md), Site x s B m → WfQ m → k < m_n m → c + r < 2 ^ 31 → r < n → ∃ y, f_X6_takeIn_b2 N z n s (some (s + 5 + 3 * k)) (nI (c + r)) (nI c) x = some ((), y) ∧ Site y s B (sV (takeN r m k) 169 (m_V m 169 + nI (c + r))) ∧ Fr x y s (s + 31)
  | 0, r, c, x, m, h, w, hk, hc, hn => absurd hn (by omega)
  | n + 1, 0, c, x, m, h, w, hk, hc, hn => by
    obtain ⟨g, gf⟩ := h.wv (f := 169) (v := m_V m 169 + nI (c + 0)) (by decide)
    unfold f_X6_takeIn_b2
    rw [if_pos (nI_le (by omega) (by omega)), geti_s h.k, puti_s h.k, h.v (by decide)]
    exact ⟨_, rfl, g, gf⟩
  | n + 1, r + 1, c, x, m, h, w, hk, hc, hn => by
    obtain ⟨y, e1, e2, e3⟩ := h.tk (N := N) (z := z) w hk rfl
    unfold f_X6_takeIn_b2
    rw [if_neg (nI_ge (by omega) (by omega)), geti_s h.k, h.v (by decide), obj_s (h.l hk).1, e1, bnd_s, nI_1, show c + (r + 1) = (c + 1) + r by omega]
    obtain ⟨u, d1, d2, d3⟩ := takes_l (k := k) n r (c + 1) y (tkP m k) e2 (w.tk hk) hk (by omega) (by omega)
    exact ⟨u, d1, d2, e3.tr d3⟩
theorem take_in {x : Hp} {m : Md} {k c : Nat} (h : Site x s B m) (w : WfQ m) (hk : k < m_n m) (hc : c ≤ 30) (hN : 31 ≤ N) : ∃ y, f_X6_takeIn N z s (some (s + 5 + 3 * k)) (nI c) x = some ((), y) ∧ Site y s B (takeI m k c) ∧ Fr x y s (s + 31) := by
  unfold f_X6_takeIn
  obtain ⟨y, e1, e2, e3⟩ := takes_l (N := N) (z := z) (k := k) N c 0 x m h w hk (by omega) (by omega)
  rw [Nat.zero_add] at e1 e2
  exact ⟨y, e1, e2, e3⟩
/-- folk -/
def comeM (F : Nat → Int32) (mi : Int32) : Int32 := if mi < F 64 then 0 else if F 63 ≤ 0 then 0 else if ((mi - F 64) - (mi - F 64) / F 63 * F 63) = 0 then 1 else 0
def FkW (m : Md) : Prop := ∀ j, j < m_m m → ∃ ln c, ln < m_n m ∧ c ≤ 30 ∧ m_F m j 60 = nI ln ∧ m_F m j 61 = nI c
def folkS (m : Md) (j : Nat) : Md := if comeM (m_F m j) (m_V m 161) = 0 then m else sF (takeI m (m_F m j 60).toNatClampNeg (m_F m j 61).toNatClampNeg) j 62 (m_F m j 62 + m_F m j 61)
def folkN : Nat → Nat → Md → Md
  | 0, _, m => m
  | r + 1, j, m => folkN r (j + 1) (folkS m j)
theorem folkS_x (m : Md) (j : Nat) : m_n (folkS m j) = m_n m ∧ m_m (folkS m j) = m_m m ∧ m_O (folkS m j) = m_O m ∧ m_V (folkS m j) 161 = m_V m 161 ∧ m_V (folkS m j) 162 = m_V m 162 ∧ ∀ i f, f ≠ 62 → m_F (folkS m j) i f = m_F m i f := by
  unfold folkS
  split
  · exact ⟨rfl, rfl, rfl, rfl, rfl, fun _ _ _ => rfl⟩
  · obtain ⟨h1, h2, h3, h4, h5⟩ := takeN_x (m_F m j 61).toNatClampNeg m (m_F m j 60).toNatClampNeg
    simp only [sF_x, takeI, sV_x, h1, h2, h3, h4, h5]
    refine ⟨trivial, trivial, trivial, up1_ne (by decide), up1_ne (by decide), fun i f hf => ?_⟩
    by_cases c : i = j
    · subst c
      rw [up1_eq, up1_ne hf]
    · rw [up1_ne c]
theorem FkW.fs {m : Md} {j : Nat} (h : FkW m) : FkW (folkS m j) := by
  obtain ⟨h1, h2, h3, h4, h5, h6⟩ := folkS_x m j
  intro i hi
  rw [h2] at hi
  obtain ⟨ln, c, a1, a2, a3, a4⟩ := h i hi
  exact ⟨ln, c, by rw [h1]; exact a1, a2, (h6 i 60 (by decide)).trans a3, (h6 i 61 (by decide)).trans a4⟩
theorem WfQ.fs {m : Md} {j : Nat} (h : WfQ m) (hn : m_n m ≤ 6) (g : FkW m) (hj : j < m_m m) : WfQ (folkS m j) := by
  unfold folkS
  split
  · exact h
  · obtain ⟨ln, c, a1, a2, a3, a4⟩ := g j hj
    refine (WfQ.sv (WfQ.tkN _ h ?_)).sf
    rw [a3, nI_clamp (by have := a1; omega)]
    exact a1
theorem come_in {x : Hp} {m : Md} {j : Nat} {mi : Int32} (h : Site x s B m) (hj : j < m_m m) : f_X1_comeIn N z (s + 23 + j) mi x = some (comeM (m_F m j) mi, x) := by
  have hm := h.2.2.1
  have hk := h.1.2.2.2.2.2.2.2.2.2.2.2.2.2.2.2.2 j (by omega)
  unfold f_X1_comeIn comeM
  rw [geti_s hk, h.f hj (by decide)]
  by_cases c : mi < m_F m j 64
  · rw [if_pos c, if_pos c]
  · rw [if_neg c, if_neg c, geti_s hk, h.f hj (by decide)]
    by_cases d : m_F m j 63 ≤ 0
    · rw [if_pos d, if_pos d]
    · rw [if_neg d, if_neg d, geti_s hk, geti_s hk, h.f hj (by decide), h.f hj (by decide), nz, if_neg (fun e => d (by rw [e]; decide))]
      split <;> rfl
theorem folk_l (hN : 31 ≤ N) : ∀ (n r j : Nat) (x : Hp) (m : Md), Site x s B m → WfQ m → FkW m → j + r = m_m m → r < n → ∃ y, f_X6_letFolkCome_b2 N z n s (nI j) x = some ((), y) ∧ Site y s B (folkN r j m) ∧ WfQ (folkN r j m) ∧ FkW (folkN r j m) ∧ Fr x y s (s + 31)
  | 0, r, j, x, m, h, w, f, hj, hn => absurd hn (by omega)
  | n + 1, 0, j, x, m, h, w, f, hj, hn => by
    have hm := h.2.2.1
    unfold f_X6_letFolkCome_b2
    rw [geti_s h.k, h.v (by decide), h.2.2.2.2.1, if_pos (nI_le (by omega) (by omega))]
    exact ⟨x, rfl, h, w, f, Fr.rf⟩
  | n + 1, r + 1, j, x, m, h, w, f, hj, hn => by
    have hm := h.2.2.1
    have hn6 := h.2.1
    have hj2 : j < m_m m := by omega
    have hk := h.1.2.2.2.2.2.2.2.2.2.2.2.2.2.2.2.2 j (by omega)
    obtain ⟨ln, c, a1, a2, a3, a4⟩ := f j hj2
    unfold f_X6_letFolkCome_b2
    rw [geti_s h.k, h.v (by decide), h.2.2.2.2.1, if_neg (nI_ge (by omega) (by omega)), obj_s h.k, folk_at h hj2, bnd_s, if_neg (by simp), geti_s h.k, h.v (by decide), obj_s hk, come_in h hj2, bnd_s, folkN]
    have w2 := w.fs hn6 f hj2
    have f2 := f.fs (j := j)
    have mm := (folkS_x m j).2.1
    by_cases d : comeM (m_F m j) (m_V m 161) = 0
    · have e0 : folkS m j = m := by unfold folkS; rw [if_pos d]
      rw [e0] at w2 f2 ⊢
      rw [if_pos d]
      unfold f_X6_letFolkCome_b66
      rw [nI_1]
      exact folk_l hN n r (j + 1) x m h w2 f2 (by omega) (by omega)
    · obtain ⟨y, e1, e2, e3⟩ := take_in (N := N) (z := z) h w a1 a2 hN
      have tx := takeN_x c m ln
      have hjy : j < m_m (takeI m ln c) := by show j < m_m (takeN c m ln); rw [tx.2.2.2.2]; exact hj2
      have hky : h_k y (s + 23 + j) = 4 := e3.k.trans hk
      have F1 : ∀ g, m_F (takeI m ln c) j g = m_F m j g := fun g => by show m_F (takeN c m ln) j g = _; rw [tx.2.2.2.1]
      obtain ⟨u, uf⟩ := e2.wf (f := 62) (v := m_F m j 62 + m_F m j 61) hjy (by decide)
      have e0 : folkS m j = sF (takeI m ln c) j 62 (m_F m j 62 + m_F m j 61) := by
        unfold folkS
        rw [if_neg d, a3, nI_clamp (by omega), a4, nI_clamp (by omega)]
      rw [if_neg d, geti_s hk, h.f hj2 (by decide), a3, obj_s h.k, lane_at h a1, bnd_s, if_neg (by simp), geti_s hk, h.f hj2 (by decide), a4, obj_s h.k, e1, bnd_s, geti_s hky, geti_s hky, puti_s hky, e2.f hjy (by decide), e2.f hjy (by decide), F1, F1]
      unfold f_X6_letFolkCome_b66
      rw [nI_1]
      rw [e0] at w2 f2 mm ⊢
      obtain ⟨v, d1, d2, d3, d4, d5⟩ := folk_l hN n r (j + 1) _ _ u w2 f2 (by omega) (by omega)
      exact ⟨v, d1, d2, d3, d4, (e3.tr uf).tr d5⟩
end MN
/-! tokens, the end of a minute, a minute -/
def tokA (A : Nat → Int32) : Nat → Int32 := up1 A 85 (if A 85 + A 83 < A 91 then A 85 + A 83 else A 91)
def tokN : Nat → Nat → Md → Md
  | 0, _, m => m
  | r + 1, k, m => tokN r (k + 1) (sL m k (tokA (m_A m k)) (m_Q m k))
def begN : Nat → Nat → Md → Md
  | 0, _, m => m
  | r + 1, k, m => begN r (k + 1) (sL m k (bgA (m_A m k)) (m_Q m k))
abbrev Od : Type := Nat × Nat × List (Nat × Nat) × List (Nat × Nat)
def obeyN : List Od → Md → Md
  | [], m => m
  | o :: t, m => obeyN t (obeyM m o.1 o.2.1 o.2.2.1 o.2.2.2)
theorem tokN_x : ∀ (r k : Nat) (m : Md), m_n (tokN r k m) = m_n m ∧ m_m (tokN r k m) = m_m m ∧ m_O (tokN r k m) = m_O m ∧ m_V (tokN r k m) = m_V m ∧ m_F (tokN r k m) = m_F m
  | 0, k, m => ⟨rfl, rfl, rfl, rfl, rfl⟩
  | r + 1, k, m => tokN_x r (k + 1) (sL m k (tokA (m_A m k)) (m_Q m k))
theorem begN_x : ∀ (r k : Nat) (m : Md), m_n (begN r k m) = m_n m ∧ m_m (begN r k m) = m_m m ∧ m_O (begN r k m) = m_O m ∧ m_V (begN r k m) = m_V m ∧ m_F (begN r k m) = m_F m
  | 0, k, m => ⟨rfl, rfl, rfl, rfl, rfl⟩
  | r + 1, k, m => begN_x r (k + 1) (sL m k (bgA (m_A m k)) (m_Q m k))
theorem sendsN_x {mi : Int32} : ∀ (r : Nat) (m : Md), m_n (sendsN mi r m).1 = m_n m ∧ m_m (sendsN mi r m).1 = m_m m ∧ m_O (sendsN mi r m).1 = m_O m ∧ m_V (sendsN mi r m).1 = m_V m ∧ m_F (sendsN mi r m).1 = m_F m
  | 0, m => ⟨rfl, rfl, rfl, rfl, rfl⟩
  | r + 1, m => by
    rw [sendsN]
    match who m with
    | none => exact ⟨rfl, rfl, rfl, rfl, rfl⟩
    | some k =>
      obtain ⟨h1, h2, h3, h4, h5⟩ := sendsN_x (mi := mi) r (sendM m k mi)
      obtain ⟨x1, x2, x3, x4, x5⟩ := sendM_x m k mi
      exact ⟨h1.trans x3, h2.trans x5, h3.trans x1, h4.trans x2, h5.trans x4⟩
/-- tokens to sent: the part of a minute behind the folk; how many were sent -/
def laterM (m : Md) : Md × Nat :=
  let m1 := tokN (m_n m) 0 m
  let p := sendsN (m_V m 161) (m_V m 162).toNatClampNeg m1
  (begN (m_n m) 0 (sV (sV p.1 168 (m_V m 162 - nI p.2)) 161 (m_V m 161 + 1)), p.2)
def passM (ods : List Od) (m : Md) : Md × Nat := laterM (folkN (m_m m) 0 (obeyN ods m))
section GM
variable {N : Nat} {z : Nat → Nat} {s B : Nat}
theorem beg_l {v : Int32} : ∀ (n r k : Nat) (x : Hp) (m : Md), Site x s B m → k + r = m_n m → r < n → ∃ y, f_X6_goOneMinute_b102 N z n s v (nI k) x = some (v, y) ∧ Site y s B (begN r k m) ∧ Fr x y s (s + 31)
  | 0, r, k, x, m, h, hk, hn => absurd hn (by omega)
  | n + 1, 0, k, x, m, h, hk, hn => by
    have h6 := h.2.1
    unfold f_X6_goOneMinute_b102
    rw [geti_s h.k, h.v (by decide), h.2.2.2.1, if_pos (nI_le (by omega) (by omega))]
    exact ⟨x, rfl, h, Fr.rf⟩
  | n + 1, r + 1, k, x, m, h, hk, hn => by
    have h6 := h.2.1
    have k2 : k < m_n m := by omega
    obtain ⟨y, e1, e2, e3⟩ := lane_begin (N := N) (z := z) (h.l k2)
    have g := h.up k2 e3 e2 (by rw [bgA, up1_ne (by decide), up1_ne (by decide), up1_ne (by decide)]; exact h.n80 k2)
    unfold f_X6_goOneMinute_b102
    rw [geti_s h.k, h.v (by decide), h.2.2.2.1, if_neg (nI_ge (by omega) (by omega)), obj_s h.k, lane_at h k2, bnd_s, if_neg (by simp), obj_s (h.l k2).1, e1, bnd_s]
    unfold f_X6_goOneMinute_b124
    rw [nI_1]
    obtain ⟨u, d1, d2, d3⟩ := beg_l (v := v) n r (k + 1) y _ g (by show k + 1 + r = m_n m; omega) (by omega)
    exact ⟨u, d1, d2, (e3.wd (by omega) (by omega)).tr d3⟩
def laterN (r k : Nat) (m : Md) : Md × Nat :=
  let m1 := tokN r k m
  let p := sendsN (m_V m 161) (m_V m 162).toNatClampNeg m1
  (begN (m_n m) 0 (sV (sV p.1 168 (m_V m 162 - nI p.2)) 161 (m_V m 161 + 1)), p.2)
theorem later_l {w : Nat} (hN : 61 ≤ N) (hw : w ≤ 30) : ∀ (n r k : Nat) (x : Hp) (m : Md), Site x s B m → m_V m 162 = nI w → k + r = m_n m → r < n → ∃ y, f_X6_goOneMinute_b43 N z n s (nI k) x = some (nI (laterN r k m).2, y) ∧ Site y s B (laterN r k m).1 ∧ Fr x y s (s + 31)
  | 0, r, k, x, m, h, h2, hk, hn => absurd hn (by omega)
  | n + 1, 0, k, x, m, h, h2, hk, hn => by
    have h6 := h.2.1
    obtain ⟨y, e1, e2, e3⟩ := send_pails (N := N) (z := z) (mi := m_V m 161) h h2 hw rfl hN
    obtain ⟨x1, x2, x3, x4, x5⟩ := sendsN_x (mi := m_V m 161) w m
    obtain ⟨g, gf⟩ := e2.wv (f := 168) (v := nI w - nI (sendsN (m_V m 161) w m).2) (by decide)
    obtain ⟨t, tf⟩ := g.wv (f := 161) (v := m_V m 161 + 1) (by decide)
    obtain ⟨u, d1, d2, d3⟩ := beg_l (N := N) (z := z) (v := nI (sendsN (m_V m 161) w m).2) N (m_n m) 0 _ _ t (by show 0 + m_n m = m_n (sendsN (m_V m 161) w m).1; rw [x1]; omega) (by omega)
    unfold f_X6_goOneMinute_b43
    rw [geti_s h.k, h.v (by decide), h.2.2.2.1, if_pos (nI_le (by omega) (by omega)), obj_s h.k, e1, bnd_s, geti_s e2.k, e2.v (by decide), x4, h2, puti_s e2.k, geti_s (by exact e2.k), p_i_ne (by decide), e2.v (by decide), x4, puti_s (by exact e2.k)]
    refine ⟨u, ?_, ?_, ((e3.tr gf).tr tf).tr d3⟩
    · unfold laterN
      simp only [tokN, h2, nI_clamp (show w < 2 ^ 31 by omega)]
      exact d1
    · unfold laterN
      simp only [tokN, h2, nI_clamp (show w < 2 ^ 31 by omega)]
      exact d2
  | n + 1, r + 1, k, x, m, h, h2, hk, hn => by
    have h6 := h.2.1
    have k2 : k < m_n m := by omega
    obtain ⟨y, e1, e2, e3⟩ := lane_get (N := N) (z := z) (v := m_A m k 83) (h.l k2)
    have g := h.up k2 e3 e2 (by rw [up1_ne (by decide)]; exact h.n80 k2)
    unfold f_X6_goOneMinute_b43
    rw [geti_s h.k, h.v (by decide), h.2.2.2.1, if_neg (nI_ge (by omega) (by omega)), obj_s h.k, lane_at h k2, bnd_s, if_neg (by simp), geti_s (h.l k2).1, (h.l k2).a (by decide), obj_s (h.l k2).1, e1, bnd_s]
    unfold f_X6_goOneMinute_b69
    rw [nI_1]
    obtain ⟨u, d1, d2, d3⟩ := later_l hN hw n r (k + 1) y _ g h2 (by show k + 1 + r = m_n m; omega) (by omega)
    exact ⟨u, d1, d2, (e3.wd (by omega) (by omega)).tr d3⟩
end GM
