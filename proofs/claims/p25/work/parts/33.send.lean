/-! ===== sending ===== -/
def pick (m : Md) (i : Nat) : Option Nat → Option Nat
  | none => some i
  | some j => if ahd (m_A m i) (m_A m j) = 0 then some j else some i
def whoN (m : Md) : Nat → Nat → Option Nat → Option Nat
  | 0, _, b => b
  | r + 1, i, b => whoN m r (i + 1) (if can m i = true then pick m i b else b)
def who (m : Md) : Option Nat := whoN m (m_n m) 0 none
theorem whoN_can {m : Md} : ∀ (r i k : Nat) (b : Option Nat), i + r = m_n m → (∀ j, b = some j → j < m_n m ∧ can m j = true) → whoN m r i b = some k → k < m_n m ∧ can m k = true
  | 0, i, k, b, hi, hb, h => hb k h
  | r + 1, i, k, b, hi, hb, h => by
    rw [whoN] at h
    refine whoN_can r (i + 1) k _ (by omega) (fun j hj => ?_) h
    by_cases c : can m i = true
    · rw [if_pos c] at hj
      match b, hb, hj with
      | none, hb, hj =>
        injection hj with e
        subst e
        exact ⟨by omega, c⟩
      | some j', hb, hj =>
        rw [pick] at hj
        split at hj
        · exact hb j hj
        · injection hj with e
          subst e
          exact ⟨by omega, c⟩
    · rw [if_neg c] at hj
      exact hb j hj
theorem who_can {m : Md} {k : Nat} (h : who m = some k) : k < m_n m ∧ can m k = true := whoN_can (m_n m) 0 k none (by omega) (fun j hj => by simp at hj) h
theorem lendN_le {m : Md} (ho : ∀ k, k < m_n m → ∀ j, m_O m k = some j → j < k) : ∀ (n k j : Nat), k < m_n m → lendN m n (some k) = some j → j ≤ k
  | 0, k, j, hk, h => by simp [lendN] at h
  | n + 1, k, j, hk, h => by
    have hu : lendN m n (m_O m k) = some j → j ≤ k := by
      intro h
      match hO : m_O m k with
      | none =>
        rw [hO] at h
        cases n <;> simp [lendN] at h
      | some i =>
        rw [hO] at h
        have := ho k hk i hO
        have := lendN_le ho n i j (by omega) h
        omega
    rw [lendN] at h
    split at h
    · exact hu h
    · split at h
      · injection h with e
        omega
      · exact hu h
section SN
variable {x : Hp} {N : Nat} {z : Nat → Nat} {s B : Nat} {m : Md}
theorem who_l (h : Site x s B m) (hN : 8 ≤ N) : ∀ (n i : Nat) (b : Option Nat), i ≤ m_n m → m_n m < n + i → (∀ j, b = some j → j < m_n m) → f_X6_whoSends_b4 N z n s (la s b) (nI i) x = some (la s (whoN m (m_n m - i) i b), x)
  | 0, i, b, h1, h2, h3 => absurd h2 (by omega)
  | n + 1, i, b, h1, h2, h3 => by
    have hn := h.2.1
    unfold f_X6_whoSends_b4
    rw [geti_s h.k, h.v (by decide), h.2.2.2.1]
    by_cases c : i = m_n m
    · subst c
      rw [if_pos (nI_le (Nat.le_refl _) (by omega)), Nat.sub_self]
      rfl
    · have hi : i < m_n m := by omega
      have hl := h.l hi
      rw [if_neg (nI_ge hi (by omega)), obj_s h.k, lane_at h hi, bnd_s, if_neg (by simp), obj_s hl.1, can_send h hi hN, bnd_s, show m_n m - i = (m_n m - (i + 1)) + 1 by omega, whoN]
      by_cases d : can m i = true
      · rw [if_pos d, if_pos d, if_neg (by decide)]
        match b, h3 with
        | none, h3 =>
          rw [show la s none = none from rfl, if_pos rfl, pick]
          unfold f_X6_whoSends_b41 f_X6_whoSends_b43
          rw [nI_1]
          exact who_l h hN n (i + 1) (some i) (by omega) (by omega) (fun j hj => by injection hj with e; omega)
        | some j, h3 =>
          have hj := h3 j rfl
          rw [show la s (some j) = some (s + 5 + 3 * j) from rfl, if_neg (by simp), obj_s hl.1, goes_ahead hl (h.l hj), bnd_s]
          by_cases e : ahd (m_A m i) (m_A m j) = 0
          · rw [if_pos e, pick, if_pos e]
            unfold f_X6_whoSends_b43
            rw [nI_1]
            exact who_l h hN n (i + 1) (some j) (by omega) (by omega) h3
          · rw [if_neg e, pick, if_neg e]
            unfold f_X6_whoSends_b41 f_X6_whoSends_b43
            rw [nI_1]
            exact who_l h hN n (i + 1) (some i) (by omega) (by omega) (fun j hj => by injection hj with e; omega)
      · rw [if_neg d, if_neg d, if_pos rfl]
        unfold f_X6_whoSends_b43
        rw [nI_1]
        exact who_l h hN n (i + 1) b (by omega) (by omega) h3
theorem who_sends (h : Site x s B m) (hN : 8 ≤ N) : f_X6_whoSends N z s x = some (la s (who m), x) := by
  have hn := h.2.1
  unfold f_X6_whoSends
  exact who_l h hN N 0 none (by omega) (by omega) (fun j hj => by simp at hj)
end SN
def snd1 (m : Md) (k : Nat) (mi : Int32) : Md := sL m k (up1 (m_A m k) 89 (m_A m k 89 + (mi - (m_Q m k).getD 0 0))) ((m_Q m k).drop 1)
def snd2 (m : Md) (j : Nat) : Md := sA m j 85 (m_A m j 85 - 1)
def inc (m : Md) (k f : Nat) : Md := sA m k f (m_A m k f + 1)
def snd3 (m : Md) (k j : Nat) : Md := if j = k then m else inc (inc m k 88) j 95
def allN : Nat → Md → Option Nat → Md
  | 0, m, _ => m
  | _ + 1, m, none => m
  | n + 1, m, some k => allN n (inc m k 97) (m_O m k)
def sendM (m : Md) (k : Nat) (mi : Int32) : Md := match lend m k with
  | none => m
  | some j => allN 6 (inc (inc (snd3 (snd2 (snd1 m k mi) j) k j) k 86) k 96) (some k)
theorem allN_st {n n' : Nat} : ∀ {m : Md} {k : Nat}, (∀ k, k < m_n m → ∀ j, m_O m k = some j → j < k) → k < n → k < n' → k < m_n m → allN n m (some k) = allN n' m (some k) := by
  induction n generalizing n' with
  | zero => intro m k ho h1; exact absurd h1 (by omega)
  | succ n ih =>
    intro m k ho h1 h2 h3
    match n', h2 with
    | 0, h2 => exact absurd h2 (by omega)
    | n' + 1, h2 =>
      rw [allN, allN]
      match hO : m_O m k with
      | none => cases n <;> cases n' <;> rfl
      | some j =>
        have hj := ho k h3 j hO
        exact ih (m := inc m k 97) (k := j) ho (by omega) (by omega) (by show j < m_n m; omega)
theorem allN_x : ∀ (n : Nat) (m : Md) (o : Option Nat), m_O (allN n m o) = m_O m ∧ m_V (allN n m o) = m_V m ∧ m_n (allN n m o) = m_n m ∧ m_Q (allN n m o) = m_Q (allN n m o) ∧ m_F (allN n m o) = m_F m ∧ m_m (allN n m o) = m_m m
  | 0, m, o => ⟨rfl, rfl, rfl, rfl, rfl, rfl⟩
  | n + 1, m, none => ⟨rfl, rfl, rfl, rfl, rfl, rfl⟩
  | n + 1, m, some k => by
    have := allN_x n (inc m k 97) (m_O m k)
    rw [allN]
    exact this
theorem sendM_x (m : Md) (k : Nat) (mi : Int32) : m_O (sendM m k mi) = m_O m ∧ m_V (sendM m k mi) = m_V m ∧ m_n (sendM m k mi) = m_n m ∧ m_F (sendM m k mi) = m_F m ∧ m_m (sendM m k mi) = m_m m := by
  unfold sendM
  match lend m k with
  | none => exact ⟨rfl, rfl, rfl, rfl, rfl⟩
  | some j =>
    obtain ⟨h1, h2, h3, -, h5, h6⟩ := allN_x 6 (inc (inc (snd3 (snd2 (snd1 m k mi) j) k j) k 86) k 96) (some k)
    simp only
    rw [h1, h2, h3, h5, h6]
    unfold snd3
    split <;> exact ⟨rfl, rfl, rfl, rfl, rfl⟩
section SP
variable {N : Nat} {z : Nat → Nat} {s B : Nat}
theorem Site.ic {x : Hp} {m : Md} {k f : Nat} (h : Site x s B m) (hk : k < m_n m) (hf : 83 ≤ f ∧ f < 98) : Site (p_i x f (s + 5 + 3 * k) (h_i x f (s + 5 + 3 * k) + 1)) s B (inc m k f) ∧ Fr x (p_i x f (s + 5 + 3 * k) (h_i x f (s + 5 + 3 * k) + 1)) s (s + 31) := by
  rw [(h.l hk).a (Or.inr hf)]
  exact h.wr hk hf
theorem all_l : ∀ (n k : Nat) (x : Hp) (m : Md), Site x s B m → k + 1 < n → k < m_n m → ∃ y, f_X2_sendPail_b93 N z n (some (s + 5 + 3 * k)) x = some ((), y) ∧ Site y s B (allN n m (some k)) ∧ Fr x y s (s + 31)
  | 0, k, x, m, h, h1, h2 => absurd h1 (by omega)
  | n + 1, k, x, m, h, h1, h2 => by
    have hl := h.l h2
    obtain ⟨g, gf⟩ := h.ic (f := 97) h2 (by decide)
    have gl := g.l (k := k) h2
    unfold f_X2_sendPail_b93
    rw [if_neg (by simp), geti_s hl.1, puti_s hl.1, getr_s (by exact hl.1), gl.2.2.1, allN]
    match n, h1, hO : m_O m k with
    | 0, h1, _ => exact absurd h1 (by omega)
    | n + 1, h1, none =>
      exact ⟨_, rfl, g, gf⟩
    | n + 1, h1, some j =>
      have hj := h.o h2 hO
      obtain ⟨y, e1, e2, e3⟩ := all_l (n + 1) j _ _ g (by omega) (show j < m_n m by omega)
      exact ⟨y, e1, e2, gf.tr e3⟩
theorem send71 {x : Hp} {m : Md} {k : Nat} (h : Site x s B m) (hk : k < m_n m) (hN : 8 ≤ N) : ∃ y, f_X2_sendPail_b71 N z (s + 5 + 3 * k) x = some ((), y) ∧ Site y s B (allN 6 (inc (inc m k 86) k 96) (some k)) ∧ Fr x y s (s + 31) := by
  have hl := h.l hk
  have hn := h.2.1
  obtain ⟨g, gf⟩ := h.ic (f := 86) hk (by decide)
  obtain ⟨w, wf⟩ := g.ic (k := k) (f := 96) hk (by decide)
  unfold f_X2_sendPail_b71
  rw [geti_s hl.1, puti_s hl.1, geti_s (by exact hl.1), puti_s (by exact hl.1)]
  obtain ⟨y, e1, e2, e3⟩ := all_l (N := N) (z := z) N k _ _ w (by omega) hk
  rw [allN_st (n := N) (n' := 6) w.2.2.2.2.2.2.2.1 (by omega) (by omega) hk] at e2
  exact ⟨y, e1, e2, (gf.tr wf).tr e3⟩
theorem send_pail {x : Hp} {m : Md} {k j : Nat} {mi : Int32} {q : Int32} {r : List Int32} (h : Site x s B m) (hk : k < m_n m) (hj : lend m k = some j) (hQ : m_Q m k = q :: r) (hN : 8 ≤ N) : ∃ y, f_X2_sendPail N z (s + 5 + 3 * k) mi x = some ((), y) ∧ Site y s B (sendM m k mi) ∧ Fr x y s (s + 31) := by
  have hl := h.l hk
  have hn := h.2.1
  have hjk := lendN_le h.2.2.2.2.2.2.2.1 6 k j hk hj
  have hq := hl.q
  rw [hQ] at hq
  unfold f_X2_sendPail
  rw [obj_s hl.1, who_lends h hk hN, bnd_s, hj, show la s (some j) = some (s + 5 + 3 * j) from rfl, if_neg (by simp), geti_s hl.1, hl.a (by decide), getr_s hl.1, hl.2.1, obj_s hq.1.1, show (0 : Int32) = nI 0 from rfl, queue_at hq (by simp), bnd_s, puti_s hl.1]
  have l1 := hl.pi (f := 89) (v := m_A m k 89 + (mi - (q :: r).getD 0 0)) (by decide)
  have f1 : Fr x (p_i x 89 (s + 5 + 3 * k) (m_A m k 89 + (mi - (q :: r).getD 0 0))) (s + 5 + 3 * k) (s + 5 + 3 * k + 3) := Fr.pi ⟨by omega, by omega⟩
  have q1 := l1.q
  rw [hQ] at q1
  rw [getr_s (by exact hl.1), l1.2.1, obj_s (by exact q1.1.1)]
  obtain ⟨y, e1, e2, e3⟩ := queue_drop (N := N) (z := z) q1
  rw [e1, bnd_s]
  have f2 := f1.tr (e3.wd (by omega) (by omega))
  have g : Site y s B (snd1 m k mi) := by
    have := h.up hk f2 (l1.qr e3 e2) (by rw [up1_ne (by decide)]; exact h.n80 hk)
    unfold snd1
    rw [hQ]
    exact this
  have hj2 : j < m_n (snd1 m k mi) := by show j < m_n m; omega
  obtain ⟨w, wf⟩ := g.wr (k := j) (f := 85) (v := m_A (snd1 m k mi) j 85 - 1) hj2 (by decide)
  have gj := g.l hj2
  have f3 := (f2.wd (lo' := s) (hi' := s + 31) (by omega) (by omega)).tr wf
  rw [geti_s gj.1, puti_s gj.1, gj.a (by decide)]
  unfold sendM
  rw [hj]
  simp only
  by_cases c : j = k
  · rw [if_pos (by rw [c]), snd3, if_pos c]
    obtain ⟨y2, d1, d2, d3⟩ := send71 (N := N) (z := z) (k := k) w hk hN
    exact ⟨y2, d1, d2, f3.tr d3⟩
  · have wk := w.l (k := k) hk
    have wj := w.l (k := j) hj2
    obtain ⟨u, uf⟩ := w.ic (k := k) (f := 88) hk (by decide)
    obtain ⟨t, tf⟩ := u.ic (k := j) (f := 95) hj2 (by decide)
    rw [if_neg (by simp; omega), snd3, if_neg c, geti_s wk.1, puti_s wk.1, geti_s (by exact wj.1), puti_s (by exact wj.1)]
    obtain ⟨y2, d1, d2, d3⟩ := send71 (N := N) (z := z) (k := k) t hk hN
    exact ⟨y2, d1, d2, ((f3.tr uf).tr tf).tr d3⟩
def sendsN (mi : Int32) : Nat → Md → Md × Nat
  | 0, m => (m, 0)
  | r + 1, m => match who m with
    | none => (m, 0)
    | some k => ((sendsN mi r (sendM m k mi)).1, (sendsN mi r (sendM m k mi)).2 + 1)
theorem can_x {m : Md} {k : Nat} (h : can m k = true) : ∃ j q r, lend m k = some j ∧ m_Q m k = q :: r := by
  unfold can at h
  simp only [Bool.and_eq_true] at h
  obtain ⟨⟨⟨h1, -⟩, -⟩, h2⟩ := h
  match hQ : m_Q m k, hL : lend m k with
  | [], _ => rw [hQ] at h1; simp at h1
  | _, none => rw [hL] at h2; simp at h2
  | q :: r, some j => exact ⟨j, q, r, rfl, rfl⟩
theorem sends_l {mi : Int32} (hN : 8 ≤ N) : ∀ (n r c : Nat) (x : Hp) (m : Md), Site x s B m → m_V m 162 = nI (c + r) → m_V m 161 = mi → c + r < 2 ^ 31 → r < n → ∃ y, f_X6_sendPails_b18 N z n s (nI c) (if r = 0 then none else la s (who m)) x = some (nI (c + (sendsN mi r m).2), y) ∧ Site y s B (sendsN mi r m).1 ∧ Fr x y s (s + 31)
  | 0, r, c, x, m, h, h1, h2, h3, h4 => absurd h4 (by omega)
  | n + 1, 0, c, x, m, h, h1, h2, h3, h4 => by
    unfold f_X6_sendPails_b18
    rw [if_pos rfl, if_pos rfl]
    exact ⟨x, rfl, h, Fr.rf⟩
  | n + 1, r + 1, c, x, m, h, h1, h2, h3, h4 => by
    unfold f_X6_sendPails_b18
    rw [if_neg (show ¬ r + 1 = 0 by omega), sendsN]
    match hW : who m with
    | none =>
      rw [show la s none = none from rfl, if_pos rfl]
      exact ⟨x, rfl, h, Fr.rf⟩
    | some k =>
      obtain ⟨hk, hc⟩ := who_can hW
      obtain ⟨j, q, t, e1, e2⟩ := can_x hc
      have hl := h.l hk
      rw [show la s (some k) = some (s + 5 + 3 * k) from rfl, if_neg (by simp), geti_s h.k, h.v (by decide), h1, if_neg (nI_ge (by omega) (by omega)), geti_s h.k, h.v (by decide), h2, obj_s hl.1]
      obtain ⟨y, d1, d2, d3⟩ := send_pail (N := N) (z := z) (mi := mi) h hk e1 e2 hN
      obtain ⟨x1, x2, x3, x4, x5⟩ := sendM_x m k mi
      rw [d1, bnd_s, geti_s d2.k, d2.v (by decide), x2, h1, nI_1]
      have ih := sends_l (mi := mi) hN n r (c + 1) y (sendM m k mi) d2 (by rw [x2, h1]; congr 1; omega) (by rw [x2, h2]) (by omega) (by omega)
      rw [show c + 1 + (sendsN mi r (sendM m k mi)).2 = c + ((sendsN mi r (sendM m k mi)).2 + 1) by omega] at ih
      obtain ⟨w, w1, w2, w3⟩ := ih
      refine ⟨w, ?_, w2, d3.tr w3⟩
      by_cases b : r = 0
      · rw [if_pos b] at w1
        rw [if_pos (nI_le (by omega) (by omega))]
        unfold f_X6_sendPails_b57
        exact w1
      · rw [if_neg b] at w1
        rw [if_neg (nI_ge (by omega) (by omega)), obj_s d2.k, who_sends d2 hN, bnd_s]
        unfold f_X6_sendPails_b57
        exact w1
theorem send_pails {x : Hp} {m : Md} {w : Nat} {mi : Int32} (h : Site x s B m) (hw : m_V m 162 = nI w) (hw2 : w ≤ 30) (h2 : m_V m 161 = mi) (hN : 61 ≤ N) : ∃ y, f_X6_sendPails N z s x = some (nI (sendsN mi w m).2, y) ∧ Site y s B (sendsN mi w m).1 ∧ Fr x y s (s + 31) := by
  have e := sends_l (N := N) (z := z) (mi := mi) (by omega) N w 0 x m h (by rw [hw, Nat.zero_add]) h2 (by omega) (by omega)
  rw [Nat.zero_add] at e
  unfold f_X6_sendPails f_X6_sendPails_b17
  rw [geti_s h.k, h.v (by decide), hw]
  by_cases c : w = 0
  · rw [if_pos c] at e
    subst c
    rw [if_pos (by decide)]
    exact e
  · rw [if_neg c] at e
    rw [if_neg (nI_nle (by omega) (by omega)), obj_s h.k, who_sends h (by omega), bnd_s]
    exact e
end SP
