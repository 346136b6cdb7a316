/-! ===== counts, and the calls of the class ===== -/
def shareM (m : Md) (k w : Nat) : Int32 := if w = 5 then nI (m_Q m k).length else if w = 7 then m_A m k 86 else if w = 8 then m_A m k 87 else m_A m k 88
def sumM (m : Md) (w : Nat) : Nat → Nat → Int32 → Int32
  | 0, _, v => v
  | r + 1, k, v => sumM m w r (k + 1) (v + shareM m k w)
def tallyM (m : Md) (no w : Nat) : Int32 := if w = 0 then m_V m 161 else if w = 1 then m_V m 162 else if w = 2 then nI (m_n m) else if w = 3 then nI (m_m m) else if w = 4 then nI no else if w = 6 then m_V m 169 else if w = 10 then m_V m 170 else if w = 11 then m_V m 168 else sumM m w (m_n m) 0 0
section TL
variable {N : Nat} {z : Nat → Nat} {s B : Nat}
theorem share_s {x : Hp} {m : Md} {k w : Nat} (h : Site x s B m) (hk : k < m_n m) (hw : w = 5 ∨ w = 7 ∨ w = 8 ∨ w = 9) : f_X6_shareOf N z (some (s + 5 + 3 * k)) (nI w) x = some (shareM m k w, x) := by
  have hl := h.l hk
  unfold f_X6_shareOf
  rcases hw with c | c | c | c <;> subst c
  · rw [if_pos (by decide), getr_s hl.1, hl.2.1, geti_s hl.q.1.1, hl.q.2.2.1]; rfl
  · rw [if_neg (by decide), if_neg (by decide), if_pos (by decide), geti_s hl.1, hl.a (by decide)]; rfl
  · rw [if_neg (by decide), if_neg (by decide), if_neg (by decide), if_pos (by decide), geti_s hl.1, hl.a (by decide)]; rfl
  · rw [if_neg (by decide), if_neg (by decide), if_neg (by decide), if_neg (by decide), geti_s hl.1, hl.a (by decide)]; rfl
theorem sum_l {x : Hp} {m : Md} {w : Nat} (h : Site x s B m) (hw : w = 5 ∨ w = 7 ∨ w = 8 ∨ w = 9) : ∀ (n r k : Nat) (v : Int32), k + r = m_n m → r < n → f_X6_sumOverLanes_b4 N z n s (nI w) v (nI k) x = some (sumM m w r k v, x)
  | 0, r, k, v, hk, hn => absurd hn (by omega)
  | n + 1, 0, k, v, hk, hn => by
    have h6 := h.2.1
    unfold f_X6_sumOverLanes_b4
    rw [geti_s h.k, h.v (by decide), h.2.2.2.1, if_pos (nI_le (by omega) (by omega))]
    rfl
  | n + 1, r + 1, k, v, hk, hn => by
    have h6 := h.2.1
    have k2 : k < m_n m := by omega
    unfold f_X6_sumOverLanes_b4
    rw [geti_s h.k, h.v (by decide), h.2.2.2.1, if_neg (nI_ge (by omega) (by omega)), obj_s h.k, lane_at h k2, bnd_s, if_neg (by simp), share_s h k2 hw, bnd_s]
    unfold f_X6_sumOverLanes_b33
    rw [nI_1]
    exact sum_l h hw n r (k + 1) _ (by omega) (by omega)
theorem sum_s {x : Hp} {m : Md} {w : Nat} (h : Site x s B m) (hw : w = 5 ∨ w = 7 ∨ w = 8 ∨ w = 9) (hN : 8 ≤ N) : f_X6_sumOverLanes N z s (nI w) x = some (sumM m w (m_n m) 0 0, x) := by
  have h6 := h.2.1
  exact sum_l h hw N (m_n m) 0 0 (by omega) (by omega)
theorem tally_s {x : Hp} {m : Md} {ods : List Od} {w : Nat} (h : Site x s B m) (hb : BkO x B (m_n m) ods) (hw : w < 12) (hN : 8 ≤ N) : f_X6_tally N z s (nI w) x = some (tallyM m ods.length w, x) := by
  obtain ⟨C, os, b1, b2, -⟩ := hb
  have b3 := b1.2.2.2.2.2.2.2.2.2.2.2.2.2.1
  rw [b2] at b3
  have c : w = 0 ∨ w = 1 ∨ w = 2 ∨ w = 3 ∨ w = 4 ∨ w = 5 ∨ w = 6 ∨ w = 7 ∨ w = 8 ∨ w = 9 ∨ w = 10 ∨ w = 11 := by omega
  unfold f_X6_tally
  rcases c with c | c | c | c | c | c | c | c | c | c | c | c <;> subst c <;> (repeat rw [if_neg (by decide)]) <;> rw [if_pos (by decide)]
  · rw [geti_s h.k, h.v (by decide)]; rfl
  · rw [geti_s h.k, h.v (by decide)]; rfl
  · rw [geti_s h.k, h.v (by decide), h.2.2.2.1]; rfl
  · rw [geti_s h.k, h.v (by decide), h.2.2.2.2.1]; rfl
  · rw [getr_s h.k, h.1.2.1, geti_s b1.1, b3]; rfl
  · rw [obj_s h.k, sum_s h (by decide) hN, bnd_s]; rfl
  · rw [geti_s h.k, h.v (by decide)]; rfl
  · rw [obj_s h.k, sum_s h (by decide) hN, bnd_s]; rfl
  · rw [obj_s h.k, sum_s h (by decide) hN, bnd_s]; rfl
  · rw [obj_s h.k, sum_s h (by decide) hN, bnd_s]; rfl
  · rw [geti_s h.k, h.v (by decide)]; rfl
  · rw [geti_s h.k, h.v (by decide)]; rfl
end TL
