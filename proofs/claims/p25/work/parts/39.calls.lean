/-! ===== counts, and the calls of the class ===== -/
def shareM (m : Md) (k w : Nat) : Int32 := if w = 5 then nI (m_Q m k).length else if w = 7 then m_A m k 86 else if w = 8 then m_A m k 87 else m_A m k 88
def sumM (m : Md) (w : Nat) : Nat → Nat → Int32 → Int32
  | 0, _, v => v
  | r + 1, k, v => sumM m w r (k + 1) (v + shareM m k w)
def tallyM (m : Md) (no w : Nat) : Int32 := if w = 0 then m_V m 161 else if w = 1 then m_V m 162 else if w = 2 then nI (m_n m) else if w = 3 then nI (m_m m) else if w = 4 then nI no else if w = 6 then m_V m 169 else if w = 10 then m_V m 170 else if w = 11 then m_V m 168 else sumM m w (m_n m) 0 0
section TL
variable {N : Nat} {z : Nat → Nat} {s B : Nat}
theorem share_s {x : Hp} {m : Md} {k w : Nat} (h : Site x s B m) (hk : k < m_n m) (hw : w = 5 ∨ w = 7 ∨ w = 8 ∨ w = 9) : f_X6_shareOf N z (some (s + 5 + 3 * k)) (nI w) x = some (shareM m k w, x) := by
  have hl := h.l hk
  unfold f_X6_shareOf
  rcases hw with c | c | c | c <;> subst c
  · rw [if_pos (by decide), getr_s hl.1, hl.2.1, geti_s hl.q.1.1, hl.q.2.2.1]; rfl
  · rw [if_neg (by decide), if_neg (by decide), if_pos (by decide), geti_s hl.1, hl.a (by decide)]; rfl
  · rw [if_neg (by decide), if_neg (by decide), if_neg (by decide), if_pos (by decide), geti_s hl.1, hl.a (by decide)]; rfl
  · rw [if_neg (by decide), if_neg (by decide), if_neg (by decide), if_neg (by decide), geti_s hl.1, hl.a (by decide)]; rfl
theorem sum_l {x : Hp} {m : Md} {w : Nat} (h : Site x s B m) (hw : w = 5 ∨ w = 7 ∨ w = 8 ∨ w = 9) : ∀ (n r k : Nat) (v : Int32), k + r = m_n m → r < n → f_X6_sumOverLanes_b4 N z n s (nI w) v (nI k) x = some (sumM m w r k v, x)
  | 0, r, k, v, hk, hn => absurd hn (by omega)
  | n + 1, 0, k, v, hk, hn => by
    have h6 := h.2.1
    unfold f_X6_sumOverLanes_b4
    rw [geti_s h.k, h.v (by decide), h.2.2.2.1, if_pos (nI_le (by omega) (by omega))]
    rfl
  | n + 1, r + 1, k, v, hk, hn => by
    have h6 := h.2.1
    have k2 : k < m_n m := by omega
    unfold f_X6_sumOverLanes_b4
    rw [geti_s h.k, h.v (by decide), h.2.2.2.1, if_neg (nI_ge (by omega) (by omega)), obj_s h.k, lane_at h k2, bnd_s, if_neg (by simp), share_s h k2 hw, bnd_s]
    unfold f_X6_sumOverLanes_b33
    rw [nI_1]
    exact sum_l h hw n r (k + 1) _ (by omega) (by omega)
theorem sum_s {x : Hp} {m : Md} {w : Nat} (h : Site x s B m) (hw : w = 5 ∨ w = 7 ∨ w = 8 ∨ w = 9) (hN : 8 ≤ N) : f_X6_sumOverLanes N z s (nI w) x = some (sumM m w (m_n m) 0 0, x) := by
  have h6 := h.2.1
  exact sum_l h hw N (m_n m) 0 0 (by omega) (by omega)
theorem tally_s {x : Hp} {m : Md} {ods : List Od} {w : Nat} (h : Site x s B m) (hb : BkO x B (m_n m) ods) (hw : w < 12) (hN : 8 ≤ N) : f_X6_tally N z s (nI w) x = some (tallyM m ods.length w, x) := by
  obtain ⟨C, os, b1, b2, -⟩ := hb
  have b3 := b1.2.2.2.2.2.2.2.2.2.2.2.2.2.1
  rw [b2] at b3
  have c : w = 0 ∨ w = 1 ∨ w = 2 ∨ w = 3 ∨ w = 4 ∨ w = 5 ∨ w = 6 ∨ w = 7 ∨ w = 8 ∨ w = 9 ∨ w = 10 ∨ w = 11 := by omega
  unfold f_X6_tally
  rcases c with c | c | c | c | c | c | c | c | c | c | c | c <;> subst c <;> (repeat rw [if_neg (by decide)]) <;> rw [if_pos (by decide)]
  · rw [geti_s h.k, h.v (by decide)]; rfl
  · rw [geti_s h.k, h.v (by decide)]; rfl
  · rw [geti_s h.k, h.v (by decide), h.2.2.2.1]; rfl
  · rw [geti_s h.k, h.v (by decide), h.2.2.2.2.1]; rfl
  · rw [getr_s h.k, h.1.2.1, geti_s b1.1, b3]; rfl
  · rw [obj_s h.k, sum_s h (by decide) hN, bnd_s]; rfl
  · rw [geti_s h.k, h.v (by decide)]; rfl
  · rw [obj_s h.k, sum_s h (by decide) hN, bnd_s]; rfl
  · rw [obj_s h.k, sum_s h (by decide) hN, bnd_s]; rfl
  · rw [obj_s h.k, sum_s h (by decide) hN, bnd_s]; rfl
  · rw [geti_s h.k, h.v (by decide)]; rfl
  · rw [geti_s h.k, h.v (by decide)]; rfl
end TL
theorem cutM_id {m : Md} (h3 : m_V m 163 = nI (m_n m)) (h4 : m_V m 164 = nI (m_m m)) : cutM m (m_n m) (m_m m) = m := by
  have e : up1 (up1 (m_V m) 163 (nI (m_n m))) 164 (nI (m_m m)) = m_V m := by
    funext f
    simp only [up1]
    split
    · rename_i c
      rw [c, h4]
    · split
      · rename_i c
        rw [c, h3]
      · rfl
  unfold cutM
  rw [e]
  rfl
/-- the object of the class, with nothing on its tape -/
def BrS (x : Hp) (Y : Nat) : Prop := h_k x Y = 13 ∧ h_r x 240 Y = some (Y + 1) ∧ h_r x 241 Y = some (Y + 3) ∧ h_r x 242 Y = some (Y + 90) ∧ h_r x 243 Y = some (Y + 121) ∧ h_k x (Y + 1) = 11 ∧ h_i x 201 (Y + 1) = 0
theorem BrS.fr {x y : Hp} {Y lo hi : Nat} (h : BrS x Y) (g : Fr x y lo hi) (hd : Y + 2 ≤ lo ∨ hi ≤ Y) : BrS y Y := by
  obtain ⟨h1, h2, h3, h4, h5, h6, h7⟩ := h
  exact ⟨g.k.trans h1, (g.r (by omega)).trans h2, (g.r (by omega)).trans h3, (g.r (by omega)).trans h4, (g.r (by omega)).trans h5, g.k.trans h6, (g.i (by omega)).trans h7⟩
def ovM (m : Md) (k : Nat) : Int32 := match m_O m k with
  | none => -1
  | some j => nI j
section CL
variable {N : Nat} {z : Nat → Nat} {Y B : Nat} {x : Hp} {m : Md}
theorem ov_s {s : Nat} (h : Site x s B m) {k : Nat} (hk : k < m_n m) : ovI x (la s (m_O m k)) (ovM m k) := by
  unfold ovM
  match hO : m_O m k with
  | none => rfl
  | some j =>
    have hj := h.o hk hO
    have gj := h.l (k := j) (by omega)
    exact ⟨gj.1, (gj.a (by decide)).trans (h.n80 (by omega))⟩
theorem c_lane (hb : BrS x Y) (h : Site x (Y + 90) B m) {k w : Nat} (hk : k < m_n m) (hw : w < 13) : f_X10_lane N z Y (nI k) (nI w) x = some (factM (m_A m k) (m_Q m k) (ovM m k) w, x) := by
  have hl := h.l hk
  unfold f_X10_lane
  rw [getr_s hb.1, hb.2.2.2.1, obj_s h.k, lane_at h hk, bnd_s, if_neg (by simp), if_neg (nI_pos (by omega)), if_pos (show nI w < (13 : Int32) from nI_lt (b := 13) hw (by omega)), obj_s hl.1, lane_fact hl (ov_s h hk) hw, bnd_s]
theorem c_pail (hb : BrS x Y) (h : Site x (Y + 90) B m) {k p : Nat} (hk : k < m_n m) (hp : p < (m_Q m k).length) : f_X10_pail N z Y (nI k) (nI p) x = some ((m_Q m k).getD p 0, x) := by
  have hl := h.l hk
  have hq := hl.q
  have := hq.2.1
  unfold f_X10_pail
  rw [getr_s hb.1, hb.2.2.2.1, obj_s h.k, lane_at h hk, bnd_s, if_neg (by simp), if_neg (nI_pos (by omega)), getr_s hl.1, hl.2.1, geti_s hq.1.1, hq.2.2.1, if_pos (nI_lt hp (by omega)), getr_s hl.1, hl.2.1, obj_s hq.1.1, queue_at hq hp, bnd_s]
end CL
section CW
variable {N : Nat} {z : Nat → Nat} {Y B : Nat} {x : Hp} {m : Md}
def lendI (m : Md) (k : Nat) : Int32 := match lend m k with
  | none => -1
  | some j => nI j
theorem c_lender (hb : BrS x Y) (h : Site x (Y + 90) B m) {k : Nat} (hk : k < m_n m) (hN : 8 ≤ N) : f_X10_lender N z Y (nI k) x = some (lendI m k, x) := by
  have hl := h.l hk
  unfold f_X10_lender lendI
  rw [getr_s hb.1, hb.2.2.2.1, obj_s h.k, lane_at h hk, bnd_s, if_neg (by simp), obj_s hl.1, who_lends h hk hN, bnd_s]
  match hL : lend m k with
  | none => rfl
  | some j =>
    have hj := lendN_le h.2.2.2.2.2.2.2.1 6 k j hk hL
    have gj := h.l (k := j) (by omega)
    rw [show la (Y + 90) (some j) = some (Y + 90 + 5 + 3 * j) from rfl]
    unfold f_X10_numberOf
    rw [if_neg (by simp), geti_s gj.1, gj.a (by decide), h.n80 (by omega), bnd_s]
theorem c_bring (hb : BrS x Y) (h : Site x (Y + 90) B m) (w : WfQ m) {k c : Nat} (hk : k < m_n m) (h1 : 1 ≤ c) (hc : c ≤ 30) (hN : 31 ≤ N) : ∃ y, f_X10_bring N z Y (nI k) (nI c) x = some (m_A (takeI m k c) k 87 - m_A m k 87, y) ∧ Site y (Y + 90) B (takeI m k c) ∧ Fr x y (Y + 90) (Y + 121) := by
  have hl := h.l hk
  obtain ⟨y, e1, e2, e3⟩ := take_in (N := N) (z := z) h w hk hc hN
  have hk2 : k < m_n (takeI m k c) := by show k < m_n (takeN c m k); rw [(takeN_x c m k).2.1]; exact hk
  have gl := e2.l hk2
  refine ⟨y, ?_, e2, e3⟩
  unfold f_X10_bring
  rw [getr_s hb.1, hb.2.2.2.1, obj_s h.k, lane_at h hk, bnd_s, if_neg (by simp), if_neg (show ¬ nI c < (1 : Int32) from nI_nlt (b := 1) h1 (by omega)), if_pos (show nI c ≤ (30 : Int32) from nI_le (b := 30) hc (by omega)), geti_s hl.1, hl.a (by decide), getr_s hb.1, hb.2.2.2.1, obj_s h.k, e1, bnd_s, geti_s gl.1, gl.a (by decide)]
theorem c_give (hb : BrS x Y) (h : Site x (Y + 90) B m) {k c : Nat} (hk : k < m_n m) (h1 : 1 ≤ c) (hc : c ≤ 99) : ∃ y, f_X10_give N z Y (nI k) (nI c) x = some (if m_A m k 85 + nI c < m_A m k 91 then m_A m k 85 + nI c else m_A m k 91, y) ∧ Site y (Y + 90) B (sL m k (up1 (m_A m k) 85 (if m_A m k 85 + nI c < m_A m k 91 then m_A m k 85 + nI c else m_A m k 91)) (m_Q m k)) ∧ Fr x y (Y + 90) (Y + 121) := by
  have hl := h.l hk
  have h6 := h.2.1
  obtain ⟨y, e1, e2, e3⟩ := lane_get (N := N) (z := z) (v := nI c) hl
  refine ⟨y, ?_, h.up hk e3 e2 (by rw [up1_ne (by decide)]; exact h.n80 hk), e3.wd (by omega) (by omega)⟩
  unfold f_X10_give
  rw [getr_s hb.1, hb.2.2.2.1, obj_s h.k, lane_at h hk, bnd_s, if_neg (by simp), if_neg (show ¬ nI c < (1 : Int32) from nI_nlt (b := 1) h1 (by omega)), if_pos (show nI c ≤ (99 : Int32) from nI_le (b := 99) hc (by omega)), obj_s hl.1, e1, bnd_s, geti_s e2.1, e2.a (by decide), up1_eq]
theorem c_rate (hb : BrS x Y) (h : Site x (Y + 90) B m) {k c : Nat} (hk : k < m_n m) (hc : c ≤ 30) : ∃ y, f_X10_setRate N z Y (nI k) (nI c) x = some (m_A m k 83, y) ∧ Site y (Y + 90) B (sA m k 83 (nI c)) ∧ Fr x y (Y + 90) (Y + 121) := by
  have hl := h.l hk
  obtain ⟨g, gf⟩ := h.wr (f := 83) (v := nI c) hk (by decide)
  refine ⟨_, ?_, g, gf⟩
  unfold f_X10_setRate
  rw [getr_s hb.1, hb.2.2.2.1, obj_s h.k, lane_at h hk, bnd_s, if_neg (by simp), if_neg (nI_pos (by omega)), if_pos (show nI c ≤ (30 : Int32) from nI_le (b := 30) hc (by omega)), geti_s hl.1, hl.a (by decide), puti_s hl.1]
theorem c_most (hb : BrS x Y) (h : Site x (Y + 90) B m) {k c : Nat} (hk : k < m_n m) (hc : c ≤ 30) : ∃ y, f_X10_setMost N z Y (nI k) (nI c) x = some (m_A m k 84, y) ∧ Site y (Y + 90) B (sA m k 84 (nI c)) ∧ Fr x y (Y + 90) (Y + 121) := by
  have hl := h.l hk
  obtain ⟨g, gf⟩ := h.wr (f := 84) (v := nI c) hk (by decide)
  refine ⟨_, ?_, g, gf⟩
  unfold f_X10_setMost
  rw [getr_s hb.1, hb.2.2.2.1, obj_s h.k, lane_at h hk, bnd_s, if_neg (by simp), if_neg (nI_pos (by omega)), if_pos (show nI c ≤ (30 : Int32) from nI_le (b := 30) hc (by omega)), geti_s hl.1, hl.a (by decide), puti_s hl.1]
theorem c_well (hb : BrS x Y) (h : Site x (Y + 90) B m) {c : Nat} (hc : c ≤ 30) : ∃ y, f_X10_setWell N z Y (nI c) x = some (m_V m 162, y) ∧ Site y (Y + 90) B (sV m 162 (nI c)) ∧ Fr x y (Y + 90) (Y + 121) := by
  obtain ⟨g, gf⟩ := h.wv (f := 162) (v := nI c) (by decide)
  refine ⟨_, ?_, g, gf⟩
  unfold f_X10_setWell
  rw [if_neg (nI_pos (by omega)), if_pos (show nI c ≤ (30 : Int32) from nI_le (b := 30) hc (by omega)), getr_s hb.1, hb.2.2.2.1, geti_s h.k, h.v (by decide), getr_s hb.1, hb.2.2.2.1, puti_s h.k]
end CW
/-! minutes that pass, and that are foreseen -/
def passN (ods : List Od) : Nat → Md → Int32 → Md × Int32
  | 0, m, v => (m, v)
  | r + 1, m, v => passN ods r (passM ods m).1 (v + nI (passM ods m).2)
section CM
variable {N : Nat} {z : Nat → Nat} {Y : Nat}
/-- what one minute needs is there after it again -/
def Stay (ods : List Od) (P : Md → Prop) : Prop := ∀ m, P m → WfM m ∧ (∀ o ∈ ods, okO (m_n m) o) ∧ m_n (passM ods m).1 = m_n m ∧ P (passM ods m).1
theorem pass_l {ods : List Od} {P : Md → Prop} (hN : 401 ≤ N) (hP : Stay ods P) : ∀ (n r c : Nat) (v : Int32) (x : Hp) (m : Md), BrS x Y → Site x (Y + 90) (Y + 66) m → BkO x (Y + 66) (m_n m) ods → P m → c + r < 2 ^ 31 → r < n → ∃ y, f_X10_pass_b25 N z n Y (nI (c + r)) v (nI c) x = some ((passN ods r m v).2, y) ∧ Site y (Y + 90) (Y + 66) (passN ods r m v).1 ∧ P (passN ods r m v).1 ∧ m_n (passN ods r m v).1 = m_n m ∧ Fr x y (Y + 90) (Y + 121)
  | 0, r, c, v, x, m, hb, h, hk, p, hc, hn => absurd hn (by omega)
  | n + 1, 0, c, v, x, m, hb, h, hk, p, hc, hn => by
    unfold f_X10_pass_b25
    rw [if_pos (nI_le (by omega) (by omega))]
    exact ⟨x, rfl, h, p, rfl, Fr.rf⟩
  | n + 1, r + 1, c, v, x, m, hb, h, hk, p, hc, hn => by
    obtain ⟨p1, p2, p3, p4⟩ := hP m p
    obtain ⟨y, e1, e2, e3⟩ := go_minute (N := N) (z := z) (by omega) hN h hk p1
    have hk2 : BkO y (Y + 66) (m_n (passM ods m).1) ods := by
      rw [p3]
      obtain ⟨C, os, b1, b2, b3⟩ := hk
      exact ⟨C, os, b1.fr e3 (by omega), b2, b3⟩
    unfold f_X10_pass_b25
    rw [if_neg (nI_ge (by omega) (by omega)), getr_s hb.1, hb.2.2.2.1, obj_s h.k, e1, bnd_s, nI_1, show c + (r + 1) = (c + 1) + r by omega, passN]
    obtain ⟨u, d1, d2, d3, d4, d5⟩ := pass_l hN hP n r (c + 1) (v + nI (passM ods m).2) y _ (hb.fr e3 (by omega)) e2 hk2 p4 (by omega) (by omega)
    exact ⟨u, d1, d2, d3, d4.trans p3, e3.tr d5⟩
theorem c_pass {ods : List Od} {P : Md → Prop} {x : Hp} {m : Md} {c : Nat} (hN : 401 ≤ N) (hP : Stay ods P) (hb : BrS x Y) (h : Site x (Y + 90) (Y + 66) m) (hk : BkO x (Y + 66) (m_n m) ods) (p : P m) (h1 : 1 ≤ c) (hc : c ≤ 100) : ∃ y, f_X10_pass N z Y (nI c) x = some ((passN ods c m 0).2, y) ∧ Site y (Y + 90) (Y + 66) (passN ods c m 0).1 ∧ P (passN ods c m 0).1 ∧ m_n (passN ods c m 0).1 = m_n m ∧ Fr x y (Y + 90) (Y + 121) := by
  obtain ⟨u, d⟩ := pass_l (N := N) (z := z) hN hP N c 0 0 x m hb h hk p (by omega) (by omega)
  rw [Nat.zero_add] at d
  unfold f_X10_pass
  rw [if_neg (show ¬ nI c < (1 : Int32) from nI_nlt (b := 1) h1 (by omega)), if_pos (show nI c ≤ (100 : Int32) from nI_le (b := 100) hc (by omega))]
  exact ⟨u, d⟩
end CM
