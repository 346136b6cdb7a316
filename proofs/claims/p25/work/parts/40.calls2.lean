/-! ===== the rest of the calls: count, folk, common, eldest, mean, foresee ===== -/
theorem BkO.fr {x y : Hp} {B n lo hi : Nat} {ods : List Od} (h : BkO x B n ods) (g : Fr x y lo hi) (hd : B + 24 ≤ lo ∨ hi ≤ B) : BkO y B n ods := by
  obtain ⟨C, os, b1, b2, b3⟩ := h
  exact ⟨C, os, b1.fr g hd, b2, b3⟩
section CF
variable {N : Nat} {z : Nat → Nat} {Y : Nat} {x : Hp} {m : Md}
theorem c_count {ods : List Od} (hb : BrS x Y) (h : Site x (Y + 90) (Y + 66) m) (hk : BkO x (Y + 66) (m_n m) ods) {w : Nat} (hw : w < 12) (hN : 8 ≤ N) : f_X10_count N z Y (nI w) x = some (tallyM m ods.length w, x) := by
  have e : ¬ nI w = (12 : Int32) := fun e => absurd ((nI_eq (b := 12) (by omega) (by omega)).mp e) (by omega)
  unfold f_X10_count
  rw [if_neg (nI_pos (by omega)), if_pos (show nI w < (13 : Int32) from nI_lt (b := 13) (by omega) (by omega)), obj_s hb.1]
  unfold f_X10_countNow
  rw [if_neg e, getr_s hb.1, hb.2.2.2.1, obj_s h.k, tally_s h hk hw hN, bnd_s, bnd_s]
theorem c_count12 (hb : BrS x Y) : f_X10_count N z Y 12 x = some (0, x) := by
  unfold f_X10_count
  rw [if_neg (by decide), if_pos (by decide), obj_s hb.1]
  unfold f_X10_countNow
  rw [if_pos rfl, getr_s hb.1, hb.2.1, geti_s hb.2.2.2.2.2.1, hb.2.2.2.2.2.2, bnd_s]
def folkI (m : Md) (j w : Nat) : Int32 := if w = 0 then m_F m j 60 else if w = 1 then m_F m j 61 else if w = 2 then m_F m j 63 else if w = 3 then m_F m j 64 else m_F m j 62
theorem c_folk {B : Nat} (hb : BrS x Y) (h : Site x (Y + 90) B m) {j w : Nat} (hj : j < m_m m) (hw : w < 5) : f_X10_folk N z Y (nI j) (nI w) x = some (folkI m j w, x) := by
  have hm := h.2.2.1
  have hk := h.1.2.2.2.2.2.2.2.2.2.2.2.2.2.2.2.2 j (by omega)
  unfold f_X10_folk
  rw [getr_s hb.1, hb.2.2.2.1, obj_s h.k, folk_at h hj, bnd_s, if_neg (by simp), if_neg (nI_pos (by omega)), if_pos (show nI w < (5 : Int32) from nI_lt (b := 5) hw (by omega)), obj_s hk]
  have c : w = 0 ∨ w = 1 ∨ w = 2 ∨ w = 3 ∨ w = 4 := by omega
  unfold f_X1_fact
  rcases c with c | c | c | c | c <;> subst c
  · rw [if_pos (by decide), geti_s hk, h.f hj (by decide), bnd_s]; rfl
  · rw [if_neg (by decide), if_pos (by decide), geti_s hk, h.f hj (by decide), bnd_s]; rfl
  · rw [if_neg (by decide), if_neg (by decide), if_pos (by decide), geti_s hk, h.f hj (by decide), bnd_s]; rfl
  · rw [if_neg (by decide), if_neg (by decide), if_neg (by decide), if_pos (by decide), geti_s hk, h.f hj (by decide), bnd_s]; rfl
  · rw [if_neg (by decide), if_neg (by decide), if_neg (by decide), if_neg (by decide), geti_s hk, h.f hj (by decide), bnd_s]; rfl
/-- the first of a lane and those over it that another is or is under -/
def comN (m : Md) (t : Nat) : Nat → Option Nat → Int32
  | 0, _ => -1
  | _ + 1, none => -1
  | n + 1, some k => if und m t k = true then nI k else comN m t n (m_O m k)
def com (m : Md) (k t : Nat) : Int32 := comN m t 6 (some k)
theorem coms_l {s B : Nat} (h : Site x s B m) {t : Nat} (ht : t < m_n m) (hN : 8 ≤ N) : ∀ (n k : Nat), k + 1 < n → k < m_n m → f_X10_common_b41 N z n (some (s + 5 + 3 * t)) (some (s + 5 + 3 * k)) x = some (comN m t n (some k), x)
  | 0, k, h1, h2 => absurd h1 (by omega)
  | n + 1, k, h1, h2 => by
    have hl := h.l h2
    have ht2 := h.l ht
    unfold f_X10_common_b41
    rw [if_neg (by simp), obj_s ht2.1, is_under h ht hN, bnd_s, comN]
    by_cases c : und m t k = true
    · rw [if_pos c, if_neg (by decide), if_pos c, geti_s hl.1, hl.a (by decide), h.n80 h2]
    · rw [if_neg c, if_pos rfl, if_neg c, getr_s hl.1, hl.2.2.1]
      match n, h1, hO : m_O m k with
      | 0, h1, _ => exact absurd h1 (by omega)
      | n + 1, h1, none => rfl
      | n + 1, h1, some j =>
        have hj := h.o h2 hO
        exact coms_l h ht hN (n + 1) j (by omega) (by omega)
theorem comN_st {t : Nat} (ho : ∀ k, k < m_n m → ∀ j, m_O m k = some j → j < k) : ∀ (n n' k : Nat), k < n → k < n' → k < m_n m → comN m t n (some k) = comN m t n' (some k)
  | 0, _, k, h1, _, _ => absurd h1 (by omega)
  | n + 1, 0, k, _, h2, _ => absurd h2 (by omega)
  | n + 1, n' + 1, k, h1, h2, h3 => by
    have hu : comN m t n (m_O m k) = comN m t n' (m_O m k) := by
      match hO : m_O m k with
      | none => cases n <;> cases n' <;> rfl
      | some j =>
        have hj := ho k h3 j hO
        exact comN_st ho n n' j (by omega) (by omega) (by omega)
    rw [comN, comN, hu]
theorem c_common {B : Nat} (hb : BrS x Y) (h : Site x (Y + 90) B m) {k t : Nat} (hk : k < m_n m) (ht : t < m_n m) (hN : 8 ≤ N) : f_X10_common N z Y (nI k) (nI t) x = some (com m k t, x) := by
  have hn := h.2.1
  unfold f_X10_common
  rw [getr_s hb.1, hb.2.2.2.1, obj_s h.k, lane_at h hk, bnd_s, getr_s hb.1, hb.2.2.2.1, obj_s h.k, lane_at h ht, bnd_s, if_neg (by simp), if_neg (by simp), coms_l h ht hN N k (by omega) hk, com, comN_st h.2.2.2.2.2.2.2.1 N 6 k (by omega) (by omega) hk]
/-- the lane with the eldest pail -/
def eldN (m : Md) : Nat → Nat → Int32 → Int32 → Int32
  | 0, _, b, _ => b
  | r + 1, k, b, e => if (m_Q m k).length = 0 then eldN m r (k + 1) b e else if b = -1 ∨ (m_Q m k).getD 0 0 < e then eldN m r (k + 1) (nI k) ((m_Q m k).getD 0 0) else eldN m r (k + 1) b e
theorem eld_l {B : Nat} (hb : BrS x Y) (h : Site x (Y + 90) B m) : ∀ (n r k : Nat) (b e : Int32), k + r = m_n m → r < n → f_X10_eldest_b6 N z n Y b e (nI k) x = some (eldN m r k b e, x)
  | 0, r, k, b, e, h1, h2 => absurd h2 (by omega)
  | n + 1, 0, k, b, e, h1, h2 => by
    have h6 := h.2.1
    unfold f_X10_eldest_b6
    rw [getr_s hb.1, hb.2.2.2.1, geti_s h.k, h.v (by decide), h.2.2.2.1, if_pos (nI_le (by omega) (by omega))]
    rfl
  | n + 1, r + 1, k, b, e, h1, h2 => by
    have h6 := h.2.1
    have hk : k < m_n m := by omega
    have hl := h.l hk
    have hq := hl.q
    have hq60 := hq.2.1
    unfold f_X10_eldest_b6
    rw [getr_s hb.1, hb.2.2.2.1, geti_s h.k, h.v (by decide), h.2.2.2.1, if_neg (nI_ge hk (by omega)), getr_s hb.1, hb.2.2.2.1, obj_s h.k, lane_at h hk, bnd_s, if_neg (by simp), getr_s hl.1, hl.2.1, geti_s hq.1.1, hq.2.2.1, eldN]
    unfold f_X10_eldest_b65 f_X10_eldest_b70
    rw [nI_1]
    by_cases c : (m_Q m k).length = 0
    · rw [if_pos c, c, if_pos (by decide)]
      exact eld_l hb h n r (k + 1) b e (by omega) (by omega)
    · have qa : f_X4_at N z (Y + 90 + 5 + 3 * k + 1) 0 x = some ((m_Q m k).getD 0 0, x) := queue_at (p := 0) hq (by omega)
      rw [if_neg c, if_neg (nI_nle (by omega) (by omega)), getr_s hl.1, hl.2.1, obj_s hq.1.1, qa, bnd_s]
      by_cases d : b = -1
      · rw [if_pos d, if_pos (Or.inl d)]
        exact eld_l hb h n r (k + 1) _ _ (by omega) (by omega)
      · rw [if_neg d]
        by_cases f : e ≤ (m_Q m k).getD 0 0
        · rw [if_pos f, if_neg (fun q => q.elim d (fun q => absurd f (Int32.not_le.mpr q)))]
          exact eld_l hb h n r (k + 1) _ _ (by omega) (by omega)
        · rw [if_neg f, if_pos (Or.inr (Int32.not_le.mp f))]
          exact eld_l hb h n r (k + 1) _ _ (by omega) (by omega)
theorem c_eldest {B : Nat} (hb : BrS x Y) (h : Site x (Y + 90) B m) (hN : 8 ≤ N) : f_X10_eldest N z Y x = some (eldN m (m_n m) 0 (-1) 0, x) := by
  have h6 := h.2.1
  unfold f_X10_eldest
  exact eld_l hb h N (m_n m) 0 (-1) 0 (by omega) (by omega)
end CF
/-! doubles that are no NaN -/
theorem mean_num (w s : Int32) (hs : s ≠ 0) : FP.ddiv (FP.i2d w) (FP.i2d s) &&& 0x7fffffffffffffff ≤ 0x7ff0000000000000 := by
  have h1 : FP.Core.dIsNaN (FP.Core.ddiv (FP.Core.i2d w) (FP.Core.i2d s)) = false := FP.Core.ddiv_out ((FP.Core.notNaN_iff _).mpr (FP.Core.i2d_fin w).ne_nan) (FP.Core.i2d_fin s) (fun h => FP.Core.i2d_ne_zero hs ((FP.Core.zero_bits2 _).mp h))
  have h2 : ¬ FP.Core.dIsNaN (FP.Core.ddiv (FP.Core.i2d w) (FP.Core.i2d s)) = true := by rw [h1]; decide
  rw [FP.Core.isNaN_bits] at h2
  rw [UInt64.le_iff_toNat_le, FP.Core.mask_toNat]
  have h3 : (0x7ff0000000000000 : UInt64).toNat = 9218868437227405312 := by decide
  rw [h3]
  exact Nat.le_of_not_lt h2
theorem mean_same (w s : Int32) (hs : s ≠ 0) : FP.dcmp (FP.ddiv (FP.i2d w) (FP.i2d s)) (FP.ddiv (FP.i2d w) (FP.i2d s)) = some .eq :=
  FP.Core.dcmp_refl (FP.Core.ddiv_out ((FP.Core.notNaN_iff _).mpr (FP.Core.i2d_fin w).ne_nan) (FP.Core.i2d_fin s) (fun h => FP.Core.i2d_ne_zero hs ((FP.Core.zero_bits2 _).mp h)))
theorem zero_same : FP.dcmp FP.dconst0 FP.dconst0 = some .eq := by decide +kernel
section CE
variable {N : Nat} {z : Nat → Nat} {Y : Nat} {x : Hp} {m : Md}
/-- sums over lanes of any number of theirs -/
def sumG (f : Nat → Int32) : Nat → Nat → Int32 → Int32
  | 0, _, v => v
  | r + 1, k, v => sumG f r (k + 1) (v + f k)
def meanM (m : Md) : UInt64 := if sumG (fun k => m_A m k 86) (m_n m) 0 0 = 0 then FP.dconst0 else FP.ddiv (FP.i2d (sumG (fun k => m_A m k 89) (m_n m) 0 0)) (FP.i2d (sumG (fun k => m_A m k 86) (m_n m) 0 0))
theorem mean_l {B : Nat} (hb : BrS x Y) (h : Site x (Y + 90) B m) : ∀ (n r k : Nat) (v w : Int32), k + r = m_n m → r < n → f_X10_mean_b6 N z n Y v w (nI k) x = some (if sumG (fun k => m_A m k 86) r k v = 0 then FP.dconst0 else FP.ddiv (FP.i2d (sumG (fun k => m_A m k 89) r k w)) (FP.i2d (sumG (fun k => m_A m k 86) r k v)), x)
  | 0, r, k, v, w, h1, h2 => absurd h2 (by omega)
  | n + 1, 0, k, v, w, h1, h2 => by
    have h6 := h.2.1
    unfold f_X10_mean_b6
    rw [getr_s hb.1, hb.2.2.2.1, geti_s h.k, h.v (by decide), h.2.2.2.1, if_pos (nI_le (by omega) (by omega))]
    unfold sumG
    by_cases c : v = 0
    · rw [if_pos c, if_pos c]
    · rw [if_neg c, if_neg c, nnan, if_pos (mean_num w v c)]
  | n + 1, r + 1, k, v, w, h1, h2 => by
    have h6 := h.2.1
    have hk : k < m_n m := by omega
    have hl := h.l hk
    unfold f_X10_mean_b6
    rw [getr_s hb.1, hb.2.2.2.1, geti_s h.k, h.v (by decide), h.2.2.2.1, if_neg (nI_ge hk (by omega)), getr_s hb.1, hb.2.2.2.1, obj_s h.k, lane_at h hk, bnd_s, if_neg (by simp), geti_s hl.1, hl.a (by decide), geti_s hl.1, hl.a (by decide)]
    unfold f_X10_mean_b48
    rw [nI_1, sumG, sumG]
    exact mean_l hb h n r (k + 1) _ _ (by omega) (by omega)
theorem c_mean {B : Nat} (hb : BrS x Y) (h : Site x (Y + 90) B m) (hN : 8 ≤ N) : f_X10_mean N z Y x = some (meanM m, x) := by
  have h6 := h.2.1
  unfold f_X10_mean
  exact mean_l hb h N (m_n m) 0 0 0 (by omega) (by omega)
end CE
section CO
variable {N : Nat} {z : Nat → Nat} {Y : Nat} {m : Md}
theorem fore_0 {x : Hp} {ods : List Od} {w n : Nat} (hb : BrS x Y) (h : Site x (Y + 121) (Y + 66) m) (hk : BkO x (Y + 66) (m_n m) ods) (hw : w < 12) (hN : 8 ≤ N) : f_X10_foresee_b55 N z (n + 1) Y 1 (nI w) (0 + 1) x = some (tallyM m ods.length w, x) := by
  unfold f_X10_foresee_b55
  rw [if_pos (by decide), getr_s hb.1, hb.2.2.2.2.1, obj_s h.k, tally_s h hk hw hN, bnd_s]
theorem fore_1 {x : Hp} {ods : List Od} {w n : Nat} (hN : 401 ≤ N) (hb : BrS x Y) (h : Site x (Y + 121) (Y + 66) m) (hk : BkO x (Y + 66) (m_n m) ods) (hm : WfM m) (hn : m_n (passM ods m).1 = m_n m) (hw : w < 12) : ∃ y, f_X10_foresee_b55 N z (n + 2) Y 1 (nI w) 0 x = some (tallyM (passM ods m).1 ods.length w, y) ∧ SiteS y (Y + 121) (Y + 66) ∧ Fr x y (Y + 121) (Y + 152) := by
  obtain ⟨u, d1, d2, d3⟩ := go_minute (N := N) (z := z) (by omega) hN h hk hm
  have d3' : Fr x u (Y + 121) (Y + 152) := d3
  have e := fore_0 (N := N) (z := z) (n := n) (w := w) (hb.fr d3' (by omega)) d2 (by rw [hn]; exact hk.fr d3' (by omega)) hw (by omega)
  refine ⟨u, ?_, d2.1, d3'⟩
  unfold f_X10_foresee_b55
  rw [if_neg (by decide), getr_s hb.1, hb.2.2.2.2.1, obj_s h.k, d1, bnd_s]
  exact e
theorem c_foresee {x : Hp} {ods : List Od} {w : Nat} (hN : 401 ≤ N) (hb : BrS x Y) (h : Site x (Y + 90) (Y + 66) m) (ha : SiteS x (Y + 121) (Y + 66)) (hk : BkO x (Y + 66) (m_n m) ods) (hc : Cpy m) (hm : WfM m) (hn : m_n (passM ods m).1 = m_n m) (h1 : 5 ≤ w) (h2 : w < 12) : ∃ y, f_X10_foresee N z Y 1 (nI w) x = some (tallyM (passM ods m).1 ods.length w, y) ∧ SiteS y (Y + 121) (Y + 66) ∧ Fr x y (Y + 121) (Y + 152) := by
  obtain ⟨y, e1, e2, e3⟩ := site_copy (N := N) (z := z) (s := Y + 121) (s' := Y + 90) (by omega) hc (by omega) ha h
  rw [cutM_id h.2.2.2.1 h.2.2.2.2.1] at e2
  have e3' : Fr x y (Y + 121) (Y + 152) := e3
  obtain ⟨n, hn2⟩ : ∃ n, N = n + 2 := ⟨N - 2, by omega⟩
  obtain ⟨u, d1, d2, d3⟩ := fore_1 (N := N) (z := z) (n := n) (w := w) hN (hb.fr e3' (by omega)) e2 (hk.fr e3' (by omega)) hm hn h2
  rw [← hn2] at d1
  refine ⟨u, ?_, d2, e3'.tr d3⟩
  unfold f_X10_foresee
  rw [if_neg (by decide), if_pos (by decide), if_neg (show ¬ nI w < (5 : Int32) from nI_nlt (b := 5) h1 (by omega)), if_pos (show nI w ≤ (11 : Int32) from nI_le (b := 11) (by omega) (by omega)), getr_s hb.1, hb.2.2.2.2.1, getr_s hb.1, hb.2.2.2.1, obj_s ha.1, e1, bnd_s]
  exact d1
end CO
