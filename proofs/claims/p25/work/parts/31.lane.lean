/-! ===== a lane of the class: its numbers A by their field, its queue, what it is under ===== -/
def fl (f : Nat) : Prop := f = 80 ∨ (83 ≤ f ∧ f < 98)
def up1 {α : Type} (A : Nat → α) (f : Nat) (v : α) : Nat → α := fun g => if g = f then v else A g
theorem fl_cases {f : Nat} (h : fl f) : f = 80 ∨ f = 83 ∨ f = 84 ∨ f = 85 ∨ f = 86 ∨ f = 87 ∨ f = 88 ∨ f = 89 ∨ f = 90 ∨ f = 91 ∨ f = 92 ∨ f = 93 ∨ f = 94 ∨ f = 95 ∨ f = 96 ∨ f = 97 := by unfold fl at h; omega
def LaneS (x : Hp) (a : Nat) : Prop := h_k x a = 5 ∧ h_r x 81 a = some (a + 1) ∧ QS x (a + 1)
def LaneR (x : Hp) (a : Nat) (A : Nat → Int32) (Q : List Int32) (O : Option Nat) : Prop := h_k x a = 5 ∧ h_r x 81 a = some (a + 1) ∧ h_r x 82 a = O ∧ (∀ f, fl f → h_i x f a = A f) ∧ QR x (a + 1) Q
theorem fl_n (n : Nat) (h : n = 80 ∨ (83 ≤ n ∧ n < 98)) : fl n := h
theorem LaneR.s {x : Hp} {a : Nat} {A : Nat → Int32} {Q : List Int32} {O : Option Nat} (h : LaneR x a A Q O) : LaneS x a := ⟨h.1, h.2.1, h.2.2.2.2.1⟩
theorem LaneR.a {x : Hp} {a : Nat} {A : Nat → Int32} {Q : List Int32} {O : Option Nat} (h : LaneR x a A Q O) {f : Nat} (hf : f = 80 ∨ (83 ≤ f ∧ f < 98)) : h_i x f a = A f := h.2.2.2.1 f hf
theorem LaneR.q {x : Hp} {a : Nat} {A : Nat → Int32} {Q : List Int32} {O : Option Nat} (h : LaneR x a A Q O) : QR x (a + 1) Q := h.2.2.2.2
theorem LaneS.fr {x y : Hp} {a lo hi : Nat} (h : LaneS x a) (g : Fr x y lo hi) (hd : a + 3 ≤ lo ∨ hi ≤ a) : LaneS y a := by
  obtain ⟨h1, h2, h3⟩ := h
  exact ⟨g.k.trans h1, (g.r (by omega)).trans h2, h3.fr g (by omega)⟩
theorem LaneR.fr {x y : Hp} {a lo hi : Nat} {A : Nat → Int32} {Q : List Int32} {O : Option Nat} (h : LaneR x a A Q O) (g : Fr x y lo hi) (hd : a + 3 ≤ lo ∨ hi ≤ a) : LaneR y a A Q O := by
  obtain ⟨h1, h2, h3, h4, h5⟩ := h
  exact ⟨g.k.trans h1, (g.r (by omega)).trans h2, (g.r (by omega)).trans h3, fun f hf => (g.i (by omega)).trans (h4 f hf), h5.fr g (by omega)⟩
theorem LaneR.pi {x : Hp} {a f : Nat} {v : Int32} {A : Nat → Int32} {Q : List Int32} {O : Option Nat} (h : LaneR x a A Q O) (hf : f < 120) : LaneR (p_i x f a v) a (up1 A f v) Q O := by
  obtain ⟨h1, h2, h3, h4, h5⟩ := h
  refine ⟨h1, h2, h3, fun g hg => ?_, h5.pi (by omega) (by omega)⟩
  rw [p_i_i, up1]
  by_cases c : g = f
  · rw [if_pos ⟨c, rfl⟩, if_pos c]
  · rw [if_neg (fun e => c e.1), if_neg c]
    exact h4 g hg
theorem LaneR.qr {x y : Hp} {a : Nat} {A : Nat → Int32} {Q Q' : List Int32} {O : Option Nat} (h : LaneR x a A Q O) (g : Fr x y (a + 1) (a + 3)) (hq : QR y (a + 1) Q') : LaneR y a A Q' O := by
  obtain ⟨h1, h2, h3, h4, h5⟩ := h
  exact ⟨g.k.trans h1, (g.r (by omega)).trans h2, (g.r (by omega)).trans h3, fun f hf => (g.i (by omega)).trans (h4 f hf), hq⟩
theorem LaneR.cg {x : Hp} {a : Nat} {A A' : Nat → Int32} {Q : List Int32} {O : Option Nat} (h : LaneR x a A Q O) (g : ∀ f, fl f → A f = A' f) : LaneR x a A' Q O := ⟨h.1, h.2.1, h.2.2.1, fun f hf => (h.2.2.2.1 f hf).trans (g f hf), h.2.2.2.2⟩
/-- the same, whatever the queue holds -/
def LaneH (x : Hp) (a : Nat) (A : Nat → Int32) (O : Option Nat) : Prop := h_k x a = 5 ∧ h_r x 81 a = some (a + 1) ∧ h_r x 82 a = O ∧ (∀ f, fl f → h_i x f a = A f) ∧ QS x (a + 1)
theorem LaneH.pi {x : Hp} {a f : Nat} {v : Int32} {A : Nat → Int32} {O : Option Nat} (h : LaneH x a A O) : LaneH (p_i x f a v) a (up1 A f v) O := by
  obtain ⟨h1, h2, h3, h4, h5⟩ := h
  refine ⟨h1, h2, h3, fun g hg => ?_, h5⟩
  rw [p_i_i, up1]
  by_cases c : g = f
  · rw [if_pos ⟨c, rfl⟩, if_pos c]
  · rw [if_neg (fun e => c e.1), if_neg c]
    exact h4 g hg
section LN
variable {x : Hp} {N : Nat} {z : Nat → Nat} {a : Nat} {A : Nat → Int32} {Q : List Int32} {O : Option Nat}
theorem lane_full (h : LaneR x a A Q O) : f_X2_isFull N z a x = some (if nI Q.length < A 93 then 0 else 1, x) := by
  obtain ⟨h1, h2, h3, h4, h5⟩ := id h
  unfold f_X2_isFull
  rw [getr_s h1, h2, geti_s h5.1.1, h5.2.2.1, geti_s h1, h.a (by decide)]
  split <;> rfl
def tkA (A : Nat → Int32) (Q : List Int32) : Nat → Int32 := if nI Q.length < A 93 then A else up1 A 87 (A 87 + 1)
def tkQ (m : Int32) (A : Nat → Int32) (Q : List Int32) : List Int32 := if nI Q.length < A 93 then Q ++ [m] else if A 94 = 0 then Q else Q.drop 1 ++ [m]
theorem lane_take32 {m : Int32} (h : LaneR x a A Q O) (hl : Q.length < 60) : ∃ y, f_X2_takePail_b32 N z a m x = some ((), y) ∧ LaneR y a A (Q ++ [m]) O ∧ Fr x y a (a + 3) := by
  obtain ⟨h1, h2, h3, h4, h5⟩ := id h
  obtain ⟨y, e1, e2, e3⟩ := queue_add (N := N) (z := z) (m := m) h5 hl
  refine ⟨y, ?_, h.qr e3 e2, e3.wd (by omega) (by omega)⟩
  unfold f_X2_takePail_b32
  rw [getr_s h1, h2, obj_s h5.1.1, e1, bnd_s]
theorem lane_take {m : Int32} {H : Nat} (h : LaneR x a A Q O) (hH : A 93 = nI H) (hp : 1 ≤ H) (hs : H ≤ 60) (hQ : Q.length ≤ H) : ∃ y, f_X2_takePail N z a m x = some ((), y) ∧ LaneR y a (tkA A Q) (tkQ m A Q) O ∧ Fr x y a (a + 3) := by
  obtain ⟨h1, h2, h3, h4, h5⟩ := id h
  unfold f_X2_takePail
  rw [obj_s h1, lane_full h, bnd_s]
  by_cases c : nI Q.length < A 93
  · have hl : Q.length < H := by
      rw [hH] at c
      exact (nI_ltI (by omega) (by omega)).mp c
    rw [if_pos c, if_pos rfl]
    simp only [tkA, tkQ, if_pos c]
    exact lane_take32 h (by omega)
  · rw [if_neg c, if_neg (by decide), geti_s h1, puti_s h1, geti_s (by exact h1)]
    simp only [tkA, tkQ, if_neg c]
    have g : LaneR (p_i x 87 a (h_i x 87 a + 1)) a (up1 A 87 (A 87 + 1)) Q O := by
      rw [h.a (by decide)]
      exact h.pi (by decide)
    rw [p_i_ne (by decide), h.a (f := 94) (by decide)]
    have f1 : Fr x (p_i x 87 a (h_i x 87 a + 1)) a (a + 3) := Fr.pi ⟨by omega, by omega⟩
    by_cases d : A 94 = 0
    · rw [if_pos d, if_pos d]
      exact ⟨_, rfl, g, f1⟩
    · rw [if_neg d, if_neg d, getr_s (by exact h1), show h_r (p_i x 87 a (h_i x 87 a + 1)) 81 a = some (a + 1) from h2, obj_s (by exact h5.1.1)]
      have hl : Q.length = H := by
        rw [hH] at c
        have := mt (nI_ltI (a := Q.length) (b := H) (by omega) (by omega)).mpr c
        omega
      match Q, hl, g with
      | [], hl, g => exact absurd hl (by simp; omega)
      | q :: r, hl, g =>
        obtain ⟨y, e1, e2, e3⟩ := queue_drop (N := N) (z := z) g.q
        rw [e1, bnd_s]
        obtain ⟨w, d1, d2, d3⟩ := lane_take32 (N := N) (z := z) (m := m) (g.qr e3 e2) (by simp at hl; omega)
        exact ⟨w, d1, d2, (f1.tr (e3.wd (by omega) (by omega))).tr d3⟩
theorem lane_get {v : Int32} (h : LaneR x a A Q O) : ∃ y, f_X2_getTokens N z a v x = some ((), y) ∧ LaneR y a (up1 A 85 (if A 85 + v < A 91 then A 85 + v else A 91)) Q O ∧ Fr x y a (a + 3) := by
  unfold f_X2_getTokens
  rw [geti_s h.1, geti_s h.1, puti_s h.1, h.a (f := 85) (by decide), h.a (f := 91) (by decide)]
  exact ⟨_, rfl, h.pi (by decide), Fr.pi ⟨by omega, by omega⟩⟩
def bgA (A : Nat → Int32) : Nat → Int32 := up1 (up1 (up1 A 90 0) 96 0) 97 0
theorem lane_begin (h : LaneR x a A Q O) : ∃ y, f_X2_beginMinute N z a x = some ((), y) ∧ LaneR y a (bgA A) Q O ∧ Fr x y a (a + 3) := by
  unfold f_X2_beginMinute
  rw [puti_s h.1, puti_s (by exact h.1), puti_s (by exact h.1)]
  exact ⟨_, rfl, ((h.pi (by decide)).pi (by decide)).pi (by decide), ((Fr.pi ⟨by omega, by omega⟩).tr (Fr.pi ⟨by omega, by omega⟩)).tr (Fr.pi ⟨by omega, by omega⟩)⟩
def tellA (A : Nat → Int32) (v2 v3 v4 v5 v6 v7 : Int32) : Nat → Int32 := bgA (up1 (up1 (up1 (up1 (up1 (up1 (up1 (up1 (up1 (up1 (up1 (up1 A 83 v2) 84 v3) 91 v4) 92 v5) 93 v6) 94 v7) 85 v4) 86 0) 87 0) 95 0) 88 0) 89 0)
theorem lane_begin_h (h : LaneH x a A O) : ∃ y, f_X2_beginMinute N z a x = some ((), y) ∧ LaneH y a (bgA A) O ∧ Fr x y a (a + 3) := by
  unfold f_X2_beginMinute
  rw [puti_s h.1, puti_s (by exact h.1), puti_s (by exact h.1)]
  exact ⟨_, rfl, h.pi.pi.pi, ((Fr.pi ⟨by omega, by omega⟩).tr (Fr.pi ⟨by omega, by omega⟩)).tr (Fr.pi ⟨by omega, by omega⟩)⟩
theorem lane_tell {v1 : Option Nat} {v2 v3 v4 v5 v6 v7 : Int32} (h : LaneS x a) (h7 : v7 = 0 ∨ v7 = 1) : ∃ y, f_X2_tell N z a v1 v2 v3 v4 v5 v6 v7 x = some ((), y) ∧ LaneR y a (tellA (fun f => h_i x f a) v2 v3 v4 v5 v6 v7) [] v1 ∧ Fr x y a (a + 3) := by
  obtain ⟨h1, h2, h3⟩ := h
  have e91 : ∀ w : Hp, h_i (p_i (p_i (p_i (p_i w 91 a v4) 92 a v5) 93 a v6) 94 a v7) 91 a = v4 := fun w => by simp [p_i_i]
  unfold f_X2_tell
  rw [putr_s h1, puti_s (by exact h1), puti_s (by exact h1), puti_s (by exact h1), puti_s (by exact h1), puti_s (by exact h1), bool, if_pos h7, puti_s (by exact h1), geti_s (by exact h1), puti_s (by exact h1), puti_s (by exact h1), puti_s (by exact h1), puti_s (by exact h1), puti_s (by exact h1), puti_s (by exact h1), obj_s (by exact h1), e91]
  have g0 : LaneH (p_r x 82 a v1) a (fun f => h_i x f a) v1 := ⟨h1, (p_r_ne (by decide)).trans h2, p_r_eq, fun f hf => rfl, h3.1, (p_r_ne (by decide)).trans h3.2.1, h3.2.2⟩
  have f0 : Fr x (p_r x 82 a v1) a (a + 3) := Fr.pr ⟨by omega, by omega⟩
  have fp : ∀ (w : Hp) (f : Nat) (v : Int32), Fr w (p_i w f a v) a (a + 3) := fun w f v => Fr.pi ⟨by omega, by omega⟩
  have g := ((((((((((((g0.pi (f := 83) (v := v2)).pi (f := 84) (v := v3)).pi (f := 91) (v := v4)).pi (f := 92) (v := v5)).pi (f := 93) (v := v6)).pi (f := 94) (v := v7)).pi (f := 85) (v := v4)).pi (f := 86) (v := 0)).pi (f := 87) (v := 0)).pi (f := 95) (v := 0)).pi (f := 88) (v := 0)).pi (f := 89) (v := 0))
  have ff := ((((((((((((f0.tr (fp _ 83 v2)).tr (fp _ 84 v3)).tr (fp _ 91 v4)).tr (fp _ 92 v5)).tr (fp _ 93 v6)).tr (fp _ 94 v7)).tr (fp _ 85 v4)).tr (fp _ 86 0)).tr (fp _ 87 0)).tr (fp _ 95 0)).tr (fp _ 88 0)).tr (fp _ 89 0))
  obtain ⟨y, e1, e2, e3⟩ := lane_begin_h (N := N) (z := z) g
  rw [e1, bnd_s, getr_s e2.1, e2.2.1, obj_s e2.2.2.2.2.1]
  obtain ⟨w, d1, d2, d3⟩ := queue_clear (N := N) (z := z) e2.2.2.2.2
  rw [d1, bnd_s]
  refine ⟨w, rfl, ⟨d3.k.trans e2.1, (d3.r (by omega)).trans e2.2.1, (d3.r (by omega)).trans e2.2.2.1, fun f hf => (d3.i (by omega)).trans (e2.2.2.2.1 f hf), d2⟩, (ff.tr e3).tr (d3.wd (by omega) (by omega))⟩
theorem lane_copy {a' : Nat} {A' : Nat → Int32} {Q' : List Int32} {O' : Option Nat} {v2 : Option Nat} (h : LaneS x a) (g : LaneR x a' A' Q' O') (hd : a + 3 ≤ a' ∨ a' + 3 ≤ a) (h0 : h_i x 80 a = A' 80) (hb : A' 94 = 0 ∨ A' 94 = 1) (hz : A' 90 = 0 ∧ A' 96 = 0 ∧ A' 97 = 0) (hN : 61 ≤ N) : ∃ y, f_X2_copyFrom N z a (some a') v2 x = some ((), y) ∧ LaneR y a A' Q' v2 ∧ Fr x y a (a + 3) := by
  obtain ⟨z1, z2, z3⟩ := hz
  unfold f_X2_copyFrom
  rw [geti_s g.1, geti_s g.1, geti_s g.1, geti_s g.1, geti_s g.1, geti_s g.1, obj_s h.1, g.a (f := 83) (by decide), g.a (f := 84) (by decide), g.a (f := 91) (by decide), g.a (f := 92) (by decide), g.a (f := 93) (by decide), g.a (f := 94) (by decide)]
  obtain ⟨y, e1, e2, e3⟩ := lane_tell (N := N) (z := z) (v1 := v2) (v2 := A' 83) (v3 := A' 84) (v4 := A' 91) (v5 := A' 92) (v6 := A' 93) h hb
  rw [e1, bnd_s]
  have g' := g.fr e3 (by omega)
  have k1 := e2.1
  have kp : ∀ (w : Hp) (f : Nat) (v : Int32) (f' : Nat), h_i (p_i w f a v) f' a' = h_i w f' a' := fun w f v f' => p_i_na (by omega)
  rw [geti_s g'.1, puti_s k1, geti_s (by exact g'.1), puti_s (by exact k1), geti_s (by exact g'.1), puti_s (by exact k1), geti_s (by exact g'.1), puti_s (by exact k1), geti_s (by exact g'.1), puti_s (by exact k1), geti_s (by exact g'.1), puti_s (by exact k1), getr_s (by exact k1), getr_s (by exact g'.1)]
  simp only [kp, g'.a (f := 85) (by decide), g'.a (f := 86) (by decide), g'.a (f := 87) (by decide), g'.a (f := 95) (by decide), g'.a (f := 88) (by decide), g'.a (f := 89) (by decide)]
  have fp : ∀ (w : Hp) (f : Nat) (v : Int32), Fr w (p_i w f a v) a (a + 3) := fun w f v => Fr.pi ⟨by omega, by omega⟩
  have q := (((((e2.pi (f := 85) (v := A' 85) (by decide)).pi (f := 86) (v := A' 86) (by decide)).pi (f := 87) (v := A' 87) (by decide)).pi (f := 95) (v := A' 95) (by decide)).pi (f := 88) (v := A' 88) (by decide)).pi (f := 89) (v := A' 89) (by decide)
  have ff := (((((e3.tr (fp _ 85 (A' 85))).tr (fp _ 86 (A' 86))).tr (fp _ 87 (A' 87))).tr (fp _ 95 (A' 95))).tr (fp _ 88 (A' 88))).tr (fp _ 89 (A' 89))
  have g2 := g.fr ff (by omega)
  rw [show h_r (p_i (p_i (p_i (p_i (p_i (p_i y 85 a (A' 85)) 86 a (A' 86)) 87 a (A' 87)) 95 a (A' 95)) 88 a (A' 88)) 89 a (A' 89)) 81 a = some (a + 1) from q.2.1, show h_r (p_i (p_i (p_i (p_i (p_i (p_i y 85 a (A' 85)) 86 a (A' 86)) 87 a (A' 87)) 95 a (A' 95)) 88 a (A' 88)) 89 a (A' 89)) 81 a' = some (a' + 1) from g2.2.1, obj_s (by exact q.q.1.1)]
  obtain ⟨w, d1, d2, d3⟩ := queue_copy (N := N) (z := z) q.q.1 g2.q (by omega) hN
  rw [d1, bnd_s]
  refine ⟨w, rfl, (q.qr d3 d2).cg fun f hf => ?_, ff.tr (d3.wd (by omega) (by omega))⟩
  rcases fl_cases hf with c | c | c | c | c | c | c | c | c | c | c | c | c | c | c | c <;> subst c <;> simp [up1, tellA, bgA, h0, z1, z2, z3]
/-- what a fact of a lane is -/
def factM (A : Nat → Int32) (Q : List Int32) (ov : Int32) (w : Nat) : Int32 := if w = 0 then ov else if w = 1 then A 83 else if w = 2 then A 84 else if w = 3 then A 91 else if w = 4 then A 92 else if w = 5 then A 85 else if w = 6 then nI Q.length else if w = 7 then A 93 else if w = 8 then A 86 else if w = 9 then A 87 else if w = 10 then A 95 else if w = 11 then A 88 else A 89
def ovI (x : Hp) (O : Option Nat) (ov : Int32) : Prop := match O with | none => ov = -1 | some b => h_k x b = 5 ∧ h_i x 80 b = ov
theorem lane_fact {ov : Int32} {w : Nat} (h : LaneR x a A Q O) (ho : ovI x O ov) (hw : w < 13) : f_X2_fact N z a (nI w) x = some (factM A Q ov w, x) := by
  obtain ⟨h1, h2, h3, h4, h5⟩ := id h
  have c : w = 0 ∨ w = 1 ∨ w = 2 ∨ w = 3 ∨ w = 4 ∨ w = 5 ∨ w = 6 ∨ w = 7 ∨ w = 8 ∨ w = 9 ∨ w = 10 ∨ w = 11 ∨ w = 12 := by omega
  unfold f_X2_fact
  rcases c with c | c | c | c | c | c | c | c | c | c | c | c | c <;> subst c
  · rw [if_pos (by decide), getr_s h1, h3]
    match O, ho with
    | none, ho => exact congrArg (fun v => some (v, x)) ho.symm
    | some b, ho =>
      rw [if_neg (by simp), getr_s h1, h3, geti_s ho.1, ho.2]
      rfl
  · rw [if_neg (by decide), if_pos (by decide), geti_s h1, h.a (by decide)]; rfl
  · rw [if_neg (by decide), if_neg (by decide), if_pos (by decide), geti_s h1, h.a (by decide)]; rfl
  · rw [if_neg (by decide), if_neg (by decide), if_neg (by decide), if_pos (by decide), geti_s h1, h.a (by decide)]; rfl
  · rw [if_neg (by decide), if_neg (by decide), if_neg (by decide), if_neg (by decide), if_pos (by decide), geti_s h1, h.a (by decide)]; rfl
  · rw [if_neg (by decide), if_neg (by decide), if_neg (by decide), if_neg (by decide), if_neg (by decide), if_pos (by decide), geti_s h1, h.a (by decide)]; rfl
  · rw [if_neg (by decide), if_neg (by decide), if_neg (by decide), if_neg (by decide), if_neg (by decide), if_neg (by decide), if_pos (by decide), getr_s h1, h2, geti_s h5.1.1, h5.2.2.1]; rfl
  · rw [if_neg (by decide), if_neg (by decide), if_neg (by decide), if_neg (by decide), if_neg (by decide), if_neg (by decide), if_neg (by decide), if_pos (by decide), geti_s h1, h.a (by decide)]; rfl
  · rw [if_neg (by decide), if_neg (by decide), if_neg (by decide), if_neg (by decide), if_neg (by decide), if_neg (by decide), if_neg (by decide), if_neg (by decide), if_pos (by decide), geti_s h1, h.a (by decide)]; rfl
  · rw [if_neg (by decide), if_neg (by decide), if_neg (by decide), if_neg (by decide), if_neg (by decide), if_neg (by decide), if_neg (by decide), if_neg (by decide), if_neg (by decide), if_pos (by decide), geti_s h1, h.a (by decide)]; rfl
  · rw [if_neg (by decide), if_neg (by decide), if_neg (by decide), if_neg (by decide), if_neg (by decide), if_neg (by decide), if_neg (by decide), if_neg (by decide), if_neg (by decide), if_neg (by decide), if_pos (by decide), geti_s h1, h.a (by decide)]; rfl
  · rw [if_neg (by decide), if_neg (by decide), if_neg (by decide), if_neg (by decide), if_neg (by decide), if_neg (by decide), if_neg (by decide), if_neg (by decide), if_neg (by decide), if_neg (by decide), if_neg (by decide), if_pos (by decide), geti_s h1, h.a (by decide)]; rfl
  · rw [if_neg (by decide), if_neg (by decide), if_neg (by decide), if_neg (by decide), if_neg (by decide), if_neg (by decide), if_neg (by decide), if_neg (by decide), if_neg (by decide), if_neg (by decide), if_neg (by decide), if_neg (by decide), geti_s h1, h.a (by decide)]; rfl
/-- what a lane knows, by the sign in a sum or test -/
def knownM (A : Nat → Int32) (Q : List Int32) (w : Nat) : Int32 := if w = 22 then A 85 else if w = 23 then nI Q.length else if w = 24 then A 86 else if w = 25 then A 87 else if w = 26 then A 95 else if w = 27 then (if nI Q.length < A 93 then 0 else 1) else if A 85 = 0 then 1 else 0
theorem lane_known {w : Nat} (h : LaneR x a A Q O) (hw : 22 ≤ w ∧ w < 29) : f_X2_known N z a (nI w) x = some (knownM A Q w, x) := by
  obtain ⟨h1, h2, h3, h4, h5⟩ := id h
  have c : w = 22 ∨ w = 23 ∨ w = 24 ∨ w = 25 ∨ w = 26 ∨ w = 27 ∨ w = 28 := by omega
  unfold f_X2_known
  rcases c with c | c | c | c | c | c | c <;> subst c
  · rw [if_pos (by decide), geti_s h1, h.a (by decide)]; rfl
  · rw [if_neg (by decide), if_pos (by decide), getr_s h1, h2, geti_s h5.1.1, h5.2.2.1]; rfl
  · rw [if_neg (by decide), if_neg (by decide), if_pos (by decide), geti_s h1, h.a (by decide)]; rfl
  · rw [if_neg (by decide), if_neg (by decide), if_neg (by decide), if_pos (by decide), geti_s h1, h.a (by decide)]; rfl
  · rw [if_neg (by decide), if_neg (by decide), if_neg (by decide), if_neg (by decide), if_pos (by decide), geti_s h1, h.a (by decide)]; rfl
  · rw [if_neg (by decide), if_neg (by decide), if_neg (by decide), if_neg (by decide), if_neg (by decide), if_pos (by decide), obj_s h1, lane_full h, bnd_s]
    by_cases d : nI Q.length < A 93
    · rw [if_pos d, if_pos rfl]; simp [knownM, d]
    · rw [if_neg d, if_neg (by decide)]; simp [knownM, d]
  · rw [if_neg (by decide), if_neg (by decide), if_neg (by decide), if_neg (by decide), if_neg (by decide), if_neg (by decide), geti_s h1, h.a (by decide)]
    by_cases d : A 85 = 0
    · rw [if_pos d]; simp [knownM, d]
    · rw [if_neg d]; simp [knownM, d]
end LN
