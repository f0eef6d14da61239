/-! Segments in whole numbers: arrow 2k starts at the left (or lower) end of segment k, arrow 2k+1 at the other -/
def lf (tx ty : Nat → Int) (k : Nat) (x y : Int) : Int := (tx (2 * k + 1) - tx (2 * k)) * (y - ty (2 * k)) - (ty (2 * k + 1) - ty (2 * k)) * (x - tx (2 * k))
def dt (tx ty : Nat → Int) (k : Nat) (x y : Int) : Int := (tx (2 * k) - x) * (tx (2 * k + 1) - x) + (ty (2 * k) - y) * (ty (2 * k + 1) - y)
def ins (tx ty : Nat → Int) (k : Nat) (x y : Int) : Prop := lf tx ty k x y = 0 ∧ dt tx ty k x y < 0
def opp (tx ty : Nat → Int) (k j : Nat) : Prop := (lf tx ty k (tx (2 * j)) (ty (2 * j)) < 0 ∧ 0 < lf tx ty k (tx (2 * j + 1)) (ty (2 * j + 1))) ∨ (0 < lf tx ty k (tx (2 * j)) (ty (2 * j)) ∧ lf tx ty k (tx (2 * j + 1)) (ty (2 * j + 1)) < 0)
def sameE (tx ty : Nat → Int) (k j : Nat) : Prop := tx (2 * k) = tx (2 * j) ∧ ty (2 * k) = ty (2 * j) ∧ tx (2 * k + 1) = tx (2 * j + 1) ∧ ty (2 * k + 1) = ty (2 * j + 1)
def meetI (tx ty : Nat → Int) (k j : Nat) : Prop := sameE tx ty k j ∨ (ins tx ty k (tx (2 * j)) (ty (2 * j)) ∨ ins tx ty k (tx (2 * j + 1)) (ty (2 * j + 1))) ∨ (ins tx ty j (tx (2 * k)) (ty (2 * k)) ∨ ins tx ty j (tx (2 * k + 1)) (ty (2 * k + 1))) ∨ (opp tx ty k j ∧ opp tx ty j k)
def prp (tx ty : Nat → Int) (k : Nat) : Prop := tx (2 * k) < tx (2 * k + 1) ∨ (tx (2 * k) = tx (2 * k + 1) ∧ ty (2 * k) < ty (2 * k + 1))
theorem meetI_symm {tx ty : Nat → Int} {k j : Nat} (h : meetI tx ty k j) : meetI tx ty j k := by
  rcases h with ⟨a, b, c, d⟩ | h | h | ⟨h1, h2⟩
  · exact Or.inl ⟨a.symm, b.symm, c.symm, d.symm⟩
  · exact Or.inr (Or.inr (Or.inl h))
  · exact Or.inr (Or.inl h)
  · exact Or.inr (Or.inr (Or.inr ⟨h2, h1⟩))
/-- products and signs -/
theorem mp_pos {a b : Int} (ha : 0 < a) : 0 < a * b ↔ 0 < b := ⟨fun h => Int.pos_of_mul_pos_left (by rw [Int.mul_comm]; exact h) ha, fun h => Int.mul_pos ha h⟩
theorem mp_zero {a b : Int} (ha : 0 < a) : a * b = 0 ↔ b = 0 := by
  constructor
  · intro h
    rcases Int.mul_eq_zero.mp h with h | h
    · omega
    · exact h
  · intro h; rw [h, Int.mul_zero]
theorem mp_neg {a b : Int} (ha : 0 < a) : a * b < 0 ↔ b < 0 := by
  have h1 := mp_pos (b := -b) ha
  rw [Int.mul_neg] at h1
  constructor
  · intro h; have := h1.mp (by omega); omega
  · intro h; have := h1.mpr (by omega); omega
/-- a number that all widths divide -/
def fct : Nat → Nat
  | 0 => 1
  | n + 1 => (n + 1) * fct n
theorem fct_pos : ∀ n, 0 < fct n
  | 0 => Nat.one_pos
  | n + 1 => Nat.mul_pos (Nat.succ_pos n) (fct_pos n)
theorem fct_dvd : ∀ (n w : Nat), 0 < w → w ≤ n → w ∣ fct n := by
  intro n
  induction n with
  | zero => intro w h0 h; omega
  | succ n ih =>
    intro w h0 h
    show w ∣ (n + 1) * fct n
    by_cases e : w = n + 1
    · rw [e]; exact Nat.dvd_mul_right _ _
    · exact Nat.dvd_trans (ih w h0 (by omega)) (Nat.dvd_mul_left _ _)
def Qf : Int := (fct 200 : Nat)
theorem Qf_pos : 0 < Qf := Int.ofNat_lt.mpr (fct_pos 200)
theorem Qf_div {w : Int} (h0 : 0 < w) (h : w ≤ 200) : w * (Qf / w) = Qf := by
  apply Int.mul_ediv_cancel'
  have e : w = (w.toNat : Int) := (Int.toNat_of_nonneg (by omega)).symm
  rw [e]
  exact Int.ofNat_dvd.mpr (fct_dvd 200 w.toNat (by omega) (by omega))
/-- the height of a segment's line over x, Qf times; its slope -/
def gr (tx ty : Nat → Int) (k : Nat) : Int := Qf / (tx (2 * k + 1) - tx (2 * k)) * (ty (2 * k + 1) - ty (2 * k))
def Hh (tx ty : Nat → Int) (k : Nat) (x : Int) : Int := Qf * ty (2 * k) + gr tx ty k * (x - tx (2 * k))
/-- not upright, and not too wide -/
def flat (tx : Nat → Int) (k : Nat) : Prop := tx (2 * k) < tx (2 * k + 1) ∧ tx (2 * k + 1) - tx (2 * k) ≤ 200
theorem gr_w {tx ty : Nat → Int} {k : Nat} (h : flat tx k) : (tx (2 * k + 1) - tx (2 * k)) * gr tx ty k = Qf * (ty (2 * k + 1) - ty (2 * k)) := by
  unfold gr
  rw [← Int.mul_assoc, Qf_div (by have := h.1; omega) h.2]
theorem Hh_left (tx ty : Nat → Int) (k : Nat) : Hh tx ty k (tx (2 * k)) = Qf * ty (2 * k) := by
  unfold Hh; rw [Int.sub_self, Int.mul_zero, Int.add_zero]
theorem Hh_right {tx ty : Nat → Int} {k : Nat} (h : flat tx k) : Hh tx ty k (tx (2 * k + 1)) = Qf * ty (2 * k + 1) := by
  have e := gr_w (ty := ty) h
  unfold Hh
  rw [Int.mul_comm (gr tx ty k), e]
  grind
theorem Hh_diff (tx ty : Nat → Int) (k : Nat) (x z : Int) : Hh tx ty k z = Hh tx ty k x + gr tx ty k * (z - x) := by
  unfold Hh; grind
theorem Hh_lf {tx ty : Nat → Int} {k : Nat} (h : flat tx k) (x y : Int) : (tx (2 * k + 1) - tx (2 * k)) * (Qf * y - Hh tx ty k x) = Qf * lf tx ty k x y := by
  have e := gr_w (ty := ty) h
  unfold Hh lf
  grind
theorem lf_pos {tx ty : Nat → Int} {k : Nat} (h : flat tx k) (x y : Int) : 0 < lf tx ty k x y ↔ Hh tx ty k x < Qf * y := by
  have e := Hh_lf (ty := ty) h x y
  have w : 0 < tx (2 * k + 1) - tx (2 * k) := by have := h.1; omega
  have a := mp_pos (b := lf tx ty k x y) Qf_pos
  have b := mp_pos (b := Qf * y - Hh tx ty k x) w
  rw [← a, ← e, b]; omega
theorem lf_zero {tx ty : Nat → Int} {k : Nat} (h : flat tx k) (x y : Int) : lf tx ty k x y = 0 ↔ Hh tx ty k x = Qf * y := by
  have e := Hh_lf (ty := ty) h x y
  have w : 0 < tx (2 * k + 1) - tx (2 * k) := by have := h.1; omega
  have a := mp_zero (b := lf tx ty k x y) Qf_pos
  have b := mp_zero (b := Qf * y - Hh tx ty k x) w
  rw [← a, ← e, b]; omega
theorem lf_neg {tx ty : Nat → Int} {k : Nat} (h : flat tx k) (x y : Int) : lf tx ty k x y < 0 ↔ Qf * y < Hh tx ty k x := by
  have e := Hh_lf (ty := ty) h x y
  have w : 0 < tx (2 * k + 1) - tx (2 * k) := by have := h.1; omega
  have a := mp_neg (b := lf tx ty k x y) Qf_pos
  have b := mp_neg (b := Qf * y - Hh tx ty k x) w
  rw [← a, ← e, b]; omega
theorem Qf_inj {a b : Int} (h : Qf * a = Qf * b) : a = b := Int.eq_of_mul_eq_mul_left (by have := Qf_pos; omega) h
theorem Qf_lt {a b : Int} : Qf * a < Qf * b ↔ a < b := Int.mul_lt_mul_left Qf_pos
theorem Qf_le {a b : Int} : Qf * a ≤ Qf * b ↔ a ≤ b := Int.mul_le_mul_left Qf_pos
/-- on the line of a flat segment, between its ends by x: inside -/
theorem ins_flat {tx ty : Nat → Int} {k : Nat} (h : flat tx k) {x y : Int} (hl : lf tx ty k x y = 0) : dt tx ty k x y < 0 ↔ tx (2 * k) < x ∧ x < tx (2 * k + 1) := by
  have hw : 0 < tx (2 * k + 1) - tx (2 * k) := by have := h.1; omega
  have key : (tx (2 * k + 1) - tx (2 * k)) * (tx (2 * k + 1) - tx (2 * k)) * dt tx ty k x y = ((tx (2 * k + 1) - tx (2 * k)) * (tx (2 * k + 1) - tx (2 * k)) + (ty (2 * k + 1) - ty (2 * k)) * (ty (2 * k + 1) - ty (2 * k))) * ((x - tx (2 * k)) * (x - tx (2 * k + 1))) := by
    unfold lf at hl
    unfold dt
    generalize tx (2 * k) = ex at *
    generalize tx (2 * k + 1) = fx at *
    generalize ty (2 * k) = ey at *
    generalize ty (2 * k + 1) = fy at *
    have e1 : (fx - ex) * (y - ey) = (fy - ey) * (x - ex) := by omega
    grind
  have p1 := Int.mul_pos hw hw
  have p2 : 0 ≤ (ty (2 * k + 1) - ty (2 * k)) * (ty (2 * k + 1) - ty (2 * k)) := by
    rcases Int.le_total 0 (ty (2 * k + 1) - ty (2 * k)) with q | q
    · exact Int.mul_nonneg q q
    · exact Int.mul_nonneg_of_nonpos_of_nonpos q q
  have a := mp_neg (b := dt tx ty k x y) p1
  have b := mp_neg (a := (tx (2 * k + 1) - tx (2 * k)) * (tx (2 * k + 1) - tx (2 * k)) + (ty (2 * k + 1) - ty (2 * k)) * (ty (2 * k + 1) - ty (2 * k))) (b := (x - tx (2 * k)) * (x - tx (2 * k + 1))) (by omega)
  rw [← a, key, b]
  constructor
  · intro q
    rcases Int.lt_or_le (tx (2 * k)) x with q1 | q1
    · refine ⟨q1, ?_⟩
      rcases Int.lt_or_le x (tx (2 * k + 1)) with q2 | q2
      · exact q2
      · have := Int.mul_nonneg (show 0 ≤ x - tx (2 * k) by omega) (show 0 ≤ x - tx (2 * k + 1) by omega); omega
    · have := Int.mul_nonneg_of_nonpos_of_nonpos (show x - tx (2 * k) ≤ 0 by omega) (show x - tx (2 * k + 1) ≤ 0 by omega); omega
  · rintro ⟨q1, q2⟩
    exact Int.mul_neg_of_pos_of_neg (by omega) (by omega)
/-- an upright one -/
theorem ins_up {tx ty : Nat → Int} {k : Nat} (h : tx (2 * k) = tx (2 * k + 1)) (h2 : ty (2 * k) < ty (2 * k + 1)) (x y : Int) : ins tx ty k x y ↔ x = tx (2 * k) ∧ ty (2 * k) < y ∧ y < ty (2 * k + 1) := by
  have e1 : lf tx ty k x y = -((ty (2 * k + 1) - ty (2 * k)) * (x - tx (2 * k))) := by unfold lf; rw [← h]; grind
  have z := mp_zero (a := ty (2 * k + 1) - ty (2 * k)) (b := x - tx (2 * k)) (by omega)
  unfold ins
  constructor
  · rintro ⟨p, q⟩
    have hx : x = tx (2 * k) := by have := z.mp (by omega); omega
    refine ⟨hx, ?_⟩
    unfold dt at q
    rw [← h, hx, Int.sub_self, Int.zero_mul, Int.zero_add] at q
    rcases Int.lt_or_le (ty (2 * k)) y with q1 | q1
    · refine ⟨q1, ?_⟩
      rcases Int.lt_or_le y (ty (2 * k + 1)) with q2 | q2
      · exact q2
      · have := Int.mul_nonneg_of_nonpos_of_nonpos (show ty (2 * k) - y ≤ 0 by omega) (show ty (2 * k + 1) - y ≤ 0 by omega); omega
    · have := Int.mul_nonneg (show 0 ≤ ty (2 * k) - y by omega) (show 0 ≤ ty (2 * k + 1) - y by omega); omega
  · rintro ⟨hx, p, q⟩
    refine ⟨by rw [e1]; have := z.mpr (by omega); omega, ?_⟩
    unfold dt
    rw [← h, hx, Int.sub_self, Int.zero_mul, Int.zero_add]
    exact Int.mul_neg_of_neg_of_pos (by omega) (by omega)
