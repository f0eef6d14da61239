/-! Ints of the machine as whole numbers -/
theorem tI_add {a b : Int32} (h1 : -2147483648 ≤ a.toInt + b.toInt) (h2 : a.toInt + b.toInt < 2147483648) : (a + b).toInt = a.toInt + b.toInt := by
  rw [Int32.toInt_add]
  exact Int.bmod_eq_of_le (by omega) (by omega)
theorem tI_sub {a b : Int32} (h1 : -2147483648 ≤ a.toInt - b.toInt) (h2 : a.toInt - b.toInt < 2147483648) : (a - b).toInt = a.toInt - b.toInt := by
  rw [Int32.toInt_sub]
  exact Int.bmod_eq_of_le (by omega) (by omega)
theorem tI_mul {a b : Int32} (h1 : -2147483648 ≤ a.toInt * b.toInt) (h2 : a.toInt * b.toInt < 2147483648) : (a * b).toInt = a.toInt * b.toInt := by
  rw [Int32.toInt_mul]
  exact Int.bmod_eq_of_le (by omega) (by omega)
/-- within n of zero -/
def Wn (n : Int) (a : Int) : Prop := -n ≤ a ∧ a ≤ n
theorem Wn_mul {m n a b : Int} (ha : Wn m a) (hb : Wn n b) : Wn (m * n) (a * b) := by
  obtain ⟨a1, a2⟩ := ha
  obtain ⟨b1, b2⟩ := hb
  have e1 := Int.mul_nonneg (show 0 ≤ m - a by omega) (show 0 ≤ n + b by omega)
  have e2 := Int.mul_nonneg (show 0 ≤ m + a by omega) (show 0 ≤ n - b by omega)
  have e3 := Int.mul_nonneg (show 0 ≤ m - a by omega) (show 0 ≤ n - b by omega)
  have e4 := Int.mul_nonneg (show 0 ≤ m + a by omega) (show 0 ≤ n + b by omega)
  have f1 : (m - a) * (n + b) + (m + a) * (n - b) = 2 * (m * n) - 2 * (a * b) := by grind
  have f2 : (m - a) * (n - b) + (m + a) * (n + b) = 2 * (m * n) + 2 * (a * b) := by grind
  exact ⟨by omega, by omega⟩
theorem Wn_add {m n a b : Int} (ha : Wn m a) (hb : Wn n b) : Wn (m + n) (a + b) := ⟨by have := ha.1; have := hb.1; omega, by have := ha.2; have := hb.2; omega⟩
theorem Wn_sub {m n a b : Int} (ha : Wn m a) (hb : Wn n b) : Wn (m + n) (a - b) := ⟨by have := ha.1; have := hb.2; omega, by have := ha.2; have := hb.1; omega⟩
/-- an int of the machine that stands for a, small -/
def Is (x : Int32) (a : Int) (n : Int) : Prop := x.toInt = a ∧ Wn n a
theorem Is_add {x y : Int32} {a b m n : Int} (hx : Is x a m) (hy : Is y b n) (h : m + n < 2147483648) : Is (x + y) (a + b) (m + n) := by
  obtain ⟨rfl, w1⟩ := hx
  obtain ⟨rfl, w2⟩ := hy
  have w := Wn_add w1 w2
  exact ⟨tI_add (by have := w.1; omega) (by have := w.2; omega), w⟩
theorem Is_sub {x y : Int32} {a b m n : Int} (hx : Is x a m) (hy : Is y b n) (h : m + n < 2147483648) : Is (x - y) (a - b) (m + n) := by
  obtain ⟨rfl, w1⟩ := hx
  obtain ⟨rfl, w2⟩ := hy
  have w := Wn_sub w1 w2
  exact ⟨tI_sub (by have := w.1; omega) (by have := w.2; omega), w⟩
theorem Is_mul {x y : Int32} {a b m n : Int} (hx : Is x a m) (hy : Is y b n) (h : m * n < 2147483648) : Is (x * y) (a * b) (m * n) := by
  obtain ⟨rfl, w1⟩ := hx
  obtain ⟨rfl, w2⟩ := hy
  have w := Wn_mul w1 w2
  exact ⟨tI_mul (by have := w.1; omega) (by have := w.2; omega), w⟩
theorem Is_lt {x y : Int32} {a b m n : Int} (hx : Is x a m) (hy : Is y b n) : x < y ↔ a < b := by rw [Int32.lt_iff_toInt_lt, hx.1, hy.1]
theorem Is_le {x y : Int32} {a b m n : Int} (hx : Is x a m) (hy : Is y b n) : x ≤ y ↔ a ≤ b := by rw [Int32.le_iff_toInt_le, hx.1, hy.1]
theorem Is_eq {x y : Int32} {a b m n : Int} (hx : Is x a m) (hy : Is y b n) : x = y ↔ a = b := by rw [← Int32.toInt_inj, hx.1, hy.1]
theorem Is_lit (k : Int32) {n : Int} (h : Wn n k.toInt) : Is k k.toInt n := ⟨rfl, h⟩
theorem Is_0 : Is 0 0 0 := ⟨rfl, by decide, by decide⟩
theorem Is_1 : Is 1 1 1 := ⟨rfl, by decide, by decide⟩
theorem Is_2 : Is 2 2 2 := ⟨rfl, by decide, by decide⟩
theorem Is_m1 : Is (-1) (-1) 1 := ⟨rfl, by decide, by decide⟩
theorem Is_up {x : Int32} {a m n : Int} (h : Is x a m) (hn : m ≤ n) : Is x a n := ⟨h.1, by have := h.2.1; omega, by have := h.2.2; omega⟩
