/-! Sides that the class puts together, and cells: what lies straight above -/
def Eqv (R : Nat → Nat → Prop) : Prop := (∀ a, R a a) ∧ (∀ a b, R a b → R b a) ∧ ∀ a b c, R a b → R b c → R a c
/-- what 'sideAbove' answers -/
def SAok (u : Nat → Bool) (tx ty : Nat → Int) (SFn : Nat → Int → Int → Nat) (SAb : Int → Int → Nat) : Prop :=
  (∀ x y, Wn 100 x → Wn 100 y → (∀ k, k < 20 → u k = true → tx (2 * k) < tx (2 * k + 1) → tx (2 * k) ≤ x → x ≤ tx (2 * k + 1) → Hh tx ty k x ≤ Qf * y) → (∀ e, e < 20 → u e = true → tx (2 * e) = tx (2 * e + 1) → tx (2 * e) = x → ty (2 * e) ≤ y) → SAb x y = 40) ∧
  (∀ x y k, Wn 100 x → Wn 100 y → k < 20 → u k = true → tx (2 * k) < x → x < tx (2 * k + 1) → Qf * y < Hh tx ty k x → (∀ j, j < 20 → u j = true → tx (2 * j) < tx (2 * j + 1) → tx (2 * j) ≤ x → x ≤ tx (2 * j + 1) → Qf * y < Hh tx ty j x → Hh tx ty k x ≤ Hh tx ty j x) → (∀ e, e < 20 → u e = true → tx (2 * e) = tx (2 * e + 1) → tx (2 * e) = x → y < ty (2 * e) → Hh tx ty k x ≤ Qf * ty (2 * e)) → SAb x y = 2 * k + 1) ∧
  ∀ x y y2, Wn 100 x → Wn 100 y → y < y2 → (∃ w, At u tx ty x y2 w ∧ ∀ e, ¬ Dn u tx ty x y2 e) → (∀ j, j < 20 → u j = true → tx (2 * j) < tx (2 * j + 1) → tx (2 * j) ≤ x → x ≤ tx (2 * j + 1) → Qf * y < Hh tx ty j x → Qf * y2 ≤ Hh tx ty j x) → (∀ e, e < 20 → u e = true → tx (2 * e) = tx (2 * e + 1) → tx (2 * e) = x → y < ty (2 * e) → y2 ≤ ty (2 * e)) → ∃ w, At u tx ty x y2 w ∧ SAb x y = SFn w 0 (-1)
/-- all that is known of the class's sides -/
def Ctx (u : Nat → Bool) (tx ty : Nat → Int) (m : Nat) (lx : Nat → Int) (N : Nat → Nat) (K : Nat → Nat → Nat) (SFn : Nat → Int → Int → Nat) (SAb : Int → Int → Nat) (R : Nat → Nat → Prop) : Prop :=
  Geo u tx ty ∧ Cells u tx ty m lx N K ∧ SFok u tx ty SFn ∧ SAok u tx ty SFn SAb ∧ Eqv R ∧
  (∀ a, a < 40 → u (a / 2) = true → R a (SFn a (tx (tw a) - tx a) (ty (tw a) - ty a))) ∧
  ∀ a, a < 40 → u (a / 2) = true → (∀ c, c < 40 → u (c / 2) = true → tx c = tx a → ty c = ty a → ty (tw c) - ty c ≤ 0) → R (SFn a 0 1) (SAb (tx a) (ty a))
/-- nothing upright stands just above height y on line t -/
def freeA (u : Nat → Bool) (tx ty lx : Nat → Int) (t : Nat) (y : Int) : Prop := ∀ e, e < 20 → u e = true → tx (2 * e) = tx (2 * e + 1) → tx (2 * e) = lx t → ¬ (Qf * ty (2 * e) ≤ y ∧ y < Qf * ty (2 * e + 1))
/-- the induction: points and uprights above height y -/
def HUE (u : Nat → Bool) (tx ty : Nat → Int) (m : Nat) (lx : Nat → Int) (N : Nat → Nat) (K : Nat → Nat → Nat) (SFn : Nat → Int → Int → Nat) (R : Nat → Nat → Prop) (y : Int) : Prop :=
  (∀ t y2 w, t < m → y < Qf * y2 → At u tx ty (lx t) y2 w → (∀ e, ¬ Up u tx ty (lx t) y2 e) → R (SFn w 0 1) (lo N K t (PL tx ty lx N K t (Qf * y2))) ∧ R (SFn w 0 1) (lo N K (t + 1) (PR tx ty lx N K t (Qf * y2)))) ∧
  ∀ t e y2, t < m → y < Qf * y2 → Up u tx ty (lx t) y2 e → R (2 * e) (lo N K t (PL tx ty lx N K t (Qf * y2))) ∧ R (2 * e + 1) (lo N K (t + 1) (PR tx ty lx N K t (Qf * y2)))
section AB
variable {u : Nat → Bool} {tx ty : Nat → Int} {m : Nat} {lx : Nat → Int} {N : Nat → Nat} {K : Nat → Nat → Nat} {SFn : Nat → Int → Int → Nat} {SAb : Int → Int → Nat} {R : Nat → Nat → Prop}
theorem w200 : Wn 200 1 ∧ Wn 200 (-1) := ⟨⟨by decide, by decide⟩, ⟨by decide, by decide⟩⟩
/-- in the left strip, of two that end at one point the first is the lower one: its slope is greater -/
theorem slope_L (hG : Geo u tx ty) (hC : Cells u tx ty m lx N K) {t i j : Nat} (ht : t ≤ m) (hij : i < j) (hj : j < N t) (he : fL tx ty lx K t i = fL tx ty lx K t j) : gr tx ty (K t j) < gr tx ty (K t i) := by
  obtain ⟨a, b, i1, i2, i3, i4, i5, i6⟩ := hC.at hG ht (show i < N t by omega)
  have hs := hC.2.2.2.2.2 t i j a b hij hj
  have e1 := Hh_diff tx ty (K t i) (lx t) (lx (t - 1))
  have e2 := Hh_diff tx ty (K t j) (lx t) (lx (t - 1))
  have he : Hh tx ty (K t i) (lx t) = Hh tx ty (K t j) (lx t) := he
  have p : 0 < (lx t - lx (t - 1)) * (gr tx ty (K t i) - gr tx ty (K t j)) := by
    have e3 : (lx t - lx (t - 1)) * (gr tx ty (K t i) - gr tx ty (K t j)) = gr tx ty (K t j) * (lx (t - 1) - lx t) - gr tx ty (K t i) * (lx (t - 1) - lx t) := by grind
    omega
  have := (mp_pos (by omega)).mp p
  omega
theorem slope_R (hG : Geo u tx ty) (hC : Cells u tx ty m lx N K) {t i j : Nat} (ht : t < m) (hij : i < j) (hj : j < N (t + 1)) (he : fR tx ty lx K t i = fR tx ty lx K t j) : gr tx ty (K (t + 1) i) < gr tx ty (K (t + 1) j) := by
  obtain ⟨a, b, i1, i2, i3, i4, i5, i6⟩ := hC.at hG (s := t + 1) (by omega) (show i < N (t + 1) by omega)
  have hs := hC.2.2.2.2.2 (t + 1) i j a b hij hj
  rw [show t + 1 - 1 = t by omega] at hs i4
  have e1 := Hh_diff tx ty (K (t + 1) i) (lx t) (lx (t + 1))
  have e2 := Hh_diff tx ty (K (t + 1) j) (lx t) (lx (t + 1))
  have he : Hh tx ty (K (t + 1) i) (lx t) = Hh tx ty (K (t + 1) j) (lx t) := he
  have p : 0 < (lx (t + 1) - lx t) * (gr tx ty (K (t + 1) j) - gr tx ty (K (t + 1) i)) := by
    have e3 : (lx (t + 1) - lx t) * (gr tx ty (K (t + 1) j) - gr tx ty (K (t + 1) i)) = gr tx ty (K (t + 1) j) * (lx (t + 1) - lx t) - gr tx ty (K (t + 1) i) * (lx (t + 1) - lx t) := by grind
    omega
  have := (mp_pos (by omega)).mp p
  omega
/-- what one sees straight below a point, the same from each of its arrows -/
theorem WD (hG : Geo u tx ty) (hSF : SFok u tx ty SFn) {x y : Int} {w v : Nat} (hw : At u tx ty x y w) (hv : At u tx ty x y v) (nD : ∀ e, ¬ Dn u tx ty x y e) : SFn w 0 (-1) = SFn v 0 (-1) := by
  by_cases h1 : ∃ k, Rt u tx ty x y k
  · obtain ⟨j, hj, hm⟩ := ex_loR h1
    rw [F_D1 (k := 0) hG hSF hw (by decide) w200.2 hj hm, F_D1 (k := 0) hG hSF hv (by decide) w200.2 hj hm]
  · have nR : ∀ i, ¬ Rt u tx ty x y i := fun i hi => h1 ⟨i, hi⟩
    by_cases h2 : ∃ k, Up u tx ty x y k
    · obtain ⟨j, hj⟩ := h2
      rw [F_D2 (k := 0) hG hSF hw (by decide) w200.2 nR hj, F_D2 (k := 0) hG hSF hv (by decide) w200.2 nR hj]
    · have nU : ∀ i, ¬ Up u tx ty x y i := fun i hi => h2 ⟨i, hi⟩
      rcases hw.kind hG with q | q | q | ⟨e, q⟩
      · exact absurd q h1
      · obtain ⟨j, hj, hm⟩ := ex_hiL q
        rw [F_D3 (k := 0) hG hSF hw (by decide) w200.2 nR nU hj hm, F_D3 (k := 0) hG hSF hv (by decide) w200.2 nR nU hj hm]
      · exact absurd q h2
      · exact absurd q (nD e)
end AB
