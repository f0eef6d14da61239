/-! Strips, cuts, and the side straight above -/
theorem ex_min {P : Nat → Prop} {f : Nat → Int} : ∀ (n : Nat), (∀ k, P k → k < n) → (∃ k, P k) → ∃ k, P k ∧ ∀ j, P j → f k ≤ f j := by
  have gen : ∀ (n : Nat) (Q : Nat → Prop), (∀ k, Q k → k < n) → (∃ k, Q k) → ∃ k, Q k ∧ ∀ j, Q j → f k ≤ f j := by
    intro n
    induction n with
    | zero => intro Q h ⟨k, hk⟩; exact absurd (h k hk) (Nat.not_lt_zero _)
    | succ n ih =>
      intro Q h he
      by_cases h2 : ∃ k, Q k ∧ k < n
      · obtain ⟨k, ⟨hk, hkn⟩, hmin⟩ := ih (fun k => Q k ∧ k < n) (fun k hk => hk.2) h2
        by_cases hn : Q n ∧ f n < f k
        · refine ⟨n, hn.1, fun j hj => ?_⟩
          rcases Nat.lt_or_ge j n with q | q
          · have := hmin j ⟨hj, q⟩; have := hn.2; omega
          · have e : j = n := by have := h j hj; omega
            rw [e]; exact Int.le_refl _
        · refine ⟨k, hk, fun j hj => ?_⟩
          rcases Nat.lt_or_ge j n with q | q
          · exact hmin j ⟨hj, q⟩
          · have e : j = n := by have := h j hj; omega
            rw [e] at hj ⊢
            exact Int.not_lt.mp (fun q2 => hn ⟨hj, q2⟩)
      · obtain ⟨k, hk⟩ := he
        have e : ∀ j, Q j → j = n := fun j hj => by
          have := h j hj
          rcases Nat.lt_or_ge j n with q | q
          · exact absurd ⟨j, hj, q⟩ h2
          · omega
        exact ⟨k, hk, fun j hj => by rw [e j hj, e k hk]; exact Int.le_refl _⟩
  exact fun n h he => gen n P h he
theorem ex_max {P : Nat → Prop} {f : Nat → Int} (n : Nat) (h : ∀ k, P k → k < n) (he : ∃ k, P k) : ∃ k, P k ∧ ∀ j, P j → f j ≤ f k := by
  obtain ⟨k, hk, hm⟩ := ex_min (f := fun k => -f k) n h he
  exact ⟨k, hk, fun j hj => by have := hm j hj; omega⟩
/-- how many of the first n are at most y, where they don't fall -/
def cp (f : Nat → Int) : Nat → Int → Nat
  | 0, _ => 0
  | n + 1, y => if f n ≤ y then n + 1 else cp f n y
theorem cp_le (f : Nat → Int) (y : Int) : ∀ n, cp f n y ≤ n
  | 0 => Nat.le_refl _
  | n + 1 => by
    unfold cp
    split
    · exact Nat.le_refl _
    · exact Nat.le_succ_of_le (cp_le f y n)
theorem cp_hi (f : Nat → Int) (y : Int) : ∀ (n j : Nat), cp f n y ≤ j → j < n → y < f j := by
  intro n
  induction n with
  | zero => intro j _ h; omega
  | succ n ih =>
    intro j h1 h2
    unfold cp at h1
    by_cases c : f n ≤ y
    · rw [if_pos c] at h1; omega
    · rw [if_neg c] at h1
      by_cases e : j = n
      · rw [e]; omega
      · exact ih j h1 (by omega)
def mono (f : Nat → Int) (n : Nat) : Prop := ∀ i j, i < j → j < n → f i ≤ f j
theorem cp_lo {f : Nat → Int} {y : Int} : ∀ {n : Nat}, mono f n → ∀ j, j < cp f n y → f j ≤ y := by
  intro n
  induction n with
  | zero => intro _ j h; exact absurd h (Nat.not_lt_zero _)
  | succ n ih =>
    intro hm j h
    unfold cp at h
    by_cases c : f n ≤ y
    · by_cases e : j = n
      · rw [e]; exact c
      · have := hm j n (by rw [if_pos c] at h; omega) (by omega); omega
    · rw [if_neg c] at h
      exact ih (fun i j h1 h2 => hm i j h1 (by omega)) j h
theorem cp_eq {f : Nat → Int} {y : Int} {n i : Nat} (hm : mono f n) (hi : i ≤ n) (h1 : ∀ j, j < i → f j ≤ y) (h2 : ∀ j, i ≤ j → j < n → y < f j) : cp f n y = i := by
  have a := cp_le f y n
  rcases Nat.lt_trichotomy (cp f n y) i with q | q | q
  · have := cp_hi f y n (cp f n y) (Nat.le_refl _) (by omega)
    have := h1 _ q; omega
  · exact q
  · have := cp_lo hm i q
    have := h2 i (Nat.le_refl _) (by omega); omega
/-- the strips between the upright lines through all ends, and the segments across each, from below -/
def Cells (u : Nat → Bool) (tx ty : Nat → Int) (m : Nat) (lx : Nat → Int) (N : Nat → Nat) (K : Nat → Nat → Nat) : Prop :=
  (∀ i j, i < j → j < m → lx i < lx j) ∧
  (∀ k, k < 20 → u k = true → (∃ t, t < m ∧ lx t = tx (2 * k)) ∧ ∃ t, t < m ∧ lx t = tx (2 * k + 1)) ∧
  (N 0 = 0 ∧ N m = 0) ∧
  (∀ s i, 0 < s → s < m → i < N s → K s i < 20 ∧ u (K s i) = true ∧ tx (2 * K s i) ≤ lx (s - 1) ∧ lx s ≤ tx (2 * K s i + 1)) ∧
  (∀ s k, 0 < s → s < m → k < 20 → u k = true → tx (2 * k) ≤ lx (s - 1) → lx s ≤ tx (2 * k + 1) → ∃ i, i < N s ∧ K s i = k) ∧
  ∀ s i j, 0 < s → s < m → i < j → j < N s → Hh tx ty (K s i) (lx (s - 1)) + Hh tx ty (K s i) (lx s) < Hh tx ty (K s j) (lx (s - 1)) + Hh tx ty (K s j) (lx s)
def fL (tx ty lx : Nat → Int) (K : Nat → Nat → Nat) (t : Nat) : Nat → Int := fun i => Hh tx ty (K t i) (lx t)
def fR (tx ty lx : Nat → Int) (K : Nat → Nat → Nat) (t : Nat) : Nat → Int := fun i => Hh tx ty (K (t + 1) i) (lx t)
def PL (tx ty lx : Nat → Int) (N : Nat → Nat) (K : Nat → Nat → Nat) (t : Nat) (y : Int) : Nat := cp (fL tx ty lx K t) (N t) y
def PR (tx ty lx : Nat → Int) (N : Nat → Nat) (K : Nat → Nat → Nat) (t : Nat) (y : Int) : Nat := cp (fR tx ty lx K t) (N (t + 1)) y
/-- the lower side of a cell's roof; 40 where there is none -/
def lo (N : Nat → Nat) (K : Nat → Nat → Nat) (s i : Nat) : Nat := if i < N s then 2 * K s i + 1 else 40
section ST
variable {u : Nat → Bool} {tx ty lx : Nat → Int} {m : Nat} {N : Nat → Nat} {K : Nat → Nat → Nat}
/-- a strip with segments across lies between two lines -/
theorem Cells.mid (hC : Cells u tx ty m lx N K) {s i : Nat} (hs : s ≤ m) (hi : i < N s) : 0 < s ∧ s < m := by
  obtain ⟨a, b⟩ := hC.2.2.1
  refine ⟨?_, ?_⟩
  · rcases Nat.eq_zero_or_pos s with q | q
    · rw [q, a] at hi; omega
    · exact q
  · rcases Nat.lt_or_ge s m with q | q
    · exact q
    · rw [show s = m by omega, b] at hi; omega
theorem Cells.at (hG : Geo u tx ty) (hC : Cells u tx ty m lx N K) {s i : Nat} (hs : s ≤ m) (hi : i < N s) : 0 < s ∧ s < m ∧ K s i < 20 ∧ u (K s i) = true ∧ tx (2 * K s i) ≤ lx (s - 1) ∧ lx (s - 1) < lx s ∧ lx s ≤ tx (2 * K s i + 1) ∧ flat tx (K s i) := by
  obtain ⟨a, b⟩ := hC.mid hs hi
  obtain ⟨c, d, e, f⟩ := hC.2.2.2.1 s i a b hi
  have g := hC.1 (s - 1) s (by omega) b
  exact ⟨a, b, c, d, e, g, f, hG.flat c (by omega)⟩
theorem Cells.ne (hG : Geo u tx ty) (hC : Cells u tx ty m lx N K) {s i j : Nat} (hs : s ≤ m) (hij : i < j) (hj : j < N s) : K s i ≠ K s j := by
  intro e
  obtain ⟨a, b⟩ := hC.mid hs hj
  have := hC.2.2.2.2.2 s i j a b hij hj
  rw [e] at this; omega
/-- from below, at both ends of the strip -/
theorem Cells.mono (hG : Geo u tx ty) (hC : Cells u tx ty m lx N K) {s i j : Nat} (hs : s ≤ m) (hij : i < j) (hj : j < N s) : Hh tx ty (K s i) (lx (s - 1)) ≤ Hh tx ty (K s j) (lx (s - 1)) ∧ Hh tx ty (K s i) (lx s) ≤ Hh tx ty (K s j) (lx s) := by
  obtain ⟨a, b, i1, i2, i3, i4, i5, i6⟩ := hC.at hG hs (show i < N s by omega)
  obtain ⟨-, -, j1, j2, j3, -, j5, j6⟩ := hC.at hG hs hj
  have hsum := hC.2.2.2.2.2 s i j a b hij hj
  have hm := hG.2.2 _ _ i1 j1 i2 j2 (hC.ne hG hs hij hj)
  have g1 := G2 i6 j6 hm i4 i3 j3 i5 j5
  have g2 := G2 j6 i6 (fun h => hm (meetI_symm h)) i4 j3 i3 j5 i5
  constructor
  · apply Int.not_lt.mp; intro q; have := g2 q; omega
  · apply Int.not_lt.mp; intro q
    have : ¬ Hh tx ty (K s i) (lx (s - 1)) < Hh tx ty (K s j) (lx (s - 1)) := fun z => by have := g1 z; omega
    omega
theorem mono_L (hG : Geo u tx ty) (hC : Cells u tx ty m lx N K) {t : Nat} (ht : t ≤ m) : mono (fL tx ty lx K t) (N t) := fun _ _ h1 h2 => (hC.mono hG ht h1 h2).2
theorem mono_R (hG : Geo u tx ty) (hC : Cells u tx ty m lx N K) {t : Nat} (ht : t < m) : mono (fR tx ty lx K t) (N (t + 1)) := fun _ _ h1 h2 => (hC.mono hG (s := t + 1) (by omega) h1 h2).1
/-- a segment that comes from the left to line t stands in strip t; one that goes on to the right in strip t + 1 -/
theorem inst_L (hG : Geo u tx ty) (hC : Cells u tx ty m lx N K) {t k : Nat} (ht : t < m) (hk : k < 20) (hu : u k = true) (h1 : tx (2 * k) < lx t) (h2 : lx t ≤ tx (2 * k + 1)) : ∃ i, i < N t ∧ K t i = k := by
  obtain ⟨t0, a, b⟩ := (hC.2.1 k hk hu).1
  have h0 : t0 < t := by
    rcases Nat.lt_trichotomy t0 t with q | q | q
    · exact q
    · rw [q] at b; omega
    · have := hC.1 t t0 q a; omega
  refine hC.2.2.2.2.1 t k (by omega) ht hk hu ?_ h2
  by_cases e : t0 = t - 1
  · rw [← e]; omega
  · have := hC.1 t0 (t - 1) (by omega) (by omega); omega
theorem inst_R (hG : Geo u tx ty) (hC : Cells u tx ty m lx N K) {t k : Nat} (ht : t < m) (hk : k < 20) (hu : u k = true) (h1 : tx (2 * k) ≤ lx t) (h2 : lx t < tx (2 * k + 1)) : ∃ i, i < N (t + 1) ∧ K (t + 1) i = k := by
  obtain ⟨t0, a, b⟩ := (hC.2.1 k hk hu).2
  have h0 : t < t0 := by
    rcases Nat.lt_trichotomy t0 t with q | q | q
    · have := hC.1 t0 t q ht; omega
    · rw [q] at b; omega
    · exact q
  refine hC.2.2.2.2.1 (t + 1) k (by omega) (by omega) hk hu (by simpa using h1) ?_
  by_cases e : t0 = t + 1
  · rw [← e]; omega
  · have := hC.1 (t + 1) t0 (by omega) a; omega
/-- arrows at a point -/
def At (u : Nat → Bool) (tx ty : Nat → Int) (x y : Int) (w : Nat) : Prop := w < 40 ∧ u (w / 2) = true ∧ tx w = x ∧ ty w = y
theorem Rt.at {x y : Int} {k : Nat} (h : Rt u tx ty x y k) : At u tx ty x y (2 * k) := ⟨by have := h.1; omega, by rw [show 2 * k / 2 = k by omega]; exact h.2.1, h.2.2.2.1, h.2.2.2.2⟩
theorem Lt.at {x y : Int} {k : Nat} (h : Lt u tx ty x y k) : At u tx ty x y (2 * k + 1) := ⟨by have := h.1; omega, by rw [show (2 * k + 1) / 2 = k by omega]; exact h.2.1, h.2.2.2.1, h.2.2.2.2⟩
theorem Up.at {x y : Int} {k : Nat} (h : Up u tx ty x y k) : At u tx ty x y (2 * k) := ⟨by have := h.1; omega, by rw [show 2 * k / 2 = k by omega]; exact h.2.1, h.2.2.2.1, h.2.2.2.2⟩
theorem Dn.at {x y : Int} {k : Nat} (h : Dn u tx ty x y k) : At u tx ty x y (2 * k + 1) := ⟨by have := h.1; omega, by rw [show (2 * k + 1) / 2 = k by omega]; exact h.2.1, h.2.2.1.1.symm.trans h.2.2.2.1, h.2.2.2.2⟩
theorem At.kind (hG : Geo u tx ty) {x y : Int} {w : Nat} (h : At u tx ty x y w) : (∃ k, Rt u tx ty x y k) ∨ (∃ k, Lt u tx ty x y k) ∨ (∃ k, Up u tx ty x y k) ∨ ∃ k, Dn u tx ty x y k := by
  rcases arrow_kind hG h.1 h.2.1 with ⟨k, _, hk⟩ | ⟨k, _, hk⟩ | ⟨k, _, hk⟩ | ⟨k, _, hk⟩ <;> rw [h.2.2.1, h.2.2.2] at hk
  · exact Or.inl ⟨k, hk⟩
  · exact Or.inr (Or.inl ⟨k, hk⟩)
  · exact Or.inr (Or.inr (Or.inl ⟨k, hk⟩))
  · exact Or.inr (Or.inr (Or.inr ⟨k, hk⟩))
theorem ex_loR {x y : Int} (h : ∃ k, Rt u tx ty x y k) : ∃ k, Rt u tx ty x y k ∧ ∀ j, Rt u tx ty x y j → gr tx ty k ≤ gr tx ty j := ex_min 20 (fun _ q => q.1) h
theorem ex_hiR {x y : Int} (h : ∃ k, Rt u tx ty x y k) : ∃ k, Rt u tx ty x y k ∧ ∀ j, Rt u tx ty x y j → gr tx ty j ≤ gr tx ty k := ex_max 20 (fun _ q => q.1) h
theorem ex_hiL {x y : Int} (h : ∃ k, Lt u tx ty x y k) : ∃ k, Lt u tx ty x y k ∧ ∀ j, Lt u tx ty x y j → gr tx ty k ≤ gr tx ty j := ex_min 20 (fun _ q => q.1) h
theorem ex_loL {x y : Int} (h : ∃ k, Lt u tx ty x y k) : ∃ k, Lt u tx ty x y k ∧ ∀ j, Lt u tx ty x y j → gr tx ty j ≤ gr tx ty k := ex_max 20 (fun _ q => q.1) h
/-- heights at a point where a segment ends -/
theorem Rt.h {x y : Int} {k : Nat} (h : Rt u tx ty x y k) : Hh tx ty k x = Qf * y := by have := Hh_left tx ty k; rw [h.2.2.2.1, h.2.2.2.2] at this; exact this
theorem Lt.h (hG : Geo u tx ty) {x y : Int} {k : Nat} (h : Lt u tx ty x y k) : Hh tx ty k x = Qf * y := by have := Hh_right (ty := ty) (hG.flat h.1 h.2.2.1); rw [h.2.2.2.1, h.2.2.2.2] at this; exact this
end ST
