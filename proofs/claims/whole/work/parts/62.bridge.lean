/-! The side straight above touches the cell of the place; both relations are one -/
section SA
variable {u : Nat → Bool} {tx ty : Nat → Int} {m : Nat} {lx : Nat → Int} {N : Nat → Nat} {K : Nat → Nat → Nat} {SFn : Nat → Int → Int → Nat} {SAb : Int → Int → Nat} {R : Nat → Nat → Prop} {S : Nat × Nat → Nat × Nat → Prop}
set_option maxHeartbeats 1000000 in
theorem SA_touch (hG : Geo u tx ty) (hC : Cells u tx ty m lx N K) (hSF : SFok u tx ty SFn) (hSA : SAok u tx ty SFn SAb) (hS : Sok u tx ty m lx N K S) {t : Nat} (ht : t < m) {y0 : Int} (hf : freeA u tx ty lx t (Qf * y0)) (wx : Wn 100 (lx t)) (wy : Wn 100 y0) : ∃ c, Tc u tx ty m lx N K (SAb (lx t) y0) c ∧ S c (t + 1, PR tx ty lx N K t (Qf * y0)) := by
  obtain ⟨y, hy0⟩ : ∃ y, y = Qf * y0 := ⟨_, rfl⟩
  rw [← hy0] at hf ⊢
  have mL := mono_L hG hC (t := t) (by omega)
  have mR := mono_R hG hC ht
  have nlE : NL (fun h => y < h ∧ ∃ e, e < 20 ∧ u e = true ∧ tx (2 * e) = tx (2 * e + 1) ∧ tx (2 * e) = lx t ∧ Qf * ty (2 * e) = h) := by
    by_cases c : ∃ e, e < 20 ∧ u e = true ∧ tx (2 * e) = tx (2 * e + 1) ∧ tx (2 * e) = lx t ∧ y < Qf * ty (2 * e)
    · obtain ⟨e, he, hm⟩ := ex_min (P := fun e => e < 20 ∧ u e = true ∧ tx (2 * e) = tx (2 * e + 1) ∧ tx (2 * e) = lx t ∧ y < Qf * ty (2 * e)) (f := fun e => Qf * ty (2 * e)) 20 (fun _ q => q.1) c
      refine Or.inr ⟨Qf * ty (2 * e), ⟨he.2.2.2.2, e, he.1, he.2.1, he.2.2.1, he.2.2.2.1, rfl⟩, ?_⟩
      rintro g ⟨hg, e2, a, b, c2, d, rfl⟩
      exact hm e2 ⟨a, b, c2, d, hg⟩
    · exact Or.inl (fun h ⟨hh, e, a, b, c2, d, e3⟩ => c ⟨e, a, b, c2, d, by omega⟩)
  rcases NL_or (NL_cp mL y) (NL_or (NL_cp mR y) nlE) with none | ⟨h, hhit, hleast⟩
  · have e2 : ¬ PR tx ty lx N K t y < N (t + 1) := fun q => none _ (Or.inr (Or.inl ⟨cp_hi _ y _ _ (Nat.le_refl _) q, _, q, rfl⟩))
    have e3 : PR tx ty lx N K t y = N (t + 1) := by have := cp_le (fR tx ty lx K t) y (N (t + 1)); unfold PR at e2 ⊢; omega
    rw [hSA.1 (lx t) y0 wx wy (fun k hk hu hfl a b => ?_) (fun e he hu hup hx => ?_), e3]
    · exact ⟨_, Or.inr (Or.inr ⟨t + 1, by omega, rfl, rfl⟩), hS.1 _⟩
    · apply Int.not_lt.mp
      intro q
      rcases Int.lt_or_le (tx (2 * k)) (lx t) with z | z
      · obtain ⟨i, hi, rfl⟩ := inst_L hG hC ht hk hu z b
        exact none _ (Or.inl ⟨by rw [hy0]; exact q, i, hi, rfl⟩)
      · obtain ⟨i, hi, rfl⟩ := inst_R hG hC ht hk hu a (by omega)
        exact none _ (Or.inr (Or.inl ⟨by rw [hy0]; exact q, i, hi, rfl⟩))
    · apply Int.not_lt.mp
      intro q
      exact none _ (Or.inr (Or.inr ⟨by rw [hy0]; exact Qf_lt.mpr q, e, he, hu, hup, hx, rfl⟩))
  · have hy : y < h := by rcases hhit with q | q | q <;> exact q.1
    have lsL : ∀ j, j < N t → y < fL tx ty lx K t j → h ≤ fL tx ty lx K t j := fun j hj q => hleast _ (Or.inl ⟨q, j, hj, rfl⟩)
    have lsR : ∀ j, j < N (t + 1) → y < fR tx ty lx K t j → h ≤ fR tx ty lx K t j := fun j hj q => hleast _ (Or.inr (Or.inl ⟨q, j, hj, rfl⟩))
    have lsE : ∀ e, e < 20 → u e = true → tx (2 * e) = tx (2 * e + 1) → tx (2 * e) = lx t → y < Qf * ty (2 * e) → h ≤ Qf * ty (2 * e) := fun e a b c d q => hleast _ (Or.inr (Or.inr ⟨q, e, a, b, c, d, rfl⟩))
    have span : ∀ j, j < 20 → u j = true → tx (2 * j) < tx (2 * j + 1) → tx (2 * j) ≤ lx t → lx t ≤ tx (2 * j + 1) → y < Hh tx ty j (lx t) → h ≤ Hh tx ty j (lx t) := by
      intro j hj hu hfl a b q
      rcases Int.lt_or_le (tx (2 * j)) (lx t) with z | z
      · obtain ⟨i, hi, rfl⟩ := inst_L hG hC ht hj hu z b
        exact lsL i hi q
      · obtain ⟨i, hi, rfl⟩ := inst_R hG hC ht hj hu a (by omega)
        exact lsR i hi q
    by_cases hp : ∃ k, k < 20 ∧ u k = true ∧ tx (2 * k) < lx t ∧ lx t < tx (2 * k + 1) ∧ Hh tx ty k (lx t) = h
    · obtain ⟨k, hk, hu, p1, p2, hh⟩ := hp
      obtain ⟨j, hj, ej⟩ := inst_R hG hC ht hk hu (by omega) p2
      have fk := hG.flat hk (show tx (2 * k) < tx (2 * k + 1) by omega)
      obtain ⟨b1, b2, b3⟩ := cp_first mR hy lsR hj (by show Hh tx ty (K (t + 1) j) (lx t) = h; rw [ej]; exact hh)
      have kR : K (t + 1) (PR tx ty lx N K t y) = k := by
        obtain ⟨_, _, c1, c2, c3, c4, c5, c6⟩ := hC.at hG (s := t + 1) (by omega) b1
        rw [show t + 1 - 1 = t by omega] at c3 c4
        apply Decidable.byContradiction
        intro hne
        have := (G1 fk c6 (hG.2.2 k _ hk c1 hu c2 (fun z => hne z.symm)) (by omega) c3 (by omega) (by omega) (by rw [hh]; exact b2.symm)).1
        omega
      rw [hSA.2.1 (lx t) y0 k wx wy hk hu p1 p2 (by rw [← hy0]; omega) (fun j a b c d e f => ?_) (fun e a b c d f => ?_)]
      · exact ⟨(t + 1, PR tx ty lx N K t y), Or.inl ⟨t + 1, PR tx ty lx N K t y, by omega, b1, Or.inr ⟨by rw [kR], rfl⟩⟩, hS.1 _⟩
      · rw [hh]; exact span j a b c d e (by rw [hy0]; exact f)
      · rw [hh]; exact lsE e a b c d (by rw [hy0]; exact Qf_lt.mpr f)
    obtain ⟨y2, w, hy2, hw⟩ : ∃ y2 w, h = Qf * y2 ∧ At u tx ty (lx t) y2 w := by
      rcases hhit with ⟨_, i, hi, he⟩ | ⟨_, i, hi, he⟩ | ⟨_, e, a, b, c, d, e2⟩
      · obtain ⟨c0, _, c1, c2, c3, c4, c5, c6⟩ := hC.at hG (s := t) (by omega) hi
        have hend : tx (2 * K t i + 1) = lx t := by
          rcases Int.lt_or_le (lx t) (tx (2 * K t i + 1)) with z | z
          · exact absurd ⟨K t i, c1, c2, by omega, z, he⟩ hp
          · omega
        have q : Lt u tx ty (lx t) (ty (2 * K t i + 1)) (K t i) := ⟨c1, c2, c6.1, hend, rfl⟩
        exact ⟨_, _, by rw [← q.h hG]; exact he.symm, q.at⟩
      · obtain ⟨c0, _, c1, c2, c3, c4, c5, c6⟩ := hC.at hG (s := t + 1) (by omega) hi
        rw [show t + 1 - 1 = t by omega] at c3 c4
        have hend : tx (2 * K (t + 1) i) = lx t := by
          rcases Int.lt_or_le (tx (2 * K (t + 1) i)) (lx t) with z | z
          · exact absurd ⟨K (t + 1) i, c1, c2, z, by omega, he⟩ hp
          · omega
        have q : Rt u tx ty (lx t) (ty (2 * K (t + 1) i)) (K (t + 1) i) := ⟨c1, c2, c6.1, hend, rfl⟩
        exact ⟨_, _, by rw [← q.h]; exact he.symm, q.at⟩
      · have hpr := hG.1 e a b
        have hu2 : Up u tx ty (lx t) (ty (2 * e)) e := ⟨a, b, ⟨c, by rcases hpr with z | z <;> omega⟩, d, rfl⟩
        exact ⟨ty (2 * e), _, e2.symm, hu2.at⟩
    have nD : ∀ e, ¬ Dn u tx ty (lx t) y2 e := by
      intro e he
      have q := Qf_lt.mpr he.2.2.1.2
      have e2 : Qf * ty (2 * e + 1) = h := by rw [he.2.2.2.2, hy2]
      rcases Int.lt_or_le y (Qf * ty (2 * e)) with z | z
      · have := lsE e he.1 he.2.1 he.2.2.1.1 he.2.2.2.1 z; omega
      · exact hf e he.1 he.2.1 he.2.2.1.1 he.2.2.2.1 ⟨z, by omega⟩
    have same : PR tx ty lx N K t (Qf * y2 - 1) = PR tx ty lx N K t y := cp_same mR (by omega) (fun j hj q => by have := lsR j hj q; omega)
    obtain ⟨v, hv, ev⟩ := hSA.2.2 (lx t) y0 y2 wx wy (Qf_lt.mp (by omega)) ⟨w, hw, nD⟩ (fun j a b c d e f => by rw [← hy2]; exact span j a b c d e (by rw [hy0]; exact f)) (fun e a b c d f => by
      have := lsE e a b c d (by rw [hy0]; exact Qf_lt.mpr f)
      exact Qf_le.mp (by omega))
    rw [ev, ← same]
    exact wD_touch hG hC hSF hS ht hv nD
/-- the cut of a strip at a point -/
def PX (tx ty : Nat → Int) (N : Nat → Nat) (K : Nat → Nat → Nat) (s : Nat) (x y : Int) : Nat := cp (fun i => Hh tx ty (K s i) x) (N s) y
theorem mono_X (hG : Geo u tx ty) (hC : Cells u tx ty m lx N K) {s : Nat} {x : Int} (hs : s ≤ m) (h0 : 0 < s → lx (s - 1) ≤ x) (h1 : s < m → x ≤ lx s) : mono (fun i => Hh tx ty (K s i) x) (N s) := by
  intro i j hij hj
  obtain ⟨a, b⟩ := hC.mid hs hj
  have q := hC.mono hG hs hij hj
  have l := hC.1 (s - 1) s (by omega) b
  have e1 := Hh_gap tx ty (K s i) (K s j) x (lx (s - 1))
  have e2 := Hh_gap tx ty (K s i) (K s j) x (lx s)
  have x0 := h0 a
  have x1 := h1 b
  have p1 := Int.mul_nonneg (show 0 ≤ lx s - x by omega) (show 0 ≤ Hh tx ty (K s j) (lx (s - 1)) - Hh tx ty (K s i) (lx (s - 1)) by omega)
  have p2 := Int.mul_nonneg (show 0 ≤ x - lx (s - 1) by omega) (show 0 ≤ Hh tx ty (K s j) (lx s) - Hh tx ty (K s i) (lx s) by omega)
  have e3 : (lx s - x) * (Hh tx ty (K s j) (lx (s - 1)) - Hh tx ty (K s i) (lx (s - 1))) + (x - lx (s - 1)) * (Hh tx ty (K s j) (lx s) - Hh tx ty (K s i) (lx s)) = (lx s - lx (s - 1)) * (Hh tx ty (K s j) x - Hh tx ty (K s i) x) := by
    rw [e1, e2]; grind
  show Hh tx ty (K s i) x ≤ Hh tx ty (K s j) x
  apply Int.not_lt.mp
  intro h
  have := (mp_neg (a := lx s - lx (s - 1)) (b := Hh tx ty (K s j) x - Hh tx ty (K s i) x) (by omega)).mpr (by omega)
  omega
/-- off the lines, what stands over x crosses the strip -/
theorem span_off (hG : Geo u tx ty) (hC : Cells u tx ty m lx N K) {s k : Nat} {x : Int} (hs : s ≤ m) (h0 : 0 < s → lx (s - 1) < x) (h1 : s < m → x < lx s) (hk : k < 20) (hu : u k = true) (a : tx (2 * k) ≤ x) (b : x ≤ tx (2 * k + 1)) : ∃ i, i < N s ∧ K s i = k := by
  obtain ⟨⟨t0, p0, q0⟩, t1, p1, q1⟩ := hC.2.1 k hk hu
  have l : ∀ t, t < m → lx t ≤ x → t < s := by
    intro t ht h
    apply Decidable.byContradiction
    intro c
    have sm : s < m := by omega
    have := h1 sm
    by_cases e : s = t
    · rw [e] at this; omega
    · have := hC.1 s t (by omega) ht; omega
  have g : ∀ t, t < m → x ≤ lx t → s ≤ t := by
    intro t ht h
    apply Decidable.byContradiction
    intro c
    have := h0 (by omega)
    by_cases e : t = s - 1
    · rw [← e] at this; omega
    · have := hC.1 t (s - 1) (by omega) (by omega); omega
  have t0s := l t0 p0 (by omega)
  have t1s := g t1 p1 (by omega)
  refine hC.2.2.2.2.1 s k (by omega) (by omega) hk hu ?_ ?_
  · by_cases e : t0 = s - 1
    · rw [← e]; omega
    · have := hC.1 t0 (s - 1) (by omega) (by omega); omega
  · by_cases e : s = t1
    · rw [e]; omega
    · have := hC.1 s t1 (by omega) p1; omega
theorem SA_off (hG : Geo u tx ty) (hC : Cells u tx ty m lx N K) (hSA : SAok u tx ty SFn SAb) {s : Nat} {x y : Int} (hs : s ≤ m) (h0 : 0 < s → lx (s - 1) < x) (h1 : s < m → x < lx s) (wx : Wn 100 x) (wy : Wn 100 y) : SAb x y = lo N K s (PX tx ty N K s x (Qf * y)) := by
  have mX := mono_X (x := x) hG hC hs (fun h => by have := h0 h; omega) (fun h => by have := h1 h; omega)
  have off : ∀ t, t < m → lx t ≠ x := by
    intro t ht e
    rcases Nat.lt_or_ge t s with q | q
    · have := h0 (by omega)
      by_cases e2 : t = s - 1
      · rw [← e2] at this; omega
      · have := hC.1 t (s - 1) (by omega) (by omega); omega
    · have := h1 (by omega)
      by_cases e2 : s = t
      · rw [e2] at this; omega
      · have := hC.1 s t (by omega) ht; omega
  have noE : ∀ e, e < 20 → u e = true → tx (2 * e) ≠ x := by
    intro e he hu h
    obtain ⟨⟨t0, p0, q0⟩, _⟩ := hC.2.1 e he hu
    exact off t0 p0 (by omega)
  by_cases c : PX tx ty N K s x (Qf * y) < N s
  · rw [lo_in c]
    obtain ⟨_, sm, c1, c2, c3, c4, c5, c6⟩ := hC.at hG hs c
    refine hSA.2.1 x y _ wx wy c1 c2 (by have := h0 (by omega); omega) (by have := h1 sm; omega) (cp_hi _ (Qf * y) _ _ (Nat.le_refl _) c) (fun j hj hu hfl a b q => ?_) (fun e he hu _ hx _ => absurd hx (noE e he hu))
    obtain ⟨i, hi, rfl⟩ := span_off hG hC hs h0 h1 hj hu a b
    rcases Nat.lt_or_ge i (PX tx ty N K s x (Qf * y)) with z | z
    · have z2 : Hh tx ty (K s i) x ≤ Qf * y := cp_lo mX i z
      omega
    · by_cases e : PX tx ty N K s x (Qf * y) = i
      · rw [e]; exact Int.le_refl _
      · exact mX (PX tx ty N K s x (Qf * y)) i (by omega) hi
  · rw [lo_out c]
    refine hSA.1 x y wx wy (fun j hj hu hfl a b => ?_) (fun e he hu _ hx => absurd hx (noE e he hu))
    obtain ⟨i, hi, rfl⟩ := span_off hG hC hs h0 h1 hj hu a b
    exact cp_lo mX i (show i < PX tx ty N K s x (Qf * y) by omega)
theorem lo_touch {s i : Nat} (hs : s ≤ m) (hi : i ≤ N s) : Tc u tx ty m lx N K (lo N K s i) (s, i) := by
  rcases Nat.lt_or_ge i (N s) with q | q
  · rw [lo_in q]; exact Or.inl ⟨s, i, hs, q, Or.inr ⟨rfl, rfl⟩⟩
  · rw [lo_out (by omega)]; exact Or.inr (Or.inr ⟨s, hs, rfl, by rw [show i = N s by omega]⟩)
/-- what is seen above a free point touches its cell -/
theorem point_touch (hG : Geo u tx ty) (hC : Cells u tx ty m lx N K) (hSF : SFok u tx ty SFn) (hSA : SAok u tx ty SFn SAb) (hS : Sok u tx ty m lx N K S) {s : Nat} {x y : Int} (hs : s ≤ m) (h0 : 0 < s → lx (s - 1) ≤ x) (h1 : s < m → x < lx s) (wx : Wn 100 x) (wy : Wn 100 y) (hf : ∀ t, t < m → lx t = x → freeA u tx ty lx t (Qf * y)) : ∃ c, Tc u tx ty m lx N K (SAb x y) c ∧ S c (s, PX tx ty N K s x (Qf * y)) := by
  by_cases c : 0 < s ∧ lx (s - 1) = x
  · obtain ⟨c1, c2⟩ := c
    obtain ⟨t, rfl⟩ : ∃ t, s = t + 1 := ⟨s - 1, by omega⟩
    rw [show t + 1 - 1 = t by omega] at c2
    subst c2
    exact SA_touch hG hC hSF hSA hS (by omega) (hf t (by omega) rfl) wx wy
  · rw [SA_off hG hC hSA hs (fun h => by have := h0 h; have : lx (s - 1) ≠ x := fun e => c ⟨h, e⟩; omega) h1 wx wy]
    exact ⟨_, lo_touch hs (cp_le _ _ _), hS.1 _⟩
/-- the joins at peaks -/
theorem E2_resp (hG : Geo u tx ty) (hC : Cells u tx ty m lx N K) (hSF : SFok u tx ty SFn) (hSA : SAok u tx ty SFn SAb) (hS : Sok u tx ty m lx N K S) {a : Nat} (ha : a < 40) (hu : u (a / 2) = true) (hp : ∀ c, c < 40 → u (c / 2) = true → tx c = tx a → ty c = ty a → ty (tw c) - ty c ≤ 0) : Lk u tx ty m lx N K S (SFn a 0 1) (SAb (tx a) (ty a)) := by
  obtain ⟨t, ht, et⟩ := line_of hC ha hu
  have hw : At u tx ty (lx t) (ty a) a := ⟨ha, hu, et.symm, rfl⟩
  have nU : ∀ e, ¬ Up u tx ty (lx t) (ty a) e := by
    intro e he
    have := hp (2 * e) he.at.1 he.at.2.1 (by rw [he.2.2.2.1, et]) he.2.2.2.2
    have := (Up_dir he).2
    omega
  obtain ⟨c, hc, sc⟩ := wU_touch hG hC hSF hS ht hw nU
  have wa := hG.2.1 a ha
  obtain ⟨d, hd, sd⟩ := SA_touch hG hC hSF hSA hS ht (free_at hG hw nU) (by rw [et]; exact wa.1) wa.2
  rw [et] at hd
  exact ⟨c, d, hc, hd, hS.2.2.1 _ _ _ sc (hS.2.2.1 _ _ _ (g_up hG hS ht hw nU) (hS.2.1 _ _ sd))⟩
/-- the least relation that the class's joins make; the least that the open places make -/
def J1 (u : Nat → Bool) (tx ty : Nat → Int) (SFn : Nat → Int → Int → Nat) (R : Nat → Nat → Prop) : Prop := ∀ a, a < 40 → u (a / 2) = true → R a (SFn a (tx (tw a) - tx a) (ty (tw a) - ty a))
def J2 (u : Nat → Bool) (tx ty : Nat → Int) (SFn : Nat → Int → Int → Nat) (SAb : Int → Int → Nat) (R : Nat → Nat → Prop) : Prop := ∀ a, a < 40 → u (a / 2) = true → (∀ c, c < 40 → u (c / 2) = true → tx c = tx a → ty c = ty a → ty (tw c) - ty c ≤ 0) → R (SFn a 0 1) (SAb (tx a) (ty a))
def GR (u : Nat → Bool) (tx ty : Nat → Int) (SFn : Nat → Int → Int → Nat) (SAb : Int → Int → Nat) (a b : Nat) : Prop := ∀ R : Nat → Nat → Prop, Eqv R → J1 u tx ty SFn R → J2 u tx ty SFn SAb R → R a b
def GS (u : Nat → Bool) (tx ty : Nat → Int) (m : Nat) (lx : Nat → Int) (N : Nat → Nat) (K : Nat → Nat → Nat) (c d : Nat × Nat) : Prop := ∀ S : Nat × Nat → Nat × Nat → Prop, Sok u tx ty m lx N K S → S c d
theorem GR_eqv : Eqv (GR u tx ty SFn SAb) := ⟨fun a R h1 _ _ => h1.1 a, fun a b h R h1 h2 h3 => h1.2.1 _ _ (h R h1 h2 h3), fun a b c h g R h1 h2 h3 => h1.2.2 _ _ _ (h R h1 h2 h3) (g R h1 h2 h3)⟩
theorem GR_ctx (hG : Geo u tx ty) (hC : Cells u tx ty m lx N K) (hSF : SFok u tx ty SFn) (hSA : SAok u tx ty SFn SAb) : Ctx u tx ty m lx N K SFn SAb (GR u tx ty SFn SAb) := ⟨hG, hC, hSF, hSA, GR_eqv, fun a ha hu R _ h2 _ => h2 a ha hu, fun a ha hu hp R _ _ h3 => h3 a ha hu hp⟩
theorem GS_ok : Sok u tx ty m lx N K (GS u tx ty m lx N K) := ⟨fun a S h => h.1 a, fun a b g S h => h.2.1 _ _ (g S h), fun a b c g g2 S h => h.2.2.1 _ _ _ (g S h) (g2 S h), fun t y ht hf S h => h.2.2.2 t y ht hf⟩
/-- sides are together just when their cells are -/
theorem bridge (hG : Geo u tx ty) (hC : Cells u tx ty m lx N K) (hSF : SFok u tx ty SFn) (hSA : SAok u tx ty SFn SAb) {a b : Nat} {c d : Nat × Nat} (h1 : Tc u tx ty m lx N K a c) (h2 : Tc u tx ty m lx N K b d) : GR u tx ty SFn SAb a b ↔ GS u tx ty m lx N K c d := by
  have hS := GS_ok (u := u) (tx := tx) (ty := ty) (m := m) (lx := lx) (N := N) (K := K)
  have hX := GR_ctx hG hC hSF hSA
  constructor
  · intro h
    have eqv : Eqv (fun a b => a = b ∨ Lk u tx ty m lx N K (GS u tx ty m lx N K) a b) := by
      refine ⟨fun _ => Or.inl rfl, fun a b q => ?_, fun a b e q r => ?_⟩
      · rcases q with q | ⟨p, r, q1, q2, q3⟩
        · exact Or.inl q.symm
        · exact Or.inr ⟨r, p, q2, q1, hS.2.1 _ _ q3⟩
      · rcases q with q | ⟨p, r2, q1, q2, q3⟩
        · subst q; exact r
        · rcases r with r | ⟨p2, r3, s1, s2, s3⟩
          · subst r; exact Or.inr ⟨p, r2, q1, q2, q3⟩
          · exact Or.inr ⟨p, r3, q1, s2, hS.2.2.1 _ _ _ q3 (hS.2.2.1 _ _ _ (touch_one hG hC hS q2 s1) s3)⟩
    rcases h _ eqv (fun a ha hu => Or.inr (E1_resp hG hC hSF hS ha hu)) (fun a ha hu hp => Or.inr (E2_resp hG hC hSF hSA hS ha hu hp)) with q | ⟨p, r, q1, q2, q3⟩
    · subst q; exact touch_one hG hC hS h1 h2
    · exact hS.2.2.1 _ _ _ (touch_one hG hC hS h1 q1) (hS.2.2.1 _ _ _ q3 (touch_one hG hC hS q2 h2))
  · intro h
    have k := h (fun c d => GR u tx ty SFn SAb (lo N K c.1 c.2) (lo N K d.1 d.2)) ⟨fun _ => GR_eqv.1 _, fun _ _ q => GR_eqv.2.1 _ _ q, fun _ _ _ q r => GR_eqv.2.2 _ _ _ q r, fun t y ht hf => open_lo hX ht hf⟩
    exact GR_eqv.2.2 _ _ _ (touch_lo hX h1) (GR_eqv.2.2 _ _ _ k (GR_eqv.2.1 _ _ (touch_lo hX h2)))
end SA
