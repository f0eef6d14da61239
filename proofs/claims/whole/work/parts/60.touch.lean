/-! Which sides touch which cells -/
section TC
variable {u : Nat → Bool} {tx ty : Nat → Int} {m : Nat} {lx : Nat → Int} {N : Nat → Nat} {K : Nat → Nat → Nat} {SFn : Nat → Int → Int → Nat} {SAb : Int → Int → Nat} {R : Nat → Nat → Prop}
theorem Hh_bd (hG : Geo u tx ty) {k : Nat} (hk : k < 20) (hf : tx (2 * k) < tx (2 * k + 1)) {x : Int} (h0 : tx (2 * k) ≤ x) (h1 : x ≤ tx (2 * k + 1)) : Qf * (-100) ≤ Hh tx ty k x ∧ Hh tx ty k x ≤ Qf * 100 := by
  have fk := hG.flat hk hf
  have a := (hG.2.1 (2 * k) (by omega)).2
  have b := (hG.2.1 (2 * k + 1) (by omega)).2
  have a1 := Qf_le.mpr a.1
  have a2 := Qf_le.mpr a.2
  have b1 := Qf_le.mpr b.1
  have b2 := Qf_le.mpr b.2
  have e1 := Hh_diff tx ty k (tx (2 * k)) x
  have e2 := Hh_diff tx ty k (tx (2 * k + 1)) x
  rw [Hh_left] at e1
  rw [Hh_right fk] at e2
  rcases Int.le_total 0 (gr tx ty k) with q | q
  · have p1 := Int.mul_nonneg q (show 0 ≤ x - tx (2 * k) by omega)
    have p2 := Int.mul_nonneg q (show 0 ≤ tx (2 * k + 1) - x by omega)
    have p3 : gr tx ty k * (x - tx (2 * k + 1)) = -(gr tx ty k * (tx (2 * k + 1) - x)) := by grind
    omega
  · have p1 := Int.mul_nonneg (show 0 ≤ -gr tx ty k by omega) (show 0 ≤ x - tx (2 * k) by omega)
    have p2 := Int.mul_nonneg (show 0 ≤ -gr tx ty k by omega) (show 0 ≤ tx (2 * k + 1) - x by omega)
    have p3 : gr tx ty k * (x - tx (2 * k + 1)) = -gr tx ty k * (tx (2 * k + 1) - x) := by grind
    have p4 : gr tx ty k * (x - tx (2 * k)) = -(-gr tx ty k * (x - tx (2 * k))) := by grind
    omega
/-- the floor's upper side and the roof's lower side -/
theorem floor_roof (hX : Ctx u tx ty m lx N K SFn SAb R) {s i : Nat} (hs : s ≤ m) (hi : i < N s) : R (2 * K s i) (lo N K s (i + 1)) := by
  have hG := hX.1
  have hC := hX.2.1
  obtain ⟨c0, cm, c1, c2, c3, c4, c5, c6⟩ := hC.at hG hs hi
  obtain ⟨T, hT, eT⟩ := (hC.2.1 _ c1 c2).1
  have hTs : T < s := (lx_lt hC hT cm).mp (by omega)
  refine walk_R hX (z := Qf * (-101)) (T := T) (t := s) hT cm c1 c2 c6.1 eT c5 (Qf_lt.mpr (by have := (hG.2.1 (2 * K s i) (by omega)).2.1; omega)) (HUE_all hX _) (fun r h1 h2 => ?_) (s - (T + 1)) s i (by omega) (Nat.le_refl _) hi rfl
  have l1 := (lx_lt hC hT (show r < m by omega)).mpr h1
  have l2 := (lx_lt hC (show r < m by omega) cm).mpr h2
  have := (Hh_bd hG c1 c6.1 (x := lx r) (by omega) (by omega)).1
  have q : Qf * (-101) < Qf * (-100) := Qf_lt.mpr (by omega)
  omega
/-- a side and a cell that lies along it -/
def Tc (u : Nat → Bool) (tx ty : Nat → Int) (m : Nat) (lx : Nat → Int) (N : Nat → Nat) (K : Nat → Nat → Nat) (a : Nat) (c : Nat × Nat) : Prop :=
  (∃ s j, s ≤ m ∧ j < N s ∧ ((a = 2 * K s j ∧ c = (s, j + 1)) ∨ (a = 2 * K s j + 1 ∧ c = (s, j)))) ∨
  (∃ e t, t < m ∧ Up u tx ty (lx t) (ty (2 * e)) e ∧ ((a = 2 * e ∧ c = (t, PL tx ty lx N K t (Qf * ty (2 * e)))) ∨ (a = 2 * e + 1 ∧ c = (t + 1, PR tx ty lx N K t (Qf * ty (2 * e)))))) ∨
  ∃ s, s ≤ m ∧ a = 40 ∧ c = (s, N s)
theorem touch_lo (hX : Ctx u tx ty m lx N K SFn SAb R) {a : Nat} {c : Nat × Nat} (h : Tc u tx ty m lx N K a c) : R a (lo N K c.1 c.2) := by
  have hE := hX.2.2.2.2.1
  rcases h with ⟨s, j, hs, hj, ⟨rfl, rfl⟩ | ⟨rfl, rfl⟩⟩ | ⟨e, t, ht, he, ⟨rfl, rfl⟩ | ⟨rfl, rfl⟩⟩ | ⟨s, hs, rfl, rfl⟩
  · exact floor_roof hX hs hj
  · rw [show lo N K (s, j).1 (s, j).2 = 2 * K s j + 1 from lo_in hj]; exact hE.1 _
  · exact ((HUE_all hX (Qf * (ty (2 * e) - 1))).2 t e _ ht (Qf_lt.mpr (by omega)) he).1
  · exact ((HUE_all hX (Qf * (ty (2 * e) - 1))).2 t e _ ht (Qf_lt.mpr (by omega)) he).2
  · rw [show lo N K (s, N s).1 (s, N s).2 = 40 from lo_out (Nat.lt_irrefl _)]; exact hE.1 _
/-- an open place on a line -/
theorem open_lo (hX : Ctx u tx ty m lx N K SFn SAb R) {t : Nat} {y : Int} (ht : t < m) (hf : freeA u tx ty lx t y) : R (lo N K t (PL tx ty lx N K t y)) (lo N K (t + 1) (PR tx ty lx N K t y)) := (lift_M hX ht (HUE_all hX y) hf).1
theorem point_lo (hX : Ctx u tx ty m lx N K SFn SAb R) {t : Nat} {y : Int} (ht : t < m) (hf : freeA u tx ty lx t (Qf * y)) (wx : Wn 100 (lx t)) (wy : Wn 100 y) : R (lo N K (t + 1) (PR tx ty lx N K t (Qf * y))) (SAb (lx t) y) := (lift_M hX ht (HUE_all hX _) hf).2 y rfl wx wy
end TC
/-! The other way: what the class puts together lies in one face -/
/-- a relation of cells that joins those on both sides of an open place -/
def Sok (u : Nat → Bool) (tx ty : Nat → Int) (m : Nat) (lx : Nat → Int) (N : Nat → Nat) (K : Nat → Nat → Nat) (S : Nat × Nat → Nat × Nat → Prop) : Prop :=
  (∀ a, S a a) ∧ (∀ a b, S a b → S b a) ∧ (∀ a b c, S a b → S b c → S a c) ∧ ∀ t y, t < m → freeA u tx ty lx t y → S (t, PL tx ty lx N K t y) (t + 1, PR tx ty lx N K t y)
section TS
variable {u : Nat → Bool} {tx ty : Nat → Int} {m : Nat} {lx : Nat → Int} {N : Nat → Nat} {K : Nat → Nat → Nat} {SFn : Nat → Int → Int → Nat} {SAb : Int → Int → Nat} {S : Nat × Nat → Nat × Nat → Prop}
/-- the cuts at a segment that passes through a line, above it and below it -/
theorem pass_cuts (hG : Geo u tx ty) (hC : Cells u tx ty m lx N K) {s i j : Nat} (hs : s < m) (hi : i < N s) (hj : j < N (s + 1)) (he : K s i = K (s + 1) j) :
    (PL tx ty lx N K s (Hh tx ty (K s i) (lx s)) = i + 1 ∧ PR tx ty lx N K s (Hh tx ty (K s i) (lx s)) = j + 1 ∧ freeA u tx ty lx s (Hh tx ty (K s i) (lx s))) ∧ (PL tx ty lx N K s (Hh tx ty (K s i) (lx s) - 1) = i ∧ PR tx ty lx N K s (Hh tx ty (K s i) (lx s) - 1) = j ∧ freeA u tx ty lx s (Hh tx ty (K s i) (lx s) - 1)) := by
  have mL := mono_L hG hC (t := s) (by omega)
  have mR := mono_R hG hC hs
  obtain ⟨_, _, c1, c2, c3, c4, c5, c6⟩ := hC.at hG (s := s) (by omega) hi
  obtain ⟨_, _, d1, d2, d3, d4, d5, d6⟩ := hC.at hG (s := s + 1) (by omega) hj
  rw [show s + 1 - 1 = s by omega] at d3 d4
  rw [← he] at d3 d5
  have p1 : tx (2 * K s i) < lx s := by omega
  have p2 : lx s < tx (2 * K s i + 1) := by omega
  have only : ∀ q, q < 20 → u q = true → flat tx q → tx (2 * q) ≤ lx s → lx s ≤ tx (2 * q + 1) → Hh tx ty q (lx s) = Hh tx ty (K s i) (lx s) → q = K s i := by
    intro q hq hqu fq q1 q2 q3
    apply Decidable.byContradiction
    intro hne
    have := (G1 c6 fq (hG.2.2 _ q c1 hq c2 hqu (fun z => hne z.symm)) (by omega) q1 (by omega) q2 q3.symm).1
    omega
  have eL : ∀ a, a < N s → a ≠ i → fL tx ty lx K s a ≠ Hh tx ty (K s i) (lx s) := by
    intro a ha hne e
    obtain ⟨_, _, b1, b2, b3, b4, b5, b6⟩ := hC.at hG (s := s) (by omega) ha
    have q := only _ b1 b2 b6 (by omega) b5 e
    rcases Nat.lt_or_ge a i with z | z
    · exact hC.ne hG (s := s) (by omega) z hi q
    · exact hC.ne hG (s := s) (by omega) (show i < a by omega) ha q.symm
  have eR : ∀ a, a < N (s + 1) → a ≠ j → fR tx ty lx K s a ≠ Hh tx ty (K s i) (lx s) := by
    intro a ha hne e
    obtain ⟨_, _, b1, b2, b3, b4, b5, b6⟩ := hC.at hG (s := s + 1) (by omega) ha
    rw [show s + 1 - 1 = s by omega] at b3 b4
    have q := only _ b1 b2 b6 b3 (by omega) e
    rcases Nat.lt_or_ge a j with z | z
    · exact hC.ne hG (s := s + 1) (by omega) z hj (by rw [q, he])
    · exact hC.ne hG (s := s + 1) (by omega) (show j < a by omega) ha (by rw [q, he])
  have e3 : fR tx ty lx K s j = Hh tx ty (K s i) (lx s) := by show Hh tx ty (K (s + 1) j) (lx s) = _; rw [he]
  have e4 : fL tx ty lx K s i = Hh tx ty (K s i) (lx s) := rfl
  have up : ∀ e, e < 20 → u e = true → tx (2 * e) = tx (2 * e + 1) → tx (2 * e) = lx s → ¬ (Qf * ty (2 * e) ≤ Hh tx ty (K s i) (lx s) ∧ Hh tx ty (K s i) (lx s) ≤ Qf * ty (2 * e + 1)) := by
    intro e a b c d ⟨q1, q2⟩
    have hpr := hG.1 e a b
    have hlt : ty (2 * e) < ty (2 * e + 1) := by rcases hpr with z | z <;> omega
    have hne : K s i ≠ e := fun z => by rw [z] at p1; omega
    have g := (G4 c hlt c6 (hG.2.2 _ e c1 a c2 b hne) (by omega) (by omega) (by rw [d]; exact q1) (by rw [d]; omega)).2
    omega
  refine ⟨⟨cp_eq mL (by omega) (fun a ha => ?_) (fun a h1 h2 => ?_), cp_eq mR (by omega) (fun a ha => ?_) (fun a h1 h2 => ?_), fun e a b c d q => up e a b c d ⟨q.1, by omega⟩⟩, cp_eq mL (by omega) (fun a ha => ?_) (fun a h1 h2 => ?_), cp_eq mR (by omega) (fun a ha => ?_) (fun a h1 h2 => ?_), fun e a b c d q => up e a b c d ⟨by omega, by omega⟩⟩
  · rcases Nat.lt_or_ge a i with z | z
    · exact mL a i z hi
    · rw [show a = i by omega]; exact Int.le_refl _
  · have q1 := mL i a (by omega) h2
    have q2 := eL a h2 (by omega)
    omega
  · rcases Nat.lt_or_ge a j with z | z
    · have := mR a j z hj; omega
    · rw [show a = j by omega, e3]; exact Int.le_refl _
  · have q1 := mR j a (by omega) h2
    have q2 := eR a h2 (by omega)
    omega
  · have q1 := mL a i ha hi
    have q2 := eL a (by omega) (by omega)
    omega
  · rcases Nat.lt_or_ge i a with z | z
    · have := mL i a z h2; omega
    · rw [show a = i by omega]; omega
  · have q1 := mR a j ha hj
    have q2 := eR a (by omega) (by omega)
    omega
  · rcases Nat.lt_or_ge j a with z | z
    · have := mR j a z h2; omega
    · rw [show a = j by omega]; omega
/-- along a segment, above it and below it, the cells are joined -/
theorem along (hG : Geo u tx ty) (hC : Cells u tx ty m lx N K) (hS : Sok u tx ty m lx N K S) {k : Nat} : ∀ (d s i j : Nat), s + d ≤ m → i < N s → j < N (s + d) → K s i = k → K (s + d) j = k → S (s, i + 1) (s + d, j + 1) ∧ S (s, i) (s + d, j) := by
  intro d
  induction d with
  | zero =>
    intro s i j hs hi hj ei ej
    have e : i = j := by
      rcases Nat.lt_trichotomy i j with z | z | z
      · exact absurd (ei.trans ej.symm) (hC.ne hG (s := s) (by omega) z hj)
      · exact z
      · exact absurd (ej.trans ei.symm) (hC.ne hG (s := s) (by omega) z hi)
    subst e
    exact ⟨hS.1 _, hS.1 _⟩
  | succ d ih =>
    intro s i j hs hi hj ei ej
    obtain ⟨_, cm, c1, c2, c3, c4, c5, c6⟩ := hC.at hG (s := s) (by omega) hi
    obtain ⟨_, dm, d1, d2, d3, d4, d5, d6⟩ := hC.at hG (s := s + (d + 1)) (by omega) hj
    rw [ei] at c1 c2 c3 c5 c6
    rw [ej] at d3 d5
    have l1 : lx s < lx (s + (d + 1)) := hC.1 s _ (by omega) dm
    obtain ⟨a, ha, ea⟩ := inst_R hG hC (t := s) (by omega) c1 c2 (by omega) (by omega)
    obtain ⟨⟨q1, q2, q3⟩, q4, q5, q6⟩ := pass_cuts hG hC (by omega) hi ha (by rw [ei, ea])
    have p1 := hS.2.2.2 s _ (by omega) q3
    have p2 := hS.2.2.2 s _ (by omega) q6
    rw [q1, q2] at p1
    rw [q4, q5] at p2
    obtain ⟨r1, r2⟩ := ih (s + 1) a j (by omega) ha (by rw [show s + 1 + d = s + (d + 1) by omega]; exact hj) ea (by rw [show s + 1 + d = s + (d + 1) by omega]; exact ej)
    rw [show s + 1 + d = s + (d + 1) by omega] at r1 r2
    exact ⟨hS.2.2.1 _ _ _ p1 r1, hS.2.2.1 _ _ _ p2 r2⟩
/-- the cells at the top are joined -/
theorem tops (hG : Geo u tx ty) (hC : Cells u tx ty m lx N K) (hS : Sok u tx ty m lx N K S) : ∀ (d s : Nat), s + d ≤ m → S (s, N s) (s + d, N (s + d)) := by
  intro d
  induction d with
  | zero => intro s _; exact hS.1 _
  | succ d ih =>
    intro s hs
    have ht : s < m := by omega
    have hf : freeA u tx ty lx s (Qf * 100) := by
      intro e a b c d2 ⟨q1, q2⟩
      have := Qf_lt.mp q2
      have := (hG.2.1 (2 * e + 1) (by omega)).2.2
      omega
    have p := hS.2.2.2 s _ ht hf
    have e1 : PL tx ty lx N K s (Qf * 100) = N s := cp_eq (mono_L hG hC (t := s) (by omega)) (Nat.le_refl _) (fun j hj => by
      obtain ⟨_, _, b1, b2, b3, b4, b5, b6⟩ := hC.at hG (s := s) (by omega) hj
      exact (Hh_bd hG b1 b6.1 (by omega) b5).2) (fun j h1 h2 => by omega)
    have e2 : PR tx ty lx N K s (Qf * 100) = N (s + 1) := cp_eq (mono_R hG hC ht) (Nat.le_refl _) (fun j hj => by
      obtain ⟨_, _, b1, b2, b3, b4, b5, b6⟩ := hC.at hG (s := s + 1) (by omega) hj
      rw [show s + 1 - 1 = s by omega] at b3 b4
      exact (Hh_bd hG b1 b6.1 b3 (by omega)).2) (fun j h1 h2 => by omega)
    rw [e1, e2] at p
    have r := ih (s + 1) (by omega)
    rw [show s + 1 + d = s + (d + 1) by omega] at r
    exact hS.2.2.1 _ _ _ p r
/-- a side touches cells of one face alone -/
theorem touch_one (hG : Geo u tx ty) (hC : Cells u tx ty m lx N K) (hS : Sok u tx ty m lx N K S) {a : Nat} {c d : Nat × Nat} (h1 : Tc u tx ty m lx N K a c) (h2 : Tc u tx ty m lx N K a d) : S c d := by
  have fl : ∀ {s j}, s ≤ m → j < N s → K s j < 20 ∧ tx (2 * K s j) < tx (2 * K s j + 1) := fun hs hj => by
    obtain ⟨_, _, b1, b2, b3, b4, b5, b6⟩ := hC.at hG hs hj; exact ⟨b1, b6.1⟩
  have two : ∀ {s t i j}, s ≤ m → t ≤ m → i < N s → j < N t → K s i = K t j → S (s, i + 1) (t, j + 1) ∧ S (s, i) (t, j) := by
    intro s t i j hs ht hi hj e
    rcases Nat.le_total s t with q | q
    · have := along hG hC hS (k := K t j) (t - s) s i j (by omega) hi (by rw [show s + (t - s) = t by omega]; exact hj) e (by rw [show s + (t - s) = t by omega])
      rw [show s + (t - s) = t by omega] at this; exact this
    · have := along hG hC hS (k := K s i) (s - t) t j i (by omega) hj (by rw [show t + (s - t) = s by omega]; exact hi) e.symm (by rw [show t + (s - t) = s by omega])
      rw [show t + (s - t) = s by omega] at this; exact ⟨hS.2.1 _ _ this.1, hS.2.1 _ _ this.2⟩
  rcases h1 with ⟨s, j, hs, hj, ⟨e1, rfl⟩ | ⟨e1, rfl⟩⟩ | ⟨e, t, ht, he, ⟨e1, rfl⟩ | ⟨e1, rfl⟩⟩ | ⟨s, hs, e1, rfl⟩ <;>
  rcases h2 with ⟨s2, j2, hs2, hj2, ⟨e2, rfl⟩ | ⟨e2, rfl⟩⟩ | ⟨f, t2, ht2, hf, ⟨e2, rfl⟩ | ⟨e2, rfl⟩⟩ | ⟨s2, hs2, e2, rfl⟩
  · exact (two hs hs2 hj hj2 (by omega)).1
  · omega
  · have p := (fl hs hj).2; have := hf.2.2.1.1; have e3 : K s j = f := by omega
    rw [e3] at p; omega
  · omega
  · have := (fl hs hj).1; omega
  · omega
  · exact (two hs hs2 hj hj2 (by omega)).2
  · omega
  · have p := (fl hs hj).2; have := hf.2.2.1.1; have e3 : K s j = f := by omega
    rw [e3] at p; omega
  · have := (fl hs hj).1; omega
  · have p := (fl hs2 hj2).2; have := he.2.2.1.1; have e3 : K s2 j2 = e := by omega
    rw [e3] at p; omega
  · omega
  · have e3 : f = e := by omega
    subst e3
    have e4 : lx t = lx t2 := by rw [← he.2.2.2.1, ← hf.2.2.2.1]
    have e5 : t = t2 := by
      rcases Nat.lt_trichotomy t t2 with q | q | q
      · have := hC.1 t t2 q ht2; omega
      · exact q
      · have := hC.1 t2 t q ht; omega
    subst e5; exact hS.1 _
  · omega
  · have := he.1; omega
  · omega
  · have p := (fl hs2 hj2).2; have := he.2.2.1.1; have e3 : K s2 j2 = e := by omega
    rw [e3] at p; omega
  · omega
  · have e3 : f = e := by omega
    subst e3
    have e4 : lx t = lx t2 := by rw [← he.2.2.2.1, ← hf.2.2.2.1]
    have e5 : t = t2 := by
      rcases Nat.lt_trichotomy t t2 with q | q | q
      · have := hC.1 t t2 q ht2; omega
      · exact q
      · have := hC.1 t2 t q ht; omega
    subst e5; exact hS.1 _
  · have := he.1; omega
  · have := (fl hs2 hj2).1; omega
  · have := (fl hs2 hj2).1; omega
  · have := hf.1; omega
  · have := hf.1; omega
  · rcases Nat.le_total s s2 with q | q
    · have := tops hG hC hS (s2 - s) s (by omega)
      rw [show s + (s2 - s) = s2 by omega] at this; exact this
    · have := tops hG hC hS (s - s2) s2 (by omega)
      rw [show s2 + (s - s2) = s by omega] at this; exact hS.2.1 _ _ this
end TS
