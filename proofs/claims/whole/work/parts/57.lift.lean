/-! The side straight above, left and right of a line -/
def NL (P : Int → Prop) : Prop := (∀ h, ¬ P h) ∨ ∃ h, P h ∧ ∀ g, P g → h ≤ g
theorem NL_or {P Q : Int → Prop} (hP : NL P) (hQ : NL Q) : NL (fun h => P h ∨ Q h) := by
  rcases hP with hP | ⟨a, ha, hm⟩
  · rcases hQ with hQ | ⟨b, hb, hn⟩
    · exact Or.inl (fun h q => q.elim (hP h) (hQ h))
    · exact Or.inr ⟨b, Or.inr hb, fun g q => q.elim (fun z => absurd z (hP g)) (hn g)⟩
  · rcases hQ with hQ | ⟨b, hb, hn⟩
    · exact Or.inr ⟨a, Or.inl ha, fun g q => q.elim (hm g) (fun z => absurd z (hQ g))⟩
    · rcases Int.le_total a b with q | q
      · exact Or.inr ⟨a, Or.inl ha, fun g z => z.elim (hm g) (fun z => Int.le_trans q (hn g z))⟩
      · exact Or.inr ⟨b, Or.inr hb, fun g z => z.elim (fun z => Int.le_trans q (hm g z)) (hn g)⟩
theorem NL_cp {f : Nat → Int} {n : Nat} (hm : mono f n) (y : Int) : NL (fun h => y < h ∧ ∃ j, j < n ∧ f j = h) := by
  by_cases c : cp f n y < n
  · refine Or.inr ⟨f (cp f n y), ⟨cp_hi f y n _ (Nat.le_refl _) c, _, c, rfl⟩, ?_⟩
    rintro g ⟨hg, j, hj, rfl⟩
    rcases Nat.lt_trichotomy (cp f n y) j with q | q | q
    · exact hm _ _ q hj
    · rw [q]; exact Int.le_refl _
    · have := cp_lo hm j q; omega
  · refine Or.inl ?_
    rintro h ⟨hg, j, hj, rfl⟩
    have := cp_lo hm (y := y) j (by omega); omega
/-- the least that is above y stands at the cut -/
theorem cp_first {f : Nat → Int} {n : Nat} (hm : mono f n) {y h : Int} (hy : y < h) (hl : ∀ j, j < n → y < f j → h ≤ f j) {j : Nat} (hj : j < n) (he : f j = h) : cp f n y < n ∧ f (cp f n y) = h ∧ cp f n y ≤ j := by
  have h1 : cp f n y ≤ j := by
    rcases Nat.lt_or_ge j (cp f n y) with q | q
    · have := cp_lo hm j q; omega
    · exact q
  have h2 : cp f n y < n := by omega
  have h3 := cp_hi f y n _ (Nat.le_refl _) h2
  refine ⟨h2, ?_, h1⟩
  have a := hl _ h2 h3
  rcases Nat.lt_or_ge (cp f n y) j with q | q
  · have := hm _ _ q hj; omega
  · rw [show cp f n y = j by omega]; exact he
/-- a cut doesn't move where nothing lies between -/
theorem cp_same {f : Nat → Int} {n : Nat} (hm : mono f n) {y h : Int} (hy : y ≤ h) (hl : ∀ j, j < n → y < f j → h < f j) : cp f n h = cp f n y :=
  cp_eq hm (cp_le f y n) (fun j hj => Int.le_trans (cp_lo hm j hj) hy) (fun j h1 h2 => hl j h2 (cp_hi f y n j h1 h2))
theorem lo_in {N : Nat → Nat} {K : Nat → Nat → Nat} {s i : Nat} (h : i < N s) : lo N K s i = 2 * K s i + 1 := by unfold lo; rw [if_pos h]
theorem lo_out {N : Nat → Nat} {K : Nat → Nat → Nat} {s i : Nat} (h : ¬ i < N s) : lo N K s i = 40 := by unfold lo; rw [if_neg h]
section LI
variable {u : Nat → Bool} {tx ty : Nat → Int} {m : Nat} {lx : Nat → Int} {N : Nat → Nat} {K : Nat → Nat → Nat} {SFn : Nat → Int → Int → Nat} {SAb : Int → Int → Nat} {R : Nat → Nat → Prop}
/-- from the lowest arrow to the left one turns to what is seen below -/
theorem nx_loL (hG : Geo u tx ty) (hSF : SFok u tx ty SFn) {x y : Int} {k w : Nat} (hk : Lt u tx ty x y k) (hh : ∀ i, Lt u tx ty x y i → gr tx ty i ≤ gr tx ty k) (nD : ∀ e, ¬ Dn u tx ty x y e) (hw : At u tx ty x y w) : SFn (2 * k + 1) (tx (tw (2 * k + 1)) - tx (2 * k + 1)) (ty (tw (2 * k + 1)) - ty (2 * k + 1)) = SFn w 0 (-1) := by
  by_cases h1 : ∃ k, Rt u tx ty x y k
  · obtain ⟨j, hj, hm⟩ := ex_loR h1
    rw [F_L3 hG hSF hk hh nD hj hm, F_D1 (k := 0) hG hSF hw (by decide) w200.2 hj hm]
  · have nR : ∀ i, ¬ Rt u tx ty x y i := fun i hi => h1 ⟨i, hi⟩
    by_cases h2 : ∃ k, Up u tx ty x y k
    · obtain ⟨j, hj⟩ := h2
      rw [F_L4 hG hSF hk hh nD nR hj, F_D2 (k := 0) hG hSF hw (by decide) w200.2 nR hj]
    · have nU : ∀ i, ¬ Up u tx ty x y i := fun i hi => h2 ⟨i, hi⟩
      obtain ⟨j, hj, hm⟩ := ex_hiL ⟨k, hk⟩
      rw [F_L5 hG hSF hk hh nD nR nU hj hm, F_D3 (k := 0) hG hSF hw (by decide) w200.2 nR nU hj hm]
/-- the direction of an upright arrow -/
theorem Up_dir {x y : Int} {e : Nat} (h : Up u tx ty x y e) : tx (tw (2 * e)) - tx (2 * e) = 0 ∧ 0 < ty (tw (2 * e)) - ty (2 * e) := by
  rw [tw_even]; have a := h.2.2.1; omega
theorem Dn_dir {x y : Int} {e : Nat} (h : Dn u tx ty x y e) : tx (tw (2 * e + 1)) - tx (2 * e + 1) = 0 ∧ ty (tw (2 * e + 1)) - ty (2 * e + 1) < 0 := by
  rw [tw_odd]; have a := h.2.2.1; omega
theorem dir_w (hG : Geo u tx ty) {a : Nat} (ha : a < 40) : Wn 200 (ty (tw a) - ty a) := by
  have p := (hG.2.1 a ha).2
  have q := (hG.2.1 (tw a) (tw_lt ha)).2
  exact ⟨by have := q.1; have := p.2; omega, by have := q.2; have := p.1; omega⟩
theorem nx_Up (hG : Geo u tx ty) (hSF : SFok u tx ty SFn) {x y : Int} {e w : Nat} (he : Up u tx ty x y e) (nL : ∀ i, ¬ Lt u tx ty x y i) (nD : ∀ e, ¬ Dn u tx ty x y e) (hw : At u tx ty x y w) : SFn (2 * e) (tx (tw (2 * e)) - tx (2 * e)) (ty (tw (2 * e)) - ty (2 * e)) = SFn w 0 (-1) := by
  obtain ⟨d1, d2⟩ := Up_dir he
  rw [d1]
  by_cases h1 : ∃ k, Rt u tx ty x y k
  · obtain ⟨j, hj, hm⟩ := ex_loR h1
    rw [F_U3 (k := 0) hG hSF he.at d2 (dir_w hG he.at.1) nL nD hj hm, F_D1 (k := 0) hG hSF hw (by decide) w200.2 hj hm]
  · have nR : ∀ i, ¬ Rt u tx ty x y i := fun i hi => h1 ⟨i, hi⟩
    rw [F_U4 (k := 0) hG hSF he.at d2 (dir_w hG he.at.1) nL nD nR he, F_D2 (k := 0) hG hSF hw (by decide) w200.2 nR he]
set_option maxHeartbeats 1000000 in
theorem lift_M (hX : Ctx u tx ty m lx N K SFn SAb R) {t : Nat} (ht : t < m) {y : Int} (hH : HUE u tx ty m lx N K SFn R y) (hf : freeA u tx ty lx t y) :
    R (lo N K t (PL tx ty lx N K t y)) (lo N K (t + 1) (PR tx ty lx N K t y)) ∧ ∀ y0, y = Qf * y0 → Wn 100 (lx t) → Wn 100 y0 → R (lo N K (t + 1) (PR tx ty lx N K t y)) (SAb (lx t) y0) := by
  obtain ⟨hG, hC, hSF, hSA, hE, hE1, hE2⟩ := hX
  have mL := mono_L hG hC (t := t) (by omega)
  have mR := mono_R hG hC ht
  have nlE : NL (fun h => y < h ∧ ∃ e, e < 20 ∧ u e = true ∧ tx (2 * e) = tx (2 * e + 1) ∧ tx (2 * e) = lx t ∧ Qf * ty (2 * e) = h) := by
    by_cases c : ∃ e, e < 20 ∧ u e = true ∧ tx (2 * e) = tx (2 * e + 1) ∧ tx (2 * e) = lx t ∧ y < Qf * ty (2 * e)
    · obtain ⟨e, he, hm⟩ := ex_min (P := fun e => e < 20 ∧ u e = true ∧ tx (2 * e) = tx (2 * e + 1) ∧ tx (2 * e) = lx t ∧ y < Qf * ty (2 * e)) (f := fun e => Qf * ty (2 * e)) 20 (fun _ q => q.1) c
      refine Or.inr ⟨Qf * ty (2 * e), ⟨he.2.2.2.2, e, he.1, he.2.1, he.2.2.1, he.2.2.2.1, rfl⟩, ?_⟩
      rintro g ⟨hg, e2, a, b, c2, d, rfl⟩
      exact hm e2 ⟨a, b, c2, d, hg⟩
    · exact Or.inl (fun h ⟨hh, e, a, b, c2, d, e3⟩ => c ⟨e, a, b, c2, d, by omega⟩)
  rcases NL_or (NL_cp mL y) (NL_or (NL_cp mR y) nlE) with none | ⟨h, hhit, hleast⟩
  · -- nothing above
    have e1 : ¬ PL tx ty lx N K t y < N t := fun q => none _ (Or.inl ⟨cp_hi _ y _ _ (Nat.le_refl _) q, _, q, rfl⟩)
    have e2 : ¬ PR tx ty lx N K t y < N (t + 1) := fun q => none _ (Or.inr (Or.inl ⟨cp_hi _ y _ _ (Nat.le_refl _) q, _, q, rfl⟩))
    have l1 : lo N K t (PL tx ty lx N K t y) = 40 := by unfold lo; rw [if_neg e1]
    have l2 : lo N K (t + 1) (PR tx ty lx N K t y) = 40 := by unfold lo; rw [if_neg e2]
    rw [l1, l2]
    refine ⟨hE.1 _, fun y0 hy0 wx wy => ?_⟩
    rw [hSA.1 (lx t) y0 wx wy (fun k hk hu hfl a b => ?_) (fun e he hu hup hx => ?_)]
    · exact hE.1 _
    · apply Int.not_lt.mp
      intro q
      rcases Int.lt_or_le (tx (2 * k)) (lx t) with z | z
      · obtain ⟨i, hi, rfl⟩ := inst_L hG hC ht hk hu z b
        exact none _ (Or.inl ⟨by rw [hy0]; exact q, i, hi, rfl⟩)
      · obtain ⟨i, hi, rfl⟩ := inst_R hG hC ht hk hu a (by omega)
        exact none _ (Or.inr (Or.inl ⟨by rw [hy0]; exact q, i, hi, rfl⟩))
    · apply Int.not_lt.mp
      intro q
      exact none _ (Or.inr (Or.inr ⟨by rw [hy0]; exact Qf_lt.mpr q, e, he, hu, hup, hx, rfl⟩))
  · have hy : y < h := by rcases hhit with q | q | q <;> exact q.1
    have lsL : ∀ j, j < N t → y < fL tx ty lx K t j → h ≤ fL tx ty lx K t j := fun j hj q => hleast _ (Or.inl ⟨q, j, hj, rfl⟩)
    have lsR : ∀ j, j < N (t + 1) → y < fR tx ty lx K t j → h ≤ fR tx ty lx K t j := fun j hj q => hleast _ (Or.inr (Or.inl ⟨q, j, hj, rfl⟩))
    have lsE : ∀ e, e < 20 → u e = true → tx (2 * e) = tx (2 * e + 1) → tx (2 * e) = lx t → y < Qf * ty (2 * e) → h ≤ Qf * ty (2 * e) := fun e a b c d q => hleast _ (Or.inr (Or.inr ⟨q, e, a, b, c, d, rfl⟩))
    have span : ∀ j, j < 20 → u j = true → tx (2 * j) < tx (2 * j + 1) → tx (2 * j) ≤ lx t → lx t ≤ tx (2 * j + 1) → y < Hh tx ty j (lx t) → h ≤ Hh tx ty j (lx t) := by
      intro j hj hu hfl a b q
      rcases Int.lt_or_le (tx (2 * j)) (lx t) with z | z
      · obtain ⟨i, hi, rfl⟩ := inst_L hG hC ht hj hu z b
        exact lsL i hi q
      · obtain ⟨i, hi, rfl⟩ := inst_R hG hC ht hj hu a (by omega)
        exact lsR i hi q
    -- a segment that passes through
    have pass : ∀ k, k < 20 → u k = true → tx (2 * k) < lx t → lx t < tx (2 * k + 1) → Hh tx ty k (lx t) = h → R (lo N K t (PL tx ty lx N K t y)) (lo N K (t + 1) (PR tx ty lx N K t y)) ∧ ∀ y0, y = Qf * y0 → Wn 100 (lx t) → Wn 100 y0 → R (lo N K (t + 1) (PR tx ty lx N K t y)) (SAb (lx t) y0) := by
      intro k hk hu p1 p2 hh
      obtain ⟨i, hi, ei⟩ := inst_L hG hC ht hk hu p1 (by omega)
      obtain ⟨j, hj, ej⟩ := inst_R hG hC ht hk hu (by omega) p2
      have fk := hG.flat hk (show tx (2 * k) < tx (2 * k + 1) by omega)
      obtain ⟨a1, a2, a3⟩ := cp_first mL hy lsL hi (by show Hh tx ty (K t i) (lx t) = h; rw [ei]; exact hh)
      obtain ⟨b1, b2, b3⟩ := cp_first mR hy lsR hj (by show Hh tx ty (K (t + 1) j) (lx t) = h; rw [ej]; exact hh)
      have only : ∀ q, q < 20 → u q = true → flat tx q → tx (2 * q) ≤ lx t → lx t ≤ tx (2 * q + 1) → Hh tx ty q (lx t) = h → q = k := by
        intro q hq hqu fq q1 q2 q3
        apply Decidable.byContradiction
        intro hne
        have := (G1 fk fq (hG.2.2 k q hk hq hu hqu (fun z => hne z.symm)) (by omega) q1 (by omega) q2 (by rw [hh, q3])).1
        omega
      have kL : K t (PL tx ty lx N K t y) = k := by
        obtain ⟨_, _, c1, c2, c3, c4, c5, c6⟩ := hC.at hG (s := t) (by omega) a1
        exact only _ c1 c2 c6 (by show tx (2 * K t (PL tx ty lx N K t y)) ≤ _; have : tx (2 * K t (PL tx ty lx N K t y)) ≤ lx (t - 1) := c3; omega) c5 a2
      have kR : K (t + 1) (PR tx ty lx N K t y) = k := by
        obtain ⟨_, _, c1, c2, c3, c4, c5, c6⟩ := hC.at hG (s := t + 1) (by omega) b1
        rw [show t + 1 - 1 = t by omega] at c3 c4
        exact only _ c1 c2 c6 c3 (by have : lx (t + 1) ≤ tx (2 * K (t + 1) (PR tx ty lx N K t y) + 1) := c5; omega) b2
      have l1 : lo N K t (PL tx ty lx N K t y) = 2 * k + 1 := (lo_in (show PL tx ty lx N K t y < N t from a1)).trans (by rw [kL])
      have l2 : lo N K (t + 1) (PR tx ty lx N K t y) = 2 * k + 1 := (lo_in (show PR tx ty lx N K t y < N (t + 1) from b1)).trans (by rw [kR])
      rw [l1, l2]
      refine ⟨hE.1 _, fun y0 hy0 wx wy => ?_⟩
      rw [hSA.2.1 (lx t) y0 k wx wy hk hu p1 p2 (by rw [← hy0]; omega) (fun j a b c d e f => ?_) (fun e a b c d f => ?_)]
      · exact hE.1 _
      · rw [hh]; exact span j a b c d e (by rw [hy0]; exact f)
      · rw [hh]; exact lsE e a b c d (by rw [hy0]; exact Qf_lt.mpr f)
    by_cases hp : ∃ k, k < 20 ∧ u k = true ∧ tx (2 * k) < lx t ∧ lx t < tx (2 * k + 1) ∧ Hh tx ty k (lx t) = h
    · obtain ⟨k, a, b, c, d, e⟩ := hp
      exact pass k a b c d e
    -- a vertex
    have vL : ∀ i, i < N t → fL tx ty lx K t i = h → ∃ y2, h = Qf * y2 ∧ Lt u tx ty (lx t) y2 (K t i) := by
      intro i hi he
      obtain ⟨c0, _, c1, c2, c3, c4, c5, c6⟩ := hC.at hG (s := t) (by omega) hi
      have hend : tx (2 * K t i + 1) = lx t := by
        rcases Int.lt_or_le (lx t) (tx (2 * K t i + 1)) with z | z
        · exact absurd ⟨K t i, c1, c2, by omega, z, he⟩ hp
        · omega
      refine ⟨ty (2 * K t i + 1), ?_, c1, c2, c6.1, hend, rfl⟩
      rw [← Hh_right c6, hend]; exact he.symm
    have vR : ∀ i, i < N (t + 1) → fR tx ty lx K t i = h → ∃ y2, h = Qf * y2 ∧ Rt u tx ty (lx t) y2 (K (t + 1) i) := by
      intro i hi he
      obtain ⟨c0, _, c1, c2, c3, c4, c5, c6⟩ := hC.at hG (s := t + 1) (by omega) hi
      rw [show t + 1 - 1 = t by omega] at c3 c4
      have hend : tx (2 * K (t + 1) i) = lx t := by
        rcases Int.lt_or_le (tx (2 * K (t + 1) i)) (lx t) with z | z
        · exact absurd ⟨K (t + 1) i, c1, c2, z, by omega, he⟩ hp
        · omega
      refine ⟨ty (2 * K (t + 1) i), ?_, c1, c2, c6.1, hend, rfl⟩
      rw [← Hh_left tx ty, hend]; exact he.symm
    obtain ⟨y2, w, hy2, hw⟩ : ∃ y2 w, h = Qf * y2 ∧ At u tx ty (lx t) y2 w := by
      rcases hhit with ⟨_, j, hj, e⟩ | ⟨_, j, hj, e⟩ | ⟨_, e, a, b, c, d, e2⟩
      · obtain ⟨y2, q1, q2⟩ := vL j hj e; exact ⟨y2, _, q1, q2.at⟩
      · obtain ⟨y2, q1, q2⟩ := vR j hj e; exact ⟨y2, _, q1, q2.at⟩
      · have hpr := hG.1 e a b
        have hu2 : Up u tx ty (lx t) (ty (2 * e)) e := ⟨a, b, ⟨c, by rcases hpr with z | z <;> omega⟩, d, rfl⟩
        exact ⟨ty (2 * e), _, e2.symm, hu2.at⟩
    have nD : ∀ e, ¬ Dn u tx ty (lx t) y2 e := by
      intro e he
      have q := Qf_lt.mpr he.2.2.1.2
      have e2 : Qf * ty (2 * e + 1) = h := by rw [he.2.2.2.2, hy2]
      rcases Int.lt_or_le y (Qf * ty (2 * e)) with z | z
      · have := lsE e he.1 he.2.1 he.2.2.1.1 he.2.2.2.1 z; omega
      · exact hf e he.1 he.2.1 he.2.2.1.1 he.2.2.2.1 ⟨z, by omega⟩
    have hyq : y < Qf * y2 := by omega
    have inL : ∀ k, Lt u tx ty (lx t) y2 k → ∃ i, i < N t ∧ K t i = k ∧ fL tx ty lx K t i = h := by
      intro k hk
      obtain ⟨i, hi, ei⟩ := inst_L hG hC ht hk.1 hk.2.1 (by have := hk.2.2.1; have := hk.2.2.2.1; omega) (by have := hk.2.2.2.1; omega)
      exact ⟨i, hi, ei, by show Hh tx ty (K t i) (lx t) = h; rw [ei, hk.h hG, hy2]⟩
    have inR : ∀ k, Rt u tx ty (lx t) y2 k → ∃ i, i < N (t + 1) ∧ K (t + 1) i = k ∧ fR tx ty lx K t i = h := by
      intro k hk
      obtain ⟨i, hi, ei⟩ := inst_R hG hC ht hk.1 hk.2.1 (by have := hk.2.2.2.1; omega) (by have := hk.2.2.1; have := hk.2.2.2.1; omega)
      exact ⟨i, hi, ei, by show Hh tx ty (K (t + 1) i) (lx t) = h; rw [ei, hk.h, hy2]⟩
    have cL : R (lo N K t (PL tx ty lx N K t y)) (SFn w 0 (-1)) := by
      by_cases hLt : ∃ k, Lt u tx ty (lx t) y2 k
      · obtain ⟨k0, hk0⟩ := hLt
        obtain ⟨i0, hi0, _, e0⟩ := inL k0 hk0
        obtain ⟨a1, a2, a3⟩ := cp_first mL hy lsL hi0 e0
        obtain ⟨y3, e3, hk⟩ := vL _ a1 a2
        have e4 : y3 = y2 := Qf_inj (by omega)
        subst e4
        have hlow : ∀ i, Lt u tx ty (lx t) y3 i → gr tx ty i ≤ gr tx ty (K t (PL tx ty lx N K t y)) := by
          intro j hj
          obtain ⟨i, hi, ei, fi⟩ := inL j hj
          obtain ⟨_, _, b3⟩ := cp_first mL hy lsL hi fi
          rcases Nat.lt_or_ge (PL tx ty lx N K t y) i with z | z
          · have := slope_L hG hC (by omega) z hi (by rw [fi]; exact a2); rw [ei] at this; omega
          · have : PL tx ty lx N K t y = i := by have : PL tx ty lx N K t y ≤ i := b3; omega
            rw [this, ei]; exact Int.le_refl _
        have l1 : lo N K t (PL tx ty lx N K t y) = 2 * K t (PL tx ty lx N K t y) + 1 := lo_in a1
        rw [l1, ← nx_loL hG hSF hk hlow nD hw]
        exact hE1 _ hk.at.1 hk.at.2.1
      · have nL : ∀ i, ¬ Lt u tx ty (lx t) y2 i := fun i hi => hLt ⟨i, hi⟩
        have same : PL tx ty lx N K t (Qf * y2) = PL tx ty lx N K t y := cp_same mL (by omega) (fun j hj q => by
          have := lsL j hj q
          rcases Int.lt_or_le h (fL tx ty lx K t j) with z | z
          · omega
          · obtain ⟨y3, e3, hk⟩ := vL j hj (by omega)
            have e4 : y3 = y2 := Qf_inj (by omega)
            subst e4
            exact absurd hk (nL _))
        rw [← same]
        by_cases hU : ∃ e, Up u tx ty (lx t) y2 e
        · obtain ⟨e, he⟩ := hU
          have q1 := (hH.2 t e y2 ht hyq he).1
          have q2 := hE1 _ he.at.1 he.at.2.1
          rw [nx_Up hG hSF he nL nD hw] at q2
          exact hE.2.2 _ _ _ (hE.2.1 _ _ q1) q2
        · have nU : ∀ i, ¬ Up u tx ty (lx t) y2 i := fun i hi => hU ⟨i, hi⟩
          have q1 := (hH.1 t y2 w ht hyq hw nU).1
          rcases hw.kind hG with q | q | q | ⟨e, q⟩
          · obtain ⟨j, hj, hm⟩ := ex_loR q
            rw [F_U3 (k := 0) hG hSF hw (by decide) w200.1 nL nD hj hm] at q1
            rw [F_D1 (k := 0) hG hSF hw (by decide) w200.2 hj hm]
            exact hE.2.1 _ _ q1
          · exact absurd q hLt
          · exact absurd q hU
          · exact absurd q (nD e)
    have cR : R (lo N K (t + 1) (PR tx ty lx N K t y)) (SFn w 0 (-1)) := by
      by_cases hRt : ∃ k, Rt u tx ty (lx t) y2 k
      · obtain ⟨k0, hk0⟩ := hRt
        obtain ⟨i0, hi0, _, e0⟩ := inR k0 hk0
        obtain ⟨a1, a2, a3⟩ := cp_first mR hy lsR hi0 e0
        obtain ⟨y3, e3, hk⟩ := vR _ a1 a2
        have e4 : y3 = y2 := Qf_inj (by omega)
        subst e4
        have hlow : ∀ i, Rt u tx ty (lx t) y3 i → gr tx ty (K (t + 1) (PR tx ty lx N K t y)) ≤ gr tx ty i := by
          intro j hj
          obtain ⟨i, hi, ei, fi⟩ := inR j hj
          obtain ⟨_, _, b3⟩ := cp_first mR hy lsR hi fi
          rcases Nat.lt_or_ge (PR tx ty lx N K t y) i with z | z
          · have := slope_R hG hC ht z hi (by rw [fi]; exact a2); rw [ei] at this; omega
          · have : PR tx ty lx N K t y = i := by have : PR tx ty lx N K t y ≤ i := b3; omega
            rw [this, ei]; exact Int.le_refl _
        have l1 : lo N K (t + 1) (PR tx ty lx N K t y) = 2 * K (t + 1) (PR tx ty lx N K t y) + 1 := lo_in a1
        rw [l1, F_D1 (k := 0) hG hSF hw (by decide) w200.2 hk hlow]
        exact hE.1 _
      · have nR : ∀ i, ¬ Rt u tx ty (lx t) y2 i := fun i hi => hRt ⟨i, hi⟩
        have same : PR tx ty lx N K t (Qf * y2) = PR tx ty lx N K t y := cp_same mR (by omega) (fun j hj q => by
          have := lsR j hj q
          rcases Int.lt_or_le h (fR tx ty lx K t j) with z | z
          · omega
          · obtain ⟨y3, e3, hk⟩ := vR j hj (by omega)
            have e4 : y3 = y2 := Qf_inj (by omega)
            subst e4
            exact absurd hk (nR _))
        rw [← same]
        by_cases hU : ∃ e, Up u tx ty (lx t) y2 e
        · obtain ⟨e, he⟩ := hU
          have q1 := (hH.2 t e y2 ht hyq he).2
          rw [F_D2 (k := 0) hG hSF hw (by decide) w200.2 nR he]
          exact hE.2.1 _ _ q1
        · have nU : ∀ i, ¬ Up u tx ty (lx t) y2 i := fun i hi => hU ⟨i, hi⟩
          have q1 := (hH.1 t y2 w ht hyq hw nU).2
          rcases hw.kind hG with q | q | q | ⟨e, q⟩
          · exact absurd q hRt
          · obtain ⟨j, hj, hm⟩ := ex_hiL q
            rw [F_U1 (k := 0) hG hSF hw (by decide) w200.1 hj hm] at q1
            rw [F_D3 (k := 0) hG hSF hw (by decide) w200.2 nR nU hj hm]
            exact hE.2.1 _ _ q1
          · exact absurd q hU
          · exact absurd q (nD e)
    refine ⟨hE.2.2 _ _ _ cL (hE.2.1 _ _ cR), fun y0 hy0 wx wy => ?_⟩
    obtain ⟨w2, hw2, e2⟩ := hSA.2.2 (lx t) y0 y2 wx wy (Qf_lt.mp (by omega)) ⟨w, hw, nD⟩ (fun j a b c d e f => by have := span j a b c d e (by rw [hy0]; exact f); omega) (fun e a b c d f => by have := lsE e a b c d (by rw [hy0]; exact Qf_lt.mpr f); exact Qf_le.mp (by omega))
    rw [e2, WD hG hSF hw2 hw nD]
    exact cR
end LI
