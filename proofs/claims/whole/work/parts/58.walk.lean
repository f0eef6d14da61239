/-! Floor and roof of a cell are put together -/
section WK
variable {u : Nat → Bool} {tx ty : Nat → Int} {m : Nat} {lx : Nat → Int} {N : Nat → Nat} {K : Nat → Nat → Nat} {SFn : Nat → Int → Int → Nat} {SAb : Int → Int → Nat} {R : Nat → Nat → Prop}
theorem HUE_up {y z : Int} (h : HUE u tx ty m lx N K SFn R y) (hz : y ≤ z) : HUE u tx ty m lx N K SFn R z :=
  ⟨fun t y2 w a b c d => h.1 t y2 w a (by omega) c d, fun t e y2 a b c => h.2 t e y2 a (by omega) c⟩
theorem nx_hiR (hG : Geo u tx ty) (hSF : SFok u tx ty SFn) {x y : Int} {k w : Nat} (hk : Rt u tx ty x y k) (hh : ∀ i, Rt u tx ty x y i → gr tx ty i ≤ gr tx ty k) (nU : ∀ e, ¬ Up u tx ty x y e) (hw : At u tx ty x y w) : SFn (2 * k) (tx (tw (2 * k)) - tx (2 * k)) (ty (tw (2 * k)) - ty (2 * k)) = SFn w 0 1 := by
  by_cases h1 : ∃ k, Lt u tx ty x y k
  · obtain ⟨j, hj, hm⟩ := ex_hiL h1
    rw [F_R3 hG hSF hk hh nU hj hm, F_U1 (k := 0) hG hSF hw (by decide) w200.1 hj hm]
  · have nL : ∀ i, ¬ Lt u tx ty x y i := fun i hi => h1 ⟨i, hi⟩
    by_cases h2 : ∃ k, Dn u tx ty x y k
    · obtain ⟨j, hj⟩ := h2
      rw [F_R4 hG hSF hk hh nU nL hj, F_U2 (k := 0) hG hSF hw (by decide) w200.1 nL hj]
    · have nD : ∀ i, ¬ Dn u tx ty x y i := fun i hi => h2 ⟨i, hi⟩
      obtain ⟨j, hj, hm⟩ := ex_loR ⟨k, hk⟩
      rw [F_R5 hG hSF hk hh nU nL nD hj hm, F_U3 (k := 0) hG hSF hw (by decide) w200.1 nL nD hj hm]
/-- heights in the left strip that equal a point's height: segments that end there -/
theorem left_at (hG : Geo u tx ty) (hC : Cells u tx ty m lx N K) {t i : Nat} {y : Int} {w : Nat} (ht : t < m) (hi : i < N t) (hw : At u tx ty (lx t) y w) (he : fL tx ty lx K t i = Qf * y) : Lt u tx ty (lx t) y (K t i) := by
  obtain ⟨_, _, c1, c2, c3, c4, c5, c6⟩ := hC.at hG (s := t) (by omega) hi
  have he : Hh tx ty (K t i) (lx t) = Qf * y := he
  have hend : tx (2 * K t i + 1) = lx t := by
    apply Decidable.byContradiction
    intro hne
    have hins : ins tx ty (K t i) (lx t) y := by
      have hl := (lf_zero c6 (lx t) y).mpr he
      exact ⟨hl, (ins_flat c6 hl).mpr ⟨by omega, by omega⟩⟩
    have hkw : w / 2 ≠ K t i := by
      intro e
      rcases (show w = 2 * (w / 2) ∨ w = 2 * (w / 2) + 1 by omega) with q | q
      · have := hw.2.2.1; rw [q, e] at this; omega
      · have := hw.2.2.1; rw [q, e] at this; omega
    have hm := hG.2.2 (K t i) (w / 2) c1 (by have := hw.1; omega) c2 hw.2.1 (fun z => hkw z.symm)
    rcases (show w = 2 * (w / 2) ∨ w = 2 * (w / 2) + 1 by omega) with q | q
    · refine hm (Or.inr (Or.inl (Or.inl ?_))); rw [← q, hw.2.2.1, hw.2.2.2]; exact hins
    · refine hm (Or.inr (Or.inl (Or.inr ?_))); rw [← q, hw.2.2.1, hw.2.2.2]; exact hins
  exact ⟨c1, c2, c6.1, hend, Qf_inj (by rw [← Hh_right c6, hend]; exact he)⟩
theorem right_at (hG : Geo u tx ty) (hC : Cells u tx ty m lx N K) {t i : Nat} {y : Int} {w : Nat} (ht : t < m) (hi : i < N (t + 1)) (hw : At u tx ty (lx t) y w) (he : fR tx ty lx K t i = Qf * y) : Rt u tx ty (lx t) y (K (t + 1) i) := by
  obtain ⟨_, _, c1, c2, c3, c4, c5, c6⟩ := hC.at hG (s := t + 1) (by omega) hi
  rw [show t + 1 - 1 = t by omega] at c3 c4
  have he : Hh tx ty (K (t + 1) i) (lx t) = Qf * y := he
  have hend : tx (2 * K (t + 1) i) = lx t := by
    apply Decidable.byContradiction
    intro hne
    have hins : ins tx ty (K (t + 1) i) (lx t) y := by
      have hl := (lf_zero c6 (lx t) y).mpr he
      exact ⟨hl, (ins_flat c6 hl).mpr ⟨by omega, by omega⟩⟩
    have hkw : w / 2 ≠ K (t + 1) i := by
      intro e
      rcases (show w = 2 * (w / 2) ∨ w = 2 * (w / 2) + 1 by omega) with q | q
      · have := hw.2.2.1; rw [q, e] at this; omega
      · have := hw.2.2.1; rw [q, e] at this; omega
    have hm := hG.2.2 (K (t + 1) i) (w / 2) c1 (by have := hw.1; omega) c2 hw.2.1 (fun z => hkw z.symm)
    rcases (show w = 2 * (w / 2) ∨ w = 2 * (w / 2) + 1 by omega) with q | q
    · refine hm (Or.inr (Or.inl (Or.inl ?_))); rw [← q, hw.2.2.1, hw.2.2.2]; exact hins
    · refine hm (Or.inr (Or.inl (Or.inr ?_))); rw [← q, hw.2.2.1, hw.2.2.2]; exact hins
  exact ⟨c1, c2, c6.1, hend, Qf_inj (by rw [← Hh_left tx ty, hend]; exact he)⟩
/-- the places of the segments that end at a point -/
theorem place_L (hG : Geo u tx ty) (hC : Cells u tx ty m lx N K) {t k : Nat} {y : Int} (ht : t < m) (hk : Lt u tx ty (lx t) y k) : ∃ i, i < N t ∧ K t i = k ∧ fL tx ty lx K t i = Qf * y := by
  obtain ⟨i, hi, ei⟩ := inst_L hG hC ht hk.1 hk.2.1 (by have := hk.2.2.1; have := hk.2.2.2.1; omega) (by have := hk.2.2.2.1; omega)
  exact ⟨i, hi, ei, by show Hh tx ty (K t i) (lx t) = _; rw [ei, hk.h hG]⟩
theorem place_R (hG : Geo u tx ty) (hC : Cells u tx ty m lx N K) {t k : Nat} {y : Int} (ht : t < m) (hk : Rt u tx ty (lx t) y k) : ∃ i, i < N (t + 1) ∧ K (t + 1) i = k ∧ fR tx ty lx K t i = Qf * y := by
  obtain ⟨i, hi, ei⟩ := inst_R hG hC ht hk.1 hk.2.1 (by have := hk.2.2.2.1; omega) (by have := hk.2.2.1; have := hk.2.2.2.1; omega)
  exact ⟨i, hi, ei, by show Hh tx ty (K (t + 1) i) (lx t) = _; rw [ei, hk.h]⟩
/-- slopes by places -/
theorem slope_Lp (hG : Geo u tx ty) (hC : Cells u tx ty m lx N K) {t i j : Nat} (ht : t < m) (hi : i < N t) (hj : j < N t) (he : fL tx ty lx K t i = fL tx ty lx K t j) : (i ≤ j → gr tx ty (K t j) ≤ gr tx ty (K t i)) ∧ (i < j → gr tx ty (K t j) < gr tx ty (K t i)) := by
  refine ⟨fun h => ?_, fun h => slope_L hG hC (by omega) h hj he⟩
  rcases Nat.lt_or_ge i j with q | q
  · have := slope_L hG hC (by omega) q hj he; omega
  · rw [show i = j by omega]; exact Int.le_refl _
theorem slope_Rp (hG : Geo u tx ty) (hC : Cells u tx ty m lx N K) {t i j : Nat} (ht : t < m) (hi : i < N (t + 1)) (hj : j < N (t + 1)) (he : fR tx ty lx K t i = fR tx ty lx K t j) : (i ≤ j → gr tx ty (K (t + 1) i) ≤ gr tx ty (K (t + 1) j)) ∧ (i < j → gr tx ty (K (t + 1) i) < gr tx ty (K (t + 1) j)) := by
  refine ⟨fun h => ?_, fun h => slope_R hG hC ht h hj he⟩
  rcases Nat.lt_or_ge i j with q | q
  · have := slope_R hG hC ht q hj he; omega
  · rw [show i = j by omega]; exact Int.le_refl _
/-- at its right end -/
theorem end_R (hX : Ctx u tx ty m lx N K SFn SAb R) {t i : Nat} {y z : Int} (ht : t < m) (hi : i < N t) (hk : Lt u tx ty (lx t) y (K t i)) (hz : z < Qf * y) (hH : HUE u tx ty m lx N K SFn R z) : R (2 * K t i) (lo N K t (i + 1)) := by
  obtain ⟨hG, hC, hSF, hSA, hE, hE1, hE2⟩ := hX
  have mL := mono_L hG hC (t := t) (by omega)
  have e0 : fL tx ty lx K t i = Qf * y := hk.h hG
  by_cases c : i + 1 < N t ∧ fL tx ty lx K t (i + 1) = Qf * y
  · obtain ⟨c1, c2⟩ := c
    have hb := left_at hG hC ht c1 hk.at c2
    have q := hE1 _ hb.at.1 hb.at.2.1
    rw [F_L1 hG hSF hb hk ((slope_Lp hG hC ht hi c1 (by rw [e0, c2])).2 (by omega)) (fun j hj => by
      obtain ⟨a, ha, ea, fa⟩ := place_L hG hC ht hj
      rcases Nat.lt_or_ge i a with z | z
      · left; rw [← ea]; exact (slope_Lp hG hC ht c1 ha (by rw [c2, fa])).1 (by omega)
      · right; rw [← ea]; exact (slope_Lp hG hC ht ha hi (by rw [fa, e0])).1 z)] at q
    rw [lo_in c1]
    exact hE.2.1 _ _ q
  · have hhi : ∀ j, Lt u tx ty (lx t) y j → gr tx ty (K t i) ≤ gr tx ty j := by
      intro j hj
      obtain ⟨a, ha, ea, fa⟩ := place_L hG hC ht hj
      have : a ≤ i := by
        rcases Nat.lt_or_ge i a with z | z
        · exfalso
          apply c
          refine ⟨by omega, ?_⟩
          rcases Nat.lt_or_ge (i + 1) a with z2 | z2
          · have p1 := mL i (i + 1) (by omega) (by omega)
            have p2 := mL (i + 1) a z2 ha
            omega
          · rw [show i + 1 = a by omega]; exact fa
        · exact z
      rw [← ea]; exact (slope_Lp hG hC ht ha hi (by rw [fa, e0])).1 this
    have hP : PL tx ty lx N K t (Qf * y) = i + 1 := cp_eq mL (by omega) (fun j hj => by
        rcases Nat.lt_or_ge j i with z | z
        · have := mL j i z hi; omega
        · rw [show j = i by omega, e0]; exact Int.le_refl _) (fun j h1 h2 => by
        have p1 := mL i j (by omega) h2
        have p2 : fL tx ty lx K t j ≠ Qf * y := by
          intro e
          apply c
          refine ⟨by omega, ?_⟩
          rcases Nat.lt_or_ge (i + 1) j with z2 | z2
          · have p3 := mL i (i + 1) (by omega) (by omega)
            have p4 := mL (i + 1) j z2 h2
            omega
          · rw [show i + 1 = j by omega]; exact e
        omega)
    rw [← hP]
    by_cases hU : ∃ e, Up u tx ty (lx t) y e
    · obtain ⟨e, he⟩ := hU
      have q1 := (hH.2 t e y ht hz he).1
      have q2 := hE1 _ he.at.1 he.at.2.1
      obtain ⟨d1, d2⟩ := Up_dir he
      rw [d1, F_U1 (k := 0) hG hSF he.at d2 (dir_w hG he.at.1) hk hhi] at q2
      exact hE.2.2 _ _ _ (hE.2.1 _ _ q2) q1
    · have q1 := (hH.1 t y _ ht hz hk.at (fun e he => hU ⟨e, he⟩)).1
      rw [F_U1 (k := 0) hG hSF hk.at (by decide) w200.1 hk hhi] at q1
      exact q1
/-- at its left end -/
theorem end_L (hX : Ctx u tx ty m lx N K SFn SAb R) {t i : Nat} {y z : Int} (ht : t < m) (hi : i < N (t + 1)) (hk : Rt u tx ty (lx t) y (K (t + 1) i)) (hz : z < Qf * y) (hH : HUE u tx ty m lx N K SFn R z) : R (2 * K (t + 1) i) (lo N K (t + 1) (i + 1)) := by
  obtain ⟨hG, hC, hSF, hSA, hE, hE1, hE2⟩ := hX
  have mR := mono_R hG hC ht
  have e0 : fR tx ty lx K t i = Qf * y := hk.h
  have q := hE1 _ hk.at.1 hk.at.2.1
  by_cases c : i + 1 < N (t + 1) ∧ fR tx ty lx K t (i + 1) = Qf * y
  · obtain ⟨c1, c2⟩ := c
    have hb := right_at hG hC ht c1 hk.at c2
    rw [F_R1 hG hSF hk hb ((slope_Rp hG hC ht hi c1 (by rw [e0, c2])).2 (by omega)) (fun j hj => by
      obtain ⟨a, ha, ea, fa⟩ := place_R hG hC ht hj
      rcases Nat.lt_or_ge i a with z | z
      · right; rw [← ea]; exact (slope_Rp hG hC ht c1 ha (by rw [c2, fa])).1 (by omega)
      · left; rw [← ea]; exact (slope_Rp hG hC ht ha hi (by rw [fa, e0])).1 z)] at q
    rw [lo_in c1]
    exact q
  · have hhi : ∀ j, Rt u tx ty (lx t) y j → gr tx ty j ≤ gr tx ty (K (t + 1) i) := by
      intro j hj
      obtain ⟨a, ha, ea, fa⟩ := place_R hG hC ht hj
      have : a ≤ i := by
        rcases Nat.lt_or_ge i a with z | z
        · exfalso
          apply c
          refine ⟨by omega, ?_⟩
          rcases Nat.lt_or_ge (i + 1) a with z2 | z2
          · have p1 := mR i (i + 1) (by omega) (by omega)
            have p2 := mR (i + 1) a z2 ha
            omega
          · rw [show i + 1 = a by omega]; exact fa
        · exact z
      rw [← ea]; exact (slope_Rp hG hC ht ha hi (by rw [fa, e0])).1 this
    have hP : PR tx ty lx N K t (Qf * y) = i + 1 := cp_eq mR (by omega) (fun j hj => by
        rcases Nat.lt_or_ge j i with z | z
        · have := mR j i z hi; omega
        · rw [show j = i by omega, e0]; exact Int.le_refl _) (fun j h1 h2 => by
        have p1 := mR i j (by omega) h2
        have p2 : fR tx ty lx K t j ≠ Qf * y := by
          intro e
          apply c
          refine ⟨by omega, ?_⟩
          rcases Nat.lt_or_ge (i + 1) j with z2 | z2
          · have p3 := mR i (i + 1) (by omega) (by omega)
            have p4 := mR (i + 1) j z2 h2
            omega
          · rw [show i + 1 = j by omega]; exact e
        omega)
    rw [← hP]
    by_cases hU : ∃ e, Up u tx ty (lx t) y e
    · obtain ⟨e, he⟩ := hU
      have q1 := (hH.2 t e y ht hz he).2
      rw [F_R2 hG hSF hk hhi he] at q
      exact hE.2.2 _ _ _ q q1
    · have nU : ∀ e, ¬ Up u tx ty (lx t) y e := fun e he => hU ⟨e, he⟩
      have q1 := (hH.1 t y _ ht hz hk.at nU).2
      rw [nx_hiR hG hSF hk hhi nU hk.at] at q
      exact hE.2.2 _ _ _ q q1
/-- through a line in its inside -/
theorem through (hX : Ctx u tx ty m lx N K SFn SAb R) {s i j : Nat} (hs : s < m) (hi : i < N s) (hj : j < N (s + 1)) (he : K s i = K (s + 1) j) (hH : HUE u tx ty m lx N K SFn R (Hh tx ty (K s i) (lx s))) : R (lo N K s (i + 1)) (lo N K (s + 1) (j + 1)) := by
  have hX' := hX
  obtain ⟨hG, hC, hSF, hSA, hE, hE1, hE2⟩ := hX
  have mL := mono_L hG hC (t := s) (by omega)
  have mR := mono_R hG hC hs
  obtain ⟨_, _, c1, c2, c3, c4, c5, c6⟩ := hC.at hG (s := s) (by omega) hi
  obtain ⟨_, _, d1, d2, d3, d4, d5, d6⟩ := hC.at hG (s := s + 1) (by omega) hj
  rw [show s + 1 - 1 = s by omega] at d3 d4
  rw [← he] at d3 d5
  have p1 : tx (2 * K s i) < lx s := by omega
  have p2 : lx s < tx (2 * K s i + 1) := by omega
  have only : ∀ q, q < 20 → u q = true → flat tx q → tx (2 * q) ≤ lx s → lx s ≤ tx (2 * q + 1) → Hh tx ty q (lx s) = Hh tx ty (K s i) (lx s) → q = K s i := by
    intro q hq hqu fq q1 q2 q3
    apply Decidable.byContradiction
    intro hne
    have := (G1 c6 fq (hG.2.2 _ q c1 hq c2 hqu (fun z => hne z.symm)) (by omega) q1 (by omega) q2 q3.symm).1
    omega
  have hPL : PL tx ty lx N K s (Hh tx ty (K s i) (lx s)) = i + 1 := cp_eq mL (by omega) (fun a ha => by
      rcases Nat.lt_or_ge a i with z | z
      · exact mL a i z hi
      · rw [show a = i by omega]; exact Int.le_refl _) (fun a h1 h2 => by
      have q1 := mL i a (by omega) h2
      have q2 : fL tx ty lx K s a ≠ Hh tx ty (K s i) (lx s) := by
        intro e
        obtain ⟨_, _, b1, b2, b3, b4, b5, b6⟩ := hC.at hG (s := s) (by omega) h2
        exact hC.ne hG (s := s) (by omega) (show i < a by omega) h2 (only _ b1 b2 b6 (by omega) b5 e).symm
      have : fL tx ty lx K s i = Hh tx ty (K s i) (lx s) := rfl
      omega)
  have hPR : PR tx ty lx N K s (Hh tx ty (K s i) (lx s)) = j + 1 := cp_eq mR (by omega) (fun a ha => by
      have e3 : fR tx ty lx K s j = Hh tx ty (K s i) (lx s) := by show Hh tx ty (K (s + 1) j) (lx s) = _; rw [he]
      rcases Nat.lt_or_ge a j with z | z
      · have := mR a j z hj; omega
      · rw [show a = j by omega, e3]; exact Int.le_refl _) (fun a h1 h2 => by
      have e3 : fR tx ty lx K s j = Hh tx ty (K s i) (lx s) := by show Hh tx ty (K (s + 1) j) (lx s) = _; rw [he]
      have q1 := mR j a (by omega) h2
      have q2 : fR tx ty lx K s a ≠ Hh tx ty (K s i) (lx s) := by
        intro e
        obtain ⟨_, _, b1, b2, b3, b4, b5, b6⟩ := hC.at hG (s := s + 1) (by omega) h2
        rw [show s + 1 - 1 = s by omega] at b3 b4
        have := only _ b1 b2 b6 b3 (by omega) e
        exact hC.ne hG (s := s + 1) (by omega) (show j < a by omega) h2 (by rw [this, he])
      omega)
  have hf : freeA u tx ty lx s (Hh tx ty (K s i) (lx s)) := by
    intro e a b c d ⟨q1, q2⟩
    have hpr := hG.1 e a b
    have hlt : ty (2 * e) < ty (2 * e + 1) := by rcases hpr with z | z <;> omega
    have hne : K s i ≠ e := fun z => by rw [z] at p1; omega
    have g := (G4 c hlt c6 (hG.2.2 _ e c1 a c2 b hne) (by omega) (by omega) (by rw [d]; exact q1) (by rw [d]; omega)).2
    omega
  have := (lift_M hX' hs hH hf).1
  rw [hPL, hPR] at this
  exact this
end WK
