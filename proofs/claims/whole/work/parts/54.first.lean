/-! The arrows at a point: to the right, up, to the left, down -/
def Geo (u : Nat → Bool) (tx ty : Nat → Int) : Prop := (∀ k, k < 20 → u k = true → prp tx ty k) ∧ (∀ a, a < 40 → Wn 100 (tx a) ∧ Wn 100 (ty a)) ∧ ∀ k j, k < 20 → j < 20 → u k = true → u j = true → k ≠ j → ¬ meetI tx ty k j
def Rt (u : Nat → Bool) (tx ty : Nat → Int) (x y : Int) (k : Nat) : Prop := k < 20 ∧ u k = true ∧ tx (2 * k) < tx (2 * k + 1) ∧ tx (2 * k) = x ∧ ty (2 * k) = y
def Lt (u : Nat → Bool) (tx ty : Nat → Int) (x y : Int) (k : Nat) : Prop := k < 20 ∧ u k = true ∧ tx (2 * k) < tx (2 * k + 1) ∧ tx (2 * k + 1) = x ∧ ty (2 * k + 1) = y
def Up (u : Nat → Bool) (tx ty : Nat → Int) (x y : Int) (k : Nat) : Prop := k < 20 ∧ u k = true ∧ (tx (2 * k) = tx (2 * k + 1) ∧ ty (2 * k) < ty (2 * k + 1)) ∧ tx (2 * k) = x ∧ ty (2 * k) = y
def Dn (u : Nat → Bool) (tx ty : Nat → Int) (x y : Int) (k : Nat) : Prop := k < 20 ∧ u k = true ∧ (tx (2 * k) = tx (2 * k + 1) ∧ ty (2 * k) < ty (2 * k + 1)) ∧ tx (2 * k) = x ∧ ty (2 * k + 1) = y
/-- what 'sideFacing' answers, where one arrow is met ahead of each other -/
def SFok (u : Nat → Bool) (tx ty : Nat → Int) (SFn : Nat → Int → Int → Nat) : Prop := ∀ w b dx dy, Wn 200 dx → Wn 200 dy → w < 40 → u (w / 2) = true → b < 40 → u (b / 2) = true → tx b = tx w → ty b = ty w → (∀ c, c < 40 → u (c / 2) = true → tx c = tx w → ty c = ty w → c ≠ b → dom dx dy (tx (tw b) - tx b) (ty (tw b) - ty b) (tx (tw c) - tx c) (ty (tw c) - ty c)) → SFn w dx dy = tw b
section AR
variable {u : Nat → Bool} {tx ty : Nat → Int}
theorem Geo.flat (hG : Geo u tx ty) {k : Nat} (hk : k < 20) (h : tx (2 * k) < tx (2 * k + 1)) : flat tx k := by
  have a := hG.2.1 (2 * k) (by omega)
  have b := hG.2.1 (2 * k + 1) (by omega)
  exact ⟨h, by have := a.1.1; have := b.1.2; omega⟩
theorem cr_gr {k j : Nat} (hk : flat tx k) (hj : flat tx j) : 0 < cr (tx (2 * k + 1) - tx (2 * k)) (ty (2 * k + 1) - ty (2 * k)) (tx (2 * j + 1) - tx (2 * j)) (ty (2 * j + 1) - ty (2 * j)) ↔ gr tx ty k < gr tx ty j := by
  have e1 := gr_w (ty := ty) hk
  have e2 := gr_w (ty := ty) hj
  have w1 : 0 < tx (2 * k + 1) - tx (2 * k) := by have := hk.1; omega
  have w2 : 0 < tx (2 * j + 1) - tx (2 * j) := by have := hj.1; omega
  have e : (tx (2 * k + 1) - tx (2 * k)) * (tx (2 * j + 1) - tx (2 * j)) * (gr tx ty j - gr tx ty k) = Qf * cr (tx (2 * k + 1) - tx (2 * k)) (ty (2 * k + 1) - ty (2 * k)) (tx (2 * j + 1) - tx (2 * j)) (ty (2 * j + 1) - ty (2 * j)) := by
    unfold cr; grind
  have a := mp_pos (b := cr (tx (2 * k + 1) - tx (2 * k)) (ty (2 * k + 1) - ty (2 * k)) (tx (2 * j + 1) - tx (2 * j)) (ty (2 * j + 1) - ty (2 * j))) Qf_pos
  have b := mp_pos (b := gr tx ty j - gr tx ty k) (Int.mul_pos w1 w2)
  rw [← a, ← e, b]; omega
theorem cr_gr_le {k j : Nat} (hk : flat tx k) (hj : flat tx j) (h : gr tx ty j ≤ gr tx ty k) : cr (tx (2 * k + 1) - tx (2 * k)) (ty (2 * k + 1) - ty (2 * k)) (tx (2 * j + 1) - tx (2 * j)) (ty (2 * j + 1) - ty (2 * j)) ≤ 0 := by
  have := cr_gr (ty := ty) hk hj
  omega
theorem cr_gr_neg {k j : Nat} (hk : flat tx k) (hj : flat tx j) (h : gr tx ty j < gr tx ty k) : cr (tx (2 * k + 1) - tx (2 * k)) (ty (2 * k + 1) - ty (2 * k)) (tx (2 * j + 1) - tx (2 * j)) (ty (2 * j + 1) - ty (2 * j)) < 0 := by
  have := (cr_gr (ty := ty) hj hk).mpr h
  have e := cr_flip (tx (2 * k + 1) - tx (2 * k)) (ty (2 * k + 1) - ty (2 * k)) (tx (2 * j + 1) - tx (2 * j)) (ty (2 * j + 1) - ty (2 * j))
  omega
/-- an arrow is of one of four kinds -/
theorem arrow_kind (hG : Geo u tx ty) {c : Nat} (hc : c < 40) (hu : u (c / 2) = true) : (∃ k, c = 2 * k ∧ Rt u tx ty (tx c) (ty c) k) ∨ (∃ k, c = 2 * k + 1 ∧ Lt u tx ty (tx c) (ty c) k) ∨ (∃ k, c = 2 * k ∧ Up u tx ty (tx c) (ty c) k) ∨ (∃ k, c = 2 * k + 1 ∧ Dn u tx ty (tx c) (ty c) k) := by
  have hp := hG.1 (c / 2) (by omega) hu
  rcases (show c = 2 * (c / 2) ∨ c = 2 * (c / 2) + 1 by omega) with e | e
  · rcases hp with h | h
    · exact Or.inl ⟨c / 2, e, by omega, hu, h, by rw [← e], by rw [← e]⟩
    · exact Or.inr (Or.inr (Or.inl ⟨c / 2, e, by omega, hu, h, by rw [← e], by rw [← e]⟩))
  · rcases hp with h | h
    · exact Or.inr (Or.inl ⟨c / 2, e, by omega, hu, h, by rw [← e], by rw [← e]⟩)
    · exact Or.inr (Or.inr (Or.inr ⟨c / 2, e, by omega, hu, h, by rw [h.1, ← e], by rw [← e]⟩))
theorem Up_one (hG : Geo u tx ty) {x y : Int} {e f : Nat} (he : Up u tx ty x y e) (hf : Up u tx ty x y f) : e = f := by
  apply Decidable.byContradiction
  intro h
  have := G5 he.2.2.1.1 he.2.2.1.2 hf.2.2.1.1 hf.2.2.1.2 (hG.2.2 e f he.1 hf.1 he.2.1 hf.2.1 h) (by rw [he.2.2.2.1, hf.2.2.2.1])
  have a := he.2.2.2.2; have b := hf.2.2.2.2; have c := he.2.2.1.2; have d := hf.2.2.1.2
  omega
theorem Dn_one (hG : Geo u tx ty) {x y : Int} {e f : Nat} (he : Dn u tx ty x y e) (hf : Dn u tx ty x y f) : e = f := by
  apply Decidable.byContradiction
  intro h
  have := G5 he.2.2.1.1 he.2.2.1.2 hf.2.2.1.1 hf.2.2.1.2 (hG.2.2 e f he.1 hf.1 he.2.1 hf.2.1 h) (by rw [he.2.2.2.1, hf.2.2.2.1])
  have a := he.2.2.2.2; have b := hf.2.2.2.2; have c := he.2.2.1.2; have d := hf.2.2.1.2
  omega
/-- two to the right have different slopes -/
theorem Rt_slope (hG : Geo u tx ty) {x y : Int} {k j : Nat} (hk : Rt u tx ty x y k) (hj : Rt u tx ty x y j) (hne : k ≠ j) : gr tx ty k ≠ gr tx ty j := by
  intro e
  have fk := hG.flat hk.1 hk.2.2.1
  have fj := hG.flat hj.1 hj.2.2.1
  have hm := hG.2.2 k j hk.1 hj.1 hk.2.1 hj.2.1 hne
  have e0 : Hh tx ty k x = Hh tx ty j x := by
    have a := Hh_left tx ty k; have b := Hh_left tx ty j
    rw [hk.2.2.2.1] at a; rw [hj.2.2.2.1] at b
    rw [a, b, hk.2.2.2.2, hj.2.2.2.2]
  have h1 := hk.2.2.1; have h2 := hj.2.2.1; have h3 := hk.2.2.2.1; have h4 := hj.2.2.2.1
  have all : ∀ z, Hh tx ty k z = Hh tx ty j z := fun z => by rw [Hh_diff tx ty k x z, Hh_diff tx ty j x z, e0, e]
  rcases Int.le_total (tx (2 * k + 1)) (tx (2 * j + 1)) with q | q
  · exact G3 fk fj hm (x0 := x) (x1 := tx (2 * k + 1)) (by omega) (by omega) (by omega) (by omega) q e0 (all _)
  · exact G3 fk fj hm (x0 := x) (x1 := tx (2 * j + 1)) (by omega) (by omega) (by omega) q (by omega) e0 (all _)
theorem Lt_slope (hG : Geo u tx ty) {x y : Int} {k j : Nat} (hk : Lt u tx ty x y k) (hj : Lt u tx ty x y j) (hne : k ≠ j) : gr tx ty k ≠ gr tx ty j := by
  intro e
  have fk := hG.flat hk.1 hk.2.2.1
  have fj := hG.flat hj.1 hj.2.2.1
  have hm := hG.2.2 k j hk.1 hj.1 hk.2.1 hj.2.1 hne
  have e0 : Hh tx ty k x = Hh tx ty j x := by
    have a := Hh_right (ty := ty) fk; have b := Hh_right (ty := ty) fj
    rw [hk.2.2.2.1] at a; rw [hj.2.2.2.1] at b
    rw [a, b, hk.2.2.2.2, hj.2.2.2.2]
  have h1 := hk.2.2.1; have h2 := hj.2.2.1; have h3 := hk.2.2.2.1; have h4 := hj.2.2.2.1
  have all : ∀ z, Hh tx ty k z = Hh tx ty j z := fun z => by rw [Hh_diff tx ty k x z, Hh_diff tx ty j x z, e0, e]
  rcases Int.le_total (tx (2 * k)) (tx (2 * j)) with q | q
  · exact G3 fk fj hm (x0 := tx (2 * j)) (x1 := x) (by omega) q (by omega) (by omega) (by omega) (all _) e0
  · exact G3 fk fj hm (x0 := tx (2 * k)) (x1 := x) (by omega) (by omega) q (by omega) (by omega) (all _) e0
def hiR (u : Nat → Bool) (tx ty : Nat → Int) (x y : Int) (k : Nat) : Prop := Rt u tx ty x y k ∧ ∀ j, Rt u tx ty x y j → gr tx ty j ≤ gr tx ty k
def loR (u : Nat → Bool) (tx ty : Nat → Int) (x y : Int) (k : Nat) : Prop := Rt u tx ty x y k ∧ ∀ j, Rt u tx ty x y j → gr tx ty k ≤ gr tx ty j
def hiL (u : Nat → Bool) (tx ty : Nat → Int) (x y : Int) (k : Nat) : Prop := Lt u tx ty x y k ∧ ∀ j, Lt u tx ty x y j → gr tx ty k ≤ gr tx ty j
def loL (u : Nat → Bool) (tx ty : Nat → Int) (x y : Int) (k : Nat) : Prop := Lt u tx ty x y k ∧ ∀ j, Lt u tx ty x y j → gr tx ty j ≤ gr tx ty k
end AR

theorem F_R1 {u : Nat → Bool} {tx ty : Nat → Int} {SFn : Nat → Int → Int → Nat} (hG : Geo u tx ty) (hSF : SFok u tx ty SFn) {x y : Int} {k j : Nat}  (hk : Rt u tx ty x y k) (hj : Rt u tx ty x y j) (hkj : gr tx ty k < gr tx ty j) (hn : ∀ i, Rt u tx ty x y i → gr tx ty i ≤ gr tx ty k ∨ gr tx ty j ≤ gr tx ty i) : SFn (2 * k) (tx (tw (2 * k)) - tx (2 * k)) (ty (tw (2 * k)) - ty (2 * k)) = 2 * j + 1 := by
  have Bj : Wn 100 (tx (2 * j)) ∧ Wn 100 (tx (2 * j + 1)) ∧ Wn 100 (ty (2 * j)) ∧ Wn 100 (ty (2 * j + 1)) := ⟨(hG.2.1 _ (by have := hj.1; omega)).1, (hG.2.1 _ (by have := hj.1; omega)).1, (hG.2.1 _ (by have := hj.1; omega)).2, (hG.2.1 _ (by have := hj.1; omega)).2⟩
  have hw : (2 * k) < 40 ∧ u ((2 * k) / 2) = true ∧ tx (2 * k) = x ∧ ty (2 * k) = y := ⟨by have := hk.1; omega, by rw [show (2 * k) / 2 = k by omega]; exact hk.2.1, hk.2.2.2.1, hk.2.2.2.2⟩
  have Bw := hG.2.1 _ hw.1
  have Bt := hG.2.1 (tw (2 * k)) (tw_lt hw.1)
  have fk := hG.flat hk.1 hk.2.2.1
  have fj := hG.flat hj.1 hj.2.2.1
  refine (hSF (2 * k) (2 * j) (tx (tw (2 * k)) - tx (2 * k)) (ty (tw (2 * k)) - ty (2 * k)) ⟨by have := Bt.1.1; have := Bw.1.2; omega, by have := Bt.1.2; have := Bw.1.1; omega⟩ ⟨by have := Bt.2.1; have := Bw.2.2; omega, by have := Bt.2.2; have := Bw.2.1; omega⟩ hw.1 hw.2.1 (by have := hj.1; omega) (by rw [show (2 * j) / 2 = j by omega]; exact hj.2.1) (hj.2.2.2.1.trans hw.2.2.1.symm) (hj.2.2.2.2.trans hw.2.2.2.symm) (fun c hc hu h1 h2 hne => ?_)).trans (tw_even j)
  have h1 : tx c = x := h1.trans hw.2.2.1
  have h2 : ty c = y := h2.trans hw.2.2.2
  rcases arrow_kind hG hc hu with ⟨i, rfl, hi⟩ | ⟨i, rfl, hi⟩ | ⟨i, rfl, hi⟩ | ⟨i, rfl, hi⟩
  · have hi : Rt u tx ty x y i := by rw [h1, h2] at hi; exact hi
    have fi := hG.flat hi.1 hi.2.2.1
    simp only [tw_even, tw_odd]
    rcases hn i hi with q | q
    · exact D1_lo (by have := hk.2.2.1; omega) (by have := hi.2.2.1; omega) ((cr_gr fk fj).mpr hkj) (cr_gr_le fk fi q)
    · exact D1_hi (by have := hk.2.2.1; omega) (by have := hj.2.2.1; omega) (by have := hi.2.2.1; omega) ((cr_gr fk fj).mpr hkj) ((cr_gr fj fi).mpr (by have := Rt_slope hG hj hi (fun z => hne (by rw [z])); omega))
  · have hi : Lt u tx ty x y i := by rw [h1, h2] at hi; exact hi
    have fi := hG.flat hi.1 hi.2.2.1
    simp only [tw_even, tw_odd]
    exact D1_lf (by have := hk.2.2.1; omega) (by have := hj.2.2.1; omega) (by have := hi.2.2.1; omega) ((cr_gr fk fj).mpr hkj)
  · have hi : Up u tx ty x y i := by rw [h1, h2] at hi; exact hi
    simp only [tw_even, tw_odd]
    have zi : tx (2 * i + 1) - tx (2 * i) = 0 := by have := hi.2.2.1.1; omega
    have zi2 : tx (2 * i) - tx (2 * i + 1) = 0 := by omega
    try rw [zi]
    exact D1_up (by have := hk.2.2.1; omega) (by have := hj.2.2.1; omega) (by have := hi.2.2.1.2; omega) ((cr_gr fk fj).mpr hkj)
  · have hi : Dn u tx ty x y i := by rw [h1, h2] at hi; exact hi
    simp only [tw_even, tw_odd]
    have zi : tx (2 * i + 1) - tx (2 * i) = 0 := by have := hi.2.2.1.1; omega
    have zi2 : tx (2 * i) - tx (2 * i + 1) = 0 := by omega
    try rw [zi2]
    exact D1_dn (by have := hk.2.2.1; omega) (by have := hi.2.2.1.2; omega) ((cr_gr fk fj).mpr hkj)
theorem F_R2 {u : Nat → Bool} {tx ty : Nat → Int} {SFn : Nat → Int → Int → Nat} (hG : Geo u tx ty) (hSF : SFok u tx ty SFn) {x y : Int} {k j : Nat}  (hk : Rt u tx ty x y k) (hh : ∀ i, Rt u tx ty x y i → gr tx ty i ≤ gr tx ty k) (hj : Up u tx ty x y j) : SFn (2 * k) (tx (tw (2 * k)) - tx (2 * k)) (ty (tw (2 * k)) - ty (2 * k)) = 2 * j + 1 := by
  have Bj : Wn 100 (tx (2 * j)) ∧ Wn 100 (tx (2 * j + 1)) ∧ Wn 100 (ty (2 * j)) ∧ Wn 100 (ty (2 * j + 1)) := ⟨(hG.2.1 _ (by have := hj.1; omega)).1, (hG.2.1 _ (by have := hj.1; omega)).1, (hG.2.1 _ (by have := hj.1; omega)).2, (hG.2.1 _ (by have := hj.1; omega)).2⟩
  have hw : (2 * k) < 40 ∧ u ((2 * k) / 2) = true ∧ tx (2 * k) = x ∧ ty (2 * k) = y := ⟨by have := hk.1; omega, by rw [show (2 * k) / 2 = k by omega]; exact hk.2.1, hk.2.2.2.1, hk.2.2.2.2⟩
  have Bw := hG.2.1 _ hw.1
  have Bt := hG.2.1 (tw (2 * k)) (tw_lt hw.1)
  have fk := hG.flat hk.1 hk.2.2.1
  refine (hSF (2 * k) (2 * j) (tx (tw (2 * k)) - tx (2 * k)) (ty (tw (2 * k)) - ty (2 * k)) ⟨by have := Bt.1.1; have := Bw.1.2; omega, by have := Bt.1.2; have := Bw.1.1; omega⟩ ⟨by have := Bt.2.1; have := Bw.2.2; omega, by have := Bt.2.2; have := Bw.2.1; omega⟩ hw.1 hw.2.1 (by have := hj.1; omega) (by rw [show (2 * j) / 2 = j by omega]; exact hj.2.1) (hj.2.2.2.1.trans hw.2.2.1.symm) (hj.2.2.2.2.trans hw.2.2.2.symm) (fun c hc hu h1 h2 hne => ?_)).trans (tw_even j)
  have h1 : tx c = x := h1.trans hw.2.2.1
  have h2 : ty c = y := h2.trans hw.2.2.2
  rcases arrow_kind hG hc hu with ⟨i, rfl, hi⟩ | ⟨i, rfl, hi⟩ | ⟨i, rfl, hi⟩ | ⟨i, rfl, hi⟩
  · have hi : Rt u tx ty x y i := by rw [h1, h2] at hi; exact hi
    have fi := hG.flat hi.1 hi.2.2.1
    simp only [tw_even, tw_odd]
    have zj : tx (2 * j + 1) - tx (2 * j) = 0 := by have := hj.2.2.1.1; omega
    have zj2 : tx (2 * j) - tx (2 * j + 1) = 0 := by omega
    try rw [zj]
    exact D2_lo (by have := hk.2.2.1; omega) (by have := hj.2.2.1.2; omega) (by have := hi.2.2.1; omega) (cr_gr_le fk fi (hh i hi))
  · have hi : Lt u tx ty x y i := by rw [h1, h2] at hi; exact hi
    have fi := hG.flat hi.1 hi.2.2.1
    simp only [tw_even, tw_odd]
    have zj : tx (2 * j + 1) - tx (2 * j) = 0 := by have := hj.2.2.1.1; omega
    have zj2 : tx (2 * j) - tx (2 * j + 1) = 0 := by omega
    try rw [zj]
    exact D2_lf (by have := hk.2.2.1; omega) (by have := hj.2.2.1.2; omega) (by have := hi.2.2.1; omega)
  · have hi : Up u tx ty x y i := by rw [h1, h2] at hi; exact hi
    exact absurd (by rw [Up_one hG hi hj]) hne
  · have hi : Dn u tx ty x y i := by rw [h1, h2] at hi; exact hi
    simp only [tw_even, tw_odd]
    have zj : tx (2 * j + 1) - tx (2 * j) = 0 := by have := hj.2.2.1.1; omega
    have zi : tx (2 * i + 1) - tx (2 * i) = 0 := by have := hi.2.2.1.1; omega
    have zj2 : tx (2 * j) - tx (2 * j + 1) = 0 := by omega
    have zi2 : tx (2 * i) - tx (2 * i + 1) = 0 := by omega
    try rw [zj, zi2]
    exact D2_dn (by have := hk.2.2.1; omega) (by have := hj.2.2.1.2; omega) (by have := hi.2.2.1.2; omega)
theorem F_R3 {u : Nat → Bool} {tx ty : Nat → Int} {SFn : Nat → Int → Int → Nat} (hG : Geo u tx ty) (hSF : SFok u tx ty SFn) {x y : Int} {k j : Nat}  (hk : Rt u tx ty x y k) (hh : ∀ i, Rt u tx ty x y i → gr tx ty i ≤ gr tx ty k) (nU : ∀ i, ¬ Up u tx ty x y i) (hj : Lt u tx ty x y j) (hm : ∀ i, Lt u tx ty x y i → gr tx ty j ≤ gr tx ty i) : SFn (2 * k) (tx (tw (2 * k)) - tx (2 * k)) (ty (tw (2 * k)) - ty (2 * k)) = 2 * j := by
  have Bj : Wn 100 (tx (2 * j)) ∧ Wn 100 (tx (2 * j + 1)) ∧ Wn 100 (ty (2 * j)) ∧ Wn 100 (ty (2 * j + 1)) := ⟨(hG.2.1 _ (by have := hj.1; omega)).1, (hG.2.1 _ (by have := hj.1; omega)).1, (hG.2.1 _ (by have := hj.1; omega)).2, (hG.2.1 _ (by have := hj.1; omega)).2⟩
  have hw : (2 * k) < 40 ∧ u ((2 * k) / 2) = true ∧ tx (2 * k) = x ∧ ty (2 * k) = y := ⟨by have := hk.1; omega, by rw [show (2 * k) / 2 = k by omega]; exact hk.2.1, hk.2.2.2.1, hk.2.2.2.2⟩
  have Bw := hG.2.1 _ hw.1
  have Bt := hG.2.1 (tw (2 * k)) (tw_lt hw.1)
  have fk := hG.flat hk.1 hk.2.2.1
  have fj := hG.flat hj.1 hj.2.2.1
  refine (hSF (2 * k) (2 * j + 1) (tx (tw (2 * k)) - tx (2 * k)) (ty (tw (2 * k)) - ty (2 * k)) ⟨by have := Bt.1.1; have := Bw.1.2; omega, by have := Bt.1.2; have := Bw.1.1; omega⟩ ⟨by have := Bt.2.1; have := Bw.2.2; omega, by have := Bt.2.2; have := Bw.2.1; omega⟩ hw.1 hw.2.1 (by have := hj.1; omega) (by rw [show (2 * j + 1) / 2 = j by omega]; exact hj.2.1) (hj.2.2.2.1.trans hw.2.2.1.symm) (hj.2.2.2.2.trans hw.2.2.2.symm) (fun c hc hu h1 h2 hne => ?_)).trans (tw_odd j)
  have h1 : tx c = x := h1.trans hw.2.2.1
  have h2 : ty c = y := h2.trans hw.2.2.2
  rcases arrow_kind hG hc hu with ⟨i, rfl, hi⟩ | ⟨i, rfl, hi⟩ | ⟨i, rfl, hi⟩ | ⟨i, rfl, hi⟩
  · have hi : Rt u tx ty x y i := by rw [h1, h2] at hi; exact hi
    have fi := hG.flat hi.1 hi.2.2.1
    simp only [tw_even, tw_odd]
    exact D3_lo (by have := hk.2.2.1; omega) (by have := hj.2.2.1; omega) (by have := hi.2.2.1; omega) (cr_gr_le fk fi (hh i hi))
  · have hi : Lt u tx ty x y i := by rw [h1, h2] at hi; exact hi
    have fi := hG.flat hi.1 hi.2.2.1
    simp only [tw_even, tw_odd]
    exact D3_lf (by have := hk.2.2.1; omega) (by have := hj.2.2.1; omega) (by have := hi.2.2.1; omega) (by have := (cr_gr (ty := ty) fj fi).mpr (by have := hm i hi; have := Lt_slope hG hj hi (fun z => hne (by rw [z])); omega); rw [← cr_neg]; simpa only [Int.neg_sub] using this)
  · have hi : Up u tx ty x y i := by rw [h1, h2] at hi; exact hi
    exact absurd hi (nU i)
  · have hi : Dn u tx ty x y i := by rw [h1, h2] at hi; exact hi
    simp only [tw_even, tw_odd]
    have zi : tx (2 * i + 1) - tx (2 * i) = 0 := by have := hi.2.2.1.1; omega
    have zi2 : tx (2 * i) - tx (2 * i + 1) = 0 := by omega
    try rw [zi2]
    exact D3_dn (by have := hk.2.2.1; omega) (by have := hj.2.2.1; omega) (by have := hi.2.2.1.2; omega)
theorem F_R4 {u : Nat → Bool} {tx ty : Nat → Int} {SFn : Nat → Int → Int → Nat} (hG : Geo u tx ty) (hSF : SFok u tx ty SFn) {x y : Int} {k j : Nat}  (hk : Rt u tx ty x y k) (hh : ∀ i, Rt u tx ty x y i → gr tx ty i ≤ gr tx ty k) (nU : ∀ i, ¬ Up u tx ty x y i) (nL : ∀ i, ¬ Lt u tx ty x y i) (hj : Dn u tx ty x y j) : SFn (2 * k) (tx (tw (2 * k)) - tx (2 * k)) (ty (tw (2 * k)) - ty (2 * k)) = 2 * j := by
  have Bj : Wn 100 (tx (2 * j)) ∧ Wn 100 (tx (2 * j + 1)) ∧ Wn 100 (ty (2 * j)) ∧ Wn 100 (ty (2 * j + 1)) := ⟨(hG.2.1 _ (by have := hj.1; omega)).1, (hG.2.1 _ (by have := hj.1; omega)).1, (hG.2.1 _ (by have := hj.1; omega)).2, (hG.2.1 _ (by have := hj.1; omega)).2⟩
  have hw : (2 * k) < 40 ∧ u ((2 * k) / 2) = true ∧ tx (2 * k) = x ∧ ty (2 * k) = y := ⟨by have := hk.1; omega, by rw [show (2 * k) / 2 = k by omega]; exact hk.2.1, hk.2.2.2.1, hk.2.2.2.2⟩
  have Bw := hG.2.1 _ hw.1
  have Bt := hG.2.1 (tw (2 * k)) (tw_lt hw.1)
  have fk := hG.flat hk.1 hk.2.2.1
  refine (hSF (2 * k) (2 * j + 1) (tx (tw (2 * k)) - tx (2 * k)) (ty (tw (2 * k)) - ty (2 * k)) ⟨by have := Bt.1.1; have := Bw.1.2; omega, by have := Bt.1.2; have := Bw.1.1; omega⟩ ⟨by have := Bt.2.1; have := Bw.2.2; omega, by have := Bt.2.2; have := Bw.2.1; omega⟩ hw.1 hw.2.1 (by have := hj.1; omega) (by rw [show (2 * j + 1) / 2 = j by omega]; exact hj.2.1) ((hj.2.2.1.1.symm.trans hj.2.2.2.1).trans hw.2.2.1.symm) (hj.2.2.2.2.trans hw.2.2.2.symm) (fun c hc hu h1 h2 hne => ?_)).trans (tw_odd j)
  have h1 : tx c = x := h1.trans hw.2.2.1
  have h2 : ty c = y := h2.trans hw.2.2.2
  rcases arrow_kind hG hc hu with ⟨i, rfl, hi⟩ | ⟨i, rfl, hi⟩ | ⟨i, rfl, hi⟩ | ⟨i, rfl, hi⟩
  · have hi : Rt u tx ty x y i := by rw [h1, h2] at hi; exact hi
    have fi := hG.flat hi.1 hi.2.2.1
    simp only [tw_even, tw_odd]
    have zj : tx (2 * j + 1) - tx (2 * j) = 0 := by have := hj.2.2.1.1; omega
    have zj2 : tx (2 * j) - tx (2 * j + 1) = 0 := by omega
    try rw [zj2]
    exact D4_lo (by have := hk.2.2.1; omega) (by have := hj.2.2.1.2; omega) (by have := hi.2.2.1; omega) (cr_gr_le fk fi (hh i hi))
  · have hi : Lt u tx ty x y i := by rw [h1, h2] at hi; exact hi
    have fi := hG.flat hi.1 hi.2.2.1
    exact absurd hi (nL i)
  · have hi : Up u tx ty x y i := by rw [h1, h2] at hi; exact hi
    exact absurd hi (nU i)
  · have hi : Dn u tx ty x y i := by rw [h1, h2] at hi; exact hi
    exact absurd (by rw [Dn_one hG hi hj]) hne
theorem F_R5 {u : Nat → Bool} {tx ty : Nat → Int} {SFn : Nat → Int → Int → Nat} (hG : Geo u tx ty) (hSF : SFok u tx ty SFn) {x y : Int} {k j : Nat}  (hk : Rt u tx ty x y k) (hh : ∀ i, Rt u tx ty x y i → gr tx ty i ≤ gr tx ty k) (nU : ∀ i, ¬ Up u tx ty x y i) (nL : ∀ i, ¬ Lt u tx ty x y i) (nD : ∀ i, ¬ Dn u tx ty x y i) (hj : Rt u tx ty x y j) (hm : ∀ i, Rt u tx ty x y i → gr tx ty j ≤ gr tx ty i) : SFn (2 * k) (tx (tw (2 * k)) - tx (2 * k)) (ty (tw (2 * k)) - ty (2 * k)) = 2 * j + 1 := by
  have Bj : Wn 100 (tx (2 * j)) ∧ Wn 100 (tx (2 * j + 1)) ∧ Wn 100 (ty (2 * j)) ∧ Wn 100 (ty (2 * j + 1)) := ⟨(hG.2.1 _ (by have := hj.1; omega)).1, (hG.2.1 _ (by have := hj.1; omega)).1, (hG.2.1 _ (by have := hj.1; omega)).2, (hG.2.1 _ (by have := hj.1; omega)).2⟩
  have hw : (2 * k) < 40 ∧ u ((2 * k) / 2) = true ∧ tx (2 * k) = x ∧ ty (2 * k) = y := ⟨by have := hk.1; omega, by rw [show (2 * k) / 2 = k by omega]; exact hk.2.1, hk.2.2.2.1, hk.2.2.2.2⟩
  have Bw := hG.2.1 _ hw.1
  have Bt := hG.2.1 (tw (2 * k)) (tw_lt hw.1)
  have fk := hG.flat hk.1 hk.2.2.1
  have fj := hG.flat hj.1 hj.2.2.1
  refine (hSF (2 * k) (2 * j) (tx (tw (2 * k)) - tx (2 * k)) (ty (tw (2 * k)) - ty (2 * k)) ⟨by have := Bt.1.1; have := Bw.1.2; omega, by have := Bt.1.2; have := Bw.1.1; omega⟩ ⟨by have := Bt.2.1; have := Bw.2.2; omega, by have := Bt.2.2; have := Bw.2.1; omega⟩ hw.1 hw.2.1 (by have := hj.1; omega) (by rw [show (2 * j) / 2 = j by omega]; exact hj.2.1) (hj.2.2.2.1.trans hw.2.2.1.symm) (hj.2.2.2.2.trans hw.2.2.2.symm) (fun c hc hu h1 h2 hne => ?_)).trans (tw_even j)
  have h1 : tx c = x := h1.trans hw.2.2.1
  have h2 : ty c = y := h2.trans hw.2.2.2
  rcases arrow_kind hG hc hu with ⟨i, rfl, hi⟩ | ⟨i, rfl, hi⟩ | ⟨i, rfl, hi⟩ | ⟨i, rfl, hi⟩
  · have hi : Rt u tx ty x y i := by rw [h1, h2] at hi; exact hi
    have fi := hG.flat hi.1 hi.2.2.1
    simp only [tw_even, tw_odd]
    by_cases hjk : j = k
    · exact absurd (by have := hh i hi; have := hm i hi; have e : i = j := Decidable.byContradiction (fun z => Rt_slope hG hi hj z (by rw [hjk] at *; omega)); rw [e]) hne
    · exact D5_lo (by have := hk.2.2.1; omega) (by have := hi.2.2.1; omega) (cr_gr_neg fk fj (by have := hh j hj; have := Rt_slope hG hj hk hjk; omega)) (cr_gr_le fk fi (hh i hi)) ((cr_gr fj fi).mpr (by have := hm i hi; have := Rt_slope hG hj hi (fun z => hne (by rw [z])); omega))
  · have hi : Lt u tx ty x y i := by rw [h1, h2] at hi; exact hi
    have fi := hG.flat hi.1 hi.2.2.1
    exact absurd hi (nL i)
  · have hi : Up u tx ty x y i := by rw [h1, h2] at hi; exact hi
    exact absurd hi (nU i)
  · have hi : Dn u tx ty x y i := by rw [h1, h2] at hi; exact hi
    exact absurd hi (nD i)
theorem F_U1 {u : Nat → Bool} {tx ty : Nat → Int} {SFn : Nat → Int → Int → Nat} (hG : Geo u tx ty) (hSF : SFok u tx ty SFn) {x y : Int} {k j : Nat} {w : Nat} {dy : Int} (hw : w < 40 ∧ u (w / 2) = true ∧ tx w = x ∧ ty w = y) (hdy : 0 < dy) (hdw : Wn 200 dy) (hj : Lt u tx ty x y j) (hm : ∀ i, Lt u tx ty x y i → gr tx ty j ≤ gr tx ty i) : SFn w 0 dy = 2 * j := by
  have Bj : Wn 100 (tx (2 * j)) ∧ Wn 100 (tx (2 * j + 1)) ∧ Wn 100 (ty (2 * j)) ∧ Wn 100 (ty (2 * j + 1)) := ⟨(hG.2.1 _ (by have := hj.1; omega)).1, (hG.2.1 _ (by have := hj.1; omega)).1, (hG.2.1 _ (by have := hj.1; omega)).2, (hG.2.1 _ (by have := hj.1; omega)).2⟩
  have fj := hG.flat hj.1 hj.2.2.1
  refine (hSF (w) (2 * j + 1) 0 dy ⟨by decide, by decide⟩ hdw hw.1 hw.2.1 (by have := hj.1; omega) (by rw [show (2 * j + 1) / 2 = j by omega]; exact hj.2.1) (hj.2.2.2.1.trans hw.2.2.1.symm) (hj.2.2.2.2.trans hw.2.2.2.symm) (fun c hc hu h1 h2 hne => ?_)).trans (tw_odd j)
  have h1 : tx c = x := h1.trans hw.2.2.1
  have h2 : ty c = y := h2.trans hw.2.2.2
  rcases arrow_kind hG hc hu with ⟨i, rfl, hi⟩ | ⟨i, rfl, hi⟩ | ⟨i, rfl, hi⟩ | ⟨i, rfl, hi⟩
  · have hi : Rt u tx ty x y i := by rw [h1, h2] at hi; exact hi
    have fi := hG.flat hi.1 hi.2.2.1
    simp only [tw_even, tw_odd]
    exact U1_rt hdy (by have := hj.2.2.1; omega) (by have := hi.2.2.1; omega)
  · have hi : Lt u tx ty x y i := by rw [h1, h2] at hi; exact hi
    have fi := hG.flat hi.1 hi.2.2.1
    simp only [tw_even, tw_odd]
    exact U1_lf hdy (by have := hj.2.2.1; omega) (by have := hi.2.2.1; omega) (by have := (cr_gr (ty := ty) fj fi).mpr (by have := hm i hi; have := Lt_slope hG hj hi (fun z => hne (by rw [z])); omega); rw [← cr_neg]; simpa only [Int.neg_sub] using this)
  · have hi : Up u tx ty x y i := by rw [h1, h2] at hi; exact hi
    simp only [tw_even, tw_odd]
    have zi : tx (2 * i + 1) - tx (2 * i) = 0 := by have := hi.2.2.1.1; omega
    have zi2 : tx (2 * i) - tx (2 * i + 1) = 0 := by omega
    try rw [zi]
    exact U1_up hdy (by have := hj.2.2.1; omega) (by have := hi.2.2.1.2; omega)
  · have hi : Dn u tx ty x y i := by rw [h1, h2] at hi; exact hi
    simp only [tw_even, tw_odd]
    have zi : tx (2 * i + 1) - tx (2 * i) = 0 := by have := hi.2.2.1.1; omega
    have zi2 : tx (2 * i) - tx (2 * i + 1) = 0 := by omega
    try rw [zi2]
    exact U1_dn hdy (by have := hj.2.2.1; omega) (by have := hi.2.2.1.2; omega)
theorem F_U2 {u : Nat → Bool} {tx ty : Nat → Int} {SFn : Nat → Int → Int → Nat} (hG : Geo u tx ty) (hSF : SFok u tx ty SFn) {x y : Int} {k j : Nat} {w : Nat} {dy : Int} (hw : w < 40 ∧ u (w / 2) = true ∧ tx w = x ∧ ty w = y) (hdy : 0 < dy) (hdw : Wn 200 dy) (nL : ∀ i, ¬ Lt u tx ty x y i) (hj : Dn u tx ty x y j) : SFn w 0 dy = 2 * j := by
  have Bj : Wn 100 (tx (2 * j)) ∧ Wn 100 (tx (2 * j + 1)) ∧ Wn 100 (ty (2 * j)) ∧ Wn 100 (ty (2 * j + 1)) := ⟨(hG.2.1 _ (by have := hj.1; omega)).1, (hG.2.1 _ (by have := hj.1; omega)).1, (hG.2.1 _ (by have := hj.1; omega)).2, (hG.2.1 _ (by have := hj.1; omega)).2⟩
  refine (hSF (w) (2 * j + 1) 0 dy ⟨by decide, by decide⟩ hdw hw.1 hw.2.1 (by have := hj.1; omega) (by rw [show (2 * j + 1) / 2 = j by omega]; exact hj.2.1) ((hj.2.2.1.1.symm.trans hj.2.2.2.1).trans hw.2.2.1.symm) (hj.2.2.2.2.trans hw.2.2.2.symm) (fun c hc hu h1 h2 hne => ?_)).trans (tw_odd j)
  have h1 : tx c = x := h1.trans hw.2.2.1
  have h2 : ty c = y := h2.trans hw.2.2.2
  rcases arrow_kind hG hc hu with ⟨i, rfl, hi⟩ | ⟨i, rfl, hi⟩ | ⟨i, rfl, hi⟩ | ⟨i, rfl, hi⟩
  · have hi : Rt u tx ty x y i := by rw [h1, h2] at hi; exact hi
    have fi := hG.flat hi.1 hi.2.2.1
    simp only [tw_even, tw_odd]
    have zj : tx (2 * j + 1) - tx (2 * j) = 0 := by have := hj.2.2.1.1; omega
    have zj2 : tx (2 * j) - tx (2 * j + 1) = 0 := by omega
    try rw [zj2]
    exact U2_rt hdy (by have := hj.2.2.1.2; omega) (by have := hi.2.2.1; omega)
  · have hi : Lt u tx ty x y i := by rw [h1, h2] at hi; exact hi
    have fi := hG.flat hi.1 hi.2.2.1
    exact absurd hi (nL i)
  · have hi : Up u tx ty x y i := by rw [h1, h2] at hi; exact hi
    simp only [tw_even, tw_odd]
    have zj : tx (2 * j + 1) - tx (2 * j) = 0 := by have := hj.2.2.1.1; omega
    have zi : tx (2 * i + 1) - tx (2 * i) = 0 := by have := hi.2.2.1.1; omega
    have zj2 : tx (2 * j) - tx (2 * j + 1) = 0 := by omega
    have zi2 : tx (2 * i) - tx (2 * i + 1) = 0 := by omega
    try rw [zj2, zi]
    exact U2_up hdy (by have := hj.2.2.1.2; omega) (by have := hi.2.2.1.2; omega)
  · have hi : Dn u tx ty x y i := by rw [h1, h2] at hi; exact hi
    exact absurd (by rw [Dn_one hG hi hj]) hne
theorem F_U3 {u : Nat → Bool} {tx ty : Nat → Int} {SFn : Nat → Int → Int → Nat} (hG : Geo u tx ty) (hSF : SFok u tx ty SFn) {x y : Int} {k j : Nat} {w : Nat} {dy : Int} (hw : w < 40 ∧ u (w / 2) = true ∧ tx w = x ∧ ty w = y) (hdy : 0 < dy) (hdw : Wn 200 dy) (nL : ∀ i, ¬ Lt u tx ty x y i) (nD : ∀ i, ¬ Dn u tx ty x y i) (hj : Rt u tx ty x y j) (hm : ∀ i, Rt u tx ty x y i → gr tx ty j ≤ gr tx ty i) : SFn w 0 dy = 2 * j + 1 := by
  have Bj : Wn 100 (tx (2 * j)) ∧ Wn 100 (tx (2 * j + 1)) ∧ Wn 100 (ty (2 * j)) ∧ Wn 100 (ty (2 * j + 1)) := ⟨(hG.2.1 _ (by have := hj.1; omega)).1, (hG.2.1 _ (by have := hj.1; omega)).1, (hG.2.1 _ (by have := hj.1; omega)).2, (hG.2.1 _ (by have := hj.1; omega)).2⟩
  have fj := hG.flat hj.1 hj.2.2.1
  refine (hSF (w) (2 * j) 0 dy ⟨by decide, by decide⟩ hdw hw.1 hw.2.1 (by have := hj.1; omega) (by rw [show (2 * j) / 2 = j by omega]; exact hj.2.1) (hj.2.2.2.1.trans hw.2.2.1.symm) (hj.2.2.2.2.trans hw.2.2.2.symm) (fun c hc hu h1 h2 hne => ?_)).trans (tw_even j)
  have h1 : tx c = x := h1.trans hw.2.2.1
  have h2 : ty c = y := h2.trans hw.2.2.2
  rcases arrow_kind hG hc hu with ⟨i, rfl, hi⟩ | ⟨i, rfl, hi⟩ | ⟨i, rfl, hi⟩ | ⟨i, rfl, hi⟩
  · have hi : Rt u tx ty x y i := by rw [h1, h2] at hi; exact hi
    have fi := hG.flat hi.1 hi.2.2.1
    simp only [tw_even, tw_odd]
    exact U3_rt hdy (by have := hj.2.2.1; omega) (by have := hi.2.2.1; omega) ((cr_gr fj fi).mpr (by have := hm i hi; have := Rt_slope hG hj hi (fun z => hne (by rw [z])); omega))
  · have hi : Lt u tx ty x y i := by rw [h1, h2] at hi; exact hi
    have fi := hG.flat hi.1 hi.2.2.1
    exact absurd hi (nL i)
  · have hi : Up u tx ty x y i := by rw [h1, h2] at hi; exact hi
    simp only [tw_even, tw_odd]
    have zi : tx (2 * i + 1) - tx (2 * i) = 0 := by have := hi.2.2.1.1; omega
    have zi2 : tx (2 * i) - tx (2 * i + 1) = 0 := by omega
    try rw [zi]
    exact U3_up hdy (by have := hj.2.2.1; omega) (by have := hi.2.2.1.2; omega)
  · have hi : Dn u tx ty x y i := by rw [h1, h2] at hi; exact hi
    exact absurd hi (nD i)
theorem F_U4 {u : Nat → Bool} {tx ty : Nat → Int} {SFn : Nat → Int → Int → Nat} (hG : Geo u tx ty) (hSF : SFok u tx ty SFn) {x y : Int} {k j : Nat} {w : Nat} {dy : Int} (hw : w < 40 ∧ u (w / 2) = true ∧ tx w = x ∧ ty w = y) (hdy : 0 < dy) (hdw : Wn 200 dy) (nL : ∀ i, ¬ Lt u tx ty x y i) (nD : ∀ i, ¬ Dn u tx ty x y i) (nR : ∀ i, ¬ Rt u tx ty x y i) (hj : Up u tx ty x y j) : SFn w 0 dy = 2 * j + 1 := by
  have Bj : Wn 100 (tx (2 * j)) ∧ Wn 100 (tx (2 * j + 1)) ∧ Wn 100 (ty (2 * j)) ∧ Wn 100 (ty (2 * j + 1)) := ⟨(hG.2.1 _ (by have := hj.1; omega)).1, (hG.2.1 _ (by have := hj.1; omega)).1, (hG.2.1 _ (by have := hj.1; omega)).2, (hG.2.1 _ (by have := hj.1; omega)).2⟩
  refine (hSF (w) (2 * j) 0 dy ⟨by decide, by decide⟩ hdw hw.1 hw.2.1 (by have := hj.1; omega) (by rw [show (2 * j) / 2 = j by omega]; exact hj.2.1) (hj.2.2.2.1.trans hw.2.2.1.symm) (hj.2.2.2.2.trans hw.2.2.2.symm) (fun c hc hu h1 h2 hne => ?_)).trans (tw_even j)
  have h1 : tx c = x := h1.trans hw.2.2.1
  have h2 : ty c = y := h2.trans hw.2.2.2
  rcases arrow_kind hG hc hu with ⟨i, rfl, hi⟩ | ⟨i, rfl, hi⟩ | ⟨i, rfl, hi⟩ | ⟨i, rfl, hi⟩
  · have hi : Rt u tx ty x y i := by rw [h1, h2] at hi; exact hi
    have fi := hG.flat hi.1 hi.2.2.1
    exact absurd hi (nR i)
  · have hi : Lt u tx ty x y i := by rw [h1, h2] at hi; exact hi
    have fi := hG.flat hi.1 hi.2.2.1
    exact absurd hi (nL i)
  · have hi : Up u tx ty x y i := by rw [h1, h2] at hi; exact hi
    exact absurd (by rw [Up_one hG hi hj]) hne
  · have hi : Dn u tx ty x y i := by rw [h1, h2] at hi; exact hi
    exact absurd hi (nD i)
theorem F_L1 {u : Nat → Bool} {tx ty : Nat → Int} {SFn : Nat → Int → Int → Nat} (hG : Geo u tx ty) (hSF : SFok u tx ty SFn) {x y : Int} {k j : Nat}  (hk : Lt u tx ty x y k) (hj : Lt u tx ty x y j) (hkj : gr tx ty k < gr tx ty j) (hn : ∀ i, Lt u tx ty x y i → gr tx ty i ≤ gr tx ty k ∨ gr tx ty j ≤ gr tx ty i) : SFn (2 * k + 1) (tx (tw (2 * k + 1)) - tx (2 * k + 1)) (ty (tw (2 * k + 1)) - ty (2 * k + 1)) = 2 * j := by
  have Bj : Wn 100 (tx (2 * j)) ∧ Wn 100 (tx (2 * j + 1)) ∧ Wn 100 (ty (2 * j)) ∧ Wn 100 (ty (2 * j + 1)) := ⟨(hG.2.1 _ (by have := hj.1; omega)).1, (hG.2.1 _ (by have := hj.1; omega)).1, (hG.2.1 _ (by have := hj.1; omega)).2, (hG.2.1 _ (by have := hj.1; omega)).2⟩
  have hw : (2 * k + 1) < 40 ∧ u ((2 * k + 1) / 2) = true ∧ tx (2 * k + 1) = x ∧ ty (2 * k + 1) = y := ⟨by have := hk.1; omega, by rw [show (2 * k + 1) / 2 = k by omega]; exact hk.2.1, hk.2.2.2.1, hk.2.2.2.2⟩
  have Bw := hG.2.1 _ hw.1
  have Bt := hG.2.1 (tw (2 * k + 1)) (tw_lt hw.1)
  have fk := hG.flat hk.1 hk.2.2.1
  have fj := hG.flat hj.1 hj.2.2.1
  refine (hSF (2 * k + 1) (2 * j + 1) (tx (tw (2 * k + 1)) - tx (2 * k + 1)) (ty (tw (2 * k + 1)) - ty (2 * k + 1)) ⟨by have := Bt.1.1; have := Bw.1.2; omega, by have := Bt.1.2; have := Bw.1.1; omega⟩ ⟨by have := Bt.2.1; have := Bw.2.2; omega, by have := Bt.2.2; have := Bw.2.1; omega⟩ hw.1 hw.2.1 (by have := hj.1; omega) (by rw [show (2 * j + 1) / 2 = j by omega]; exact hj.2.1) (hj.2.2.2.1.trans hw.2.2.1.symm) (hj.2.2.2.2.trans hw.2.2.2.symm) (fun c hc hu h1 h2 hne => ?_)).trans (tw_odd j)
  have h1 : tx c = x := h1.trans hw.2.2.1
  have h2 : ty c = y := h2.trans hw.2.2.2
  rcases arrow_kind hG hc hu with ⟨i, rfl, hi⟩ | ⟨i, rfl, hi⟩ | ⟨i, rfl, hi⟩ | ⟨i, rfl, hi⟩
  · have hi : Rt u tx ty x y i := by rw [h1, h2] at hi; exact hi
    have fi := hG.flat hi.1 hi.2.2.1
    simp only [tw_even, tw_odd]
    rw [← dom_neg]
    simp only [Int.neg_sub, Int.neg_zero]
    exact D1_lf (by have := hk.2.2.1; omega) (by have := hj.2.2.1; omega) (by have := hi.2.2.1; omega) ((cr_gr fk fj).mpr hkj)
  · have hi : Lt u tx ty x y i := by rw [h1, h2] at hi; exact hi
    have fi := hG.flat hi.1 hi.2.2.1
    simp only [tw_even, tw_odd]
    rw [← dom_neg]
    simp only [Int.neg_sub, Int.neg_zero]
    rcases hn i hi with q | q
    · exact D1_lo (by have := hk.2.2.1; omega) (by have := hi.2.2.1; omega) ((cr_gr fk fj).mpr hkj) (cr_gr_le fk fi q)
    · exact D1_hi (by have := hk.2.2.1; omega) (by have := hj.2.2.1; omega) (by have := hi.2.2.1; omega) ((cr_gr fk fj).mpr hkj) ((cr_gr fj fi).mpr (by have := Lt_slope hG hj hi (fun z => hne (by rw [z])); omega))
  · have hi : Up u tx ty x y i := by rw [h1, h2] at hi; exact hi
    simp only [tw_even, tw_odd]
    have zi : tx (2 * i + 1) - tx (2 * i) = 0 := by have := hi.2.2.1.1; omega
    rw [← dom_neg]
    simp only [Int.neg_sub, Int.neg_zero]
    have zi2 : tx (2 * i) - tx (2 * i + 1) = 0 := by omega
    try rw [zi2]
    exact D1_dn (by have := hk.2.2.1; omega) (by have := hi.2.2.1.2; omega) ((cr_gr fk fj).mpr hkj)
  · have hi : Dn u tx ty x y i := by rw [h1, h2] at hi; exact hi
    simp only [tw_even, tw_odd]
    have zi : tx (2 * i + 1) - tx (2 * i) = 0 := by have := hi.2.2.1.1; omega
    rw [← dom_neg]
    simp only [Int.neg_sub, Int.neg_zero]
    have zi2 : tx (2 * i) - tx (2 * i + 1) = 0 := by omega
    try rw [zi]
    exact D1_up (by have := hk.2.2.1; omega) (by have := hj.2.2.1; omega) (by have := hi.2.2.1.2; omega) ((cr_gr fk fj).mpr hkj)
theorem F_L2 {u : Nat → Bool} {tx ty : Nat → Int} {SFn : Nat → Int → Int → Nat} (hG : Geo u tx ty) (hSF : SFok u tx ty SFn) {x y : Int} {k j : Nat}  (hk : Lt u tx ty x y k) (hh : ∀ i, Lt u tx ty x y i → gr tx ty i ≤ gr tx ty k) (hj : Dn u tx ty x y j) : SFn (2 * k + 1) (tx (tw (2 * k + 1)) - tx (2 * k + 1)) (ty (tw (2 * k + 1)) - ty (2 * k + 1)) = 2 * j := by
  have Bj : Wn 100 (tx (2 * j)) ∧ Wn 100 (tx (2 * j + 1)) ∧ Wn 100 (ty (2 * j)) ∧ Wn 100 (ty (2 * j + 1)) := ⟨(hG.2.1 _ (by have := hj.1; omega)).1, (hG.2.1 _ (by have := hj.1; omega)).1, (hG.2.1 _ (by have := hj.1; omega)).2, (hG.2.1 _ (by have := hj.1; omega)).2⟩
  have hw : (2 * k + 1) < 40 ∧ u ((2 * k + 1) / 2) = true ∧ tx (2 * k + 1) = x ∧ ty (2 * k + 1) = y := ⟨by have := hk.1; omega, by rw [show (2 * k + 1) / 2 = k by omega]; exact hk.2.1, hk.2.2.2.1, hk.2.2.2.2⟩
  have Bw := hG.2.1 _ hw.1
  have Bt := hG.2.1 (tw (2 * k + 1)) (tw_lt hw.1)
  have fk := hG.flat hk.1 hk.2.2.1
  refine (hSF (2 * k + 1) (2 * j + 1) (tx (tw (2 * k + 1)) - tx (2 * k + 1)) (ty (tw (2 * k + 1)) - ty (2 * k + 1)) ⟨by have := Bt.1.1; have := Bw.1.2; omega, by have := Bt.1.2; have := Bw.1.1; omega⟩ ⟨by have := Bt.2.1; have := Bw.2.2; omega, by have := Bt.2.2; have := Bw.2.1; omega⟩ hw.1 hw.2.1 (by have := hj.1; omega) (by rw [show (2 * j + 1) / 2 = j by omega]; exact hj.2.1) ((hj.2.2.1.1.symm.trans hj.2.2.2.1).trans hw.2.2.1.symm) (hj.2.2.2.2.trans hw.2.2.2.symm) (fun c hc hu h1 h2 hne => ?_)).trans (tw_odd j)
  have h1 : tx c = x := h1.trans hw.2.2.1
  have h2 : ty c = y := h2.trans hw.2.2.2
  rcases arrow_kind hG hc hu with ⟨i, rfl, hi⟩ | ⟨i, rfl, hi⟩ | ⟨i, rfl, hi⟩ | ⟨i, rfl, hi⟩
  · have hi : Rt u tx ty x y i := by rw [h1, h2] at hi; exact hi
    have fi := hG.flat hi.1 hi.2.2.1
    simp only [tw_even, tw_odd]
    have zj : tx (2 * j + 1) - tx (2 * j) = 0 := by have := hj.2.2.1.1; omega
    rw [← dom_neg]
    simp only [Int.neg_sub, Int.neg_zero]
    have zj2 : tx (2 * j) - tx (2 * j + 1) = 0 := by omega
    try rw [zj]
    exact D2_lf (by have := hk.2.2.1; omega) (by have := hj.2.2.1.2; omega) (by have := hi.2.2.1; omega)
  · have hi : Lt u tx ty x y i := by rw [h1, h2] at hi; exact hi
    have fi := hG.flat hi.1 hi.2.2.1
    simp only [tw_even, tw_odd]
    have zj : tx (2 * j + 1) - tx (2 * j) = 0 := by have := hj.2.2.1.1; omega
    rw [← dom_neg]
    simp only [Int.neg_sub, Int.neg_zero]
    have zj2 : tx (2 * j) - tx (2 * j + 1) = 0 := by omega
    try rw [zj]
    exact D2_lo (by have := hk.2.2.1; omega) (by have := hj.2.2.1.2; omega) (by have := hi.2.2.1; omega) (cr_gr_le fk fi (hh i hi))
  · have hi : Up u tx ty x y i := by rw [h1, h2] at hi; exact hi
    simp only [tw_even, tw_odd]
    have zj : tx (2 * j + 1) - tx (2 * j) = 0 := by have := hj.2.2.1.1; omega
    have zi : tx (2 * i + 1) - tx (2 * i) = 0 := by have := hi.2.2.1.1; omega
    rw [← dom_neg]
    simp only [Int.neg_sub, Int.neg_zero]
    have zj2 : tx (2 * j) - tx (2 * j + 1) = 0 := by omega
    have zi2 : tx (2 * i) - tx (2 * i + 1) = 0 := by omega
    try rw [zj, zi2]
    exact D2_dn (by have := hk.2.2.1; omega) (by have := hj.2.2.1.2; omega) (by have := hi.2.2.1.2; omega)
  · have hi : Dn u tx ty x y i := by rw [h1, h2] at hi; exact hi
    exact absurd (by rw [Dn_one hG hi hj]) hne
theorem F_L3 {u : Nat → Bool} {tx ty : Nat → Int} {SFn : Nat → Int → Int → Nat} (hG : Geo u tx ty) (hSF : SFok u tx ty SFn) {x y : Int} {k j : Nat}  (hk : Lt u tx ty x y k) (hh : ∀ i, Lt u tx ty x y i → gr tx ty i ≤ gr tx ty k) (nD : ∀ i, ¬ Dn u tx ty x y i) (hj : Rt u tx ty x y j) (hm : ∀ i, Rt u tx ty x y i → gr tx ty j ≤ gr tx ty i) : SFn (2 * k + 1) (tx (tw (2 * k + 1)) - tx (2 * k + 1)) (ty (tw (2 * k + 1)) - ty (2 * k + 1)) = 2 * j + 1 := by
  have Bj : Wn 100 (tx (2 * j)) ∧ Wn 100 (tx (2 * j + 1)) ∧ Wn 100 (ty (2 * j)) ∧ Wn 100 (ty (2 * j + 1)) := ⟨(hG.2.1 _ (by have := hj.1; omega)).1, (hG.2.1 _ (by have := hj.1; omega)).1, (hG.2.1 _ (by have := hj.1; omega)).2, (hG.2.1 _ (by have := hj.1; omega)).2⟩
  have hw : (2 * k + 1) < 40 ∧ u ((2 * k + 1) / 2) = true ∧ tx (2 * k + 1) = x ∧ ty (2 * k + 1) = y := ⟨by have := hk.1; omega, by rw [show (2 * k + 1) / 2 = k by omega]; exact hk.2.1, hk.2.2.2.1, hk.2.2.2.2⟩
  have Bw := hG.2.1 _ hw.1
  have Bt := hG.2.1 (tw (2 * k + 1)) (tw_lt hw.1)
  have fk := hG.flat hk.1 hk.2.2.1
  have fj := hG.flat hj.1 hj.2.2.1
  refine (hSF (2 * k + 1) (2 * j) (tx (tw (2 * k + 1)) - tx (2 * k + 1)) (ty (tw (2 * k + 1)) - ty (2 * k + 1)) ⟨by have := Bt.1.1; have := Bw.1.2; omega, by have := Bt.1.2; have := Bw.1.1; omega⟩ ⟨by have := Bt.2.1; have := Bw.2.2; omega, by have := Bt.2.2; have := Bw.2.1; omega⟩ hw.1 hw.2.1 (by have := hj.1; omega) (by rw [show (2 * j) / 2 = j by omega]; exact hj.2.1) (hj.2.2.2.1.trans hw.2.2.1.symm) (hj.2.2.2.2.trans hw.2.2.2.symm) (fun c hc hu h1 h2 hne => ?_)).trans (tw_even j)
  have h1 : tx c = x := h1.trans hw.2.2.1
  have h2 : ty c = y := h2.trans hw.2.2.2
  rcases arrow_kind hG hc hu with ⟨i, rfl, hi⟩ | ⟨i, rfl, hi⟩ | ⟨i, rfl, hi⟩ | ⟨i, rfl, hi⟩
  · have hi : Rt u tx ty x y i := by rw [h1, h2] at hi; exact hi
    have fi := hG.flat hi.1 hi.2.2.1
    simp only [tw_even, tw_odd]
    rw [← dom_neg]
    simp only [Int.neg_sub, Int.neg_zero]
    exact D3_lf (by have := hk.2.2.1; omega) (by have := hj.2.2.1; omega) (by have := hi.2.2.1; omega) (by have := (cr_gr (ty := ty) fj fi).mpr (by have := hm i hi; have := Rt_slope hG hj hi (fun z => hne (by rw [z])); omega); rw [← cr_neg]; simpa only [Int.neg_sub] using this)
  · have hi : Lt u tx ty x y i := by rw [h1, h2] at hi; exact hi
    have fi := hG.flat hi.1 hi.2.2.1
    simp only [tw_even, tw_odd]
    rw [← dom_neg]
    simp only [Int.neg_sub, Int.neg_zero]
    exact D3_lo (by have := hk.2.2.1; omega) (by have := hj.2.2.1; omega) (by have := hi.2.2.1; omega) (cr_gr_le fk fi (hh i hi))
  · have hi : Up u tx ty x y i := by rw [h1, h2] at hi; exact hi
    simp only [tw_even, tw_odd]
    have zi : tx (2 * i + 1) - tx (2 * i) = 0 := by have := hi.2.2.1.1; omega
    rw [← dom_neg]
    simp only [Int.neg_sub, Int.neg_zero]
    have zi2 : tx (2 * i) - tx (2 * i + 1) = 0 := by omega
    try rw [zi2]
    exact D3_dn (by have := hk.2.2.1; omega) (by have := hj.2.2.1; omega) (by have := hi.2.2.1.2; omega)
  · have hi : Dn u tx ty x y i := by rw [h1, h2] at hi; exact hi
    exact absurd hi (nD i)
theorem F_L4 {u : Nat → Bool} {tx ty : Nat → Int} {SFn : Nat → Int → Int → Nat} (hG : Geo u tx ty) (hSF : SFok u tx ty SFn) {x y : Int} {k j : Nat}  (hk : Lt u tx ty x y k) (hh : ∀ i, Lt u tx ty x y i → gr tx ty i ≤ gr tx ty k) (nD : ∀ i, ¬ Dn u tx ty x y i) (nR : ∀ i, ¬ Rt u tx ty x y i) (hj : Up u tx ty x y j) : SFn (2 * k + 1) (tx (tw (2 * k + 1)) - tx (2 * k + 1)) (ty (tw (2 * k + 1)) - ty (2 * k + 1)) = 2 * j + 1 := by
  have Bj : Wn 100 (tx (2 * j)) ∧ Wn 100 (tx (2 * j + 1)) ∧ Wn 100 (ty (2 * j)) ∧ Wn 100 (ty (2 * j + 1)) := ⟨(hG.2.1 _ (by have := hj.1; omega)).1, (hG.2.1 _ (by have := hj.1; omega)).1, (hG.2.1 _ (by have := hj.1; omega)).2, (hG.2.1 _ (by have := hj.1; omega)).2⟩
  have hw : (2 * k + 1) < 40 ∧ u ((2 * k + 1) / 2) = true ∧ tx (2 * k + 1) = x ∧ ty (2 * k + 1) = y := ⟨by have := hk.1; omega, by rw [show (2 * k + 1) / 2 = k by omega]; exact hk.2.1, hk.2.2.2.1, hk.2.2.2.2⟩
  have Bw := hG.2.1 _ hw.1
  have Bt := hG.2.1 (tw (2 * k + 1)) (tw_lt hw.1)
  have fk := hG.flat hk.1 hk.2.2.1
  refine (hSF (2 * k + 1) (2 * j) (tx (tw (2 * k + 1)) - tx (2 * k + 1)) (ty (tw (2 * k + 1)) - ty (2 * k + 1)) ⟨by have := Bt.1.1; have := Bw.1.2; omega, by have := Bt.1.2; have := Bw.1.1; omega⟩ ⟨by have := Bt.2.1; have := Bw.2.2; omega, by have := Bt.2.2; have := Bw.2.1; omega⟩ hw.1 hw.2.1 (by have := hj.1; omega) (by rw [show (2 * j) / 2 = j by omega]; exact hj.2.1) (hj.2.2.2.1.trans hw.2.2.1.symm) (hj.2.2.2.2.trans hw.2.2.2.symm) (fun c hc hu h1 h2 hne => ?_)).trans (tw_even j)
  have h1 : tx c = x := h1.trans hw.2.2.1
  have h2 : ty c = y := h2.trans hw.2.2.2
  rcases arrow_kind hG hc hu with ⟨i, rfl, hi⟩ | ⟨i, rfl, hi⟩ | ⟨i, rfl, hi⟩ | ⟨i, rfl, hi⟩
  · have hi : Rt u tx ty x y i := by rw [h1, h2] at hi; exact hi
    have fi := hG.flat hi.1 hi.2.2.1
    exact absurd hi (nR i)
  · have hi : Lt u tx ty x y i := by rw [h1, h2] at hi; exact hi
    have fi := hG.flat hi.1 hi.2.2.1
    simp only [tw_even, tw_odd]
    have zj : tx (2 * j + 1) - tx (2 * j) = 0 := by have := hj.2.2.1.1; omega
    rw [← dom_neg]
    simp only [Int.neg_sub, Int.neg_zero]
    have zj2 : tx (2 * j) - tx (2 * j + 1) = 0 := by omega
    try rw [zj2]
    exact D4_lo (by have := hk.2.2.1; omega) (by have := hj.2.2.1.2; omega) (by have := hi.2.2.1; omega) (cr_gr_le fk fi (hh i hi))
  · have hi : Up u tx ty x y i := by rw [h1, h2] at hi; exact hi
    exact absurd (by rw [Up_one hG hi hj]) hne
  · have hi : Dn u tx ty x y i := by rw [h1, h2] at hi; exact hi
    exact absurd hi (nD i)
theorem F_L5 {u : Nat → Bool} {tx ty : Nat → Int} {SFn : Nat → Int → Int → Nat} (hG : Geo u tx ty) (hSF : SFok u tx ty SFn) {x y : Int} {k j : Nat}  (hk : Lt u tx ty x y k) (hh : ∀ i, Lt u tx ty x y i → gr tx ty i ≤ gr tx ty k) (nD : ∀ i, ¬ Dn u tx ty x y i) (nR : ∀ i, ¬ Rt u tx ty x y i) (nU : ∀ i, ¬ Up u tx ty x y i) (hj : Lt u tx ty x y j) (hm : ∀ i, Lt u tx ty x y i → gr tx ty j ≤ gr tx ty i) : SFn (2 * k + 1) (tx (tw (2 * k + 1)) - tx (2 * k + 1)) (ty (tw (2 * k + 1)) - ty (2 * k + 1)) = 2 * j := by
  have Bj : Wn 100 (tx (2 * j)) ∧ Wn 100 (tx (2 * j + 1)) ∧ Wn 100 (ty (2 * j)) ∧ Wn 100 (ty (2 * j + 1)) := ⟨(hG.2.1 _ (by have := hj.1; omega)).1, (hG.2.1 _ (by have := hj.1; omega)).1, (hG.2.1 _ (by have := hj.1; omega)).2, (hG.2.1 _ (by have := hj.1; omega)).2⟩
  have hw : (2 * k + 1) < 40 ∧ u ((2 * k + 1) / 2) = true ∧ tx (2 * k + 1) = x ∧ ty (2 * k + 1) = y := ⟨by have := hk.1; omega, by rw [show (2 * k + 1) / 2 = k by omega]; exact hk.2.1, hk.2.2.2.1, hk.2.2.2.2⟩
  have Bw := hG.2.1 _ hw.1
  have Bt := hG.2.1 (tw (2 * k + 1)) (tw_lt hw.1)
  have fk := hG.flat hk.1 hk.2.2.1
  have fj := hG.flat hj.1 hj.2.2.1
  refine (hSF (2 * k + 1) (2 * j + 1) (tx (tw (2 * k + 1)) - tx (2 * k + 1)) (ty (tw (2 * k + 1)) - ty (2 * k + 1)) ⟨by have := Bt.1.1; have := Bw.1.2; omega, by have := Bt.1.2; have := Bw.1.1; omega⟩ ⟨by have := Bt.2.1; have := Bw.2.2; omega, by have := Bt.2.2; have := Bw.2.1; omega⟩ hw.1 hw.2.1 (by have := hj.1; omega) (by rw [show (2 * j + 1) / 2 = j by omega]; exact hj.2.1) (hj.2.2.2.1.trans hw.2.2.1.symm) (hj.2.2.2.2.trans hw.2.2.2.symm) (fun c hc hu h1 h2 hne => ?_)).trans (tw_odd j)
  have h1 : tx c = x := h1.trans hw.2.2.1
  have h2 : ty c = y := h2.trans hw.2.2.2
  rcases arrow_kind hG hc hu with ⟨i, rfl, hi⟩ | ⟨i, rfl, hi⟩ | ⟨i, rfl, hi⟩ | ⟨i, rfl, hi⟩
  · have hi : Rt u tx ty x y i := by rw [h1, h2] at hi; exact hi
    have fi := hG.flat hi.1 hi.2.2.1
    exact absurd hi (nR i)
  · have hi : Lt u tx ty x y i := by rw [h1, h2] at hi; exact hi
    have fi := hG.flat hi.1 hi.2.2.1
    simp only [tw_even, tw_odd]
    rw [← dom_neg]
    simp only [Int.neg_sub, Int.neg_zero]
    by_cases hjk : j = k
    · exact absurd (by have := hh i hi; have := hm i hi; have e : i = j := Decidable.byContradiction (fun z => Lt_slope hG hi hj z (by rw [hjk] at *; omega)); rw [e]) hne
    · exact D5_lo (by have := hk.2.2.1; omega) (by have := hi.2.2.1; omega) (cr_gr_neg fk fj (by have := hh j hj; have := Lt_slope hG hj hk hjk; omega)) (cr_gr_le fk fi (hh i hi)) ((cr_gr fj fi).mpr (by have := hm i hi; have := Lt_slope hG hj hi (fun z => hne (by rw [z])); omega))
  · have hi : Up u tx ty x y i := by rw [h1, h2] at hi; exact hi
    exact absurd hi (nU i)
  · have hi : Dn u tx ty x y i := by rw [h1, h2] at hi; exact hi
    exact absurd hi (nD i)
theorem F_D1 {u : Nat → Bool} {tx ty : Nat → Int} {SFn : Nat → Int → Int → Nat} (hG : Geo u tx ty) (hSF : SFok u tx ty SFn) {x y : Int} {k j : Nat} {w : Nat} {dy : Int} (hw : w < 40 ∧ u (w / 2) = true ∧ tx w = x ∧ ty w = y) (hdy : dy < 0) (hdw : Wn 200 dy) (hj : Rt u tx ty x y j) (hm : ∀ i, Rt u tx ty x y i → gr tx ty j ≤ gr tx ty i) : SFn w 0 dy = 2 * j + 1 := by
  have Bj : Wn 100 (tx (2 * j)) ∧ Wn 100 (tx (2 * j + 1)) ∧ Wn 100 (ty (2 * j)) ∧ Wn 100 (ty (2 * j + 1)) := ⟨(hG.2.1 _ (by have := hj.1; omega)).1, (hG.2.1 _ (by have := hj.1; omega)).1, (hG.2.1 _ (by have := hj.1; omega)).2, (hG.2.1 _ (by have := hj.1; omega)).2⟩
  have fj := hG.flat hj.1 hj.2.2.1
  refine (hSF (w) (2 * j) 0 dy ⟨by decide, by decide⟩ hdw hw.1 hw.2.1 (by have := hj.1; omega) (by rw [show (2 * j) / 2 = j by omega]; exact hj.2.1) (hj.2.2.2.1.trans hw.2.2.1.symm) (hj.2.2.2.2.trans hw.2.2.2.symm) (fun c hc hu h1 h2 hne => ?_)).trans (tw_even j)
  have h1 : tx c = x := h1.trans hw.2.2.1
  have h2 : ty c = y := h2.trans hw.2.2.2
  rcases arrow_kind hG hc hu with ⟨i, rfl, hi⟩ | ⟨i, rfl, hi⟩ | ⟨i, rfl, hi⟩ | ⟨i, rfl, hi⟩
  · have hi : Rt u tx ty x y i := by rw [h1, h2] at hi; exact hi
    have fi := hG.flat hi.1 hi.2.2.1
    simp only [tw_even, tw_odd]
    rw [← dom_neg]
    simp only [Int.neg_sub, Int.neg_zero]
    exact U1_lf (by omega) (by have := hj.2.2.1; omega) (by have := hi.2.2.1; omega) (by have := (cr_gr (ty := ty) fj fi).mpr (by have := hm i hi; have := Rt_slope hG hj hi (fun z => hne (by rw [z])); omega); rw [← cr_neg]; simpa only [Int.neg_sub] using this)
  · have hi : Lt u tx ty x y i := by rw [h1, h2] at hi; exact hi
    have fi := hG.flat hi.1 hi.2.2.1
    simp only [tw_even, tw_odd]
    rw [← dom_neg]
    simp only [Int.neg_sub, Int.neg_zero]
    exact U1_rt (by omega) (by have := hj.2.2.1; omega) (by have := hi.2.2.1; omega)
  · have hi : Up u tx ty x y i := by rw [h1, h2] at hi; exact hi
    simp only [tw_even, tw_odd]
    have zi : tx (2 * i + 1) - tx (2 * i) = 0 := by have := hi.2.2.1.1; omega
    rw [← dom_neg]
    simp only [Int.neg_sub, Int.neg_zero]
    have zi2 : tx (2 * i) - tx (2 * i + 1) = 0 := by omega
    try rw [zi2]
    exact U1_dn (by omega) (by have := hj.2.2.1; omega) (by have := hi.2.2.1.2; omega)
  · have hi : Dn u tx ty x y i := by rw [h1, h2] at hi; exact hi
    simp only [tw_even, tw_odd]
    have zi : tx (2 * i + 1) - tx (2 * i) = 0 := by have := hi.2.2.1.1; omega
    rw [← dom_neg]
    simp only [Int.neg_sub, Int.neg_zero]
    have zi2 : tx (2 * i) - tx (2 * i + 1) = 0 := by omega
    try rw [zi]
    exact U1_up (by omega) (by have := hj.2.2.1; omega) (by have := hi.2.2.1.2; omega)
theorem F_D2 {u : Nat → Bool} {tx ty : Nat → Int} {SFn : Nat → Int → Int → Nat} (hG : Geo u tx ty) (hSF : SFok u tx ty SFn) {x y : Int} {k j : Nat} {w : Nat} {dy : Int} (hw : w < 40 ∧ u (w / 2) = true ∧ tx w = x ∧ ty w = y) (hdy : dy < 0) (hdw : Wn 200 dy) (nR : ∀ i, ¬ Rt u tx ty x y i) (hj : Up u tx ty x y j) : SFn w 0 dy = 2 * j + 1 := by
  have Bj : Wn 100 (tx (2 * j)) ∧ Wn 100 (tx (2 * j + 1)) ∧ Wn 100 (ty (2 * j)) ∧ Wn 100 (ty (2 * j + 1)) := ⟨(hG.2.1 _ (by have := hj.1; omega)).1, (hG.2.1 _ (by have := hj.1; omega)).1, (hG.2.1 _ (by have := hj.1; omega)).2, (hG.2.1 _ (by have := hj.1; omega)).2⟩
  refine (hSF (w) (2 * j) 0 dy ⟨by decide, by decide⟩ hdw hw.1 hw.2.1 (by have := hj.1; omega) (by rw [show (2 * j) / 2 = j by omega]; exact hj.2.1) (hj.2.2.2.1.trans hw.2.2.1.symm) (hj.2.2.2.2.trans hw.2.2.2.symm) (fun c hc hu h1 h2 hne => ?_)).trans (tw_even j)
  have h1 : tx c = x := h1.trans hw.2.2.1
  have h2 : ty c = y := h2.trans hw.2.2.2
  rcases arrow_kind hG hc hu with ⟨i, rfl, hi⟩ | ⟨i, rfl, hi⟩ | ⟨i, rfl, hi⟩ | ⟨i, rfl, hi⟩
  · have hi : Rt u tx ty x y i := by rw [h1, h2] at hi; exact hi
    have fi := hG.flat hi.1 hi.2.2.1
    exact absurd hi (nR i)
  · have hi : Lt u tx ty x y i := by rw [h1, h2] at hi; exact hi
    have fi := hG.flat hi.1 hi.2.2.1
    simp only [tw_even, tw_odd]
    have zj : tx (2 * j + 1) - tx (2 * j) = 0 := by have := hj.2.2.1.1; omega
    rw [← dom_neg]
    simp only [Int.neg_sub, Int.neg_zero]
    have zj2 : tx (2 * j) - tx (2 * j + 1) = 0 := by omega
    try rw [zj2]
    exact U2_rt (by omega) (by have := hj.2.2.1.2; omega) (by have := hi.2.2.1; omega)
  · have hi : Up u tx ty x y i := by rw [h1, h2] at hi; exact hi
    exact absurd (by rw [Up_one hG hi hj]) hne
  · have hi : Dn u tx ty x y i := by rw [h1, h2] at hi; exact hi
    simp only [tw_even, tw_odd]
    have zj : tx (2 * j + 1) - tx (2 * j) = 0 := by have := hj.2.2.1.1; omega
    have zi : tx (2 * i + 1) - tx (2 * i) = 0 := by have := hi.2.2.1.1; omega
    rw [← dom_neg]
    simp only [Int.neg_sub, Int.neg_zero]
    have zj2 : tx (2 * j) - tx (2 * j + 1) = 0 := by omega
    have zi2 : tx (2 * i) - tx (2 * i + 1) = 0 := by omega
    try rw [zj2, zi]
    exact U2_up (by omega) (by have := hj.2.2.1.2; omega) (by have := hi.2.2.1.2; omega)
theorem F_D3 {u : Nat → Bool} {tx ty : Nat → Int} {SFn : Nat → Int → Int → Nat} (hG : Geo u tx ty) (hSF : SFok u tx ty SFn) {x y : Int} {k j : Nat} {w : Nat} {dy : Int} (hw : w < 40 ∧ u (w / 2) = true ∧ tx w = x ∧ ty w = y) (hdy : dy < 0) (hdw : Wn 200 dy) (nR : ∀ i, ¬ Rt u tx ty x y i) (nU : ∀ i, ¬ Up u tx ty x y i) (hj : Lt u tx ty x y j) (hm : ∀ i, Lt u tx ty x y i → gr tx ty j ≤ gr tx ty i) : SFn w 0 dy = 2 * j := by
  have Bj : Wn 100 (tx (2 * j)) ∧ Wn 100 (tx (2 * j + 1)) ∧ Wn 100 (ty (2 * j)) ∧ Wn 100 (ty (2 * j + 1)) := ⟨(hG.2.1 _ (by have := hj.1; omega)).1, (hG.2.1 _ (by have := hj.1; omega)).1, (hG.2.1 _ (by have := hj.1; omega)).2, (hG.2.1 _ (by have := hj.1; omega)).2⟩
  have fj := hG.flat hj.1 hj.2.2.1
  refine (hSF (w) (2 * j + 1) 0 dy ⟨by decide, by decide⟩ hdw hw.1 hw.2.1 (by have := hj.1; omega) (by rw [show (2 * j + 1) / 2 = j by omega]; exact hj.2.1) (hj.2.2.2.1.trans hw.2.2.1.symm) (hj.2.2.2.2.trans hw.2.2.2.symm) (fun c hc hu h1 h2 hne => ?_)).trans (tw_odd j)
  have h1 : tx c = x := h1.trans hw.2.2.1
  have h2 : ty c = y := h2.trans hw.2.2.2
  rcases arrow_kind hG hc hu with ⟨i, rfl, hi⟩ | ⟨i, rfl, hi⟩ | ⟨i, rfl, hi⟩ | ⟨i, rfl, hi⟩
  · have hi : Rt u tx ty x y i := by rw [h1, h2] at hi; exact hi
    have fi := hG.flat hi.1 hi.2.2.1
    exact absurd hi (nR i)
  · have hi : Lt u tx ty x y i := by rw [h1, h2] at hi; exact hi
    have fi := hG.flat hi.1 hi.2.2.1
    simp only [tw_even, tw_odd]
    rw [← dom_neg]
    simp only [Int.neg_sub, Int.neg_zero]
    exact U3_rt (by omega) (by have := hj.2.2.1; omega) (by have := hi.2.2.1; omega) ((cr_gr fj fi).mpr (by have := hm i hi; have := Lt_slope hG hj hi (fun z => hne (by rw [z])); omega))
  · have hi : Up u tx ty x y i := by rw [h1, h2] at hi; exact hi
    exact absurd hi (nU i)
  · have hi : Dn u tx ty x y i := by rw [h1, h2] at hi; exact hi
    simp only [tw_even, tw_odd]
    have zi : tx (2 * i + 1) - tx (2 * i) = 0 := by have := hi.2.2.1.1; omega
    rw [← dom_neg]
    simp only [Int.neg_sub, Int.neg_zero]
    have zi2 : tx (2 * i) - tx (2 * i + 1) = 0 := by omega
    try rw [zi]
    exact U3_up (by omega) (by have := hj.2.2.1; omega) (by have := hi.2.2.1.2; omega)
theorem F_D4 {u : Nat → Bool} {tx ty : Nat → Int} {SFn : Nat → Int → Int → Nat} (hG : Geo u tx ty) (hSF : SFok u tx ty SFn) {x y : Int} {k j : Nat} {w : Nat} {dy : Int} (hw : w < 40 ∧ u (w / 2) = true ∧ tx w = x ∧ ty w = y) (hdy : dy < 0) (hdw : Wn 200 dy) (nR : ∀ i, ¬ Rt u tx ty x y i) (nU : ∀ i, ¬ Up u tx ty x y i) (nL : ∀ i, ¬ Lt u tx ty x y i) (hj : Dn u tx ty x y j) : SFn w 0 dy = 2 * j := by
  have Bj : Wn 100 (tx (2 * j)) ∧ Wn 100 (tx (2 * j + 1)) ∧ Wn 100 (ty (2 * j)) ∧ Wn 100 (ty (2 * j + 1)) := ⟨(hG.2.1 _ (by have := hj.1; omega)).1, (hG.2.1 _ (by have := hj.1; omega)).1, (hG.2.1 _ (by have := hj.1; omega)).2, (hG.2.1 _ (by have := hj.1; omega)).2⟩
  refine (hSF (w) (2 * j + 1) 0 dy ⟨by decide, by decide⟩ hdw hw.1 hw.2.1 (by have := hj.1; omega) (by rw [show (2 * j + 1) / 2 = j by omega]; exact hj.2.1) ((hj.2.2.1.1.symm.trans hj.2.2.2.1).trans hw.2.2.1.symm) (hj.2.2.2.2.trans hw.2.2.2.symm) (fun c hc hu h1 h2 hne => ?_)).trans (tw_odd j)
  have h1 : tx c = x := h1.trans hw.2.2.1
  have h2 : ty c = y := h2.trans hw.2.2.2
  rcases arrow_kind hG hc hu with ⟨i, rfl, hi⟩ | ⟨i, rfl, hi⟩ | ⟨i, rfl, hi⟩ | ⟨i, rfl, hi⟩
  · have hi : Rt u tx ty x y i := by rw [h1, h2] at hi; exact hi
    have fi := hG.flat hi.1 hi.2.2.1
    exact absurd hi (nR i)
  · have hi : Lt u tx ty x y i := by rw [h1, h2] at hi; exact hi
    have fi := hG.flat hi.1 hi.2.2.1
    exact absurd hi (nL i)
  · have hi : Up u tx ty x y i := by rw [h1, h2] at hi; exact hi
    exact absurd hi (nU i)
  · have hi : Dn u tx ty x y i := by rw [h1, h2] at hi; exact hi
    exact absurd (by rw [Dn_one hG hi hj]) hne
