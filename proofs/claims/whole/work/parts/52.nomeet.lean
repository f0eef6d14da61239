/-! What segments that don't meet keep to -/
theorem Hh_gap (tx ty : Nat → Int) (k j : Nat) (x z : Int) : Hh tx ty j z - Hh tx ty k z = Hh tx ty j x - Hh tx ty k x + (gr tx ty j - gr tx ty k) * (z - x) := by
  rw [Hh_diff tx ty j x z, Hh_diff tx ty k x z]; grind
/-- they don't cross -/
theorem G2 {tx ty : Nat → Int} {k j : Nat} (hk : flat tx k) (hj : flat tx j) (hm : ¬ meetI tx ty k j) {x0 x1 : Int} (hx : x0 < x1) (k0 : tx (2 * k) ≤ x0) (j0 : tx (2 * j) ≤ x0) (k1 : x1 ≤ tx (2 * k + 1)) (j1 : x1 ≤ tx (2 * j + 1)) (h0 : Hh tx ty k x0 < Hh tx ty j x0) : Hh tx ty k x1 ≤ Hh tx ty j x1 := by
  apply Int.not_lt.mp
  intro h1
  have e := Hh_gap tx ty k j x0 x1
  have hD : 0 < (x1 - x0) * (gr tx ty k - gr tx ty j) := by
    have : (gr tx ty j - gr tx ty k) * (x1 - x0) = -((x1 - x0) * (gr tx ty k - gr tx ty j)) := by grind
    omega
  have hD := (mp_pos (by omega)).mp hD
  have up : ∀ z, z ≤ x0 → 0 < Hh tx ty j z - Hh tx ty k z := by
    intro z hz
    have e2 := Hh_gap tx ty k j x0 z
    have := Int.mul_nonneg (show 0 ≤ gr tx ty k - gr tx ty j by omega) (show 0 ≤ x0 - z by omega)
    have e3 : (gr tx ty j - gr tx ty k) * (z - x0) = (gr tx ty k - gr tx ty j) * (x0 - z) := by grind
    omega
  have dn : ∀ z, x1 ≤ z → Hh tx ty j z - Hh tx ty k z < 0 := by
    intro z hz
    have e2 := Hh_gap tx ty k j x1 z
    have := Int.mul_nonneg (show 0 ≤ gr tx ty k - gr tx ty j by omega) (show 0 ≤ z - x1 by omega)
    have e3 : (gr tx ty j - gr tx ty k) * (z - x1) = -((gr tx ty k - gr tx ty j) * (z - x1)) := by grind
    omega
  refine hm (Or.inr (Or.inr (Or.inr ⟨Or.inr ⟨?_, ?_⟩, Or.inl ⟨?_, ?_⟩⟩)))
  · rw [lf_pos hk]; have := up _ j0; rw [Hh_left] at this; omega
  · rw [lf_neg hk]; have := dn _ j1; rw [Hh_right hj] at this; omega
  · rw [lf_neg hj]; have := up _ k0; rw [Hh_left] at this; omega
  · rw [lf_pos hj]; have := dn _ k1; rw [Hh_right hk] at this; omega
/-- where they touch, the one ends -/
theorem G1a {tx ty : Nat → Int} {k j : Nat} (hk : flat tx k) (hj : flat tx j) (hm : ¬ meetI tx ty k j) {x : Int} (k0 : tx (2 * k) ≤ x) (j0 : tx (2 * j) ≤ x) (k1 : x ≤ tx (2 * k + 1)) (j1 : x ≤ tx (2 * j + 1)) (he : Hh tx ty k x = Hh tx ty j x) : x = tx (2 * k) ∨ x = tx (2 * k + 1) := by
  apply Decidable.byContradiction
  intro hn
  have a1 : tx (2 * k) < x := by omega
  have a2 : x < tx (2 * k + 1) := by omega
  by_cases b1 : x = tx (2 * j)
  · have hl : lf tx ty k (tx (2 * j)) (ty (2 * j)) = 0 := by rw [lf_zero hk, ← Hh_left tx ty j, ← b1]; exact he
    exact hm (Or.inr (Or.inl (Or.inl ⟨hl, (ins_flat hk hl).mpr ⟨by omega, by omega⟩⟩)))
  by_cases b2 : x = tx (2 * j + 1)
  · have hl : lf tx ty k (tx (2 * j + 1)) (ty (2 * j + 1)) = 0 := by rw [lf_zero hk, ← Hh_right hj, ← b2]; exact he
    exact hm (Or.inr (Or.inl (Or.inr ⟨hl, (ins_flat hk hl).mpr ⟨by omega, by omega⟩⟩)))
  have gap : ∀ z, Hh tx ty j z - Hh tx ty k z = (gr tx ty j - gr tx ty k) * (z - x) := by
    intro z; have := Hh_gap tx ty k j x z; omega
  rcases Int.lt_trichotomy (gr tx ty j - gr tx ty k) 0 with hg | hg | hg
  · have lo : ∀ z, z < x → 0 < Hh tx ty j z - Hh tx ty k z := fun z hz => by
      rw [gap]; exact Int.mul_pos_of_neg_of_neg hg (by omega)
    have hi : ∀ z, x < z → Hh tx ty j z - Hh tx ty k z < 0 := fun z hz => by
      rw [gap]; exact Int.mul_neg_of_neg_of_pos hg (by omega)
    refine hm (Or.inr (Or.inr (Or.inr ⟨Or.inr ⟨?_, ?_⟩, Or.inl ⟨?_, ?_⟩⟩)))
    · rw [lf_pos hk]; have := lo (tx (2 * j)) (by omega); rw [Hh_left] at this; omega
    · rw [lf_neg hk]; have := hi (tx (2 * j + 1)) (by omega); rw [Hh_right hj] at this; omega
    · rw [lf_neg hj]; have := lo (tx (2 * k)) (by omega); rw [Hh_left] at this; omega
    · rw [lf_pos hj]; have := hi (tx (2 * k + 1)) (by omega); rw [Hh_right hk] at this; omega
  · have same : ∀ z, Hh tx ty j z = Hh tx ty k z := fun z => by have := gap z; rw [hg, Int.zero_mul] at this; omega
    have lAj : lf tx ty k (tx (2 * j)) (ty (2 * j)) = 0 := by rw [lf_zero hk, ← Hh_left tx ty j, same]
    have lBj : lf tx ty k (tx (2 * j + 1)) (ty (2 * j + 1)) = 0 := by rw [lf_zero hk, ← Hh_right hj, same]
    have lAk : lf tx ty j (tx (2 * k)) (ty (2 * k)) = 0 := by rw [lf_zero hj, ← Hh_left tx ty k, same]
    have lBk : lf tx ty j (tx (2 * k + 1)) (ty (2 * k + 1)) = 0 := by rw [lf_zero hj, ← Hh_right hk, same]
    by_cases c1 : tx (2 * k) < tx (2 * j)
    · exact hm (Or.inr (Or.inl (Or.inl ⟨lAj, (ins_flat hk lAj).mpr ⟨by omega, by omega⟩⟩)))
    by_cases c2 : tx (2 * j) < tx (2 * k)
    · exact hm (Or.inr (Or.inr (Or.inl (Or.inl ⟨lAk, (ins_flat hj lAk).mpr ⟨by omega, by omega⟩⟩))))
    by_cases c3 : tx (2 * j + 1) < tx (2 * k + 1)
    · exact hm (Or.inr (Or.inl (Or.inr ⟨lBj, (ins_flat hk lBj).mpr ⟨by omega, by omega⟩⟩)))
    by_cases c4 : tx (2 * k + 1) < tx (2 * j + 1)
    · exact hm (Or.inr (Or.inr (Or.inl (Or.inr ⟨lBk, (ins_flat hj lBk).mpr ⟨by omega, by omega⟩⟩))))
    have d1 : tx (2 * k) = tx (2 * j) := by omega
    have d2 : tx (2 * k + 1) = tx (2 * j + 1) := by omega
    refine hm (Or.inl ⟨d1, ?_, d2, ?_⟩)
    · have := same (tx (2 * j)); rw [Hh_left, ← d1, Hh_left] at this; exact (Qf_inj this).symm
    · have := same (tx (2 * j + 1)); rw [Hh_right hj, ← d2, Hh_right hk] at this; exact (Qf_inj this).symm
  · have lo : ∀ z, z < x → Hh tx ty j z - Hh tx ty k z < 0 := fun z hz => by
      rw [gap]; exact Int.mul_neg_of_pos_of_neg hg (by omega)
    have hi : ∀ z, x < z → 0 < Hh tx ty j z - Hh tx ty k z := fun z hz => by
      rw [gap]; exact Int.mul_pos hg (by omega)
    refine hm (Or.inr (Or.inr (Or.inr ⟨Or.inl ⟨?_, ?_⟩, Or.inr ⟨?_, ?_⟩⟩)))
    · rw [lf_neg hk]; have := lo (tx (2 * j)) (by omega); rw [Hh_left] at this; omega
    · rw [lf_pos hk]; have := hi (tx (2 * j + 1)) (by omega); rw [Hh_right hj] at this; omega
    · rw [lf_pos hj]; have := lo (tx (2 * k)) (by omega); rw [Hh_left] at this; omega
    · rw [lf_neg hj]; have := hi (tx (2 * k + 1)) (by omega); rw [Hh_right hk] at this; omega
theorem G1 {tx ty : Nat → Int} {k j : Nat} (hk : flat tx k) (hj : flat tx j) (hm : ¬ meetI tx ty k j) {x : Int} (k0 : tx (2 * k) ≤ x) (j0 : tx (2 * j) ≤ x) (k1 : x ≤ tx (2 * k + 1)) (j1 : x ≤ tx (2 * j + 1)) (he : Hh tx ty k x = Hh tx ty j x) : (x = tx (2 * k) ∨ x = tx (2 * k + 1)) ∧ (x = tx (2 * j) ∨ x = tx (2 * j + 1)) :=
  ⟨G1a hk hj hm k0 j0 k1 j1 he, G1a hj hk (fun h => hm (meetI_symm h)) j0 k0 j1 k1 he.symm⟩
/-- they don't touch twice -/
theorem G3 {tx ty : Nat → Int} {k j : Nat} (hk : flat tx k) (hj : flat tx j) (hm : ¬ meetI tx ty k j) {x0 x1 : Int} (hx : x0 < x1) (k0 : tx (2 * k) ≤ x0) (j0 : tx (2 * j) ≤ x0) (k1 : x1 ≤ tx (2 * k + 1)) (j1 : x1 ≤ tx (2 * j + 1)) (e0 : Hh tx ty k x0 = Hh tx ty j x0) : Hh tx ty k x1 ≠ Hh tx ty j x1 := by
  intro e1
  obtain ⟨a, b⟩ := G1 hk hj hm k0 j0 (by omega) (by omega) e0
  obtain ⟨c, d⟩ := G1 hk hj hm (by omega) (by omega) k1 j1 e1
  have a' : x0 = tx (2 * k) := by omega
  have b' : x0 = tx (2 * j) := by omega
  have c' : x1 = tx (2 * k + 1) := by omega
  have d' : x1 = tx (2 * j + 1) := by omega
  refine hm (Or.inl ⟨by omega, ?_, by omega, ?_⟩)
  · have q1 := Hh_left tx ty k
    have q2 := Hh_left tx ty j
    rw [← a'] at q1; rw [← b'] at q2
    exact Qf_inj (by omega)
  · have q1 := Hh_right (ty := ty) hk
    have q2 := Hh_right (ty := ty) hj
    rw [← c'] at q1; rw [← d'] at q2
    exact Qf_inj (by omega)
/-- an upright one and a flat one -/
theorem G4 {tx ty : Nat → Int} {e k : Nat} (he : tx (2 * e) = tx (2 * e + 1)) (he2 : ty (2 * e) < ty (2 * e + 1)) (hk : flat tx k) (hm : ¬ meetI tx ty k e) (k0 : tx (2 * k) ≤ tx (2 * e)) (k1 : tx (2 * e) ≤ tx (2 * k + 1)) (h0 : Qf * ty (2 * e) ≤ Hh tx ty k (tx (2 * e))) (h1 : Hh tx ty k (tx (2 * e)) ≤ Qf * ty (2 * e + 1)) : (Hh tx ty k (tx (2 * e)) = Qf * ty (2 * e) ∨ Hh tx ty k (tx (2 * e)) = Qf * ty (2 * e + 1)) ∧ (tx (2 * e) = tx (2 * k) ∨ tx (2 * e) = tx (2 * k + 1)) := by
  have Q := Qf_pos
  by_cases c1 : tx (2 * e) = tx (2 * k)
  · have q := Hh_left tx ty k
    rw [← c1] at q
    rw [q] at h0 h1 ⊢
    have a1 := Qf_le.mp h0
    have a2 := Qf_le.mp h1
    refine ⟨?_, Or.inl c1⟩
    apply Decidable.byContradiction
    intro hn
    have n1 : ty (2 * k) ≠ ty (2 * e) := fun h => hn (Or.inl (by rw [h]))
    have n2 : ty (2 * k) ≠ ty (2 * e + 1) := fun h => hn (Or.inr (by rw [h]))
    exact hm (Or.inr (Or.inr (Or.inl (Or.inl ((ins_up he he2 _ _).mpr ⟨c1.symm, by omega, by omega⟩)))))
  by_cases c2 : tx (2 * e) = tx (2 * k + 1)
  · have q := Hh_right (ty := ty) hk
    rw [← c2] at q
    rw [q] at h0 h1 ⊢
    have a1 := Qf_le.mp h0
    have a2 := Qf_le.mp h1
    refine ⟨?_, Or.inr c2⟩
    apply Decidable.byContradiction
    intro hn
    have n1 : ty (2 * k + 1) ≠ ty (2 * e) := fun h => hn (Or.inl (by rw [h]))
    have n2 : ty (2 * k + 1) ≠ ty (2 * e + 1) := fun h => hn (Or.inr (by rw [h]))
    exact hm (Or.inr (Or.inr (Or.inl (Or.inr ((ins_up he he2 _ _).mpr ⟨c2.symm, by omega, by omega⟩)))))
  exfalso
  by_cases d1 : Hh tx ty k (tx (2 * e)) = Qf * ty (2 * e)
  · have hl := (lf_zero hk (tx (2 * e)) (ty (2 * e))).mpr d1
    exact hm (Or.inr (Or.inl (Or.inl ⟨hl, (ins_flat hk hl).mpr ⟨by omega, by omega⟩⟩)))
  by_cases d2 : Hh tx ty k (tx (2 * e)) = Qf * ty (2 * e + 1)
  · have hl := (lf_zero hk (tx (2 * e + 1)) (ty (2 * e + 1))).mpr (by rw [← he]; exact d2)
    exact hm (Or.inr (Or.inl (Or.inr ⟨hl, (ins_flat hk hl).mpr ⟨by omega, by omega⟩⟩)))
  have le : ∀ x y, lf tx ty e x y = -((ty (2 * e + 1) - ty (2 * e)) * (x - tx (2 * e))) := fun x y => by unfold lf; rw [← he]; grind
  refine hm (Or.inr (Or.inr (Or.inr ⟨Or.inl ⟨?_, ?_⟩, Or.inr ⟨?_, ?_⟩⟩)))
  · rw [lf_neg hk]; omega
  · rw [lf_pos hk, ← he]; omega
  · rw [le]; have := Int.mul_neg_of_pos_of_neg (show 0 < ty (2 * e + 1) - ty (2 * e) by omega) (show tx (2 * k) - tx (2 * e) < 0 by omega); omega
  · rw [le]; have := Int.mul_pos (show 0 < ty (2 * e + 1) - ty (2 * e) by omega) (show 0 < tx (2 * k + 1) - tx (2 * e) by omega); omega
/-- two upright ones over one x -/
theorem G5 {tx ty : Nat → Int} {e f : Nat} (he : tx (2 * e) = tx (2 * e + 1)) (he2 : ty (2 * e) < ty (2 * e + 1)) (hf : tx (2 * f) = tx (2 * f + 1)) (hf2 : ty (2 * f) < ty (2 * f + 1)) (hm : ¬ meetI tx ty e f) (hx : tx (2 * e) = tx (2 * f)) : ty (2 * e + 1) ≤ ty (2 * f) ∨ ty (2 * f + 1) ≤ ty (2 * e) := by
  apply Decidable.byContradiction
  intro hn
  by_cases c1 : ty (2 * e) < ty (2 * f)
  · exact hm (Or.inr (Or.inl (Or.inl ((ins_up he he2 _ _).mpr ⟨hx.symm, c1, by omega⟩))))
  by_cases c2 : ty (2 * f) < ty (2 * e)
  · exact hm (Or.inr (Or.inr (Or.inl (Or.inl ((ins_up hf hf2 _ _).mpr ⟨hx, c2, by omega⟩)))))
  by_cases c3 : ty (2 * f + 1) < ty (2 * e + 1)
  · exact hm (Or.inr (Or.inl (Or.inr ((ins_up he he2 _ _).mpr ⟨by omega, by omega, c3⟩))))
  by_cases c4 : ty (2 * e + 1) < ty (2 * f + 1)
  · exact hm (Or.inr (Or.inr (Or.inl (Or.inr ((ins_up hf hf2 _ _).mpr ⟨by omega, by omega, c4⟩)))))
  exact hm (Or.inl ⟨hx, by omega, by omega, by omega⟩)
