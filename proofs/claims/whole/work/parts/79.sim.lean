/-! The relation, and what each call keeps -/
def Sm : AS → RS → Prop := fun (u, X, Y, L1, L2) (v, aX, aY, bX, bY, kn, lns, ln, ac, mn, sm) => u = v ∧ aX = eX X ∧ aY = eX Y ∧ bX = oX X ∧ bY = oX Y ∧ Bd X ∧ Bd Y ∧ Geo u (tI X) (tI Y) ∧ Nm 41 L1 (GF u X Y) ∧ Nm 20 L2 (GP u X Y) ∧ RPre kn lns ac mn sm ∧ (kn = true → Good u X Y lns ln ac mn sm)
section OB
variable {u : Nat → Bool} {X Y : Nat → Int32} {L1 L2 : Nat → Nat} {kn : Bool} {lns : Nat} {ln : Nat → Int32} {ac mn sm : Nat → Nat}
abbrev Lk0 (u : Nat → Bool) (X Y : Nat → Int32) (kn : Bool) (lns : Nat) (ln : Nat → Int32) (ac mn sm : Nat → Nat) : (Bool) × (Nat) × (Nat → Int32) × (Nat → Nat) × (Nat → Nat) × (Nat → Nat) := f_R_look u (eX X) (eX Y) (oX X) (oX Y) kn lns ln ac mn sm
theorem lnk_of (hX : Bd X) (hY : Bd Y) (hG : Geo u (tI X) (tI Y)) (hN : Nm 41 L1 (GF u X Y)) (hP : RPre kn lns ac mn sm) (hK : kn = true → Good u X Y lns ln ac mn sm) : Lnk u X Y L1 (Lk0 u X Y kn lns ln ac mn sm).2.1 (Lk0 u X Y kn lns ln ac mn sm).2.2.1 (Lk0 u X Y kn lns ln ac mn sm).2.2.2.1 (Lk0 u X Y kn lns ln ac mn sm).2.2.2.2.1 (Lk0 u X Y kn lns ln ac mn sm).2.2.2.2.2 := ⟨hG, hX, hY, look_good hG hX hY hP hK, look_inv _ _ _ _ _ _ _ _ _ _ _ hP, hN⟩
/-- looking about keeps the relation -/
theorem Sm_look (h : Sm (u, X, Y, L1, L2) (u, eX X, eX Y, oX X, oX Y, kn, lns, ln, ac, mn, sm)) : Sm (u, X, Y, L1, L2) (u, eX X, eX Y, oX X, oX Y, Lk0 u X Y kn lns ln ac mn sm) := by
  obtain ⟨_, _, _, _, _, hX, hY, hG, hN1, hN2, hP, hK⟩ := h
  exact ⟨rfl, rfl, rfl, rfl, rfl, hX, hY, hG, hN1, hN2, rpre_look _ _ _ _ _ _ _ _ _ _ _ hP, fun _ => look_good hG hX hY hP hK⟩
theorem GF_none {a b : Nat} (h : GF (fun _ => false) X Y a b) : a = b := h (fun a b => a = b) ⟨fun _ => rfl, fun _ _ q => q.symm, fun _ _ _ q r => q.trans r⟩ (fun _ _ hu => (by cases hu)) (fun _ _ hu => (by cases hu))
theorem GP_none {a b : Nat} (h : GP (fun _ => false) X Y a b) : a = b := h (fun a b => a = b) ⟨fun _ => rfl, fun _ _ q => q.symm, fun _ _ _ q r => q.trans r⟩ (fun _ _ hu => (by cases hu))
theorem ob_start : Ob_start Sm := by
  have w0 : Wn 100 (0 : Int32).toInt := ⟨by decide, by decide⟩
  have b0 : Bd (fun _ => (0 : Int32)) := fun a _ => w0
  refine ⟨rfl, rfl, rfl, rfl, rfl, b0, b0, ⟨fun k _ hu => (by cases hu), fun a ha => ⟨b0 a ha, b0 a ha⟩, fun k j _ _ hu => (by cases hu)⟩, ⟨(Gd_scatter (N := 41) _ (R := fun a b => a = b) ⟨fun _ => rfl, fun _ _ q => q.symm, fun _ _ _ q r => q.trans r⟩).1, fun p q hp hq => ?_⟩, ⟨(Gd_scatter (N := 20) _ (R := fun a b => a = b) ⟨fun _ => rfl, fun _ _ q => q.symm, fun _ _ _ q r => q.trans r⟩).1, fun p q hp hq => ?_⟩, ⟨fun _ => (show 0 < 20 by decide), fun _ => (show 0 ≤ 20 by decide), fun _ => (show 0 < 861 by decide), fun z => (by cases z)⟩, fun z => (by cases z)⟩
  · rw [scatter_at _ hp, scatter_at _ hq]
    exact ⟨fun e => by rw [e]; exact GR_eqv.1 _, GF_none⟩
  · rw [scatter_at _ hp, scatter_at _ hq]
    exact ⟨fun e => by rw [e]; exact GP_eqv.1 _, GP_none⟩
theorem ob_pre : Ob_pre Sm := by
  intro u X Y L1 L2 v aX aY bX bY kn lns ln ac mn sm h
  obtain ⟨rfl, rfl, rfl, rfl, rfl, hX, hY, hG, hN1, hN2, hP, hK⟩ := h
  have hl := lnk_of hX hY hG hN1 hP hK
  refine ⟨hP, fun x y n1 n2 hf => ?_, fun k hk hu => ?_⟩
  · exact (Fc_point hl n1 n2 ((free_I hG hX hY n1 n2).mp hf)).1
  · exact (Fc_sides hl hk hu).2.2
theorem ob_segments : Ob_segments Sm := by
  intro u X Y L1 L2 v aX aY bX bY kn lns ln ac mn sm h
  obtain ⟨rfl, rfl, rfl, rfl, rfl, _⟩ := h
  exact segments_eq
theorem ob_vertices : Ob_vertices Sm := by
  intro u X Y L1 L2 v aX aY bX bY kn lns ln ac mn sm h
  obtain ⟨rfl, rfl, rfl, rfl, rfl, hX, hY, hG, _⟩ := h
  exact vertices_eq hG.1
theorem ob_parts : Ob_parts Sm := by
  intro u X Y L1 L2 v aX aY bX bY kn lns ln ac mn sm h
  obtain ⟨rfl, rfl, rfl, rfl, rfl, hX, hY, hG, hN1, hN2, _⟩ := h
  exact parts_eq hG hX hY hN2
theorem ob_find : Ob_find Sm := by
  intro u X Y L1 L2 v aX aY bX bY kn lns ln ac mn sm h x y
  obtain ⟨rfl, rfl, rfl, rfl, rfl, hX, hY, hG, _⟩ := h
  exact find_eq hG hX hY x y
theorem ob_faces : Ob_faces Sm := by
  intro u X Y L1 L2 v aX aY bX bY kn lns ln ac mn sm h
  have h0 := h
  obtain ⟨rfl, rfl, rfl, rfl, rfl, hX, hY, hG, hN1, hN2, hP, hK⟩ := h
  have hl := lnk_of hX hY hG hN1 hP hK
  have e := faces_R (u := u) (aX := eX X) (aY := eX Y) (bX := oX X) (bY := oX Y) (kn := kn) (lns := lns) (ln := ln) (ac := ac) (mn := mn) (sm := sm) hl.2.2.2.2.1.2.2.1
  rw [e]
  exact ⟨(faces_A hN1.1).trans (faces_cnt hl), Sm_look h0⟩
/-- the answer at a free point -/
theorem at_free (hl : Lnk u X Y L1 (Lk0 u X Y kn lns ln ac mn sm).2.1 (Lk0 u X Y kn lns ln ac mn sm).2.2.1 (Lk0 u X Y kn lns ln ac mn sm).2.2.2.1 (Lk0 u X Y kn lns ln ac mn sm).2.2.2.2.1 (Lk0 u X Y kn lns ln ac mn sm).2.2.2.2.2) {x y : Int32} (n1 : f_R_near x = true) (n2 : f_R_near y = true) (hF : Free u (tI X) (tI Y) x.toInt y.toInt) : Fc u X Y (Lk0 u X Y kn lns ln ac mn sm).2.1 (Lk0 u X Y kn lns ln ac mn sm).2.2.1 (Lk0 u X Y kn lns ln ac mn sm).2.2.2.1 (Lk0 u X Y kn lns ln ac mn sm).2.2.2.2.1 (Lk0 u X Y kn lns ln ac mn sm).2.2.2.2.2 (sab u X Y x.toInt y.toInt) (f_R_faceAt u (eX X) (eX Y) (oX X) (oX Y) kn lns ln ac mn sm x y).1 := (Fc_point hl n1 n2 hF).2
theorem faceAt_2 (u : Nat → Bool) (aX aY bX bY : Nat → Int32) (kn : Bool) (lns : Nat) (ln : Nat → Int32) (ac mn sm : Nat → Nat) (x y : Int32) : (f_R_faceAt u aX aY bX bY kn lns ln ac mn sm x y).2 = f_R_look u aX aY bX bY kn lns ln ac mn sm := rfl
theorem side_nat {a : Nat} (h : a < 41) : ¬ nI a < 0 ∧ 0 ≤ nI a ∧ (nI a).toNatClampNeg = a := ⟨nI_pos (by omega), nI_pos' (by omega), nI_clamp (by omega)⟩
theorem same_no {aX aY bX bY : Nat → Int32} {x y z w : Int32} (h : ¬ ((f_R_near x = true ∧ f_R_near y = true ∧ f_R_isFree u aX aY bX bY x y = true) ∧ f_R_near z = true ∧ f_R_near w = true ∧ f_R_isFree u aX aY bX bY z w = true)) : f_R_same u aX aY bX bY kn lns ln ac mn sm x y z w = (false, kn, lns, ln, ac, mn, sm) := by
  unfold f_R_same
  by_cases c1 : f_R_near x = true
  · rw [if_pos c1]
    by_cases c2 : f_R_near y = true
    · rw [if_pos c2]
      by_cases c3 : f_R_near z = true
      · rw [if_pos c3]
        by_cases c4 : f_R_near w = true
        · rw [if_pos c4]
          by_cases c5 : f_R_isFree u aX aY bX bY x y = true
          · rw [if_pos c5]
            by_cases c6 : f_R_isFree u aX aY bX bY z w = true
            · exact absurd ⟨⟨c1, c2, c5⟩, c3, c4, c6⟩ h
            · rw [if_neg c6]
          · rw [if_neg c5]
        · rw [if_neg c4]
      · rw [if_neg c3]
    · rw [if_neg c2]
  · rw [if_neg c1]
theorem ob_same : Ob_same Sm := by
  intro u X Y L1 L2 v aX aY bX bY kn lns ln ac mn sm h x y z w
  have h0 := h
  obtain ⟨rfl, rfl, rfl, rfl, rfl, hX, hY, hG, hN1, hN2, hP, hK⟩ := h
  have hl := lnk_of hX hY hG hN1 hP hK
  rcases seen (L1 := L1) (L2 := L2) hG hX hY x y with ⟨a1, a2, a3, a4, a5, a6, a7⟩ | ⟨a1, a2, a3⟩
  · rcases seen (L1 := L1) (L2 := L2) hG hX hY z w with ⟨b1, b2, b3, b4, b5, b6, b7⟩ | ⟨b1, b2, b3⟩
    · have fx := at_free hl a1 a2 a4
      have fz := at_free hl b1 b2 b4
      have s1 := side_nat (sideAbove_lt u X Y x y)
      have s2 := side_nat (sideAbove_lt u X Y z w)
      rw [← a7] at fx
      rw [← b7] at fz
      have lk := Fc_link hl (sideAbove_lt u X Y x y) (sideAbove_lt u X Y z w) fx fz
      have l1 := Fc_lt hl.2.2.2.2.1 fx
      have l2 := Fc_lt hl.2.2.2.2.1 fz
      have fb : f_R_faceAt u (eX X) (eX Y) (oX X) (oX Y) (f_R_faceAt u (eX X) (eX Y) (oX X) (oX Y) kn lns ln ac mn sm x y).2.1 (f_R_faceAt u (eX X) (eX Y) (oX X) (oX Y) kn lns ln ac mn sm x y).2.2.1 (f_R_faceAt u (eX X) (eX Y) (oX X) (oX Y) kn lns ln ac mn sm x y).2.2.2.1 (f_R_faceAt u (eX X) (eX Y) (oX X) (oX Y) kn lns ln ac mn sm x y).2.2.2.2.1 (f_R_faceAt u (eX X) (eX Y) (oX X) (oX Y) kn lns ln ac mn sm x y).2.2.2.2.2.1 (f_R_faceAt u (eX X) (eX Y) (oX X) (oX Y) kn lns ln ac mn sm x y).2.2.2.2.2.2 z w = f_R_faceAt u (eX X) (eX Y) (oX X) (oX Y) kn lns ln ac mn sm z w := by
        have q := look_look u (eX X) (eX Y) (oX X) (oX Y) kn lns ln ac mn sm
        rw [faceAt_2]
        unfold f_R_faceAt
        rw [q]
      unfold f_R_same f_A_same
      rw [if_pos a1, if_pos a2, if_pos b1, if_pos b2, if_pos a3, if_pos b3, fb, a6, b6, if_neg s1.1, if_neg s2.1, s1.2.2, s2.2.2]
      have tg : f_G_together 41 L1 (f_M_sideAbove u X Y x y) (f_M_sideAbove u X Y z w) = true ↔ nI (f_R_faceAt u (eX X) (eX Y) (oX X) (oX Y) kn lns ln ac mn sm x y).1 = nI (f_R_faceAt u (eX X) (eX Y) (oX X) (oX Y) kn lns ln ac mn sm z w).1 := by
        rw [together_iff hN1.1 (by decide) (sideAbove_lt u X Y x y) (sideAbove_lt u X Y z w), lk, nI_eq (by omega) (by omega)]
      by_cases c : f_G_together 41 L1 (f_M_sideAbove u X Y x y) (f_M_sideAbove u X Y z w) = true
      · rw [if_pos c, if_pos (tg.mp c)]; exact ⟨rfl, Sm_look h0⟩
      · rw [if_neg c, if_neg (fun q => c (tg.mpr q))]; exact ⟨rfl, Sm_look h0⟩
    · rw [same_no (fun q => b1 q.2)]
      refine ⟨?_, h0⟩
      unfold f_A_same
      have s1 := side_nat (sideAbove_lt u X Y x y)
      rw [a6, if_neg s1.1, b2, if_pos b3]
  · rw [same_no (fun q => a1 q.1)]
    refine ⟨?_, h0⟩
    unfold f_A_same
    rw [a2, if_pos a3]
theorem neg_nle {r : Int32} (h : r < 0) : ¬ 0 ≤ r := by
  rw [Int32.lt_iff_toInt_lt] at h
  rw [Int32.le_iff_toInt_le]
  omega
theorem ob_touches : Ob_touches Sm := by
  intro u X Y L1 L2 v aX aY bX bY kn lns ln ac mn sm h x y k
  have h0 := h
  obtain ⟨rfl, rfl, rfl, rfl, rfl, hX, hY, hG, hN1, hN2, hP, hK⟩ := h
  have hl := lnk_of hX hY hG hN1 hP hK
  unfold f_A_touches f_R_touches
  rcases seen (L1 := L1) (L2 := L2) hG hX hY x y with ⟨a1, a2, a3, a4, a5, a6, a7⟩ | ⟨a1, a2, a3⟩
  · have fx := at_free hl a1 a2 a4
    rw [← a7] at fx
    have s1 := side_nat (sideAbove_lt u X Y x y)
    rw [a5, if_pos (show (0 : Int32) ≤ 0 by decide), a6, if_pos s1.2.1, s1.2.2]
    by_cases c : f_R_isSegment u (eX X) (eX Y) (oX X) (oX Y) k = true
    · have c' : f_M_has u X Y k = true := c
      obtain ⟨q1, q2, q3⟩ := seg_ok c
      rw [if_pos c, if_pos c']
      exact ⟨touches_core hl (sideAbove_lt u X Y x y) fx q2 q3, Sm_look h0⟩
    · have c' : ¬ f_M_has u X Y k = true := c
      rw [if_neg c, if_neg c']
      exact ⟨rfl, h0⟩
  · rw [if_neg (neg_nle a3), a2, if_neg (neg_nle a3)]
    exact ⟨rfl, h0⟩
theorem ob_border : Ob_border Sm := by
  intro u X Y L1 L2 v aX aY bX bY kn lns ln ac mn sm h x y
  have h0 := h
  obtain ⟨rfl, rfl, rfl, rfl, rfl, hX, hY, hG, hN1, hN2, hP, hK⟩ := h
  have hl := lnk_of hX hY hG hN1 hP hK
  unfold f_A_border f_R_border
  rcases seen (L1 := L1) (L2 := L2) hG hX hY x y with ⟨a1, a2, a3, a4, a5, a6, a7⟩ | ⟨a1, a2, a3⟩
  · have fx := at_free hl a1 a2 a4
    rw [← a7] at fx
    have s1 := side_nat (sideAbove_lt u X Y x y)
    rw [a5, if_pos (show (0 : Int32) ≤ 0 by decide), a6, if_pos s1.2.1, s1.2.2]
    have q := border_core (L2 := L2) hl (sideAbove_lt u X Y x y) fx (kn := (Lk0 u X Y kn lns ln ac mn sm).1) (x := x) (y := y) 20 0 0 rfl
    rw [faceAt_2]
    rw [q]
    exact ⟨rfl, Sm_look h0⟩
  · rw [if_neg (neg_nle a3), a2, if_neg (neg_nle a3)]
    exact ⟨rfl, h0⟩
theorem ob_area : Ob_area Sm := by
  intro u X Y L1 L2 v aX aY bX bY kn lns ln ac mn sm h x y
  have h0 := h
  obtain ⟨rfl, rfl, rfl, rfl, rfl, hX, hY, hG, hN1, hN2, hP, hK⟩ := h
  have hl := lnk_of hX hY hG hN1 hP hK
  unfold f_A_area f_R_area
  rcases seen (L1 := L1) (L2 := L2) hG hX hY x y with ⟨a1, a2, a3, a4, a5, a6, a7⟩ | ⟨a1, a2, a3⟩
  · have fx := at_free hl a1 a2 a4
    rw [← a7] at fx
    have s1 := side_nat (sideAbove_lt u X Y x y)
    rw [a5, if_pos (show (0 : Int32) ≤ 0 by decide), a6, if_pos s1.2.1, s1.2.2, faceAt_2]
    have l1 := Fc_lt hl.2.2.2.2.1 fx
    have ff := Fc_far hl
    have l2 := Fc_lt hl.2.2.2.2.1 ff
    have tg : f_G_together 41 L1 (f_M_sideAbove u X Y x y) 40 = true ↔ nI (f_R_faceAt u (eX X) (eX Y) (oX X) (oX Y) kn lns ln ac mn sm x y).1 = nI (f_R_face (f_R_look u (eX X) (eX Y) (oX X) (oX Y) kn lns ln ac mn sm).2.2.2.2.2 0) := by
      rw [together_iff hN1.1 (by decide) (sideAbove_lt u X Y x y) (by decide), Fc_link hl (sideAbove_lt u X Y x y) (by decide) fx ff, nI_eq (by omega) (Nat.lt_of_lt_of_le l2 (by decide))]
    by_cases c : f_G_together 41 L1 (f_M_sideAbove u X Y x y) 40 = true
    · rw [if_pos c, if_pos (tg.mp c)]
      exact ⟨rfl, Sm_look h0⟩
    · rw [if_neg c, if_neg (fun q => c (tg.mpr q))]
      have q := area_core (L2 := L2) hl (sideAbove_lt u X Y x y) fx (kn := (Lk0 u X Y kn lns ln ac mn sm).1) (x := x) (y := y)
      refine ⟨q.1, ?_⟩
      have q2 := q.2
      show Sm (u, X, Y, L1, L2) (u, eX X, eX Y, oX X, oX Y, (fl_R_area_1 u (eX X) (eX Y) (oX X) (oX Y) 20 0 (f_R_faceAt u (eX X) (eX Y) (oX X) (oX Y) kn lns ln ac mn sm x y).1 0 (Lk0 u X Y kn lns ln ac mn sm).1 (Lk0 u X Y kn lns ln ac mn sm).2.1 (Lk0 u X Y kn lns ln ac mn sm).2.2.1 (Lk0 u X Y kn lns ln ac mn sm).2.2.2.1 (Lk0 u X Y kn lns ln ac mn sm).2.2.2.2.1 (Lk0 u X Y kn lns ln ac mn sm).2.2.2.2.2).2)
      rw [q2]
      exact Sm_look h0
  · rw [if_neg (neg_nle a3), a2, if_neg (neg_nle a3)]
    exact ⟨rfl, h0⟩
theorem ob_remove : Ob_remove Sm := by
  intro u X Y L1 L2 v aX aY bX bY kn lns ln ac mn sm h k
  have h0 := h
  obtain ⟨rfl, rfl, rfl, rfl, rfl, hX, hY, hG, hN1, hN2, hP, hK⟩ := h
  unfold f_A_remove f_R_remove
  by_cases c : f_R_isSegment u (eX X) (eX Y) (oX X) (oX Y) k = true
  · have c' : f_M_has u X Y k = true := c
    rw [if_pos c, if_pos c']
    have sub : ∀ j, updB u k.toNatClampNeg false j = true → u j = true := fun j hj => by
      unfold updB at hj
      by_cases z : j = k.toNatClampNeg
      · rw [if_pos z] at hj; cases hj
      · rw [if_neg z] at hj; exact hj
    have rg := regroup_ok (u := updB u k.toNatClampNeg false) hX hY L1 L2
    exact ⟨rfl, rfl, rfl, rfl, rfl, rfl, hX, hY, ⟨fun j hj hu => hG.1 j hj (sub j hu), hG.2.1, fun i j hi hj ui uj => hG.2.2 i j hi hj (sub i ui) (sub j uj)⟩, rg.1, rg.2, ⟨hP.1, hP.2.1, hP.2.2.1, fun z => (by cases z)⟩, fun z => (by cases z)⟩
  · have c' : ¬ f_M_has u X Y k = true := c
    rw [if_neg c, if_neg c']
    exact ⟨rfl, h0⟩
end OB
