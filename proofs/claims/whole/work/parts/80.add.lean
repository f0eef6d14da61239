/-! Adding -/
section ADD
variable {u : Nat → Bool} {X Y X' Y' : Nat → Int32} {L1 L2 : Nat → Nat} {kn : Bool} {lns : Nat} {ln : Nat → Int32} {ac mn sm : Nat → Nat}
/-- both find the same least unused number -/
theorem lu_same (u : Nat → Bool) (X Y : Nat → Int32) : ∀ n k, n + k = 20 → (fl_R_add_1 u n k = 20 ∧ fl_M_leastUnusedNumber u X Y n k = -1) ∨ (fl_R_add_1 u n k < 20 ∧ u (fl_R_add_1 u n k) = false ∧ fl_M_leastUnusedNumber u X Y n k = nI (fl_R_add_1 u n k)) := by
  intro n
  induction n with
  | zero => intro k h; left; exact ⟨(by show k = 20; omega), rfl⟩
  | succ n ih =>
    intro k h
    by_cases c : u k = true
    · have e1 : fl_R_add_1 u (n + 1) k = fl_R_add_1 u n (k + 1) := if_pos c
      have e2 : fl_M_leastUnusedNumber u X Y (n + 1) k = fl_M_leastUnusedNumber u X Y n (k + 1) := if_pos c
      rw [e1, e2]
      exact ih (k + 1) (by omega)
    · have e1 : fl_R_add_1 u (n + 1) k = k := if_neg c
      have e2 : fl_M_leastUnusedNumber u X Y (n + 1) k = nI k := if_neg c
      rw [e1, e2]
      exact Or.inr ⟨(by omega), (by cases q : u k with | false => rfl | true => exact absurd q c), rfl⟩
/-- both find the same least meeting number -/
theorem lm_same (hX : Bd X) (hY : Bd Y) {k : Nat} (hk : k < 20) (pk : prp (tI X) (tI Y) k) (pj : ∀ j, j < 20 → u j = true → prp (tI X) (tI Y) j) (kn : Bool) : ∀ n j, n + j = 20 →
    (fl_M_leastMeeting u X Y k n j = -1 ∧ fl_R_add_2 u kn n j k (eX X) (eX Y) (oX X) (oX Y) = (nI k, updB u k true, eX X, eX Y, oX X, oX Y, false) ∧ ∀ i, j ≤ i → i < 20 → u i = true → ¬ meetI (tI X) (tI Y) k i) ∨ (∃ i, i < 20 ∧ fl_M_leastMeeting u X Y k n j = nI i ∧ fl_R_add_2 u kn n j k (eX X) (eX Y) (oX X) (oX Y) = ((-10) - nI i, u, eX X, eX Y, oX X, oX Y, kn)) := by
  intro n
  induction n with
  | zero => intro j h; left; exact ⟨rfl, rfl, fun i h1 h2 => absurd h1 (by omega)⟩
  | succ n ih =>
    intro j h
    have step : ¬ (u j = true ∧ meetI (tI X) (tI Y) k j) → fl_M_leastMeeting u X Y k (n + 1) j = fl_M_leastMeeting u X Y k n (j + 1) ∧ fl_R_add_2 u kn (n + 1) j k (eX X) (eX Y) (oX X) (oX Y) = fl_R_add_2 u kn n (j + 1) k (eX X) (eX Y) (oX X) (oX Y) := by
      intro q
      have e1 : fl_M_leastMeeting u X Y k (n + 1) j = if u j = true then (if f_M_meet u X Y j k = true then nI j else fl_M_leastMeeting u X Y k n (j + 1)) else fl_M_leastMeeting u X Y k n (j + 1) := rfl
      have e2 : fl_R_add_2 u kn (n + 1) j k (eX X) (eX Y) (oX X) (oX Y) = if u j = true then (if f_R_meet u (eX X) (eX Y) (oX X) (oX Y) k j = true then ((-10) - nI j, u, eX X, eX Y, oX X, oX Y, kn) else fl_R_add_2 u kn n (j + 1) k (eX X) (eX Y) (oX X) (oX Y)) else fl_R_add_2 u kn n (j + 1) k (eX X) (eX Y) (oX X) (oX Y) := rfl
      by_cases c : u j = true
      · have m1 : ¬ f_M_meet u X Y j k = true := fun z => q ⟨c, meetI_symm ((meet_class hX hY (by omega) hk).mp z)⟩
        have m2 : ¬ f_R_meet u (eX X) (eX Y) (oX X) (oX Y) k j = true := fun z => q ⟨c, (meet_ref hX hY hk (by omega) pk (pj j (by omega) c)).mp z⟩
        rw [e1, e2, if_pos c, if_pos c, if_neg m1, if_neg m2]
        exact ⟨rfl, rfl⟩
      · rw [e1, e2, if_neg c, if_neg c]
        exact ⟨rfl, rfl⟩
    by_cases q : u j = true ∧ meetI (tI X) (tI Y) k j
    · right
      have m1 : f_M_meet u X Y j k = true := (meet_class hX hY (by omega) hk).mpr (meetI_symm q.2)
      have m2 : f_R_meet u (eX X) (eX Y) (oX X) (oX Y) k j = true := (meet_ref hX hY hk (by omega) pk (pj j (by omega) q.1)).mpr q.2
      refine ⟨j, by omega, ?_, ?_⟩
      · exact (if_pos q.1).trans (if_pos m1)
      · exact (if_pos q.1).trans (if_pos m2)
    · obtain ⟨s1, s2⟩ := step q
      rw [s1, s2]
      rcases ih (j + 1) (by omega) with ⟨a, b, c⟩ | r
      · refine Or.inl ⟨a, b, fun i h1 h2 h3 h4 => ?_⟩
        by_cases z : i = j
        · rw [z] at h3 h4; exact q ⟨h3, h4⟩
        · exact c i (by omega) h2 h3 h4
      · exact Or.inr r
/-- what a sketch is: a segment's two ends set, all else kept -/
theorem two_upd (f : Nat → Int32) (k : Nat) (p r : Int32) : (eX (upd (upd f (2 * k) p) (tw (2 * k)) r) = upd (eX f) k p ∧ oX (upd (upd f (2 * k) p) (tw (2 * k)) r) = upd (oX f) k r) ∧ (eX (upd (upd f (2 * k + 1) r) (tw (2 * k + 1)) p) = upd (eX f) k p ∧ oX (upd (upd f (2 * k + 1) r) (tw (2 * k + 1)) p) = upd (oX f) k r) := by
  rw [tw_even, tw_odd]
  refine ⟨⟨?_, ?_⟩, ?_, ?_⟩ <;> funext j
  · show upd (upd f (2 * k) p) (2 * k + 1) r (2 * j) = upd (eX f) k p j
    rw [pk_un (by omega)]
    by_cases z : j = k
    · rw [z, pk_us, pk_us]
    · rw [pk_un z, pk_un (by omega)]
  · show upd (upd f (2 * k) p) (2 * k + 1) r (2 * j + 1) = upd (oX f) k r j
    by_cases z : j = k
    · rw [z, pk_us, pk_us]
    · rw [pk_un z, pk_un (by omega), pk_un (by omega)]
  · show upd (upd f (2 * k + 1) r) (2 * k) p (2 * j) = upd (eX f) k p j
    by_cases z : j = k
    · rw [z, pk_us, pk_us]
    · rw [pk_un z, pk_un (by omega), pk_un (by omega)]
  · show upd (upd f (2 * k + 1) r) (2 * k) p (2 * j + 1) = upd (oX f) k r j
    rw [pk_un (by omega)]
    by_cases z : j = k
    · rw [z, pk_us, pk_us]
    · rw [pk_un z, pk_un (by omega)]
/-- out of the ends alone -/
theorem set_ok {k : Nat} {p r : Int32} (hk : k < 20) (uk : u k = false) (e : eX X' = upd (eX X) k p) (o : oX X' = upd (oX X) k r) (hX : Bd X) (hp : Wn 100 p.toInt) (hr : Wn 100 r.toInt) : Bd X' ∧ Agr u X X' ∧ X' (2 * k) = p ∧ X' (2 * k + 1) = r := by
  have ee : ∀ j, X' (2 * j) = upd (eX X) k p j := fun j => congrFun e j
  have oo : ∀ j, X' (2 * j + 1) = upd (oX X) k r j := fun j => congrFun o j
  have hh : ∀ a, X' a = if a / 2 = k then (if a % 2 = 0 then p else r) else X a := by
    intro a
    rcases Nat.mod_two_eq_zero_or_one a with q | q
    · have ha : a = 2 * (a / 2) := by omega
      have t := ee (a / 2)
      rw [← ha] at t
      rw [t]
      by_cases z : a / 2 = k
      · rw [if_pos z, if_pos q, z, pk_us]
      · rw [if_neg z, pk_un z]
        show X (2 * (a / 2)) = X a
        rw [← ha]
    · have ha : a = 2 * (a / 2) + 1 := by omega
      have t := oo (a / 2)
      rw [← ha] at t
      rw [t]
      by_cases z : a / 2 = k
      · rw [if_pos z, if_neg (by omega), z, pk_us]
      · rw [if_neg z, pk_un z]
        show X (2 * (a / 2) + 1) = X a
        rw [← ha]
  refine ⟨fun a ha => ?_, fun a ha hu => ?_, ?_, ?_⟩
  · rw [hh a]
    by_cases z : a / 2 = k
    · rw [if_pos z]
      by_cases y : a % 2 = 0
      · rw [if_pos y]; exact hp
      · rw [if_neg y]; exact hr
    · rw [if_neg z]; exact hX a ha
  · rw [hh a, if_neg (fun z => by rw [z, uk] at hu; cases hu)]
  · rw [ee k, pk_us]
  · rw [oo k, pk_us]
/-- how the two ends are put in order, by both -/
theorem sk_cases (u : Nat → Bool) (X Y : Nat → Int32) (k : Nat) {x y z w : Int32} {α : Type} (A B : α) (ne : ¬ (x = z ∧ y = w)) :
    (f_M_sketch u X Y k x y z w = (upd (upd X (2 * k) x) (tw (2 * k)) z, upd (upd Y (2 * k) y) (tw (2 * k)) w) ∧ (if z < x then A else (if z = x then (if y ≤ w then B else A) else B)) = B ∧ (x.toInt < z.toInt ∨ (x.toInt = z.toInt ∧ y.toInt < w.toInt))) ∨
    (f_M_sketch u X Y k x y z w = (upd (upd X (2 * k + 1) x) (tw (2 * k + 1)) z, upd (upd Y (2 * k + 1) y) (tw (2 * k + 1)) w) ∧ (if z < x then A else (if z = x then (if y ≤ w then B else A) else B)) = A ∧ (z.toInt < x.toInt ∨ (z.toInt = x.toInt ∧ w.toInt < y.toInt))) := by
  unfold f_M_sketch
  have l1 := @Int32.lt_iff_toInt_lt x z
  have l2 := @Int32.lt_iff_toInt_lt z x
  have q1 := @Int32.le_iff_toInt_le w y
  have q2 := @Int32.le_iff_toInt_le y w
  have e1 := I32_eq x z
  have e2 := I32_eq z x
  have e3 := I32_eq y w
  rw [e1, e3] at ne
  by_cases c : x.toInt < z.toInt
  · left
    rw [if_pos (l1.mpr c), if_neg (fun t => by have := l2.mp t; omega), if_neg (fun t => by have := e2.mp t; omega)]
    exact ⟨rfl, rfl, Or.inl c⟩
  · by_cases d : x.toInt = z.toInt
    · by_cases f : w.toInt ≤ y.toInt
      · right
        rw [if_neg (fun t => c (l1.mp t)), if_pos (e1.mpr d), if_pos (q1.mpr f), if_neg (fun t => by have := l2.mp t; omega), if_pos (e2.mpr d.symm), if_neg (fun t => by have := q2.mp t; omega)]
        exact ⟨rfl, rfl, Or.inr ⟨d.symm, by omega⟩⟩
      · left
        rw [if_neg (fun t => c (l1.mp t)), if_pos (e1.mpr d), if_neg (fun t => f (q1.mp t)), if_neg (fun t => by have := l2.mp t; omega), if_pos (e2.mpr d.symm), if_pos (q2.mpr (by omega))]
        exact ⟨rfl, rfl, Or.inr ⟨d, by omega⟩⟩
    · right
      rw [if_neg (fun t => c (l1.mp t)), if_neg (fun t => d (e1.mp t)), if_pos (l2.mpr (by omega))]
      exact ⟨rfl, rfl, Or.inl (by omega)⟩
/-- what the class does once the sketch is laid -/
def addS (u : Nat → Bool) (X Y : Nat → Int32) (L1 L2 : Nat → Nat) (k : Nat) : Int32 × AS := if (f_M_leastMeeting u X Y k) = (-1) then (nI k, f_M_setUsed u X Y k true, X, Y, (f_A_regroup (f_M_setUsed u X Y k true) X Y L1 L2).1, (f_A_regroup (f_M_setUsed u X Y k true) X Y L1 L2).2) else (((-10) - (f_M_leastMeeting u X Y k)), u, X, Y, L1, L2)
theorem add_main (hX : Bd X) (hY : Bd Y) (hG : Geo u (tI X) (tI Y)) (hN1 : Nm 41 L1 (GF u X Y)) (hN2 : Nm 20 L2 (GP u X Y)) (hP : RPre kn lns ac mn sm) (hK : kn = true → Good u X Y lns ln ac mn sm) {k : Nat} (hk : k < 20) (uk : u k = false) (bX : Bd X') (bY : Bd Y') (aX : Agr u X X') (aY : Agr u Y Y') (pk : prp (tI X') (tI Y') k) : (addS u X' Y' L1 L2 k).1 = (fl_R_add_2 u kn 20 0 k (eX X') (eX Y') (oX X') (oX Y')).1 ∧ Sm (addS u X' Y' L1 L2 k).2 ((fl_R_add_2 u kn 20 0 k (eX X') (eX Y') (oX X') (oX Y')).2.1, (fl_R_add_2 u kn 20 0 k (eX X') (eX Y') (oX X') (oX Y')).2.2.1, (fl_R_add_2 u kn 20 0 k (eX X') (eX Y') (oX X') (oX Y')).2.2.2.1, (fl_R_add_2 u kn 20 0 k (eX X') (eX Y') (oX X') (oX Y')).2.2.2.2.1, (fl_R_add_2 u kn 20 0 k (eX X') (eX Y') (oX X') (oX Y')).2.2.2.2.2.1, (fl_R_add_2 u kn 20 0 k (eX X') (eX Y') (oX X') (oX Y')).2.2.2.2.2.2, lns, ln, ac, mn, sm) := by
  have hG' := agr_Geo hG bX bY aX aY
  rcases lm_same bX bY hk pk (fun j hj uj => hG'.1 j hj uj) kn 20 0 rfl with ⟨e1, e2, e3⟩ | ⟨i, hi, e1, e2⟩
  · have e1' : f_M_leastMeeting u X' Y' k = -1 := e1
    rw [e2]
    unfold addS
    rw [if_pos e1']
    have uu : ∀ j, updB u k true j = true → j = k ∨ u j = true := fun j hj => by
      unfold updB at hj
      by_cases z : j = k
      · exact Or.inl z
      · rw [if_neg z] at hj; exact Or.inr hj
    have rg := regroup_ok (u := updB u k true) bX bY L1 L2
    refine ⟨rfl, rfl, rfl, rfl, rfl, rfl, bX, bY, ⟨fun j hj hu => ?_, hG'.2.1, fun i j hi hj ui uj ne => ?_⟩, rg.1, rg.2, ⟨hP.1, hP.2.1, hP.2.2.1, fun z => (by cases z)⟩, fun z => (by cases z)⟩
    · rcases uu j hu with z | z
      · rw [z]; exact pk
      · exact hG'.1 j hj z
    · rcases uu i ui with z | z
      · rcases uu j uj with y | y
        · exact absurd (z.trans y.symm) ne
        · rw [z]; exact e3 j (by omega) hj y
      · rcases uu j uj with y | y
        · rw [y]; exact fun q => e3 i (by omega) hi z (meetI_symm q)
        · exact hG'.2.2 i j hi hj z y ne
  · have e1' : f_M_leastMeeting u X' Y' k = nI i := e1
    rw [e2]
    unfold addS
    rw [e1', if_neg (nI_nm1 (by omega))]
    refine ⟨rfl, rfl, rfl, rfl, rfl, rfl, bX, bY, hG', ⟨hN1.1, fun p q hp hq => (hN1.2 p q hp hq).trans (agr_GF hG hX hY bX bY aX aY p q).symm⟩, ⟨hN2.1, fun p q hp hq => (hN2.2 p q hp hq).trans (agr_GP aX aY p q).symm⟩, hP, fun z => agr_Good hG aX aY (hK z)⟩
/-- what the class does at two near points that differ -/
def addC (u : Nat → Bool) (X Y : Nat → Int32) (L1 L2 : Nat → Nat) (x y z w : Int32) : Int32 × AS := if (f_M_leastUnusedNumber u X Y) = (-1) then ((-3), u, X, Y, L1, L2) else addS u (f_M_sketch u X Y ((f_M_leastUnusedNumber u X Y).toNatClampNeg) x y z w).1 (f_M_sketch u X Y ((f_M_leastUnusedNumber u X Y).toNatClampNeg) x y z w).2 L1 L2 ((f_M_leastUnusedNumber u X Y).toNatClampNeg)
theorem A_add_eq (u : Nat → Bool) (X Y : Nat → Int32) (L1 L2 : Nat → Nat) (x y z w : Int32) : f_A_add u X Y L1 L2 x y z w = if f_A_isNearby x y = true then (if f_A_isNearby z w = true then (if x = z then (if y = w then ((-2), u, X, Y, L1, L2) else addC u X Y L1 L2 x y z w) else addC u X Y L1 L2 x y z w) else ((-2), u, X, Y, L1, L2)) else ((-2), u, X, Y, L1, L2) := rfl
def addD (u : Nat → Bool) (aX aY bX bY : Nat → Int32) (kn : Bool) (k : Nat) (x y z w : Int32) : Int32 × (Nat → Bool) × (Nat → Int32) × (Nat → Int32) × (Nat → Int32) × (Nat → Int32) × Bool := if k = 20 then ((-3), u, aX, aY, bX, bY, kn) else (if z < x then (fl_R_add_2 u kn 20 0 k (upd aX k z) (upd aY k w) (upd bX k x) (upd bY k y)) else (if z = x then (if y ≤ w then (fl_R_add_2 u kn 20 0 k (upd aX k x) (upd aY k y) (upd bX k z) (upd bY k w)) else (fl_R_add_2 u kn 20 0 k (upd aX k z) (upd aY k w) (upd bX k x) (upd bY k y))) else (fl_R_add_2 u kn 20 0 k (upd aX k x) (upd aY k y) (upd bX k z) (upd bY k w))))
theorem R_add_eq (u : Nat → Bool) (aX aY bX bY : Nat → Int32) (kn : Bool) (x y z w : Int32) : f_R_add u aX aY bX bY kn x y z w = if f_R_near x = true then (if f_R_near y = true then (if f_R_near z = true then (if f_R_near w = true then (if x = z then (if y = w then ((-2), u, aX, aY, bX, bY, kn) else addD u aX aY bX bY kn (fl_R_add_1 u 20 0) x y z w) else addD u aX aY bX bY kn (fl_R_add_1 u 20 0) x y z w) else ((-2), u, aX, aY, bX, bY, kn)) else ((-2), u, aX, aY, bX, bY, kn)) else ((-2), u, aX, aY, bX, bY, kn)) else ((-2), u, aX, aY, bX, bY, kn) := rfl
theorem ob_add : Ob_add Sm := by
  intro u X Y L1 L2 v aX aY bX bY kn lns ln ac mn sm h x y z w
  have h0 := h
  obtain ⟨rfl, rfl, rfl, rfl, rfl, hX, hY, hG, hN1, hN2, hP, hK⟩ := h
  by_cases nn : (f_R_near x = true ∧ f_R_near y = true) ∧ f_R_near z = true ∧ f_R_near w = true
  · obtain ⟨⟨n1, n2⟩, n3, n4⟩ := nn
    have x1 := near_iff.mp n1
    have x2 := near_iff.mp n2
    have x3 := near_iff.mp n3
    have x4 := near_iff.mp n4
    have m1 : f_A_isNearby x y = true := nearby_iff.mpr ⟨x1, x2⟩
    have m2 : f_A_isNearby z w = true := nearby_iff.mpr ⟨x3, x4⟩
    rw [A_add_eq, R_add_eq, if_pos m1, if_pos m2, if_pos n1, if_pos n2, if_pos n3, if_pos n4]
    by_cases ne : x = z ∧ y = w
    · rw [if_pos ne.1, if_pos ne.2, if_pos ne.1, if_pos ne.2]
      exact ⟨rfl, h0⟩
    · have tA : ∀ {α : Type} (a b : α), (if x = z then (if y = w then a else b) else b) = b := fun a b => by
        by_cases c : x = z
        · rw [if_pos c, if_neg (fun q => ne ⟨c, q⟩)]
        · rw [if_neg c]
      rw [tA, tA]
      unfold addC addD
      rcases lu_same u X Y 20 0 rfl with ⟨e1, e2⟩ | ⟨e1, e2, e3⟩
      · have e2' : f_M_leastUnusedNumber u X Y = -1 := e2
        rw [if_pos e2', if_pos e1]
        exact ⟨rfl, h0⟩
      · have e3' : f_M_leastUnusedNumber u X Y = nI (fl_R_add_1 u 20 0) := e3
        rw [e3', if_neg (nI_nm1 (by omega)), nI_clamp (by omega)]
        generalize fl_R_add_1 u 20 0 = k at e1 e2
        rw [if_neg (show ¬ k = 20 by omega)]
        rcases sk_cases u X Y k (fl_R_add_2 u kn 20 0 k (upd (eX X) k z) (upd (eX Y) k w) (upd (oX X) k x) (upd (oX Y) k y)) (fl_R_add_2 u kn 20 0 k (upd (eX X) k x) (upd (eX Y) k y) (upd (oX X) k z) (upd (oX Y) k w)) ne with ⟨s1, s2, s3⟩ | ⟨s1, s2, s3⟩
        · rw [s1, s2]
          have t1 := (two_upd X k x z).1
          have t2 := (two_upd Y k y w).1
          obtain ⟨b1, a1, p1, r1⟩ := set_ok e1 e2 t1.1 t1.2 hX x1 x3
          obtain ⟨b2, a2, p2, r2⟩ := set_ok e1 e2 t2.1 t2.2 hY x2 x4
          rw [← t1.1, ← t1.2, ← t2.1, ← t2.2]
          refine add_main hX hY hG hN1 hN2 hP hK e1 e2 b1 b2 a1 a2 ?_
          unfold prp tI
          dsimp only
          rw [p1, p2, r1, r2]
          exact s3
        · rw [s1, s2]
          have t1 := (two_upd X k z x).2
          have t2 := (two_upd Y k w y).2
          obtain ⟨b1, a1, p1, r1⟩ := set_ok e1 e2 t1.1 t1.2 hX x3 x1
          obtain ⟨b2, a2, p2, r2⟩ := set_ok e1 e2 t2.1 t2.2 hY x4 x2
          rw [← t1.1, ← t1.2, ← t2.1, ← t2.2]
          refine add_main hX hY hG hN1 hN2 hP hK e1 e2 b1 b2 a1 a2 ?_
          unfold prp tI
          dsimp only
          rw [p1, p2, r1, r2]
          exact s3
  · have eA : f_A_add u X Y L1 L2 x y z w = ((-2), u, X, Y, L1, L2) := by
      rw [A_add_eq]
      by_cases c1 : f_A_isNearby x y = true
      · rw [if_pos c1]
        by_cases c2 : f_A_isNearby z w = true
        · have d1 := nearby_iff.mp c1
          have d2 := nearby_iff.mp c2
          exact absurd ⟨⟨near_iff.mpr d1.1, near_iff.mpr d1.2⟩, near_iff.mpr d2.1, near_iff.mpr d2.2⟩ nn
        · rw [if_neg c2]
      · rw [if_neg c1]
    have eR : f_R_add u (eX X) (eX Y) (oX X) (oX Y) kn x y z w = ((-2), u, eX X, eX Y, oX X, oX Y, kn) := by
      rw [R_add_eq]
      by_cases c1 : f_R_near x = true
      · rw [if_pos c1]
        by_cases c2 : f_R_near y = true
        · rw [if_pos c2]
          by_cases c3 : f_R_near z = true
          · rw [if_pos c3]
            by_cases c4 : f_R_near w = true
            · exact absurd ⟨⟨c1, c2⟩, c3, c4⟩ nn
            · rw [if_neg c4]
          · rw [if_neg c3]
        · rw [if_neg c2]
      · rw [if_neg c1]
    rw [eA, eR]
    exact ⟨rfl, h0⟩
end ADD
theorem obl : Obl Sm := ⟨ob_start, ob_pre, ob_add, ob_remove, ob_segments, ob_vertices, ob_parts, ob_faces, ob_find, ob_same, ob_area, ob_border, ob_touches⟩
