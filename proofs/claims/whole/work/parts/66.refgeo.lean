/-! The reference's ends, and what both ask of a segment and a point -/
abbrev eX (X : Nat → Int32) : Nat → Int32 := fun k => X (2 * k)
abbrev oX (X : Nat → Int32) : Nat → Int32 := fun k => X (2 * k + 1)
theorem I32_eq (x y : Int32) : x = y ↔ x.toInt = y.toInt := Int32.toInt_inj.symm
theorem bt {b : Bool} {P : Prop} (h : b = true ↔ P) : b = false ↔ ¬ P := by
  constructor
  · intro e p; rw [h.mpr p] at e; cases e
  · intro n; cases b with
    | false => rfl
    | true => exact absurd (h.mp rfl) n
theorem bool_eq {a b : Bool} {P : Prop} (h1 : a = true ↔ P) (h2 : b = true ↔ P) : a = b := by
  cases a <;> cases b
  · rfl
  · exact absurd (h1.mpr (h2.mp rfl)) (by decide)
  · exact absurd (h2.mpr (h1.mp rfl)) (by decide)
  · rfl
theorem ite_ff {p : Prop} [Decidable p] {b : Bool} {Q : Prop} (h : b = true ↔ Q) : (if p then false else b) = true ↔ ¬ p ∧ Q := by
  by_cases c : p
  · rw [if_pos c]; exact ⟨fun z => (by cases z), fun z => absurd c z.1⟩
  · rw [if_neg c, h]; exact ⟨fun z => ⟨c, z⟩, fun z => z.2⟩
theorem ite_tt {p : Prop} [Decidable p] {b : Bool} {Q : Prop} (h : b = true ↔ Q) : (if p then true else b) = true ↔ p ∨ Q := by
  by_cases c : p
  · rw [if_pos c]; exact ⟨fun _ => Or.inl c, fun _ => rfl⟩
  · rw [if_neg c, h]; exact ⟨fun z => Or.inr z, fun z => z.elim (fun q => absurd q c) id⟩
theorem ite_tf {p : Prop} [Decidable p] {b : Bool} {Q : Prop} (h : b = true ↔ Q) : (if p then b else false) = true ↔ p ∧ Q := by
  by_cases c : p
  · rw [if_pos c, h]; exact ⟨fun z => ⟨c, z⟩, fun z => z.2⟩
  · rw [if_neg c]; exact ⟨fun z => (by cases z), fun z => absurd z.1 c⟩
theorem ite_p {p : Prop} [Decidable p] : (if p then true else false) = true ↔ p := by
  by_cases c : p
  · rw [if_pos c]; exact ⟨fun _ => c, fun _ => rfl⟩
  · rw [if_neg c]; exact ⟨fun z => (by cases z), fun z => absurd z c⟩
theorem ite_n {p : Prop} [Decidable p] : (if p then false else true) = true ↔ ¬ p := by
  by_cases c : p
  · rw [if_pos c]; exact ⟨fun z => (by cases z), fun z => absurd c z⟩
  · rw [if_neg c]; exact ⟨fun _ => c, fun _ => rfl⟩
section RF
variable {u : Nat → Bool} {X Y : Nat → Int32}
theorem near_iff {x : Int32} : f_R_near x = true ↔ Wn 100 x.toInt := by
  unfold f_R_near Wn
  rw [ite_ff (ite_n), Int32.lt_iff_toInt_lt, Int32.lt_iff_toInt_lt]
  show ¬ x.toInt < -100 ∧ ¬ 100 < x.toInt ↔ _
  omega
theorem nearby_iff {x y : Int32} : f_A_isNearby x y = true ↔ Wn 100 x.toInt ∧ Wn 100 y.toInt := by
  unfold f_A_isNearby Wn
  rw [ite_ff (ite_ff (ite_ff ite_n)), Int32.lt_iff_toInt_lt, Int32.lt_iff_toInt_lt, Int32.lt_iff_toInt_lt, Int32.lt_iff_toInt_lt]
  show ¬ x.toInt < -100 ∧ ¬ 100 < x.toInt ∧ ¬ y.toInt < -100 ∧ ¬ 100 < y.toInt ↔ _
  omega
theorem Is_near {x : Int32} (h : f_R_near x = true) : Is x x.toInt 100 := ⟨rfl, near_iff.mp h⟩
theorem Is_left (hX : Bd X) (hY : Bd Y) {k : Nat} (hk : k < 20) {x y : Int32} {p q : Int} (hx : Is x p 100) (hy : Is y q 100) : Is (f_M_leftness u X Y k x y) (lf (tI X) (tI Y) k p q) 80000 := by
  have sX := Is_stepX (u := u) (Y := Y) hX (a := 2 * k) (by omega)
  have sY := Is_stepY (u := u) (X := X) hY (a := 2 * k) (by omega)
  rw [tw_even] at sX sY
  exact Is_cross sX sY (Is_sub hx (Is_tI hX (by omega)) (by decide)) (Is_sub hy (Is_tI hY (by omega)) (by decide)) (by decide) (by decide)
theorem in_class (hX : Bd X) (hY : Bd Y) {k : Nat} (hk : k < 20) {x y : Int32} {p q : Int} (hx : Is x p 100) (hy : Is y q 100) : f_M_isInside u X Y k x y = true ↔ ins (tI X) (tI Y) k p q := by
  have hl := Is_left (u := u) hX hY hk hx hy
  have hd : Is (((X (2 * k) - x) * (X ((2 * k) + 1) - x)) + ((Y (2 * k) - y) * (Y ((2 * k) + 1) - y))) (dt (tI X) (tI Y) k p q) (200 * 200 + 200 * 200) := Is_add (Is_mul (Is_sub (Is_tI hX (by omega)) hx (by decide)) (Is_sub (Is_tI hX (by omega)) hx (by decide)) (by decide)) (Is_mul (Is_sub (Is_tI hY (by omega)) hy (by decide)) (Is_sub (Is_tI hY (by omega)) hy (by decide)) (by decide)) (by decide)
  unfold f_M_isInside ins
  rw [ite_tf ite_n, Is_eq hl Is_0, Is_nle Is_0 hd]
theorem opp_class (hX : Bd X) (hY : Bd Y) {k j : Nat} (hk : k < 20) (hj : j < 20) : f_M_partsTheEndsOf u X Y k j = true ↔ opp (tI X) (tI Y) k j := by
  have h1 := Is_left (u := u) hX hY hk (Is_tI hX (a := 2 * j) (by omega)) (Is_tI hY (a := 2 * j) (by omega))
  have h2 := Is_left (u := u) hX hY hk (Is_tI hX (a := 2 * j + 1) (by omega)) (Is_tI hY (a := 2 * j + 1) (by omega))
  unfold f_M_partsTheEndsOf opp
  generalize f_M_leftness u X Y k (X (2 * j)) (Y (2 * j)) = a at h1 ⊢
  generalize f_M_leftness u X Y k (X (2 * j + 1)) (Y (2 * j + 1)) = b at h2 ⊢
  have tail : (if a ≤ 0 then false else if 0 ≤ b then false else true) = true ↔ 0 < lf (tI X) (tI Y) k (tI X (2 * j)) (tI Y (2 * j)) ∧ lf (tI X) (tI Y) k (tI X (2 * j + 1)) (tI Y (2 * j + 1)) < 0 := by
    rw [ite_ff ite_n, Is_nle h1 Is_0, Is_nle Is_0 h2]
  by_cases c : 0 ≤ a
  · rw [if_pos c, tail]
    have := (Is_le Is_0 h1).mp c
    omega
  · rw [if_neg c, ite_tt tail, Is_lt Is_0 h2]
    have := (Is_nle Is_0 h1).mp c
    omega
theorem meet_class (hX : Bd X) (hY : Bd Y) {k j : Nat} (hk : k < 20) (hj : j < 20) : f_M_meet u X Y k j = true ↔ meetI (tI X) (tI Y) k j := by
  have hold : ∀ {k j}, k < 20 → j < 20 → (f_M_holdsAnEndOf u X Y k j = true ↔ ins (tI X) (tI Y) k (tI X (2 * j)) (tI Y (2 * j)) ∨ ins (tI X) (tI Y) k (tI X (2 * j + 1)) (tI Y (2 * j + 1))) := fun {k j} hk hj => by
    unfold f_M_holdsAnEndOf
    rw [ite_tt ite_p, in_class hX hY hk (Is_tI hX (by omega)) (Is_tI hY (by omega)), in_class hX hY hk (Is_tI hX (by omega)) (Is_tI hY (by omega))]
  have same : f_M_haveSameEnds u X Y k j = true ↔ sameE (tI X) (tI Y) k j := by
    unfold f_M_haveSameEnds sameE
    rw [ite_tf ite_p, same_tail, same_tail]
    exact ⟨fun ⟨⟨a, b⟩, c, d⟩ => ⟨a, b, c, d⟩, fun ⟨a, b, c, d⟩ => ⟨⟨a, b⟩, c, d⟩⟩
  unfold f_M_meet meetI
  rw [ite_tt (ite_tt (ite_tt (ite_tf ite_p))), same, hold hk hj, hold hj hk, opp_class hX hY hk hj, opp_class hX hY hj hk]
/-! the reference -/
theorem Is_sign {v : Int32} {a n : Int} (h : Is v a n) : Is (f_R_sign v) (if a < 0 then -1 else if 0 < a then 1 else 0) 1 := by
  unfold f_R_sign
  by_cases c1 : a < 0
  · rw [if_pos c1, if_neg (fun z => by have := (Is_le Is_0 h).mp z; omega)]; exact Is_m1
  · rw [if_neg c1, if_pos ((Is_le Is_0 h).mpr (by omega))]
    by_cases c2 : 0 < a
    · rw [if_pos c2, if_neg (fun z => by have := (Is_le h Is_0).mp z; omega)]; exact Is_1
    · rw [if_neg c2, if_pos ((Is_le h Is_0).mpr (by omega))]; exact Is_up Is_0 (by decide)
def sg (a : Int) : Int := if a < 0 then -1 else if 0 < a then 1 else 0
theorem Is_side (hX : Bd X) (hY : Bd Y) {k : Nat} (hk : k < 20) {x y : Int32} {p q : Int} (hx : Is x p 100) (hy : Is y q 100) : Is (f_R_side u (eX X) (eX Y) (oX X) (oX Y) k x y) (sg (lf (tI X) (tI Y) k p q)) 1 := by
  have a := Is_tI hX (a := 2 * k) (by omega)
  have b := Is_tI hX (a := 2 * k + 1) (by omega)
  have c := Is_tI hY (a := 2 * k) (by omega)
  have d := Is_tI hY (a := 2 * k + 1) (by omega)
  have l : Is (((oX X k - eX X k) * (y - eX Y k)) - ((oX Y k - eX Y k) * (x - eX X k))) (lf (tI X) (tI Y) k p q) (200 * 200 + 200 * 200) := Is_sub (Is_mul (Is_sub b a (by decide)) (Is_sub hy c (by decide)) (by decide)) (Is_mul (Is_sub d c (by decide)) (Is_sub hx a (by decide)) (by decide)) (by decide)
  exact Is_sign l
theorem sg_zero {a : Int} : sg a = 0 ↔ a = 0 := by
  unfold sg
  by_cases c1 : a < 0
  · rw [if_pos c1]; omega
  · rw [if_neg c1]
    by_cases c2 : 0 < a
    · rw [if_pos c2]; omega
    · rw [if_neg c2]; omega
theorem isEnd_iff {k : Nat} {x y : Int32} {aX aY bX bY : Nat → Int32} : f_R_isEnd u aX aY bX bY k x y = true ↔ (x = aX k ∧ y = aY k) ∨ (x = bX k ∧ y = bY k) := by
  unfold f_R_isEnd
  have tail : (if x = bX k then (if y = bY k then true else false) else false) = true ↔ x = bX k ∧ y = bY k := ite_tf ite_p
  by_cases c : x = aX k
  · rw [if_pos c, ite_tt tail]
    exact ⟨fun z => z.elim (fun q => Or.inl ⟨c, q⟩) Or.inr, fun z => z.elim (fun q => Or.inl q.2) Or.inr⟩
  · rw [if_neg c, tail]
    exact ⟨fun z => Or.inr z, fun z => z.elim (fun q => absurd q.1 c) id⟩
theorem isEnd_I {k : Nat} {x y : Int32} : f_R_isEnd u (eX X) (eX Y) (oX X) (oX Y) k x y = true ↔ (x.toInt = tI X (2 * k) ∧ y.toInt = tI Y (2 * k)) ∨ (x.toInt = tI X (2 * k + 1) ∧ y.toInt = tI Y (2 * k + 1)) := by
  rw [isEnd_iff, I32_eq, I32_eq, I32_eq, I32_eq]; exact Iff.rfl
theorem ins_ref {tx ty : Nat → Int} {k : Nat} (hp : prp tx ty k) (hw : tx (2 * k + 1) - tx (2 * k) ≤ 200) {p q : Int} : ins tx ty k p q ↔ lf tx ty k p q = 0 ∧ ¬ ((p = tx (2 * k) ∧ q = ty (2 * k)) ∨ (p = tx (2 * k + 1) ∧ q = ty (2 * k + 1))) ∧ tx (2 * k) ≤ p ∧ p ≤ tx (2 * k + 1) ∧ (if ty (2 * k + 1) ≤ ty (2 * k) then ty (2 * k + 1) else ty (2 * k)) ≤ q ∧ q ≤ (if ty (2 * k + 1) ≤ ty (2 * k) then ty (2 * k) else ty (2 * k + 1)) := by
  rcases hp with h | ⟨h, h2⟩
  · have f : flat tx k := ⟨h, hw⟩
    constructor
    · rintro ⟨hl, hd⟩
      have hx := (ins_flat f hl).mp hd
      refine ⟨hl, fun z => by omega, by omega, by omega, ?_⟩
      have e := (lf_zero f p q).mp hl
      have e1 := Hh_diff tx ty k (tx (2 * k)) p
      have e2 := Hh_diff tx ty k (tx (2 * k + 1)) p
      rw [Hh_left] at e1
      rw [Hh_right f] at e2
      rcases Int.le_total 0 (gr tx ty k) with g | g
      · have p1 := Int.mul_nonneg g (show 0 ≤ p - tx (2 * k) by omega)
        have p2 := Int.mul_nonneg g (show 0 ≤ tx (2 * k + 1) - p by omega)
        have p3 : gr tx ty k * (p - tx (2 * k + 1)) = -(gr tx ty k * (tx (2 * k + 1) - p)) := by grind
        have q1 := Qf_le.mp (show Qf * ty (2 * k) ≤ Qf * q by omega)
        have q2 := Qf_le.mp (show Qf * q ≤ Qf * ty (2 * k + 1) by omega)
        split <;> omega
      · have p1 := Int.mul_nonneg (show 0 ≤ -gr tx ty k by omega) (show 0 ≤ p - tx (2 * k) by omega)
        have p2 := Int.mul_nonneg (show 0 ≤ -gr tx ty k by omega) (show 0 ≤ tx (2 * k + 1) - p by omega)
        have p3 : gr tx ty k * (p - tx (2 * k + 1)) = -gr tx ty k * (tx (2 * k + 1) - p) := by grind
        have p4 : gr tx ty k * (p - tx (2 * k)) = -(-gr tx ty k * (p - tx (2 * k))) := by grind
        have q1 := Qf_le.mp (show Qf * q ≤ Qf * ty (2 * k) by omega)
        have q2 := Qf_le.mp (show Qf * ty (2 * k + 1) ≤ Qf * q by omega)
        split <;> omega
    · rintro ⟨hl, he, h3, h4, _, _⟩
      have e := (lf_zero f p q).mp hl
      refine ⟨hl, (ins_flat f hl).mpr ⟨?_, ?_⟩⟩
      · apply Decidable.byContradiction
        intro c
        have ex : p = tx (2 * k) := by omega
        rw [ex, Hh_left] at e
        exact he (Or.inl ⟨ex, (Qf_inj e).symm⟩)
      · apply Decidable.byContradiction
        intro c
        have ex : p = tx (2 * k + 1) := by omega
        rw [ex, Hh_right f] at e
        exact he (Or.inr ⟨ex, (Qf_inj e).symm⟩)
  · rw [ins_up h h2]
    have e1 : lf tx ty k p q = -((ty (2 * k + 1) - ty (2 * k)) * (p - tx (2 * k))) := by unfold lf; rw [← h]; grind
    constructor
    · rintro ⟨a, b, c⟩
      refine ⟨by rw [e1, a, Int.sub_self, Int.mul_zero]; rfl, fun z => by omega, by omega, by omega, ?_⟩
      split <;> omega
    · rintro ⟨a, b, c, d, e, f⟩
      have ex : p = tx (2 * k) := by omega
      rw [if_neg (by omega)] at e f
      exact ⟨ex, by omega, by omega⟩
theorem in_ref (hX : Bd X) (hY : Bd Y) {k : Nat} (hk : k < 20) (hp : prp (tI X) (tI Y) k) {x y : Int32} {p q : Int} (hx : Is x p 100) (hy : Is y q 100) : f_R_isInside u (eX X) (eX Y) (oX X) (oX Y) k x y = true ↔ ins (tI X) (tI Y) k p q := by
  have a := Is_tI hX (a := 2 * k) (by omega)
  have b := Is_tI hX (a := 2 * k + 1) (by omega)
  have c := Is_tI hY (a := 2 * k) (by omega)
  have d := Is_tI hY (a := 2 * k + 1) (by omega)
  have hs := Is_side (u := u) hX hY hk hx hy
  rw [ins_ref hp (by have := a.2.1; have := b.2.2; omega)]
  unfold f_R_isInside
  rw [ite_tf (b := if f_R_isEnd u (eX X) (eX Y) (oX X) (oX Y) k x y = true then false else _) (Q := _) Iff.rfl, Is_eq hs Is_0, sg_zero]
  have he : f_R_isEnd u (eX X) (eX Y) (oX X) (oX Y) k x y = true ↔ (p = tI X (2 * k) ∧ q = tI Y (2 * k)) ∨ (p = tI X (2 * k + 1) ∧ q = tI Y (2 * k + 1)) := by rw [isEnd_I, hx.1, hy.1]
  rw [ite_ff Iff.rfl, he]
  have fin : ∀ {s t : Int32} {s' t' : Int}, Is s s' 100 → Is t t' 100 → ((if x < eX X k then false else (if oX X k < x then false else (if y < s then false else (if t < y then false else true)))) = true ↔ tI X (2 * k) ≤ p ∧ p ≤ tI X (2 * k + 1) ∧ s' ≤ q ∧ q ≤ t') := by
    intro s t s' t' h1 h2
    rw [ite_ff (ite_ff (ite_ff ite_n)), Is_nlt hx a, Is_nlt b hx, Is_nlt hy h1, Is_nlt h2 hy]
  by_cases e : oX Y k ≤ eX Y k
  · have e' := (Is_le d c).mp e
    rw [if_pos e, if_pos e, fin d c, if_pos e', if_pos e']
  · have e' := (Is_nle d c).mp e
    rw [if_neg e, if_neg e, fin c d, if_neg (by omega), if_neg (by omega)]
theorem sg_n {a : Int} (h : a < 0) : sg a = -1 := by unfold sg; rw [if_pos h]
theorem sg_p {a : Int} (h : 0 < a) : sg a = 1 := by unfold sg; rw [if_neg (by omega), if_pos h]
theorem sg_opp {a b : Int} : sg a * sg b < 0 ↔ (a < 0 ∧ 0 < b) ∨ (0 < a ∧ b < 0) := by
  rcases Int.lt_trichotomy a 0 with h | h | h <;> rcases Int.lt_trichotomy b 0 with g | g | g
  · rw [sg_n h, sg_n g]; omega
  · rw [sg_n h, sg_zero.mpr g]; omega
  · rw [sg_n h, sg_p g]; omega
  · rw [sg_zero.mpr h]; omega
  · rw [sg_zero.mpr h]; omega
  · rw [sg_zero.mpr h]; omega
  · rw [sg_p h, sg_n g]; omega
  · rw [sg_p h, sg_zero.mpr g]; omega
  · rw [sg_p h, sg_p g]; omega
theorem meet_ref (hX : Bd X) (hY : Bd Y) {k j : Nat} (hk : k < 20) (hj : j < 20) (pk : prp (tI X) (tI Y) k) (pj : prp (tI X) (tI Y) j) : f_R_meet u (eX X) (eX Y) (oX X) (oX Y) k j = true ↔ meetI (tI X) (tI Y) k j := by
  have xa : ∀ {k}, k < 20 → Is (eX X k) (tI X (2 * k)) 100 := fun h => Is_tI hX (by omega)
  have xb : ∀ {k}, k < 20 → Is (oX X k) (tI X (2 * k + 1)) 100 := fun h => Is_tI hX (by omega)
  have ya : ∀ {k}, k < 20 → Is (eX Y k) (tI Y (2 * k)) 100 := fun h => Is_tI hY (by omega)
  have yb : ∀ {k}, k < 20 → Is (oX Y k) (tI Y (2 * k + 1)) 100 := fun h => Is_tI hY (by omega)
  have opps : ∀ {k j}, k < 20 → j < 20 → (¬ 0 ≤ f_R_side u (eX X) (eX Y) (oX X) (oX Y) k (eX X j) (eX Y j) * f_R_side u (eX X) (eX Y) (oX X) (oX Y) k (oX X j) (oX Y j) ↔ opp (tI X) (tI Y) k j) := fun {k j} hk hj => by
    rw [Is_nle Is_0 (Is_mul (Is_side hX hY hk (xa hj) (ya hj)) (Is_side hX hY hk (xb hj) (yb hj)) (by decide)), sg_opp]
    exact Iff.rfl
  have tail : (if 0 ≤ f_R_side u (eX X) (eX Y) (oX X) (oX Y) k (eX X j) (eX Y j) * f_R_side u (eX X) (eX Y) (oX X) (oX Y) k (oX X j) (oX Y j) then false else (if 0 ≤ f_R_side u (eX X) (eX Y) (oX X) (oX Y) j (eX X k) (eX Y k) * f_R_side u (eX X) (eX Y) (oX X) (oX Y) j (oX X k) (oX Y k) then false else true)) = true ↔ opp (tI X) (tI Y) k j ∧ opp (tI X) (tI Y) j k := by
    rw [ite_ff ite_n, opps hk hj, opps hj hk]
  have mid : (if f_R_isEnd u (eX X) (eX Y) (oX X) (oX Y) k (eX X j) (eX Y j) = true then (if f_R_isEnd u (eX X) (eX Y) (oX X) (oX Y) k (oX X j) (oX Y j) = true then true else (if 0 ≤ f_R_side u (eX X) (eX Y) (oX X) (oX Y) k (eX X j) (eX Y j) * f_R_side u (eX X) (eX Y) (oX X) (oX Y) k (oX X j) (oX Y j) then false else (if 0 ≤ f_R_side u (eX X) (eX Y) (oX X) (oX Y) j (eX X k) (eX Y k) * f_R_side u (eX X) (eX Y) (oX X) (oX Y) j (oX X k) (oX Y k) then false else true))) else (if 0 ≤ f_R_side u (eX X) (eX Y) (oX X) (oX Y) k (eX X j) (eX Y j) * f_R_side u (eX X) (eX Y) (oX X) (oX Y) k (oX X j) (oX Y j) then false else (if 0 ≤ f_R_side u (eX X) (eX Y) (oX X) (oX Y) j (eX X k) (eX Y k) * f_R_side u (eX X) (eX Y) (oX X) (oX Y) j (oX X k) (oX Y k) then false else true))) = true ↔ sameE (tI X) (tI Y) k j ∨ (opp (tI X) (tI Y) k j ∧ opp (tI X) (tI Y) j k) := by
    have e1 : (f_R_isEnd u (eX X) (eX Y) (oX X) (oX Y) k (eX X j) (eX Y j) = true ∧ f_R_isEnd u (eX X) (eX Y) (oX X) (oX Y) k (oX X j) (oX Y j) = true) ↔ sameE (tI X) (tI Y) k j := by
      rw [isEnd_I, isEnd_I, (xa hj).1, (ya hj).1, (xb hj).1, (yb hj).1]
      unfold sameE
      constructor
      · rintro ⟨h1, h2⟩
        unfold prp at pk pj
        omega
      · rintro ⟨h1, h2, h3, h4⟩
        exact ⟨Or.inl ⟨h1.symm, h2.symm⟩, Or.inr ⟨h3.symm, h4.symm⟩⟩
    by_cases c1 : f_R_isEnd u (eX X) (eX Y) (oX X) (oX Y) k (eX X j) (eX Y j) = true
    · rw [if_pos c1, ite_tt tail]
      exact ⟨fun z => z.elim (fun q => Or.inl (e1.mp ⟨c1, q⟩)) Or.inr, fun z => z.elim (fun q => Or.inl (e1.mpr q).2) Or.inr⟩
    · rw [if_neg c1, tail]
      exact ⟨Or.inr, fun z => z.elim (fun q => absurd (e1.mpr q).1 c1) id⟩
  unfold f_R_meet
  rw [ite_tt (ite_tt (ite_tt (ite_tt mid))), in_ref hX hY hk pk (xa hj) (ya hj), in_ref hX hY hk pk (xb hj) (yb hj), in_ref hX hY hj pj (xa hk) (ya hk), in_ref hX hY hj pj (xb hk) (yb hk)]
  unfold meetI
  constructor
  · rintro (h | h | h | h | h | h)
    · exact Or.inr (Or.inl (Or.inl h))
    · exact Or.inr (Or.inl (Or.inr h))
    · exact Or.inr (Or.inr (Or.inl (Or.inl h)))
    · exact Or.inr (Or.inr (Or.inl (Or.inr h)))
    · exact Or.inl h
    · exact Or.inr (Or.inr (Or.inr h))
  · rintro (h | (h | h) | (h | h) | h)
    · exact Or.inr (Or.inr (Or.inr (Or.inr (Or.inl h))))
    · exact Or.inl h
    · exact Or.inr (Or.inl h)
    · exact Or.inr (Or.inr (Or.inl h))
    · exact Or.inr (Or.inr (Or.inr (Or.inl h)))
    · exact Or.inr (Or.inr (Or.inr (Or.inr (Or.inr h))))
end RF
