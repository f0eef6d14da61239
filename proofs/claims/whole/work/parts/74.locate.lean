/-! Where a point lies, and where a side does -/
theorem Qf_half : 2 * (Qf / 2) = Qf := Qf_div (by decide) (by decide)
section LO
variable {u : Nat → Bool} {X Y : Nat → Int32} {m : Nat} {ln : Nat → Int32} {ac mn sm : Nat → Nat}
theorem cellAt_spec (hG : Geo u (tI X) (tI Y)) (hX : Bd X) (hY : Bd Y) (hC : Cells u (tI X) (tI Y) m (tI ln) mn (Kc ac)) {s : Nat} (hs : s ≤ m) {x up : Int32} {p h : Int} (hx : Is x p 100) (h0 : 0 < s → tI ln (s - 1) ≤ p) (h1 : s < m → p ≤ tI ln s) (hu : Rep up 2 h) (ne : ∀ a, a < mn s → Hh (tI X) (tI Y) (Kc ac s a) p ≠ h) (b1 : Qf * (-1000000) < h) (b2 : h < Qf * 1000000) : f_R_cellAt u (eX X) (eX Y) (oX X) (oX Y) ac mn s x up = nI (21 * s + PX (tI X) (tI Y) mn (Kc ac) s p h) := by
  have mX := mono_X (x := p) hG hC hs h0 h1
  have hle := cp_le (fun i => Hh (tI X) (tI Y) (Kc ac s i) p) h (mn s)
  have a1 := cut_fl mX (show Qf * (-1000000) ≤ h by omega)
  have a2 := cut_rf (f := fun i => Hh (tI X) (tI Y) (Kc ac s i) p) (n := mn s) b2
  have a3 : Fl (fun i => Hh (tI X) (tI Y) (Kc ac s i) p) (PX (tI X) (tI Y) mn (Kc ac) s p h) < h := by
    have e : Fl (fun i => Hh (tI X) (tI Y) (Kc ac s i) p) (PX (tI X) (tI Y) mn (Kc ac) s p h) ≤ h := a1
    have ne2 : Fl (fun i => Hh (tI X) (tI Y) (Kc ac s i) p) (PX (tI X) (tI Y) mn (Kc ac) s p h) ≠ h := by
      unfold Fl
      split
      · omega
      · next c =>
        have hle : PX (tI X) (tI Y) mn (Kc ac) s p h ≤ mn s := hle
        exact ne _ (by omega)
    omega
  have loop : ∀ n i fo, n + i = mn s + 1 → fl_R_cellAt_1 u (eX X) (eX Y) (oX X) (oX Y) ac mn s x up n i fo = if i ≤ PX (tI X) (tI Y) mn (Kc ac) s p h then nI (21 * s + PX (tI X) (tI Y) mn (Kc ac) s p h) else fo := by
    intro n
    induction n with
    | zero =>
      intro i fo hn
      have hle : PX (tI X) (tI Y) mn (Kc ac) s p h ≤ mn s := hle
      show fo = _
      rw [if_neg (by omega)]
    | succ n ih =>
      intro i fo hn
      show fb_R_cellAt_1 u (eX X) (eX Y) (oX X) (oX Y) ac mn s x up (fl_R_cellAt_1 u (eX X) (eX Y) (oX X) (oX Y) ac mn s x up n) i fo = _
      unfold fb_R_cellAt_1
      have l1 := less_rep (Rep_floor hG hX hY hC hs (show i ≤ mn s by omega) hx) hu
      have l2 := less_rep hu (Rep_roof hG hX hY hC hs (show i ≤ mn s by omega) hx)
      by_cases e : i = PX (tI X) (tI Y) mn (Kc ac) s p h
      · rw [if_pos (l1.mpr (by rw [e]; exact a3)), if_pos (l2.mpr (by rw [e]; exact a2)), ih _ _ (by omega), if_neg (by omega), if_pos (by omega), e]
      · have skip : fl_R_cellAt_1 u (eX X) (eX Y) (oX X) (oX Y) ac mn s x up n (i + 1) fo = if i ≤ PX (tI X) (tI Y) mn (Kc ac) s p h then nI (21 * s + PX (tI X) (tI Y) mn (Kc ac) s p h) else fo := by
          rw [ih _ _ (by omega)]
          by_cases z : i + 1 ≤ PX (tI X) (tI Y) mn (Kc ac) s p h
          · rw [if_pos z, if_pos (by omega)]
          · rw [if_neg z, if_neg (by omega)]
        by_cases c1 : f_R_less (f_R_floorRise u (eX X) (eX Y) (oX X) (oX Y) ac s i x) (f_R_floorWidth u (eX X) (eX Y) (oX X) (oX Y) ac s i) up 2 = true
        · rw [if_pos c1]
          by_cases c2 : f_R_less up 2 (f_R_roofRise u (eX X) (eX Y) (oX X) (oX Y) ac mn s i x) (f_R_roofWidth u (eX X) (eX Y) (oX X) (oX Y) ac mn s i) = true
          · exfalso
            exact e (cp_cut mX (show i ≤ mn s by omega) (Int.le_of_lt (l1.mp c1)) (l2.mp c2)).symm
          · rw [if_neg c2]; exact skip
        · rw [if_neg c1]; exact skip
  have := loop (mn s + 1) 0 (-1) (by omega)
  rw [if_pos (Nat.zero_le _)] at this
  exact this
theorem strip_fl {x : Int32} {L : Nat} {l : Nat → Int32} : ∀ n t, n + t = L → t ≤ fl_R_faceAt_1 x n t L l ∧ fl_R_faceAt_1 x n t L l ≤ L ∧ (∀ i, t ≤ i → i < fl_R_faceAt_1 x n t L l → ¬ x < l i) ∧ (fl_R_faceAt_1 x n t L l < L → x < l (fl_R_faceAt_1 x n t L l)) := by
  intro n
  induction n with
  | zero => intro t h; exact ⟨Nat.le_refl _, by show t ≤ L; omega, fun i h1 h2 => absurd h2 (by show ¬ i < t; omega), fun z => absurd z (by show ¬ t < L; omega)⟩
  | succ n ih =>
    intro t h
    have e : fl_R_faceAt_1 x (n + 1) t L l = if x < l t then t else fl_R_faceAt_1 x n (t + 1) L l := rfl
    rw [e]
    by_cases c : x < l t
    · rw [if_pos c]; exact ⟨Nat.le_refl _, by omega, fun i h1 h2 => by omega, fun _ => c⟩
    · rw [if_neg c]
      obtain ⟨a, b, d, f⟩ := ih (t + 1) (by omega)
      refine ⟨by omega, b, fun i h1 h2 => ?_, f⟩
      by_cases z : i = t
      · rw [z]; exact c
      · exact d i (by omega) h2
/-- the strip of a point -/
theorem strip_at {x : Int32} (L : Nat) (l : Nat → Int32) : fl_R_faceAt_1 x L 0 L l ≤ L ∧ (0 < fl_R_faceAt_1 x L 0 L l → tI l (fl_R_faceAt_1 x L 0 L l - 1) ≤ x.toInt) ∧ (fl_R_faceAt_1 x L 0 L l < L → x.toInt < tI l (fl_R_faceAt_1 x L 0 L l)) := by
  obtain ⟨a, b, c, d⟩ := strip_fl (x := x) (L := L) (l := l) L 0 (by omega)
  refine ⟨b, fun z => ?_, fun z => Int32.lt_iff_toInt_lt.mp (d z)⟩
  have := c (fl_R_faceAt_1 x L 0 L l - 1) (by omega) (by omega)
  rw [Int32.lt_iff_toInt_lt] at this
  show (l (fl_R_faceAt_1 x L 0 L l - 1)).toInt ≤ x.toInt
  omega
/-- a free point is on no segment across its strip, and in no upright -/
theorem free_off (hG : Geo u (tI X) (tI Y)) (hC : Cells u (tI X) (tI Y) m (tI ln) mn (Kc ac)) {x y : Int} (hF : Free u (tI X) (tI Y) x y) {s a : Nat} (hs : s ≤ m) (ha : a < mn s) (h0 : 0 < s → tI ln (s - 1) ≤ x) (h1 : s < m → x < tI ln s) : Hh (tI X) (tI Y) (Kc ac s a) x ≠ Qf * y := by
  intro e
  obtain ⟨c0, cm, c1, c2, c3, c4, c5, c6⟩ := hC.at hG hs ha
  have x0 := h0 c0
  have x1 := h1 cm
  obtain ⟨f1, f2⟩ := hF _ c1 c2
  have hl := (lf_zero (ty := tI Y) c6 x y).mpr e
  by_cases z : x = tI X (2 * Kc ac s a)
  · rw [z, Hh_left] at e
    exact f1 (Or.inl ⟨z, (Qf_inj e).symm⟩)
  · exact f2 ⟨hl, (ins_flat c6 hl).mpr ⟨by omega, by omega⟩⟩
theorem free_up (hG : Geo u (tI X) (tI Y)) {lx : Nat → Int} {x y : Int} (hF : Free u (tI X) (tI Y) x y) {t : Nat} (e : lx t = x) : freeA u (tI X) (tI Y) lx t (Qf * y) := by
  intro k hk hu h1 h2 ⟨q1, q2⟩
  obtain ⟨f1, f2⟩ := hF k hk hu
  have p1 := Qf_le.mp q1
  have p2 := Qf_lt.mp q2
  by_cases z : y = tI Y (2 * k)
  · exact f1 (Or.inl ⟨by omega, z⟩)
  · exact f2 ((ins_up h1 (by omega) _ _).mpr ⟨by omega, by omega, p2⟩)
theorem Rep_2y {y : Int32} {q : Int} (hy : Is y q 100) : Rep (2 * y) 2 (Qf * q) := ⟨2 * q, 2, Is_up (Is_mul Is_2 hy (by decide)) (by decide), Is_up Is_2 (by decide), by decide, by grind⟩
/-- the cell of a free point -/
theorem faceAt_cell (hG : Geo u (tI X) (tI Y)) (hX : Bd X) (hY : Bd Y) (hC : Cells u (tI X) (tI Y) m (tI ln) mn (Kc ac)) {x y : Int32} {p q : Int} (hx : Is x p 100) (hy : Is y q 100) (hF : Free u (tI X) (tI Y) p q) : f_R_cellAt u (eX X) (eX Y) (oX X) (oX Y) ac mn (fl_R_faceAt_1 x m 0 m ln) x (2 * y) = nI (21 * fl_R_faceAt_1 x m 0 m ln + PX (tI X) (tI Y) mn (Kc ac) (fl_R_faceAt_1 x m 0 m ln) p (Qf * q)) := by
  obtain ⟨a, b, c⟩ := strip_at (x := x) m ln
  rw [hx.1] at b c
  have q1 : Qf * (-1000000) < Qf * q := Qf_lt.mpr (by have := hy.2.1; omega)
  have q2 : Qf * q < Qf * 1000000 := Qf_lt.mpr (by have := hy.2.2; omega)
  exact cellAt_spec hG hX hY hC a hx b (fun z => Int.le_of_lt (c z)) (Rep_2y hy) (fun i hi => free_off hG hC hF a hi b c) q1 q2
theorem first_line (hs : Srt m ln) {aX : Nat → Int32} {k t : Nat} (ht : t < m) (e : ln t = aX k) : ∀ n s, n + s = m - 1 → s ≤ t → fl_R_faceBy_1 aX ln k n s = t := by
  intro n
  induction n with
  | zero => intro s h h2; show s = t; omega
  | succ n ih =>
    intro s h h2
    have e0 : fl_R_faceBy_1 aX ln k (n + 1) s = if ln s = aX k then s else fl_R_faceBy_1 aX ln k n (s + 1) := rfl
    rw [e0]
    by_cases c : ln s = aX k
    · rw [if_pos c]
      rcases Nat.lt_or_ge s t with z | z
      · have := hs s t z ht
        unfold tI at this
        rw [c, e] at this; omega
      · omega
    · rw [if_neg c]
      exact ih (s + 1) (by omega) (by
        rcases Nat.lt_or_ge s t with z | z
        · omega
        · exact absurd (by rw [show s = t by omega]; exact e) c)
theorem first_seg {k s t : Nat} (hinj : ∀ i j, i < j → j < mn (s + 1) → ac (20 * (s + 1) + i) ≠ ac (20 * (s + 1) + j)) (ht : t < mn (s + 1)) (e : ac (20 * (s + 1) + t) = k) : ∀ n i, n + i = mn (s + 1) - 1 → i ≤ t → fl_R_faceBy_2 ac k n i s = t := by
  intro n
  induction n with
  | zero => intro i h h2; show i = t; omega
  | succ n ih =>
    intro i h h2
    have e0 : fl_R_faceBy_2 ac k (n + 1) i s = if ac (20 * (s + 1) + i) = k then i else fl_R_faceBy_2 ac k n (i + 1) s := rfl
    rw [e0]
    by_cases c : ac (20 * (s + 1) + i) = k
    · rw [if_pos c]
      rcases Nat.lt_or_ge i t with z | z
      · exact absurd (c.trans e.symm) (hinj i t z ht)
      · omega
    · rw [if_neg c]
      exact ih (i + 1) (by omega) (by
        rcases Nat.lt_or_ge i t with z | z
        · omega
        · exact absurd (by rw [show i = t by omega]; exact e) c)
/-- the cells beside an upright -/
theorem up_cells (hG : Geo u (tI X) (tI Y)) (hX : Bd X) (hY : Bd Y) (hC : Cells u (tI X) (tI Y) m (tI ln) mn (Kc ac)) {t e : Nat} (ht : t < m) (he : Up u (tI X) (tI Y) (tI ln t) (tI Y (2 * e)) e) {x : Int32} (hx : Is x (tI ln t) 100) : f_R_cellAt u (eX X) (eX Y) (oX X) (oX Y) ac mn t x (eX Y e + oX Y e) = nI (21 * t + PL (tI X) (tI Y) (tI ln) mn (Kc ac) t (Qf * tI Y (2 * e))) ∧ f_R_cellAt u (eX X) (eX Y) (oX X) (oX Y) ac mn (t + 1) x (eX Y e + oX Y e) = nI (21 * (t + 1) + PR (tI X) (tI Y) (tI ln) mn (Kc ac) t (Qf * tI Y (2 * e))) := by
  have hd : 0 < Qf / 2 := by have := Qf_half; have := Qf_pos; omega
  have ya : Is (eX Y e) (tI Y (2 * e)) 100 := Is_tI hY (by have := he.1; omega)
  have yb : Is (oX Y e) (tI Y (2 * e + 1)) 100 := Is_tI hY (by have := he.1; omega)
  have lt := he.2.2.1.2
  obtain ⟨h, hh⟩ : ∃ h, h = Qf / 2 * (tI Y (2 * e) + tI Y (2 * e + 1)) := ⟨_, rfl⟩
  have h2 : 2 * h = Qf * (tI Y (2 * e) + tI Y (2 * e + 1)) := by
    have := Qf_half
    rw [hh, ← Int.mul_assoc, this]
  have e1 : Qf * (tI Y (2 * e) + tI Y (2 * e + 1)) = Qf * tI Y (2 * e) + Qf * tI Y (2 * e + 1) := Int.mul_add _ _ _
  have ql := Qf_lt.mpr lt
  have w1 := Qf_le.mpr ya.2.1
  have w2 := Qf_le.mpr yb.2.2
  have s1 : Qf * (-1000000) < Qf * (-100) := Qf_lt.mpr (by decide)
  have s2 : Qf * 100 < Qf * 1000000 := Qf_lt.mpr (by decide)
  have hR : Rep (eX Y e + oX Y e) 2 h := ⟨_, 2, Is_up (Is_add ya yb (by decide)) (by decide), Is_up Is_2 (by decide), by decide, h2⟩
  -- no segment passes between its ends
  have btw : ∀ k, k < 20 → u k = true → flat (tI X) k → tI X (2 * k) ≤ tI ln t → tI ln t ≤ tI X (2 * k + 1) → ¬ (Qf * tI Y (2 * e) < Hh (tI X) (tI Y) k (tI ln t) ∧ Hh (tI X) (tI Y) k (tI ln t) < Qf * tI Y (2 * e + 1)) := by
    intro k hk hu fk k0 k1 ⟨q1, q2⟩
    have ex := he.2.2.2.1
    have hne : k ≠ e := fun z => by have := fk.1; have := he.2.2.1.1; rw [z] at *; omega
    have := (G4 he.2.2.1.1 lt fk (hG.2.2 k e hk he.1 hu he.2.1 hne) (by omega) (by omega) (by rw [ex]; omega) (by rw [ex]; omega)).1
    rw [ex] at this
    omega
  have mL := mono_L hG hC (t := t) (by omega)
  have mR := mono_R hG hC ht
  have bL : ∀ a, a < mn t → ¬ (Qf * tI Y (2 * e) < fL (tI X) (tI Y) (tI ln) (Kc ac) t a ∧ fL (tI X) (tI Y) (tI ln) (Kc ac) t a < Qf * tI Y (2 * e + 1)) := fun a ha => by
    obtain ⟨_, _, c1, c2, c3, c4, c5, c6⟩ := hC.at hG (s := t) (by omega) ha
    exact btw _ c1 c2 c6 (by omega) c5
  have bR : ∀ a, a < mn (t + 1) → ¬ (Qf * tI Y (2 * e) < fR (tI X) (tI Y) (tI ln) (Kc ac) t a ∧ fR (tI X) (tI Y) (tI ln) (Kc ac) t a < Qf * tI Y (2 * e + 1)) := fun a ha => by
    obtain ⟨_, _, c1, c2, c3, c4, c5, c6⟩ := hC.at hG (s := t + 1) (by omega) ha
    rw [show t + 1 - 1 = t by omega] at c3 c4
    exact btw _ c1 c2 c6 c3 (by omega)
  have sL : PL (tI X) (tI Y) (tI ln) mn (Kc ac) t h = PL (tI X) (tI Y) (tI ln) mn (Kc ac) t (Qf * tI Y (2 * e)) := cp_same mL (by omega) (fun j hj q => by have := bL j hj; omega)
  have sR : PR (tI X) (tI Y) (tI ln) mn (Kc ac) t h = PR (tI X) (tI Y) (tI ln) mn (Kc ac) t (Qf * tI Y (2 * e)) := cp_same mR (by omega) (fun j hj q => by have := bR j hj; omega)
  constructor
  · rw [← sL]
    refine cellAt_spec hG hX hY hC (s := t) (by omega) hx (fun z => ?_) (fun _ => Int.le_refl _) hR (fun a ha q => ?_) (by omega) (by omega)
    · have := hC.1 (t - 1) t (by omega) ht; omega
    · have := bL a ha
      have q : fL (tI X) (tI Y) (tI ln) (Kc ac) t a = h := q
      omega
  · rw [← sR]
    refine cellAt_spec hG hX hY hC (s := t + 1) (by omega) hx (fun z => ?_) (fun z => ?_) hR (fun a ha q => ?_) (by omega) (by omega)
    · rw [show t + 1 - 1 = t by omega]; exact Int.le_refl _
    · have := hC.1 t (t + 1) (by omega) z; omega
    · have := bR a ha
      have q : fR (tI X) (tI Y) (tI ln) (Kc ac) t a = h := q
      omega
end LO
