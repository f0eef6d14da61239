/-! area, border, touches, at a free point -/
theorem sI_add {f g : Nat → Int} : ∀ n, sI (fun i => f i + g i) n = sI f n + sI g n := by
  intro n
  induction n with
  | zero => rfl
  | succ n ih => show sI (fun i => f i + g i) n + (f n + g n) = sI f n + f n + (sI g n + g n); rw [ih]; omega
section CO
variable {u : Nat → Bool} {X Y : Nat → Int32} {m : Nat} {ln : Nat → Int32} {ac mn sm : Nat → Nat} {L1 L2 : Nat → Nat}
/-- the arrows of a face -/
def Pb (u : Nat → Bool) (L1 : Nat → Nat) (sn a : Nat) : Bool := u (a / 2) && decide (L1 sn = L1 a)
theorem Pb_iff {sn a : Nat} : Pb u L1 sn a = true ↔ u (a / 2) = true ∧ L1 sn = L1 a := by
  unfold Pb
  rw [Bool.and_eq_true, decide_eq_true_iff]
theorem nxt_fst (hX : Bd X) (hY : Bd Y) {a b : Nat} (ha : a < 40) (ua : u (a / 2) = true) (h : Fst u (tI X) (tI Y) a b) : nxt u X Y a = tw b := by
  rw [nxt_sfn hX hY ha]
  obtain ⟨b1, b2, b3, b4, b5⟩ := h
  have w : ∀ {Z : Nat → Int32}, Bd Z → Wn 200 (tI Z (tw a) - tI Z a) := fun hZ => ⟨by have := (hZ (tw a) (tw_lt ha)).1; have := (hZ a ha).2; unfold tI; omega, by have := (hZ (tw a) (tw_lt ha)).2; have := (hZ a ha).1; unfold tI; omega⟩
  exact class_SF (u := u) hX hY a b _ _ (w hX) (w hY) ha ua b1 b2 b3 b4 b5
/-- tails and heads of a face's arrows are the same points -/
theorem tails_heads (h : Lnk u X Y L1 m ln ac mn sm) {sn : Nat} (g : Int → Int → Int) : sI (fun a => if Pb u L1 sn a = true then g (tI X a) (tI Y a) else 0) 40 = sI (fun a => if Pb u L1 sn a = true then g (tI X (tw a)) (tI Y (tw a)) else 0) 40 := by
  obtain ⟨hG, hX, hY, ⟨hC, hw, hV, hFa⟩, hI, hN⟩ := h
  have fs : ∀ a, a < 40 → u (a / 2) = true → ∃ b, Fst u (tI X) (tI Y) a b := fun a ha hu => ex_fst hG hC ha hu
  have key := sI_inj (P := Pb u L1 sn) (h := fun a => g (tI X (tw a)) (tI Y (tw a))) (m := 40) (nxt u X Y) 40 (Pb u L1 sn) (fun a ha hp => by
    obtain ⟨ua, la⟩ := Pb_iff.mp hp
    obtain ⟨b, hb⟩ := fs a ha ua
    have e := nxt_fst hX hY ha ua hb
    rw [e]
    refine ⟨tw_lt hb.1, Pb_iff.mpr ⟨by rw [tw_half]; exact hb.2.1, ?_⟩⟩
    have gf : GF u X Y a (nxt u X Y a) := fun R _ h2 _ => by
      have := h2 a ha ua
      rw [sfn_step hX hY ha] at this
      exact this
    rw [e] at gf
    have := (hN.2 a (tw b) (by omega) (by have := tw_lt hb.1; omega)).mpr gf
    rw [la, this]) (fun a c ha hc hpa hpc e => by
    obtain ⟨ua, _⟩ := Pb_iff.mp hpa
    obtain ⟨uc, _⟩ := Pb_iff.mp hpc
    obtain ⟨b, hb⟩ := fs a ha ua
    obtain ⟨d, hd⟩ := fs c hc uc
    rw [nxt_fst hX hY ha ua hb, nxt_fst hX hY hc uc hd] at e
    have e2 : b = d := by rw [← tw_tw b, e, tw_tw]
    rw [← e2] at hd
    exact fst_inj hG ha ua hc uc hb hd) rfl
  rw [← key]
  refine sI_congr 40 (fun a ha => ?_)
  by_cases c : Pb u L1 sn a = true
  · rw [if_pos c, if_pos c]
    obtain ⟨ua, _⟩ := Pb_iff.mp c
    obtain ⟨b, hb⟩ := fs a ha ua
    show _ = g (tI X (tw (nxt u X Y a))) (tI Y (tw (nxt u X Y a)))
    rw [nxt_fst hX hY ha ua hb, tw_tw, hb.2.2.1, hb.2.2.2.1]
  · rw [if_neg c, if_neg c]
def swp (X Y : Nat → Int32) (a : Nat) : Int := cr (tI X a) (tI Y a) (tI X (tw a)) (tI Y (tw a))
theorem area_A (hX : Bd X) (hY : Bd Y) (hL : Led 41 L1) {sn : Nat} (hs : sn < 41) {x y : Int32} : ∀ n a acc, n + a = 40 → Is acc (sI (fun a => if Pb u L1 sn a = true then swp X Y a else 0) a) ((a : Int) * 20000) → Is (fl_A_area u X Y L1 L2 x y n a sn acc) (sI (fun a => if Pb u L1 sn a = true then swp X Y a else 0) 40) 800000 := by
  intro n
  induction n with
  | zero => intro a acc h hI; rw [show a = 40 by omega] at hI; exact hI
  | succ n ih =>
    intro a acc h hI
    have ha : a < 40 := by omega
    show Is (fb_A_area u X Y L1 L2 x y (fl_A_area u X Y L1 L2 x y n) a sn acc) _ 800000
    unfold fb_A_area f_M_hasArrow
    have sw : Is (f_M_sweep u X Y a) (swp X Y a) 20000 := Is_cross (Is_tI hX ha) (Is_tI hY ha) (Is_tI hX (tw_lt ha)) (Is_tI hY (tw_lt ha)) (by decide) (by decide)
    have skip : ¬ Pb u L1 sn a = true → Is (fl_A_area u X Y L1 L2 x y n (a + 1) sn acc) (sI (fun a => if Pb u L1 sn a = true then swp X Y a else 0) 40) 800000 := fun hp => by
      refine ih (a + 1) acc (by omega) ?_
      show Is acc (sI (fun a => if Pb u L1 sn a = true then swp X Y a else 0) a + (if Pb u L1 sn a = true then swp X Y a else 0)) _
      rw [if_neg hp, Int.add_zero]
      exact Is_up hI (by omega)
    by_cases c1 : u (a / 2) = true
    · rw [if_pos c1]
      by_cases c2 : f_G_together 41 L1 sn a = true
      · rw [if_pos c2]
        have hp := Pb_iff.mpr ⟨c1, (together_iff hL (by decide) hs (by omega)).mp c2⟩
        refine ih (a + 1) _ (by omega) ?_
        show Is (acc + f_M_sweep u X Y a) (sI (fun a => if Pb u L1 sn a = true then swp X Y a else 0) a + (if Pb u L1 sn a = true then swp X Y a else 0)) _
        rw [if_pos hp]
        exact Is_up (Is_add hI sw (by omega)) (by omega)
      · rw [if_neg c2]
        exact skip (fun z => c2 ((together_iff hL (by decide) hs (by omega)).mpr (Pb_iff.mp z).2))
    · rw [if_neg c1]
      exact skip (fun z => c1 (Pb_iff.mp z).1)
def udr (X Y : Nat → Int32) (k : Nat) : Int := (tI X (2 * k + 1) - tI X (2 * k)) * (tI Y (2 * k) + tI Y (2 * k + 1))
def rgt (u : Nat → Bool) (X Y : Nat → Int32) (L1 : Nat → Nat) (sn k : Nat) : Int := (if Pb u L1 sn (2 * k + 1) = true then udr X Y k else 0) - (if Pb u L1 sn (2 * k) = true then udr X Y k else 0)
/-- the face at a point, and the sides of a segment -/
theorem side_face (h : Lnk u X Y L1 m ln ac mn sm) {sn f : Nat} (hs : sn < 41) (hf : Fc u X Y m ln ac mn sm sn f) {k : Nat} (hk : k < 20) (hu : u k = true) : (nI (f_R_faceBy u (eX X) (eX Y) (oX X) (oX Y) m ln ac mn sm k 1) = nI f ↔ Pb u L1 sn (2 * k) = true) ∧ (nI (f_R_faceBy u (eX X) (eX Y) (oX X) (oX Y) m ln ac mn sm k 2) = nI f ↔ Pb u L1 sn (2 * k + 1) = true) := by
  obtain ⟨f1, f2, _⟩ := Fc_sides h hk hu
  have hI := h.2.2.2.2.1
  have l0 := Fc_lt hI hf
  have l1 := Fc_lt hI f1
  have l2 := Fc_lt hI f2
  have e1 : (2 * k) / 2 = k := by omega
  have e2 : (2 * k + 1) / 2 = k := by omega
  constructor
  · rw [nI_eq (by omega) (by omega), Pb_iff, e1, Fc_link h hs (by omega) hf f1]
    exact ⟨fun q => ⟨hu, q.symm⟩, fun q => q.2.symm⟩
  · rw [nI_eq (by omega) (by omega), Pb_iff, e2, Fc_link h hs (by omega) hf f2]
    exact ⟨fun q => ⟨hu, q.symm⟩, fun q => q.2.symm⟩
theorem area_R (h : Lnk u X Y L1 m ln ac mn sm) {sn f : Nat} (hs : sn < 41) (hf : Fc u X Y m ln ac mn sm sn f) {kn : Bool} : ∀ n k acc, n + k = 20 → Is acc (sI (rgt u X Y L1 sn) k) ((k : Int) * 80000) → Is (fl_R_area_1 u (eX X) (eX Y) (oX X) (oX Y) n k f acc kn m ln ac mn sm).1 (sI (rgt u X Y L1 sn) 20) 1600000 ∧ (fl_R_area_1 u (eX X) (eX Y) (oX X) (oX Y) n k f acc kn m ln ac mn sm).2 = (kn, m, ln, ac, mn, sm) := by
  intro n
  induction n with
  | zero => intro k acc hn hI; rw [show k = 20 by omega] at hI; exact ⟨hI, rfl⟩
  | succ n ih =>
    intro k acc hn hI
    have hk : k < 20 := by omega
    have hX := h.2.1
    have hY := h.2.2.1
    show Is (fb_R_area_1 u (eX X) (eX Y) (oX X) (oX Y) (fl_R_area_1 u (eX X) (eX Y) (oX X) (oX Y) n) k f acc kn m ln ac mn sm).1 _ _ ∧ (fb_R_area_1 u (eX X) (eX Y) (oX X) (oX Y) (fl_R_area_1 u (eX X) (eX Y) (oX X) (oX Y) n) k f acc kn m ln ac mn sm).2 = _
    unfold fb_R_area_1
    have ud : Is ((oX X k - eX X k) * (eX Y k + oX Y k)) (udr X Y k) 40000 := Is_mul (Is_sub (Is_tI hX (by omega)) (Is_tI hX (by omega)) (by decide)) (Is_add (Is_tI hY (by omega)) (Is_tI hY (by omega)) (by decide)) (by decide)
    have step : ∀ acc' p q, Is acc' (sI (rgt u X Y L1 sn) k + p - q) ((k : Int) * 80000 + 40000 + 40000) → rgt u X Y L1 sn k = p - q → Is (fl_R_area_1 u (eX X) (eX Y) (oX X) (oX Y) n (k + 1) f acc' kn m ln ac mn sm).1 (sI (rgt u X Y L1 sn) 20) 1600000 ∧ (fl_R_area_1 u (eX X) (eX Y) (oX X) (oX Y) n (k + 1) f acc' kn m ln ac mn sm).2 = (kn, m, ln, ac, mn, sm) := fun acc' p q h1 h2 => by
      refine ih (k + 1) acc' (by omega) ?_
      show Is acc' (sI (rgt u X Y L1 sn) k + rgt u X Y L1 sn k) _
      rw [h2, show sI (rgt u X Y L1 sn) k + (p - q) = sI (rgt u X Y L1 sn) k + p - q by omega]
      exact Is_up h1 (by omega)
    have e1 : (2 * k) / 2 = k := by omega
    have e2 : (2 * k + 1) / 2 = k := by omega
    have z0 : Is (0 : Int32) 0 40000 := Is_up Is_0 (by decide)
    by_cases c1 : u k = true
    · rw [if_pos c1]
      obtain ⟨s1, s2⟩ := side_face h hs hf hk c1
      by_cases c2 : f_R_isUpright u (eX X) (eX Y) (oX X) (oX Y) k = true
      · rw [if_pos c2]
        have up := upright_iff.mp c2
        have u0 : udr X Y k = 0 := by unfold udr; rw [up, Int.sub_self, Int.zero_mul]
        refine step acc 0 0 (by rw [Int.add_zero, Int.sub_zero]; exact Is_up hI (by omega)) ?_
        unfold rgt; rw [u0]; split <;> split <;> rfl
      · rw [if_neg c2]
        by_cases c3 : nI (f_R_faceBy u (eX X) (eX Y) (oX X) (oX Y) m ln ac mn sm k 2) = nI f
        · rw [if_pos c3]
          have p2 := s2.mp c3
          by_cases c4 : nI (f_R_faceBy u (eX X) (eX Y) (oX X) (oX Y) m ln ac mn sm k 1) = nI f
          · rw [if_pos c4]
            have p1 := s1.mp c4
            exact step _ (udr X Y k) (udr X Y k) (Is_sub (Is_add hI ud (by omega)) ud (by omega)) (by unfold rgt; rw [if_pos p1, if_pos p2])
          · rw [if_neg c4]
            have p1 : ¬ Pb u L1 sn (2 * k) = true := fun z => c4 (s1.mpr z)
            exact step _ (udr X Y k) 0 (Is_sub (Is_add hI ud (by omega)) z0 (by omega)) (by unfold rgt; rw [if_neg p1, if_pos p2])
        · rw [if_neg c3]
          have p2 : ¬ Pb u L1 sn (2 * k + 1) = true := fun z => c3 (s2.mpr z)
          by_cases c4 : nI (f_R_faceBy u (eX X) (eX Y) (oX X) (oX Y) m ln ac mn sm k 1) = nI f
          · rw [if_pos c4]
            have p1 := s1.mp c4
            exact step _ 0 (udr X Y k) (Is_sub (Is_add hI z0 (by omega)) ud (by omega)) (by unfold rgt; rw [if_pos p1, if_neg p2])
          · rw [if_neg c4]
            have p1 : ¬ Pb u L1 sn (2 * k) = true := fun z => c4 (s1.mpr z)
            exact step _ 0 0 (Is_sub (Is_add hI z0 (by omega)) z0 (by omega)) (by unfold rgt; rw [if_neg p1, if_neg p2])
    · rw [if_neg c1]
      refine step acc 0 0 (by rw [Int.add_zero, Int.sub_zero]; exact Is_up hI (by omega)) ?_
      have p1 : ¬ Pb u L1 sn (2 * k) = true := fun z => c1 (by have := (Pb_iff.mp z).1; rw [e1] at this; exact this)
      have p2 : ¬ Pb u L1 sn (2 * k + 1) = true := fun z => c1 (by have := (Pb_iff.mp z).1; rw [e2] at this; exact this)
      unfold rgt; rw [if_neg p1, if_neg p2]
theorem area_sum (h : Lnk u X Y L1 m ln ac mn sm) {sn : Nat} : sI (fun a => if Pb u L1 sn a = true then swp X Y a else 0) 40 = sI (rgt u X Y L1 sn) 20 := by
  have th := tails_heads h (sn := sn) (fun x y => x * y)
  have d := sI_sub (f := fun a => if Pb u L1 sn a = true then tI X a * tI Y a else 0) (g := fun a => if Pb u L1 sn a = true then tI X (tw a) * tI Y (tw a) else 0) 40
  rw [th, Int.sub_self] at d
  have t1 := sI_two (f := fun a => if Pb u L1 sn a = true then swp X Y a else 0) 20
  have t2 := sI_two (f := fun a => (if Pb u L1 sn a = true then tI X a * tI Y a else 0) - (if Pb u L1 sn a = true then tI X (tw a) * tI Y (tw a) else 0)) 20
  rw [show 2 * 20 = 40 from rfl] at t1 t2
  rw [d] at t2
  have s := sI_add (f := fun k => (if Pb u L1 sn (2 * k) = true then swp X Y (2 * k) else 0) + (if Pb u L1 sn (2 * k + 1) = true then swp X Y (2 * k + 1) else 0)) (g := fun k => ((if Pb u L1 sn (2 * k) = true then tI X (2 * k) * tI Y (2 * k) else 0) - (if Pb u L1 sn (2 * k) = true then tI X (tw (2 * k)) * tI Y (tw (2 * k)) else 0)) + ((if Pb u L1 sn (2 * k + 1) = true then tI X (2 * k + 1) * tI Y (2 * k + 1) else 0) - (if Pb u L1 sn (2 * k + 1) = true then tI X (tw (2 * k + 1)) * tI Y (tw (2 * k + 1)) else 0))) 20
  rw [← t2, Int.add_zero, ← t1] at s
  rw [← s]
  refine sI_congr 20 (fun k _ => ?_)
  unfold rgt udr swp cr
  rw [tw_even, tw_odd]
  by_cases c1 : Pb u L1 sn (2 * k) = true <;> by_cases c2 : Pb u L1 sn (2 * k + 1) = true
  · simp only [c1, c2, if_true]; grind
  · simp only [c1, c2, if_true]; grind
  · simp only [c1, c2, if_true]; grind
  · simp only [c1, c2]; rfl
theorem area_core (h : Lnk u X Y L1 m ln ac mn sm) {sn f : Nat} (hs : sn < 41) (hf : Fc u X Y m ln ac mn sm sn f) {kn : Bool} {x y : Int32} : fl_A_area u X Y L1 L2 x y 40 0 sn 0 = (fl_R_area_1 u (eX X) (eX Y) (oX X) (oX Y) 20 0 f 0 kn m ln ac mn sm).1 ∧ (fl_R_area_1 u (eX X) (eX Y) (oX X) (oX Y) 20 0 f 0 kn m ln ac mn sm).2 = (kn, m, ln, ac, mn, sm) := by
  have a := area_A (u := u) (L2 := L2) (x := x) (y := y) h.2.1 h.2.2.1 h.2.2.2.2.2.1 hs 40 0 0 rfl (Is_up Is_0 (by decide))
  have b := area_R h hs hf (kn := kn) 20 0 0 rfl (Is_up Is_0 (by decide))
  exact ⟨(Is_eq a b.1).mpr (area_sum h), b.2⟩
/-! border -/
theorem sides_val (h : Lnk u X Y L1 m ln ac mn sm) {sn f : Nat} (hs : sn < 41) (hf : Fc u X Y m ln ac mn sm sn f) {k : Nat} (hk : k < 20) (hu : u k = true) : f_R_sides u (eX X) (eX Y) (oX X) (oX Y) m ln ac mn sm k (nI f) = (if Pb u L1 sn (2 * k) = true then 1 else 0) + (if Pb u L1 sn (2 * k + 1) = true then 2 else 0) := by
  obtain ⟨s1, s2⟩ := side_face h hs hf hk hu
  unfold f_R_sides
  by_cases c1 : Pb u L1 sn (2 * k) = true <;> by_cases c2 : Pb u L1 sn (2 * k + 1) = true
  · rw [if_pos (s1.mpr c1), if_pos (s2.mpr c2), if_pos c1, if_pos c2]
  · rw [if_pos (s1.mpr c1), if_neg (fun z => c2 (s2.mp z)), if_pos c1, if_neg c2]
  · rw [if_neg (fun z => c1 (s1.mp z)), if_pos (s2.mpr c2), if_neg c1, if_pos c2]
  · rw [if_neg (fun z => c1 (s1.mp z)), if_neg (fun z => c2 (s2.mp z)), if_neg c1, if_neg c2]
theorem border_step (hL : Led 41 L1) {sn : Nat} (hs : sn < 41) {x y : Int32} (rec : Nat → Nat → Nat → Int32) {a : Nat} (ha : a < 41) (c : Nat) : fb_A_border u X Y L1 L2 x y rec a sn c = rec (a + 1) sn (c + if Pb u L1 sn a = true then 1 else 0) := by
  unfold fb_A_border f_M_hasArrow
  by_cases c1 : u (a / 2) = true
  · rw [if_pos c1]
    by_cases c2 : f_G_together 41 L1 sn a = true
    · rw [if_pos c2, if_pos (Pb_iff.mpr ⟨c1, (together_iff hL (by decide) hs ha).mp c2⟩)]
    · rw [if_neg c2, if_neg (fun z => c2 ((together_iff hL (by decide) hs ha).mpr (Pb_iff.mp z).2))]; rfl
  · rw [if_neg c1, if_neg (fun z => c1 (Pb_iff.mp z).1)]; rfl
theorem border_core (h : Lnk u X Y L1 m ln ac mn sm) {sn f : Nat} (hs : sn < 41) (hf : Fc u X Y m ln ac mn sm sn f) {kn : Bool} {x y : Int32} : ∀ n k c, n + k = 20 → fl_R_border_1 u (eX X) (eX Y) (oX X) (oX Y) n k f c kn m ln ac mn sm = (fl_A_border u X Y L1 L2 x y (2 * n) (2 * k) sn c, kn, m, ln, ac, mn, sm) := by
  intro n
  induction n with
  | zero => intro k c _; rfl
  | succ n ih =>
    intro k c hn
    have hk : k < 20 := by omega
    have hL := h.2.2.2.2.2.1
    show fb_R_border_1 u (eX X) (eX Y) (oX X) (oX Y) (fl_R_border_1 u (eX X) (eX Y) (oX X) (oX Y) n) k f c kn m ln ac mn sm = (fb_A_border u X Y L1 L2 x y (fb_A_border u X Y L1 L2 x y (fl_A_border u X Y L1 L2 x y (2 * n))) (2 * k) sn c, kn, m, ln, ac, mn, sm)
    rw [border_step hL hs _ (by omega), border_step hL hs _ (by omega), show 2 * k + 1 + 1 = 2 * (k + 1) by omega]
    unfold fb_R_border_1
    have e1 : (2 * k) / 2 = k := by omega
    have e2 : (2 * k + 1) / 2 = k := by omega
    by_cases c1 : u k = true
    · rw [if_pos c1, sides_val h hs hf hk c1]
      by_cases p1 : Pb u L1 sn (2 * k) = true <;> by_cases p2 : Pb u L1 sn (2 * k + 1) = true
      · rw [if_pos p1, if_pos p2, if_pos p2, if_pos rfl, ih (k + 1) _ (by omega)]
      · rw [if_pos p1, if_neg p2, if_neg p2, if_neg (by decide), if_neg (by decide), ih (k + 1) _ (by omega)]
      · rw [if_neg p1, if_pos p2, if_pos p2, if_neg (by decide), if_neg (by decide), ih (k + 1) _ (by omega)]
      · rw [if_neg p1, if_neg p2, if_neg p2, if_neg (by decide), if_pos (by decide), ih (k + 1) _ (by omega)]
    · have p1 : ¬ Pb u L1 sn (2 * k) = true := fun z => c1 (by have := (Pb_iff.mp z).1; rw [e1] at this; exact this)
      have p2 : ¬ Pb u L1 sn (2 * k + 1) = true := fun z => c1 (by have := (Pb_iff.mp z).1; rw [e2] at this; exact this)
      rw [if_neg c1, if_neg p1, if_neg p2, ih (k + 1) _ (by omega)]
theorem touches_core (h : Lnk u X Y L1 m ln ac mn sm) {sn f : Nat} (hs : sn < 41) (hf : Fc u X Y m ln ac mn sm sn f) {k : Nat} (hk : k < 20) (hu : u k = true) : (if f_G_together 41 L1 sn (2 * k) = true then (if f_G_together 41 L1 sn (2 * k + 1) = true then 3 else 1) else (if f_G_together 41 L1 sn (2 * k + 1) = true then 2 else 0) : Int32) = nI (f_R_sides u (eX X) (eX Y) (oX X) (oX Y) m ln ac mn sm k (nI f)) := by
  have hL := h.2.2.2.2.2.1
  rw [sides_val h hs hf hk hu]
  have t1 : f_G_together 41 L1 sn (2 * k) = true ↔ Pb u L1 sn (2 * k) = true := by
    rw [together_iff hL (by decide) hs (by omega), Pb_iff, show (2 * k) / 2 = k by omega]
    exact ⟨fun q => ⟨hu, q⟩, fun q => q.2⟩
  have t2 : f_G_together 41 L1 sn (2 * k + 1) = true ↔ Pb u L1 sn (2 * k + 1) = true := by
    rw [together_iff hL (by decide) hs (by omega), Pb_iff, show (2 * k + 1) / 2 = k by omega]
    exact ⟨fun q => ⟨hu, q⟩, fun q => q.2⟩
  rw [ifc t1, ifc t2, ifc t2]
  by_cases c1 : Pb u L1 sn (2 * k) = true <;> by_cases c2 : Pb u L1 sn (2 * k + 1) = true
  · rw [if_pos c1, if_pos c2, if_pos c1, if_pos c2]; rfl
  · rw [if_pos c1, if_neg c2, if_pos c1, if_neg c2]; rfl
  · rw [if_neg c1, if_pos c2, if_neg c1, if_pos c2]; rfl
  · rw [if_neg c1, if_neg c2, if_neg c1, if_neg c2]; rfl
end CO
