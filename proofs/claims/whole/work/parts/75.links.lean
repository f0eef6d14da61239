/-! Sides and faces -/
section LN
variable {u : Nat → Bool} {X Y : Nat → Int32} {m : Nat} {ln : Nat → Int32} {ac mn sm : Nat → Nat} {L1 L2 : Nat → Nat}
/-- side a borders on the face f of the reference -/
def Fc (u : Nat → Bool) (X Y : Nat → Int32) (m : Nat) (ln : Nat → Int32) (ac mn sm : Nat → Nat) (a f : Nat) : Prop := ∃ t j c, t ≤ m ∧ j ≤ mn t ∧ f = f_R_face sm (21 * t + j) ∧ Tc u (tI X) (tI Y) m (tI ln) mn (Kc ac) a c ∧ GS u (tI X) (tI Y) m (tI ln) mn (Kc ac) c (t, j)
/-- all that holds between the class and the reference, where the cells are known -/
def Lnk (u : Nat → Bool) (X Y : Nat → Int32) (L1 : Nat → Nat) (m : Nat) (ln : Nat → Int32) (ac mn sm : Nat → Nat) : Prop := Geo u (tI X) (tI Y) ∧ Bd X ∧ Bd Y ∧ Good u X Y m ln ac mn sm ∧ RInv m ac mn sm ∧ Nm 41 L1 (GF u X Y)
theorem Fc_link (h : Lnk u X Y L1 m ln ac mn sm) {a b f g : Nat} (ha : a < 41) (hb : b < 41) (h1 : Fc u X Y m ln ac mn sm a f) (h2 : Fc u X Y m ln ac mn sm b g) : L1 a = L1 b ↔ f = g := by
  obtain ⟨hG, hX, hY, ⟨hC, hw, hV, hF⟩, hI, hN⟩ := h
  obtain ⟨t, j, c, a1, a2, a3, a4, a5⟩ := h1
  obtain ⟨t', j', c', b1, b2, b3, b4, b5⟩ := h2
  have br : GF u X Y a b ↔ GS u (tI X) (tI Y) m (tI ln) mn (Kc ac) c c' := bridge hG hC (class_SF hX hY) (class_SA hG hX hY) a4 b4
  rw [hN.2 a b ha hb, br, a3, b3, hF t j t' j' a1 a2 b1 b2]
  have S := GS_ok (u := u) (tx := tI X) (ty := tI Y) (m := m) (lx := tI ln) (N := mn) (K := Kc ac)
  exact ⟨fun q => S.2.2.1 _ _ _ (S.2.1 _ _ a5) (S.2.2.1 _ _ _ q b5), fun q => S.2.2.1 _ _ _ a5 (S.2.2.1 _ _ _ q (S.2.1 _ _ b5))⟩
theorem Fc_lt (h : RInv m ac mn sm) {a f : Nat} (h1 : Fc u X Y m ln ac mn sm a f) : f < 861 := by
  obtain ⟨t, j, c, a1, a2, a3, _⟩ := h1
  rw [a3]
  have := h.1
  have := h.2.2.1 t
  exact face_lt sm _ (by omega) h.2.2.2.1
theorem Fc_far (h : Lnk u X Y L1 m ln ac mn sm) : Fc u X Y m ln ac mn sm 40 (f_R_face sm 0) := by
  have hC := h.2.2.2.1.1
  have n0 := hC.2.2.1.1
  exact ⟨0, 0, (0, mn 0), Nat.zero_le _, Nat.zero_le _, rfl, Or.inr (Or.inr ⟨0, Nat.zero_le _, rfl, rfl⟩), by rw [n0]; exact GS_ok.1 _⟩
/-- a free point -/
theorem Fc_point (h : Lnk u X Y L1 m ln ac mn sm) {x y : Int32} (n1 : f_R_near x = true) (n2 : f_R_near y = true) (hF : Free u (tI X) (tI Y) x.toInt y.toInt) : ¬ f_R_cellAt u (eX X) (eX Y) (oX X) (oX Y) ac mn (fl_R_faceAt_1 x m 0 m ln) x (2 * y) = -1 ∧ Fc u X Y m ln ac mn sm (sab u X Y x.toInt y.toInt) (f_R_face sm (f_R_cellAt u (eX X) (eX Y) (oX X) (oX Y) ac mn (fl_R_faceAt_1 x m 0 m ln) x (2 * y)).toNatClampNeg) := by
  obtain ⟨hG, hX, hY, ⟨hC, hw, hV, hFa⟩, hI, hN⟩ := h
  have hx := Is_near n1
  have hy := Is_near n2
  have e := faceAt_cell hG hX hY hC hx hy hF
  obtain ⟨s1, s2, s3⟩ := strip_at (x := x) m ln
  have hm := hI.1
  have hle : PX (tI X) (tI Y) mn (Kc ac) (fl_R_faceAt_1 x m 0 m ln) x.toInt (Qf * y.toInt) ≤ mn (fl_R_faceAt_1 x m 0 m ln) := cp_le _ _ _
  have h20 := hI.2.2.1 (fl_R_faceAt_1 x m 0 m ln)
  rw [e]
  refine ⟨nI_nm1 (by omega), ?_⟩
  rw [nI_clamp (by omega)]
  obtain ⟨c, c1, c2⟩ := point_touch hG hC (class_SF hX hY) (class_SA hG hX hY) GS_ok s1 s2 s3 hx.2 hy.2 (fun t _ et => free_up hG hF et)
  exact ⟨_, _, c, s1, hle, rfl, c1, c2⟩
/-- the sides of a segment -/
theorem Fc_sides (h : Lnk u X Y L1 m ln ac mn sm) {k : Nat} (hk : k < 20) (hu : u k = true) : Fc u X Y m ln ac mn sm (2 * k) (f_R_faceBy u (eX X) (eX Y) (oX X) (oX Y) m ln ac mn sm k 1) ∧ Fc u X Y m ln ac mn sm (2 * k + 1) (f_R_faceBy u (eX X) (eX Y) (oX X) (oX Y) m ln ac mn sm k 2) ∧ FBok u (eX X) (eX Y) (oX X) (oX Y) m ln ac mn k 1 ∧ FBok u (eX X) (eX Y) (oX X) (oX Y) m ln ac mn k 2 := by
  obtain ⟨hG, hX, hY, ⟨hC, hw, hV, hFa⟩, hI, hN⟩ := h
  have hm := hI.1
  obtain ⟨t, ht, et⟩ := (hC.2.1 k hk hu).1
  have et' : ln t = eX X k := (I32_eq _ _).mpr et
  have hs : Srt m ln := hC.1
  have fl := first_line hs ht et' (m - 1) 0 (by omega) (Nat.zero_le _)
  have h20 := hI.2.2.1 t
  have h21 := hI.2.2.1 (t + 1)
  have S := GS_ok (u := u) (tx := tI X) (ty := tI Y) (m := m) (lx := tI ln) (N := mn) (K := Kc ac)
  unfold FBok f_R_faceBy
  rw [fl]
  have n12 : ¬ (2 : Int32) = 1 := by decide
  by_cases cu : f_R_isUpright u (eX X) (eX Y) (oX X) (oX Y) k = true
  · have up := upright_iff.mp cu
    have hlt : tI Y (2 * k) < tI Y (2 * k + 1) := by rcases hG.1 k hk hu with z | z <;> omega
    have he : Up u (tI X) (tI Y) (tI ln t) (tI Y (2 * k)) k := ⟨hk, hu, ⟨up, hlt⟩, et.symm, rfl⟩
    have hx : Is (eX X k) (tI ln t) 100 := by rw [et]; exact Is_tI hX (by omega)
    obtain ⟨cL, cR⟩ := up_cells hG hX hY hC ht he hx
    have pl : PL (tI X) (tI Y) (tI ln) mn (Kc ac) t (Qf * tI Y (2 * k)) ≤ mn t := cp_le _ _ _
    have pr : PR (tI X) (tI Y) (tI ln) mn (Kc ac) t (Qf * tI Y (2 * k)) ≤ mn (t + 1) := cp_le _ _ _
    rw [if_pos cu, if_pos rfl, if_pos cu, if_neg n12, cL, cR, nI_clamp (by omega), nI_clamp (by omega)]
    refine ⟨⟨t, _, _, by omega, pl, rfl, Or.inr (Or.inl ⟨k, t, ht, he, Or.inl ⟨rfl, rfl⟩⟩), S.1 _⟩, ⟨t + 1, _, _, by omega, pr, rfl, Or.inr (Or.inl ⟨k, t, ht, he, Or.inr ⟨rfl, rfl⟩⟩), S.1 _⟩, ⟨⟨t, Nat.zero_le _, ht, et'⟩, fun _ _ => nI_nm1 (by omega), fun _ _ => nI_nm1 (by omega), fun z => absurd cu z⟩, ⟨t, Nat.zero_le _, ht, et'⟩, fun _ _ => nI_nm1 (by omega), fun _ _ => nI_nm1 (by omega), fun z => absurd cu z⟩
  · have nu : ¬ tI X (2 * k) = tI X (2 * k + 1) := fun z => cu (upright_iff.mpr z)
    have hf : tI X (2 * k) < tI X (2 * k + 1) := by rcases hG.1 k hk hu with z | z <;> omega
    obtain ⟨i, hi, ei⟩ := inst_R hG hC ht hk hu (by omega) (by omega)
    have ei' : ac (20 * (t + 1) + i) = k := ei
    have fs := first_seg (ac := ac) (mn := mn) (fun a b hab hb => hC.ne hG (s := t + 1) (by omega) hab hb) hi ei' (mn (t + 1) - 1) 0 (by omega) (Nat.zero_le _)
    rw [if_neg cu, if_pos rfl, if_neg cu, if_neg n12, fs]
    refine ⟨⟨t + 1, i + 1, _, by omega, by omega, rfl, Or.inl ⟨t + 1, i, by omega, hi, Or.inl ⟨by rw [ei], rfl⟩⟩, S.1 _⟩, ⟨t + 1, i, _, by omega, by omega, rfl, Or.inl ⟨t + 1, i, by omega, hi, Or.inr ⟨by rw [ei], rfl⟩⟩, S.1 _⟩, ⟨⟨t, Nat.zero_le _, ht, et'⟩, fun z => absurd z cu, fun z => absurd z cu, fun _ => ⟨i, Nat.zero_le _, hi, ei'⟩⟩, ⟨t, Nat.zero_le _, ht, et'⟩, fun z => absurd z cu, fun z => absurd z cu, fun _ => ⟨i, Nat.zero_le _, hi, ei'⟩⟩
theorem Fc_lo {s i : Nat} (hs : s ≤ m) (hi : i ≤ mn s) : Fc u X Y m ln ac mn sm (lo mn (Kc ac) s i) (f_R_face sm (21 * s + i)) := ⟨s, i, (s, i), hs, hi, rfl, lo_touch hs hi, GS_ok.1 _⟩
/-- a side there is: of a segment, or far off -/
theorem lo_used (h : Lnk u X Y L1 m ln ac mn sm) {s i : Nat} (hs : s ≤ m) : lo mn (Kc ac) s i = 40 ∨ (lo mn (Kc ac) s i < 40 ∧ u (lo mn (Kc ac) s i / 2) = true) := by
  by_cases c : i < mn s
  · obtain ⟨_, _, c1, c2, _⟩ := h.2.2.2.1.1.at h.1 hs c
    rw [lo_in c]
    exact Or.inr ⟨by omega, by rw [show (2 * Kc ac s i + 1) / 2 = Kc ac s i by omega]; exact c2⟩
  · exact Or.inl (lo_out c)
/-- a side that is joined with one that is there, is there -/
theorem GF_used {a b : Nat} (hG : Geo u (tI X) (tI Y)) (hX : Bd X) (hY : Bd Y) (h : GF u X Y a b) : (a = 40 ∨ (a < 40 ∧ u (a / 2) = true)) ↔ (b = 40 ∨ (b < 40 ∧ u (b / 2) = true)) := by
  have tw_ok : ∀ c, c < 40 → u (c / 2) = true → ((tw c) = 40 ∨ (tw c < 40 ∧ u (tw c / 2) = true)) := fun c hc hu => Or.inr ⟨tw_lt hc, by rw [tw_half]; exact hu⟩
  refine h (fun a b => (a = 40 ∨ (a < 40 ∧ u (a / 2) = true)) ↔ (b = 40 ∨ (b < 40 ∧ u (b / 2) = true))) ⟨fun _ => Iff.rfl, fun _ _ q => q.symm, fun _ _ _ q r => q.trans r⟩ (fun a ha hu => ?_) (fun a ha hu _ => ?_)
  · rw [sfn_step hX hY ha]
    obtain ⟨b, hb, ub, _, _, e⟩ := side_in (u := u) (X := X) (Y := Y) (w := a) (dx := f_M_stepX u X Y a) (dy := f_M_stepY u X Y a) ha hu
    rw [e]
    exact ⟨fun _ => tw_ok b hb ub, fun _ => Or.inr ⟨ha, hu⟩⟩
  · rw [sfn_up, sab_at (Is_tI hX ha) (Is_tI hY ha)]
    obtain ⟨b, hb, ub, _, _, e⟩ := side_in (u := u) (X := X) (Y := Y) (w := a) (dx := 0) (dy := 1) ha hu
    rw [e]
    refine ⟨fun _ => ?_, fun _ => tw_ok b hb ub⟩
    -- what lies above is of a segment, or far off
    rcases struck_best hG hX hY (Is_tI hX ha) (Is_tI hY ha) with ⟨q, _⟩ | ⟨k, hk, q, el, _⟩
    · left; unfold f_M_sideAbove; rw [if_pos q]
    · rw [side_eval hk q]
      have s1 := side_in (u := u) (X := X) (Y := Y) (w := 2 * k) (dx := 0) (dy := -1) (by omega) (by rw [show 2 * k / 2 = k by omega]; exact el.1)
      have s2 := side_in (u := u) (X := X) (Y := Y) (w := 2 * k + 1) (dx := 0) (dy := -1) (by omega) (by rw [show (2 * k + 1) / 2 = k by omega]; exact el.1)
      obtain ⟨b1, p1, p2, _, _, p3⟩ := s1
      obtain ⟨b2, r1, r2, _, _, r3⟩ := s2
      rw [p3, r3]
      have t1 := tw_ok b1 p1 p2
      have t2 := tw_ok b2 r1 r2
      have t3 : 2 * k + 1 = 40 ∨ (2 * k + 1 < 40 ∧ u ((2 * k + 1) / 2) = true) := Or.inr ⟨by omega, by rw [show (2 * k + 1) / 2 = k by omega]; exact el.1⟩
      split
      · split
        · exact t1
        · exact t2
      · split
        · split
          · exact t1
          · exact t2
        · exact t3
theorem together_iff {N : Nat} {L : Nat → Nat} (hL : Led N L) (hN : N < 100) {i j : Nat} (hi : i < N) (hj : j < N) : f_G_together N L i j = true ↔ L i = L j := by
  have a := (hL i hi).1
  have b := (hL j hj).1
  unfold f_G_together
  rw [ite_p, nI_eq (by omega) (by omega)]
/-! faces -/
theorem faces_A (hL : Led 41 L1) : f_A_faces u X Y L1 L2 = cnt (fun a => (decide (a = 40) || u (a / 2)) && f_G_isLeader 41 L1 a) 41 := by
  have key : ∀ c, fl_A_faces u X Y L1 L2 40 0 c = c + cnt (fun a => (decide (a = 40) || u (a / 2)) && f_G_isLeader 41 L1 a) 40 := by
    intro c
    have := cnt_A (N := 40) (fun a => (decide (a = 40) || u (a / 2)) && f_G_isLeader 41 L1 a) (fl_A_faces u X Y L1 L2) (fun _ _ => rfl) (fun n a c h => by
      show fb_A_faces u X Y L1 L2 (fl_A_faces u X Y L1 L2 n) a c = _
      unfold fb_A_faces f_M_hasArrow
      rw [decide_eq_false (show ¬ a = 40 by omega), Bool.false_or]
      cases h1 : u (a / 2)
      · rw [if_neg (by decide), Bool.false_and, if_neg (by decide)]; rfl
      · rw [if_pos rfl, Bool.true_and]
        split
        · rfl
        · rfl) 40 0 rfl c
    exact this
  unfold f_A_faces
  show _ = cnt (fun a => (decide (a = 40) || u (a / 2)) && f_G_isLeader 41 L1 a) 40 + if ((decide ((40 : Nat) = 40) || u (40 / 2)) && f_G_isLeader 41 L1 40) = true then 1 else 0
  rw [show ((decide ((40 : Nat) = 40) || u (40 / 2)) && f_G_isLeader 41 L1 40) = f_G_isLeader 41 L1 40 by rw [decide_eq_true rfl, Bool.true_or, Bool.true_and]]
  split
  · rw [key]; omega
  · rw [key]; omega
theorem faces2_ok {s : Nat} {S : Nat → Nat} {n0 : Nat} : ∀ n i c, n + i = n0 → fl_R_faces_2 s S n i (c + cnt (fun i => decide (S (21 * s + i) = 21 * s + i)) i) = c + cnt (fun i => decide (S (21 * s + i) = 21 * s + i)) n0 := fun n i c h => cnt_A (N := n0) (fun i => decide (S (21 * s + i) = 21 * s + i)) (fl_R_faces_2 s S) (fun _ _ => rfl) (fun n i c h => by
    show fb_R_faces_2 s S (fl_R_faces_2 s S n) i c = _
    unfold fb_R_faces_2
    rw [ifc (decide_eq_true_iff (p := S (21 * s + i) = 21 * s + i)).symm]
    split
    · rfl
    · rfl) n i h c
/-- cells that are their own face, counted by number -/
def rootB (mn sm : Nat → Nat) (c : Nat) : Bool := decide (c % 21 ≤ mn (c / 21)) && decide (sm c = c)
theorem cnt_split {P : Nat → Bool} (a : Nat) : ∀ b, cnt P (a + b) = cnt P a + cnt (fun i => P (a + i)) b := by
  intro b
  induction b with
  | zero => rfl
  | succ b ih =>
    show cnt P (a + b) + (if P (a + b) = true then 1 else 0) = cnt P a + (cnt (fun i => P (a + i)) b + (if P (a + b) = true then 1 else 0))
    rw [ih]; omega
theorem cnt_zero {P : Nat → Bool} : ∀ n, (∀ i, i < n → P i = false) → cnt P n = 0 := by
  intro n
  induction n with
  | zero => intro _; rfl
  | succ n ih => intro h; unfold cnt; rw [ih (fun i hi => h i (by omega)), h n (by omega)]; rfl
theorem strip_cnt {mn S : Nat → Nat} (hM : ∀ i, mn i ≤ 20) (s : Nat) : cnt (rootB mn S) (21 * (s + 1)) = cnt (rootB mn S) (21 * s) + cnt (fun i => decide (S (21 * s + i) = 21 * s + i)) (mn s + 1) := by
  have h20 := hM s
  rw [show 21 * (s + 1) = 21 * s + ((mn s + 1) + (20 - mn s)) by omega, cnt_split, cnt_split (mn s + 1) (20 - mn s)]
  have e1 : cnt (fun i => rootB mn S (21 * s + i)) (mn s + 1) = cnt (fun i => decide (S (21 * s + i) = 21 * s + i)) (mn s + 1) := cnt_congr _ (fun i hi => by
    unfold rootB
    rw [show (21 * s + i) % 21 = i by omega, show (21 * s + i) / 21 = s by omega, decide_eq_true (show i ≤ mn s by omega), Bool.true_and])
  have e2 : cnt (fun i => rootB mn S (21 * s + (mn s + 1 + i))) (20 - mn s) = 0 := cnt_zero _ (fun i hi => by
    unfold rootB
    rw [show (21 * s + (mn s + 1 + i)) % 21 = mn s + 1 + i by omega, show (21 * s + (mn s + 1 + i)) / 21 = s by omega, decide_eq_false (show ¬ mn s + 1 + i ≤ mn s by omega), Bool.false_and])
  rw [e1, e2]; rfl
theorem faces1_ok {u : Nat → Bool} {aX aY bX bY : Nat → Int32} {kn : Bool} {lns : Nat} {ln : Nat → Int32} {ac mn sm : Nat → Nat} {ls : Nat} {M S : Nat → Nat} (hM : ∀ i, M i ≤ 20) : ∀ n s, n + s = ls + 1 → (fl_R_faces_1 u aX aY bX bY kn lns ln ac mn sm n s (cnt (rootB M S) (21 * s)) ls M S) = (cnt (rootB M S) (21 * (ls + 1)), (f_R_look u aX aY bX bY kn lns ln ac mn sm).1, ls, (f_R_look u aX aY bX bY kn lns ln ac mn sm).2.2.1, (f_R_look u aX aY bX bY kn lns ln ac mn sm).2.2.2.1, M, S) := by
  intro n
  induction n with
  | zero => intro s h; rw [show s = ls + 1 by omega]; rfl
  | succ n ih =>
    intro s h
    show fl_R_faces_1 u aX aY bX bY kn lns ln ac mn sm n (s + 1) (fl_R_faces_2 s S (M s + 1) 0 (cnt (rootB M S) (21 * s))) ls M S = _
    have := faces2_ok (s := s) (S := S) (n0 := M s + 1) (M s + 1) 0 (cnt (rootB M S) (21 * s)) rfl
    have e0 : fl_R_faces_2 s S (M s + 1) 0 (cnt (rootB M S) (21 * s)) = cnt (rootB M S) (21 * s) + cnt (fun i => decide (S (21 * s + i) = 21 * s + i)) (M s + 1) := this
    rw [e0, ← strip_cnt hM s]
    exact ih (s + 1) (by omega)
theorem faces_R {u : Nat → Bool} {aX aY bX bY : Nat → Int32} {kn : Bool} {lns : Nat} {ln : Nat → Int32} {ac mn sm : Nat → Nat} (hM : ∀ i, (f_R_look u aX aY bX bY kn lns ln ac mn sm).2.2.2.2.1 i ≤ 20) : f_R_faces u aX aY bX bY kn lns ln ac mn sm = (cnt (rootB (f_R_look u aX aY bX bY kn lns ln ac mn sm).2.2.2.2.1 (f_R_look u aX aY bX bY kn lns ln ac mn sm).2.2.2.2.2) (21 * ((f_R_look u aX aY bX bY kn lns ln ac mn sm).2.1 + 1)), f_R_look u aX aY bX bY kn lns ln ac mn sm) := faces1_ok hM _ 0 (by omega)
/-- as many faces here as there -/
theorem faces_cnt (h : Lnk u X Y L1 m ln ac mn sm) : cnt (fun a => (decide (a = 40) || u (a / 2)) && f_G_isLeader 41 L1 a) 41 = cnt (rootB mn sm) (21 * (m + 1)) := by
  have hk := h
  obtain ⟨hG, hX, hY, ⟨hC, hw, hV, hFa⟩, hI, hN⟩ := h
  have hm := hI.1
  have hM := hI.2.2.1
  have und : ∀ {a b : Bool}, (a && b) = true ↔ a = true ∧ b = true := fun {a b} => by cases a <;> cases b <;> decide
  have dj : ∀ {a b : Bool}, (a || b) = true ↔ a = true ∨ b = true := fun {a b} => by cases a <;> cases b <;> decide
  have thr : ∀ a, a < 41 → (((decide (a = 40) || u (a / 2)) && f_G_isLeader 41 L1 a) = true ↔ (a = 40 ∨ (a < 40 ∧ u (a / 2) = true)) ∧ L1 a = a) := fun a ha => by
    rw [und, dj, decide_eq_true_iff, lead_iff hN.1 (by decide) ha]
    refine and_congr_left (fun _ => ⟨fun q => ?_, fun q => q.elim Or.inl (fun z => Or.inr z.2)⟩)
    rcases q with q | q
    · exact Or.inl q
    · by_cases e : a = 40
      · exact Or.inl e
      · exact Or.inr ⟨by omega, q⟩
  have rtB : ∀ c, rootB mn sm c = true ↔ c % 21 ≤ mn (c / 21) ∧ sm c = c := fun c => by
    unfold rootB; rw [und, decide_eq_true_iff, decide_eq_true_iff]
  -- each side that is there borders on a face
  have exF : ∀ a, ∃ f, (a = 40 ∨ (a < 40 ∧ u (a / 2) = true)) → Fc u X Y m ln ac mn sm a f := by
    intro a
    by_cases ha : a = 40 ∨ (a < 40 ∧ u (a / 2) = true)
    · rcases ha with e | ⟨e1, e2⟩
      · rw [e]; exact ⟨_, fun _ => Fc_far hk⟩
      · have s := Fc_sides hk (show a / 2 < 20 by omega) e2
        rcases (show a = 2 * (a / 2) ∨ a = 2 * (a / 2) + 1 by omega) with q | q
        · exact ⟨f_R_faceBy u (eX X) (eX Y) (oX X) (oX Y) m ln ac mn sm (a / 2) 1, fun _ => by have := s.1; rw [← q] at this; exact this⟩
        · exact ⟨f_R_faceBy u (eX X) (eX Y) (oX X) (oX Y) m ln ac mn sm (a / 2) 2, fun _ => by have := s.2.1; rw [← q] at this; exact this⟩
    · exact ⟨0, fun z => absurd z ha⟩
  have rootF : ∀ {a f}, Fc u X Y m ln ac mn sm a f → f < 21 * (m + 1) ∧ rootB mn sm f = true := by
    rintro a f ⟨t, j, c, a1, a2, a3, _⟩
    obtain ⟨s, i, v1, v2, v3⟩ := hV (21 * t + j) (Vl_at a1 a2)
    rw [← a3] at v3
    have := hM s
    refine ⟨by omega, (rtB f).mpr ⟨by rw [v3, show (21 * s + i) % 21 = i by omega, show (21 * s + i) / 21 = s by omega]; exact v2, ?_⟩⟩
    rw [a3]
    exact face_rt (hI.2.2.2.2 t a1 j a2)
  refine cnt_eq (fun a => Classical.choose (exF a)) (fun c => L1 (lo mn (Kc ac) (c / 21) (c % 21))) (fun a ha hp => ?_) (fun a b ha hb hpa hpb e => ?_) (fun c hc hp => ?_) (fun c d hc hd hpc hpd e => ?_)
  · exact rootF (Classical.choose_spec (exF a) ((thr a ha).mp hp).1)
  · have := (Fc_link hk ha hb (Classical.choose_spec (exF a) ((thr a ha).mp hpa).1) (Classical.choose_spec (exF b) ((thr b hb).mp hpb).1)).mpr e
    rw [((thr a ha).mp hpa).2, ((thr b hb).mp hpb).2] at this
    exact this
  · obtain ⟨p1, p2⟩ := (rtB c).mp hp
    have us := lo_used hk (s := c / 21) (i := c % 21) (by omega)
    have lt : lo mn (Kc ac) (c / 21) (c % 21) < 41 := by omega
    obtain ⟨l1, l2⟩ := hN.1 _ lt
    refine ⟨l1, (thr _ l1).mpr ⟨?_, l2⟩⟩
    exact (GF_used hG hX hY ((hN.2 _ _ lt l1).mp l2.symm)).mp us
  · obtain ⟨p1, p2⟩ := (rtB c).mp hpc
    obtain ⟨r1, r2⟩ := (rtB d).mp hpd
    have uc := lo_used hk (s := c / 21) (i := c % 21) (by omega)
    have ud := lo_used hk (s := d / 21) (i := d % 21) (by omega)
    have fc := Fc_lo (u := u) (X := X) (Y := Y) (ln := ln) (ac := ac) (sm := sm) (show c / 21 ≤ m by omega) p1
    have fd := Fc_lo (u := u) (X := X) (Y := Y) (ln := ln) (ac := ac) (sm := sm) (show d / 21 ≤ m by omega) r1
    have := (Fc_link hk (by omega) (by omega) fc fd).mp e
    rw [show 21 * (c / 21) + c % 21 = c by omega, show 21 * (d / 21) + d % 21 = d by omega, face_self p2, face_self r2] at this
    exact this
end LN
