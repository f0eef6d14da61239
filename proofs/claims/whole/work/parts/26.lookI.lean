theorem look1_le (u : Nat → Bool) (aX bX : Nat → Int32) : ∀ (n k1 ls1 : Nat) (l1 : Nat → Int32), k1 + n = 20 → ls1 ≤ 2 * k1 → (fl_R_look_1 u aX bX n k1 ls1 l1).1 ≤ 40 := by
  intro n
  induction n with
  | zero =>
    intro k1 ls1 l1 hk h
    show ls1 ≤ 40
    omega
  | succ n ih =>
    intro k1 ls1 l1 hk h
    show (fb_R_look_1 u aX bX (fl_R_look_1 u aX bX n) k1 ls1 l1).1 ≤ 40
    unfold fb_R_look_1
    have h1 := addLine_le ls1 l1 (aX k1)
    have h2 := addLine_le (f_R_addLine ls1 l1 (aX k1)).1 (f_R_addLine ls1 l1 (aX k1)).2 (bX k1)
    split
    · exact ih _ _ _ (by omega) (by omega)
    · exact ih _ _ _ (by omega) (by omega)
theorem look3_inv (s2 : Nat) (hs : s2 ≤ 40) : ∀ (n i3 : Nat) (mn3 sm3 : Nat → Nat), i3 + n = mn3 s2 + 1 → (∀ i, mn3 i ≤ 20) → (∀ i, sm3 i < 861) → initI sm3 mn3 s2 i3 → (∀ i, fl_R_look_3 s2 n i3 mn3 sm3 i < 861) ∧ initI (fl_R_look_3 s2 n i3 mn3 sm3) mn3 s2 (mn3 s2 + 1) := by
  intro n
  induction n with
  | zero => intro i3 mn3 sm3 hi hM hS hI; exact ⟨hS, init_to hI (by omega)⟩
  | succ n ih =>
    intro i3 mn3 sm3 hi hM hS hI
    have hm := hM s2
    exact ih (i3 + 1) mn3 (updN sm3 (21 * s2 + i3) (21 * s2 + i3)) (by omega) hM (updN_lt hS (by omega)) (init_step hM hI (by omega) (by omega))
theorem look2_inv (u : Nat → Bool) (aX aY bX bY : Nat → Int32) : ∀ (n s2 ls2 : Nat) (l2 : Nat → Int32) (ac2 mn2 sm2 : Nat → Nat), s2 + n = ls2 + 1 → ls2 ≤ 40 → (∀ i, ac2 i < 20) → (∀ i, mn2 i ≤ 20) → (∀ i, sm2 i < 861) → (∀ s, s < s2 → ∀ i, i ≤ mn2 s → sm2 (21 * s + i) = 21 * s + i) → (∀ i, (fl_R_look_2 u aX aY bX bY n s2 ls2 l2 ac2 mn2 sm2).1 i < 20) ∧ (∀ i, (fl_R_look_2 u aX aY bX bY n s2 ls2 l2 ac2 mn2 sm2).2.1 i ≤ 20) ∧ (∀ i, (fl_R_look_2 u aX aY bX bY n s2 ls2 l2 ac2 mn2 sm2).2.2 i < 861) ∧ endsV (fl_R_look_2 u aX aY bX bY n s2 ls2 l2 ac2 mn2 sm2).2.2 (fl_R_look_2 u aX aY bX bY n s2 ls2 l2 ac2 mn2 sm2).2.1 ls2 0 := by
  intro n
  induction n with
  | zero => intro s2 ls2 l2 ac2 mn2 sm2 hs hl hA hM hS hI; exact ⟨hA, hM, hS, init_ends (by omega) hI⟩
  | succ n ih =>
    intro s2 ls2 l2 ac2 mn2 sm2 hs hl hA hM hS hI
    obtain ⟨e1, e2⟩ := look3_inv s2 (by omega) ((f_R_fill u aX aY bX bY ls2 l2 ac2 mn2 s2).2 s2 + 1) 0 (f_R_fill u aX aY bX bY ls2 l2 ac2 mn2 s2).2 sm2 (by omega) (fill_mn _ _ _ _ _ _ _ _ _ _ hM) hS (init_start hI (fill_mn_ne _ _ _ _ _ _ _ _ _ _).2)
    exact ih (s2 + 1) ls2 l2 _ _ _ (by omega) hl (fill_ac _ _ _ _ _ _ _ _ _ _ hA) (fill_mn _ _ _ _ _ _ _ _ _ _ hM) e1 (init_next e2)
theorem look6_inv (u : Nat → Bool) (aX aY bX bY : Nat → Int32) (s4 ls4 : Nat) (l4 : Nat → Int32) (ac4 mn4 : Nat → Nat) (i5 : Nat) (hs : s4 < ls4) (hl : ls4 ≤ 40) (hM : ∀ i, mn4 i ≤ 20) (hi : i5 ≤ mn4 s4) : ∀ (n j6 : Nat) (sm6 : Nat → Nat), j6 + n = mn4 (s4 + 1) + 1 → (∀ i, sm6 i < 861) → endsV sm6 mn4 ls4 (441 * s4 + 21 * i5 + j6) → (∀ i, fl_R_look_6 u aX aY bX bY s4 l4 ac4 mn4 i5 n j6 sm6 i < 861) ∧ endsV (fl_R_look_6 u aX aY bX bY s4 l4 ac4 mn4 i5 n j6 sm6) mn4 ls4 (441 * s4 + 21 * i5 + 21) := by
  have h1 := hM s4
  have h2 := hM (s4 + 1)
  intro n
  induction n with
  | zero => intro j6 sm6 hj hS hE; exact ⟨hS, endsV_mono hE (by omega)⟩
  | succ n ih =>
    intro j6 sm6 hj hS hE
    show (∀ i, fb_R_look_6 u aX aY bX bY s4 l4 ac4 mn4 i5 (fl_R_look_6 u aX aY bX bY s4 l4 ac4 mn4 i5 n) j6 sm6 i < 861) ∧ endsV (fb_R_look_6 u aX aY bX bY s4 l4 ac4 mn4 i5 (fl_R_look_6 u aX aY bX bY s4 l4 ac4 mn4 i5 n) j6 sm6) mn4 ls4 (441 * s4 + 21 * i5 + 21)
    unfold fb_R_look_6
    have ea := ends_at hE s4 i5 (by omega) hi (c := 21 * s4 + i5) rfl (by unfold FF; omega)
    have eb := ends_at hE (s4 + 1) j6 (by omega) (by omega) (c := 21 * s4 + 21 + j6) (by omega) (by unfold FF; omega)
    split
    · exact ih _ _ (by omega) (updN_lt hS (face_lt _ _ (by omega) hS)) (endsV_union hE ea eb)
    · exact ih _ _ (by omega) hS (endsV_mono hE (by omega))
theorem look5_inv (u : Nat → Bool) (aX aY bX bY : Nat → Int32) (s4 ls4 : Nat) (l4 : Nat → Int32) (ac4 mn4 : Nat → Nat) (hs : s4 < ls4) (hl : ls4 ≤ 40) (hM : ∀ i, mn4 i ≤ 20) : ∀ (n i5 : Nat) (sm5 : Nat → Nat), i5 + n = mn4 s4 + 1 → (∀ i, sm5 i < 861) → endsV sm5 mn4 ls4 (441 * s4 + 21 * i5) → (∀ i, fl_R_look_5 u aX aY bX bY s4 l4 ac4 mn4 n i5 sm5 i < 861) ∧ endsV (fl_R_look_5 u aX aY bX bY s4 l4 ac4 mn4 n i5 sm5) mn4 ls4 (441 * s4 + 441) := by
  have h1 := hM s4
  intro n
  induction n with
  | zero => intro i5 sm5 hi hS hE; exact ⟨hS, endsV_mono hE (by omega)⟩
  | succ n ih =>
    intro i5 sm5 hi hS hE
    obtain ⟨e1, e2⟩ := look6_inv u aX aY bX bY s4 ls4 l4 ac4 mn4 i5 hs hl hM (by omega) (mn4 (s4 + 1) + 1) 0 sm5 (by omega) hS hE
    exact ih (i5 + 1) _ (by omega) e1 (endsV_mono e2 (by omega))
theorem look4_inv (u : Nat → Bool) (aX aY bX bY : Nat → Int32) : ∀ (n s4 ls4 : Nat) (l4 : Nat → Int32) (ac4 mn4 sm4 : Nat → Nat), s4 + n = ls4 → ls4 ≤ 40 → (∀ i, mn4 i ≤ 20) → (∀ i, sm4 i < 861) → endsV sm4 mn4 ls4 (441 * s4) → (∀ i, fl_R_look_4 u aX aY bX bY n s4 ls4 l4 ac4 mn4 sm4 i < 861) ∧ endsV (fl_R_look_4 u aX aY bX bY n s4 ls4 l4 ac4 mn4 sm4) mn4 ls4 FF := by
  intro n
  induction n with
  | zero => intro s4 ls4 l4 ac4 mn4 sm4 hs hl hM hS hE; exact ⟨hS, endsV_mono hE (by unfold FF; omega)⟩
  | succ n ih =>
    intro s4 ls4 l4 ac4 mn4 sm4 hs hl hM hS hE
    obtain ⟨e1, e2⟩ := look5_inv u aX aY bX bY s4 ls4 l4 ac4 mn4 (by omega) hl hM (mn4 s4 + 1) 0 sm4 (by omega) hS hE
    exact ih (s4 + 1) ls4 l4 ac4 mn4 _ (by omega) hl hM e1 (endsV_mono e2 (by omega))
/-- what the cells of the strips keep to -/
def RInv (lns : Nat) (ac mn sm : Nat → Nat) : Prop := lns ≤ 40 ∧ (∀ i, ac i < 20) ∧ (∀ i, mn i ≤ 20) ∧ (∀ i, sm i < 861) ∧ endsV sm mn lns FF
/-- what a reference's state keeps to: the cells are right if they are known -/
def RPre (kn : Bool) (lns : Nat) (ac mn sm : Nat → Nat) : Prop := (∀ i, ac i < 20) ∧ (∀ i, mn i ≤ 20) ∧ (∀ i, sm i < 861) ∧ (kn = true → RInv lns ac mn sm)
theorem look_inv (u : Nat → Bool) (aX aY bX bY : Nat → Int32) (kn : Bool) (lns : Nat) (ln : Nat → Int32) (ac mn sm : Nat → Nat) (h : RPre kn lns ac mn sm) : RInv (f_R_look u aX aY bX bY kn lns ln ac mn sm).2.1 (f_R_look u aX aY bX bY kn lns ln ac mn sm).2.2.2.1 (f_R_look u aX aY bX bY kn lns ln ac mn sm).2.2.2.2.1 (f_R_look u aX aY bX bY kn lns ln ac mn sm).2.2.2.2.2 := by
  obtain ⟨hA, hM, hS, hK⟩ := h
  unfold f_R_look
  by_cases hk : kn = true
  · rw [if_pos hk]
    exact hK hk
  · rw [if_neg hk]
    have h1 := look1_le u aX bX 20 0 0 ln (by omega) (by omega)
    obtain ⟨a1, a2, a3, a4⟩ := look2_inv u aX aY bX bY ((fl_R_look_1 u aX bX 20 0 0 ln).1 + 1) 0 (fl_R_look_1 u aX bX 20 0 0 ln).1 (fl_R_look_1 u aX bX 20 0 0 ln).2 ac mn sm (by omega) h1 hA hM hS (fun s hs => absurd hs (Nat.not_lt_zero _))
    obtain ⟨b1, b2⟩ := look4_inv u aX aY bX bY (fl_R_look_1 u aX bX 20 0 0 ln).1 0 (fl_R_look_1 u aX bX 20 0 0 ln).1 (fl_R_look_1 u aX bX 20 0 0 ln).2 _ _ _ (by omega) h1 a2 a3 a4
    exact ⟨h1, a1, a2, b1, b2⟩
theorem look_kn (u : Nat → Bool) (aX aY bX bY : Nat → Int32) (kn : Bool) (lns : Nat) (ln : Nat → Int32) (ac mn sm : Nat → Nat) : (f_R_look u aX aY bX bY kn lns ln ac mn sm).1 = true := by
  unfold f_R_look
  by_cases hk : kn = true
  · rw [if_pos hk]; exact hk
  · rw [if_neg hk]
