/-! parts: segments that share an end -/
section PA
variable {u : Nat → Bool} {X Y : Nat → Int32} {L1 L2 : Nat → Nat}
theorem nxt_sfn (hX : Bd X) (hY : Bd Y) {a : Nat} (ha : a < 40) : nxt u X Y a = sfn u X Y a (tI X (tw a) - tI X a) (tI Y (tw a) - tI Y a) := (sfn_step hX hY ha).symm
theorem GP_step (hX : Bd X) (hY : Bd Y) {a b : Nat} (ha : a < 40) (hu : u (a / 2) = true) (h : sfn u X Y a (tI X (tw a) - tI X a) (tI Y (tw a) - tI Y a) = b) : GP u X Y (a / 2) (b / 2) := fun R _ h2 => by
  have := h2 a ha hu
  rw [nxt_sfn hX hY ha, h] at this
  exact this
theorem star_R (hG : Geo u (tI X) (tI Y)) (hX : Bd X) (hY : Bd Y) {x y : Int} {h : Nat} (hh : Rt u (tI X) (tI Y) x y h) (hm : ∀ j, Rt u (tI X) (tI Y) x y j → gr (tI X) (tI Y) j ≤ gr (tI X) (tI Y) h) {k : Nat} (hk : Rt u (tI X) (tI Y) x y k) : GP u X Y k h := by
  have hSF := class_SF (u := u) hX hY
  apply Classical.byContradiction
  intro hc
  obtain ⟨k, ⟨hk, hn⟩, hmax⟩ := ex_max (P := fun k => Rt u (tI X) (tI Y) x y k ∧ ¬ GP u X Y k h) (f := gr (tI X) (tI Y)) 20 (fun _ q => q.1.1) ⟨k, hk, hc⟩
  have hne : k ≠ h := fun e => hn (by rw [e]; exact GP_eqv.1 _)
  have hlt : gr (tI X) (tI Y) k < gr (tI X) (tI Y) h := by
    have := hm k hk; have := Rt_slope hG hk hh hne; omega
  obtain ⟨j, ⟨hj, hkj⟩, hmin⟩ := ex_min (P := fun j => Rt u (tI X) (tI Y) x y j ∧ gr (tI X) (tI Y) k < gr (tI X) (tI Y) j) (f := gr (tI X) (tI Y)) 20 (fun _ q => q.1.1) ⟨h, hh, hlt⟩
  have e := F_R1 hG hSF hk hj hkj (fun i hi => by
    rcases Int.lt_or_le (gr (tI X) (tI Y) k) (gr (tI X) (tI Y) i) with z | z
    · exact Or.inr (hmin i ⟨hi, z⟩)
    · exact Or.inl z)
  have s := GP_step hX hY hk.at.1 hk.at.2.1 e
  rw [show 2 * k / 2 = k by omega, show (2 * j + 1) / 2 = j by omega] at s
  have g : GP u X Y j h := Classical.byContradiction (fun z => by have := hmax j ⟨hj, z⟩; omega)
  exact hn (GP_eqv.2.2 _ _ _ s g)
theorem star_L (hG : Geo u (tI X) (tI Y)) (hX : Bd X) (hY : Bd Y) {x y : Int} {h : Nat} (hh : Lt u (tI X) (tI Y) x y h) (hm : ∀ j, Lt u (tI X) (tI Y) x y j → gr (tI X) (tI Y) j ≤ gr (tI X) (tI Y) h) {k : Nat} (hk : Lt u (tI X) (tI Y) x y k) : GP u X Y k h := by
  have hSF := class_SF (u := u) hX hY
  apply Classical.byContradiction
  intro hc
  obtain ⟨k, ⟨hk, hn⟩, hmax⟩ := ex_max (P := fun k => Lt u (tI X) (tI Y) x y k ∧ ¬ GP u X Y k h) (f := gr (tI X) (tI Y)) 20 (fun _ q => q.1.1) ⟨k, hk, hc⟩
  have hne : k ≠ h := fun e => hn (by rw [e]; exact GP_eqv.1 _)
  have hlt : gr (tI X) (tI Y) k < gr (tI X) (tI Y) h := by
    have := hm k hk; have := Lt_slope hG hk hh hne; omega
  obtain ⟨j, ⟨hj, hkj⟩, hmin⟩ := ex_min (P := fun j => Lt u (tI X) (tI Y) x y j ∧ gr (tI X) (tI Y) k < gr (tI X) (tI Y) j) (f := gr (tI X) (tI Y)) 20 (fun _ q => q.1.1) ⟨h, hh, hlt⟩
  have e := F_L1 hG hSF hk hj hkj (fun i hi => by
    rcases Int.lt_or_le (gr (tI X) (tI Y) k) (gr (tI X) (tI Y) i) with z | z
    · exact Or.inr (hmin i ⟨hi, z⟩)
    · exact Or.inl z)
  have s := GP_step hX hY hk.at.1 hk.at.2.1 e
  rw [show (2 * k + 1) / 2 = k by omega, show 2 * j / 2 = j by omega] at s
  have g : GP u X Y j h := Classical.byContradiction (fun z => by have := hmax j ⟨hj, z⟩; omega)
  exact hn (GP_eqv.2.2 _ _ _ s g)
/-- all segments that end at a point are of one part -/
theorem star (hG : Geo u (tI X) (tI Y)) (hX : Bd X) (hY : Bd Y) {x y : Int} : ∃ r, ∀ a, At u (tI X) (tI Y) x y a → GP u X Y (a / 2) r := by
  have hSF := class_SF (u := u) hX hY
  have e2 : ∀ k, 2 * k / 2 = k := fun k => by omega
  have o2 : ∀ k, (2 * k + 1) / 2 = k := fun k => by omega
  have T := (GP_eqv (u := u) (X := X) (Y := Y)).2.2
  have R0 := (GP_eqv (u := u) (X := X) (Y := Y)).1
  have kinds : ∀ r, (∀ k, Rt u (tI X) (tI Y) x y k → GP u X Y k r) → (∀ k, Lt u (tI X) (tI Y) x y k → GP u X Y k r) → (∀ k, Up u (tI X) (tI Y) x y k → GP u X Y k r) → (∀ k, Dn u (tI X) (tI Y) x y k → GP u X Y k r) → ∀ a, At u (tI X) (tI Y) x y a → GP u X Y (a / 2) r := by
    intro r hR hL hU hD a ha
    rcases arrow_kind hG ha.1 ha.2.1 with ⟨k, e, q⟩ | ⟨k, e, q⟩ | ⟨k, e, q⟩ | ⟨k, e, q⟩ <;> rw [ha.2.2.1, ha.2.2.2] at q
    · rw [e, e2]; exact hR k q
    · rw [e, o2]; exact hL k q
    · rw [e, e2]; exact hU k q
    · rw [e, o2]; exact hD k q
  -- an upright arrow up, a highest one to the right: to the left, or down
  have upL : ∀ {e j}, Up u (tI X) (tI Y) x y e → Lt u (tI X) (tI Y) x y j → (∀ i, Lt u (tI X) (tI Y) x y i → gr (tI X) (tI Y) j ≤ gr (tI X) (tI Y) i) → GP u X Y e j := fun {e j} he hj hm => by
    obtain ⟨d1, d2⟩ := Up_dir he
    have s := GP_step (b := 2 * j) hX hY he.at.1 he.at.2.1 (by rw [d1]; exact F_U1 (k := 0) hG hSF he.at d2 (dir_w hG he.at.1) hj hm)
    rw [e2, e2] at s; exact s
  have upD : ∀ {e j}, Up u (tI X) (tI Y) x y e → (∀ i, ¬ Lt u (tI X) (tI Y) x y i) → Dn u (tI X) (tI Y) x y j → GP u X Y e j := fun {e j} he nL hj => by
    obtain ⟨d1, d2⟩ := Up_dir he
    have s := GP_step (b := 2 * j) hX hY he.at.1 he.at.2.1 (by rw [d1]; exact F_U2 (k := 0) hG hSF he.at d2 (dir_w hG he.at.1) nL hj)
    rw [e2, e2] at s; exact s
  have riU : ∀ {k j}, Rt u (tI X) (tI Y) x y k → (∀ i, Rt u (tI X) (tI Y) x y i → gr (tI X) (tI Y) i ≤ gr (tI X) (tI Y) k) → Up u (tI X) (tI Y) x y j → GP u X Y k j := fun {k j} hk hh hj => by
    have s := GP_step hX hY hk.at.1 hk.at.2.1 (F_R2 hG hSF hk hh hj)
    rw [e2, o2] at s; exact s
  have riL : ∀ {k j}, Rt u (tI X) (tI Y) x y k → (∀ i, Rt u (tI X) (tI Y) x y i → gr (tI X) (tI Y) i ≤ gr (tI X) (tI Y) k) → (∀ i, ¬ Up u (tI X) (tI Y) x y i) → Lt u (tI X) (tI Y) x y j → (∀ i, Lt u (tI X) (tI Y) x y i → gr (tI X) (tI Y) j ≤ gr (tI X) (tI Y) i) → GP u X Y k j := fun {k j} hk hh nU hj hm => by
    have s := GP_step hX hY hk.at.1 hk.at.2.1 (F_R3 hG hSF hk hh nU hj hm)
    rw [e2, e2] at s; exact s
  have riD : ∀ {k j}, Rt u (tI X) (tI Y) x y k → (∀ i, Rt u (tI X) (tI Y) x y i → gr (tI X) (tI Y) i ≤ gr (tI X) (tI Y) k) → (∀ i, ¬ Up u (tI X) (tI Y) x y i) → (∀ i, ¬ Lt u (tI X) (tI Y) x y i) → Dn u (tI X) (tI Y) x y j → GP u X Y k j := fun {k j} hk hh nU nL hj => by
    have s := GP_step hX hY hk.at.1 hk.at.2.1 (F_R4 hG hSF hk hh nU nL hj)
    rw [e2, e2] at s; exact s
  -- once all to the left and upwards are joined with r, those to the right are, if there is one of the others
  have rights : ∀ r, (∀ k, Lt u (tI X) (tI Y) x y k → GP u X Y k r) → (∀ k, Up u (tI X) (tI Y) x y k → GP u X Y k r) → (∀ k, Dn u (tI X) (tI Y) x y k → GP u X Y k r) → ((∃ k, Lt u (tI X) (tI Y) x y k) ∨ (∃ k, Up u (tI X) (tI Y) x y k) ∨ ∃ k, Dn u (tI X) (tI Y) x y k) → ∀ k, Rt u (tI X) (tI Y) x y k → GP u X Y k r := by
    intro r hL hU hD hex k hk
    obtain ⟨h, hh, hm⟩ := ex_hiR ⟨k, hk⟩
    refine T _ _ _ (star_R hG hX hY hh hm hk) ?_
    by_cases cU : ∃ e, Up u (tI X) (tI Y) x y e
    · obtain ⟨e, he⟩ := cU
      exact T _ _ _ (riU hh hm he) (hU e he)
    · have nU : ∀ e, ¬ Up u (tI X) (tI Y) x y e := fun e he => cU ⟨e, he⟩
      by_cases cL : ∃ e, Lt u (tI X) (tI Y) x y e
      · obtain ⟨j, hj, hm2⟩ := ex_hiL cL
        exact T _ _ _ (riL hh hm nU hj hm2) (hL j hj)
      · have nL : ∀ e, ¬ Lt u (tI X) (tI Y) x y e := fun e he => cL ⟨e, he⟩
        rcases hex with q | q | ⟨d, hd⟩
        · exact absurd q cL
        · exact absurd q cU
        · exact T _ _ _ (riD hh hm nU nL hd) (hD d hd)
  by_cases cD : ∃ d, Dn u (tI X) (tI Y) x y d
  · obtain ⟨d, hd⟩ := cD
    have hD : ∀ k, Dn u (tI X) (tI Y) x y k → GP u X Y k d := fun k hk => by rw [Dn_one hG hk hd]; exact R0 _
    have hL : ∀ k, Lt u (tI X) (tI Y) x y k → GP u X Y k d := fun k hk => by
      obtain ⟨l, hl, hm⟩ := ex_loL ⟨k, hk⟩
      have s := GP_step hX hY hl.at.1 hl.at.2.1 (F_L2 hG hSF hl hm hd)
      rw [o2, e2] at s
      exact T _ _ _ (star_L hG hX hY hl hm hk) s
    have hU : ∀ k, Up u (tI X) (tI Y) x y k → GP u X Y k d := fun k hk => by
      by_cases cL : ∃ e, Lt u (tI X) (tI Y) x y e
      · obtain ⟨j, hj, hm2⟩ := ex_hiL cL
        exact T _ _ _ (upL hk hj hm2) (hL j hj)
      · exact upD hk (fun e he => cL ⟨e, he⟩) hd
    exact ⟨d, kinds d (rights d hL hU hD (Or.inr (Or.inr ⟨d, hd⟩))) hL hU hD⟩
  · have hD : ∀ r k, Dn u (tI X) (tI Y) x y k → GP u X Y k r := fun r k hk => absurd ⟨k, hk⟩ cD
    by_cases cL : ∃ e, Lt u (tI X) (tI Y) x y e
    · obtain ⟨l, hl, hm⟩ := ex_loL cL
      have hL : ∀ k, Lt u (tI X) (tI Y) x y k → GP u X Y k l := fun k hk => star_L hG hX hY hl hm hk
      have hU : ∀ k, Up u (tI X) (tI Y) x y k → GP u X Y k l := fun k hk => by
        obtain ⟨j, hj, hm2⟩ := ex_hiL cL
        exact T _ _ _ (upL hk hj hm2) (hL j hj)
      exact ⟨l, kinds l (rights l hL hU (hD l) (Or.inl cL)) hL hU (hD l)⟩
    · have hL : ∀ r k, Lt u (tI X) (tI Y) x y k → GP u X Y k r := fun r k hk => absurd ⟨k, hk⟩ cL
      by_cases cU : ∃ e, Up u (tI X) (tI Y) x y e
      · obtain ⟨e, he⟩ := cU
        have hU : ∀ k, Up u (tI X) (tI Y) x y k → GP u X Y k e := fun k hk => by rw [Up_one hG hk he]; exact R0 _
        exact ⟨e, kinds e (rights e (hL e) hU (hD e) (Or.inr (Or.inl ⟨e, he⟩))) (hL e) hU (hD e)⟩
      · have hU : ∀ r k, Up u (tI X) (tI Y) x y k → GP u X Y k r := fun r k hk => absurd ⟨k, hk⟩ cU
        by_cases cR : ∃ e, Rt u (tI X) (tI Y) x y e
        · obtain ⟨h, hh, hm⟩ := ex_hiR cR
          exact ⟨h, kinds h (fun k hk => star_R hG hX hY hh hm hk) (hL h) (hU h) (hD h)⟩
        · exact ⟨0, kinds 0 (fun k hk => absurd ⟨k, hk⟩ cR) (hL 0) (hU 0) (hD 0)⟩
/-- segments that touch -/
theorem touch_iff {k j : Nat} : f_R_touch u (eX X) (eX Y) (oX X) (oX Y) k j = true ↔ ∃ a b, a / 2 = k ∧ b / 2 = j ∧ tI X a = tI X b ∧ tI Y a = tI Y b := by
  unfold f_R_touch
  rw [ite_tt ite_p, isEnd_I, isEnd_I]
  constructor
  · rintro ((⟨a, b⟩ | ⟨a, b⟩) | (⟨a, b⟩ | ⟨a, b⟩))
    · exact ⟨2 * k, 2 * j, by omega, by omega, a.symm, b.symm⟩
    · exact ⟨2 * k + 1, 2 * j, by omega, by omega, a.symm, b.symm⟩
    · exact ⟨2 * k, 2 * j + 1, by omega, by omega, a.symm, b.symm⟩
    · exact ⟨2 * k + 1, 2 * j + 1, by omega, by omega, a.symm, b.symm⟩
  · rintro ⟨a, b, h1, h2, h3, h4⟩
    rcases (show a = 2 * k ∨ a = 2 * k + 1 by omega) with rfl | rfl <;> rcases (show b = 2 * j ∨ b = 2 * j + 1 by omega) with rfl | rfl
    · exact Or.inl (Or.inl ⟨h3.symm, h4.symm⟩)
    · exact Or.inr (Or.inl ⟨h3.symm, h4.symm⟩)
    · exact Or.inl (Or.inr ⟨h3.symm, h4.symm⟩)
    · exact Or.inr (Or.inr ⟨h3.symm, h4.symm⟩)
theorem touch_GP (hG : Geo u (tI X) (tI Y)) (hX : Bd X) (hY : Bd Y) {k j : Nat} (hk : k < 20) (hj : j < 20) (uk : u k = true) (uj : u j = true) (h : f_R_touch u (eX X) (eX Y) (oX X) (oX Y) k j = true) : GP u X Y k j := by
  obtain ⟨a, b, h1, h2, h3, h4⟩ := touch_iff.mp h
  obtain ⟨r, hr⟩ := star (x := tI X a) (y := tI Y a) hG hX hY
  have p := hr a ⟨by omega, by rw [h1]; exact uk, rfl, rfl⟩
  have q := hr b ⟨by omega, by rw [h2]; exact uj, h3.symm, h4.symm⟩
  rw [h1] at p
  rw [h2] at q
  exact GP_eqv.2.2 _ _ _ p (GP_eqv.2.1 _ _ q)
/-- what is closed under touching holds whole parts -/
theorem GP_closed {C : Nat → Prop} (hc : ∀ k j, k < 20 → j < 20 → u k = true → u j = true → C k → f_R_touch u (eX X) (eX Y) (oX X) (oX Y) k j = true → C j) {k j : Nat} (h : GP u X Y k j) : C k ↔ C j := by
  refine h (fun k j => C k ↔ C j) ⟨fun _ => Iff.rfl, fun _ _ q => q.symm, fun _ _ _ q r => q.trans r⟩ (fun a ha hu => ?_)
  obtain ⟨b, hb, ub, t1, t2, e⟩ := side_in (u := u) (X := X) (Y := Y) (w := a) (dx := f_M_stepX u X Y a) (dy := f_M_stepY u X Y a) ha hu
  have e : nxt u X Y a = tw b := e
  rw [e, tw_half]
  exact ⟨fun q => hc _ _ (by omega) (by omega) hu ub q (touch_iff.mpr ⟨a, b, rfl, rfl, t1.symm, t2.symm⟩), fun q => hc _ _ (by omega) (by omega) ub hu q (touch_iff.mpr ⟨b, a, rfl, rfl, t1, t2⟩)⟩
theorem GP_used {k j : Nat} (h : GP u X Y k j) : (k < 20 ∧ u k = true) ↔ (j < 20 ∧ u j = true) := GP_closed (u := u) (X := X) (Y := Y) (C := fun k => k < 20 ∧ u k = true) (fun _ j _ hj _ uj _ _ => ⟨hj, uj⟩) h
end PA
