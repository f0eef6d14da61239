/-! What the reference's looking about leaves: strips, and faces of cells -/
theorem face_fuel {sm : Nat → Nat} : ∀ {n m c : Nat}, ends sm n c → n ≤ m → fl_R_face_1 sm m c = fl_R_face_1 sm n c := by
  intro n
  induction n with
  | zero =>
    intro m c h _
    match m with
    | 0 => rfl
    | m + 1 =>
      show fb_R_face_1 sm (fl_R_face_1 sm m) c = c
      unfold fb_R_face_1
      have h : sm c = c := h
      rw [if_pos h]
  | succ n ih =>
    intro m c h hm
    match m, hm with
    | m + 1, hm =>
      show fb_R_face_1 sm (fl_R_face_1 sm m) c = fb_R_face_1 sm (fl_R_face_1 sm n) c
      unfold fb_R_face_1
      by_cases e : sm c = c
      · rw [if_pos e, if_pos e]
      · rw [if_neg e, if_neg e]
        exact ih (h.resolve_left e) (by omega)
theorem face_join {sm : Nat → Nat} {ra rb : Nat} (hra : sm ra = ra) (hrb : sm rb = rb) : ∀ {n c : Nat}, ends sm n c → fl_R_face_1 (updN sm ra rb) (n + 1) c = if fl_R_face_1 sm n c = ra then rb else fl_R_face_1 sm n c := by
  have root : ∀ {n c : Nat}, sm c = c → fl_R_face_1 (updN sm ra rb) (n + 1) c = if c = ra then rb else c := by
    intro n c h
    show fb_R_face_1 (updN sm ra rb) (fl_R_face_1 (updN sm ra rb) n) c = _
    unfold fb_R_face_1
    by_cases hc : c = ra
    · subst hc
      rw [if_pos rfl, updN_self]
      by_cases hb : rb = c
      · rw [if_pos hb, hb]
      · rw [if_neg hb]
        have := face_fuel (sm := updN sm c rb) (n := 0) (m := n) (c := rb) (by show updN sm c rb rb = rb; rw [updN_ne _ _ hb]; exact hrb) (Nat.zero_le _)
        rw [this]; rfl
    · rw [if_neg hc, updN_ne _ _ hc, if_pos h]
  intro n
  induction n with
  | zero => intro c h; exact root h
  | succ n ih =>
    intro c h
    by_cases e : sm c = c
    · have : fl_R_face_1 sm (n + 1) c = c := by
        show fb_R_face_1 sm (fl_R_face_1 sm n) c = c
        unfold fb_R_face_1; rw [if_pos e]
      rw [this]; exact root e
    · have hc : c ≠ ra := fun z => e (by rw [z]; exact hra)
      have e1 : fl_R_face_1 sm (n + 1) c = fl_R_face_1 sm n (sm c) := by
        show fb_R_face_1 sm (fl_R_face_1 sm n) c = _
        unfold fb_R_face_1; rw [if_neg e]
      rw [e1, ← ih (h.resolve_left e)]
      show fb_R_face_1 (updN sm ra rb) (fl_R_face_1 (updN sm ra rb) (n + 1)) c = _
      unfold fb_R_face_1
      rw [updN_ne _ _ hc, if_neg e]
theorem face_self {sm : Nat → Nat} {c : Nat} (h : sm c = c) : f_R_face sm c = c := face_fuel (n := 0) (m := FF) (c := c) h (Nat.zero_le _)
/-- cells that there are -/
def Vl (mn : Nat → Nat) (L c : Nat) : Prop := ∃ s i, s ≤ L ∧ i ≤ mn s ∧ c = 21 * s + i
def UF (mn : Nat → Nat) (L : Nat) (R : Nat → Nat → Prop) (sm : Nat → Nat) (T : Nat) : Prop := endsV sm mn L T ∧ (∀ c, Vl mn L c → Vl mn L (f_R_face sm c)) ∧ ∀ c d, Vl mn L c → Vl mn L d → f_R_face sm c = f_R_face sm d → R c d
/-- what was together stays together -/
def Kp (mn : Nat → Nat) (L : Nat) (sm sm' : Nat → Nat) : Prop := ∀ c d, Vl mn L c → Vl mn L d → f_R_face sm c = f_R_face sm d → f_R_face sm' c = f_R_face sm' d
theorem UF_join {mn : Nat → Nat} {L : Nat} {R : Nat → Nat → Prop} (hR : Eqv R) {sm : Nat → Nat} {T : Nat} (h : UF mn L R sm T) (hT : T + 1 ≤ FF) {a b : Nat} (ha : Vl mn L a) (hb : Vl mn L b) (hab : R a b) : UF mn L R (updN sm (f_R_face sm a) (f_R_face sm b)) (T + 1) ∧ Kp mn L sm (updN sm (f_R_face sm a) (f_R_face sm b)) ∧ f_R_face (updN sm (f_R_face sm a) (f_R_face sm b)) a = f_R_face (updN sm (f_R_face sm a) (f_R_face sm b)) b := by
  obtain ⟨hE, hV, hS⟩ := h
  have eT : ∀ c, Vl mn L c → ends sm T c := fun c ⟨s, i, h1, h2, h3⟩ => by rw [h3]; exact hE s h1 i h2
  have eF : ∀ c, Vl mn L c → ends sm FF c := fun c hc => ends_mono (eT c hc) (by omega)
  have ra := face_rt (eF a ha)
  have rb := face_rt (eF b hb)
  have key : ∀ c, Vl mn L c → f_R_face (updN sm (f_R_face sm a) (f_R_face sm b)) c = if f_R_face sm c = f_R_face sm a then f_R_face sm b else f_R_face sm c := by
    intro c hc
    have j := face_join ra rb (eT c hc)
    have f1 : f_R_face sm c = fl_R_face_1 sm T c := face_fuel (eT c hc) (by omega)
    have f2 : f_R_face (updN sm (f_R_face sm a) (f_R_face sm b)) c = fl_R_face_1 (updN sm (f_R_face sm a) (f_R_face sm b)) (T + 1) c := face_fuel (ends_upd ra rb (eT c hc)) hT
    rw [f2, j, ← f1]
  refine ⟨⟨endsV_union hE (eF a ha) (eF b hb), fun c hc => ?_, fun c d hc hd e => ?_⟩, fun c d hc hd e => ?_, ?_⟩
  · rw [key c hc]
    split
    · exact hV b hb
    · exact hV c hc
  · rw [key c hc, key d hd] at e
    by_cases e1 : f_R_face sm c = f_R_face sm a <;> by_cases e2 : f_R_face sm d = f_R_face sm a
    · exact hS c d hc hd (e1.trans e2.symm)
    · rw [if_pos e1, if_neg e2] at e
      exact hR.2.2 _ _ _ (hS c a hc ha e1) (hR.2.2 _ _ _ hab (hS b d hb hd e))
    · rw [if_neg e1, if_pos e2] at e
      exact hR.2.2 _ _ _ (hS c b hc hb e) (hR.2.2 _ _ _ (hR.2.1 _ _ hab) (hS a d ha hd e2.symm))
    · rw [if_neg e1, if_neg e2] at e
      exact hS c d hc hd e
  · rw [key c hc, key d hd, e]
  · rw [key a ha, key b hb, if_pos rfl]
    split <;> rfl
section LK
variable {u : Nat → Bool} {aX aY bX bY : Nat → Int32} {ln : Nat → Int32} {ac mn : Nat → Nat} {L : Nat} {R : Nat → Nat → Prop}
theorem Kp_refl {sm : Nat → Nat} : Kp mn L sm sm := fun _ _ _ _ e => e
theorem Kp_trans {a b c : Nat → Nat} (h1 : Kp mn L a b) (h2 : Kp mn L b c) : Kp mn L a c := fun x y hx hy e => h2 x y hx hy (h1 x y hx hy e)
theorem Vl_at {s i : Nat} (h1 : s ≤ L) (h2 : i ≤ mn s) : Vl mn L (21 * s + i) := ⟨s, i, h1, h2, rfl⟩
theorem l6_ok (hR : Eqv R) (hL : L ≤ 40) (hM : ∀ i, mn i ≤ 20) {s i : Nat} (hs : s < L) (hi : i ≤ mn s) (hop : ∀ j, j ≤ mn (s + 1) → f_R_open u aX aY bX bY ln ac mn s i j = true → R (21 * s + i) (21 * (s + 1) + j)) : ∀ n j sm, n + j = mn (s + 1) + 1 → UF mn L R sm (441 * s + 21 * i + j) → UF mn L R (fl_R_look_6 u aX aY bX bY s ln ac mn i n j sm) (441 * s + 21 * i + (mn (s + 1) + 1)) ∧ Kp mn L sm (fl_R_look_6 u aX aY bX bY s ln ac mn i n j sm) ∧ ∀ q, j ≤ q → q ≤ mn (s + 1) → f_R_open u aX aY bX bY ln ac mn s i q = true → f_R_face (fl_R_look_6 u aX aY bX bY s ln ac mn i n j sm) (21 * s + i) = f_R_face (fl_R_look_6 u aX aY bX bY s ln ac mn i n j sm) (21 * (s + 1) + q) := by
  intro n
  induction n with
  | zero => intro j sm h hU; rw [show j = mn (s + 1) + 1 by omega] at hU ⊢; exact ⟨hU, Kp_refl, fun q h1 h2 => by omega⟩
  | succ n ih =>
    intro j sm h hU
    show UF mn L R (fb_R_look_6 u aX aY bX bY s ln ac mn i (fl_R_look_6 u aX aY bX bY s ln ac mn i n) j sm) _ ∧ Kp mn L sm (fb_R_look_6 u aX aY bX bY s ln ac mn i (fl_R_look_6 u aX aY bX bY s ln ac mn i n) j sm) ∧ ∀ q, j ≤ q → q ≤ mn (s + 1) → f_R_open u aX aY bX bY ln ac mn s i q = true → f_R_face (fb_R_look_6 u aX aY bX bY s ln ac mn i (fl_R_look_6 u aX aY bX bY s ln ac mn i n) j sm) (21 * s + i) = f_R_face (fb_R_look_6 u aX aY bX bY s ln ac mn i (fl_R_look_6 u aX aY bX bY s ln ac mn i n) j sm) (21 * (s + 1) + q)
    have mi := hM s
    have mj := hM (s + 1)
    have hj : j ≤ mn (s + 1) := by omega
    have va : Vl mn L (21 * s + i) := Vl_at (by omega) hi
    have vb : ∀ q, q ≤ mn (s + 1) → Vl mn L (21 * (s + 1) + q) := fun q hq => Vl_at (by omega) hq
    unfold fb_R_look_6
    by_cases c : f_R_open u aX aY bX bY ln ac mn s i j = true
    · rw [if_pos c, show 21 * s + 21 + j = 21 * (s + 1) + j by omega]
      obtain ⟨g1, g2, g3⟩ := UF_join hR hU (by unfold FF; omega) va (vb j hj) (hop j hj c)
      obtain ⟨i1, i2, i3⟩ := ih (j + 1) _ (by omega) (by rw [show 441 * s + 21 * i + (j + 1) = 441 * s + 21 * i + j + 1 by omega]; exact g1)
      refine ⟨i1, Kp_trans g2 i2, fun q h1 h2 h3 => ?_⟩
      by_cases e : q = j
      · rw [e]; exact i2 _ _ va (vb j hj) g3
      · exact i3 q (by omega) h2 h3
    · rw [if_neg c]
      obtain ⟨i1, i2, i3⟩ := ih (j + 1) sm (by omega) ⟨endsV_mono hU.1 (by omega), hU.2⟩
      refine ⟨i1, i2, fun q h1 h2 h3 => ?_⟩
      by_cases e : q = j
      · rw [e] at h3; exact absurd h3 c
      · exact i3 q (by omega) h2 h3
theorem l5_ok (hR : Eqv R) (hL : L ≤ 40) (hM : ∀ i, mn i ≤ 20) {s : Nat} (hs : s < L) (hop : ∀ i j, i ≤ mn s → j ≤ mn (s + 1) → f_R_open u aX aY bX bY ln ac mn s i j = true → R (21 * s + i) (21 * (s + 1) + j)) : ∀ n i sm, n + i = mn s + 1 → UF mn L R sm (441 * s + 21 * i) → UF mn L R (fl_R_look_5 u aX aY bX bY s ln ac mn n i sm) (441 * (s + 1)) ∧ Kp mn L sm (fl_R_look_5 u aX aY bX bY s ln ac mn n i sm) ∧ ∀ p q, i ≤ p → p ≤ mn s → q ≤ mn (s + 1) → f_R_open u aX aY bX bY ln ac mn s p q = true → f_R_face (fl_R_look_5 u aX aY bX bY s ln ac mn n i sm) (21 * s + p) = f_R_face (fl_R_look_5 u aX aY bX bY s ln ac mn n i sm) (21 * (s + 1) + q) := by
  intro n
  induction n with
  | zero => intro i sm h hU; have := hM s; exact ⟨⟨endsV_mono hU.1 (by omega), hU.2⟩, Kp_refl, fun p q h1 h2 => by omega⟩
  | succ n ih =>
    intro i sm h hU
    have mi := hM s
    have mj := hM (s + 1)
    show UF mn L R (fl_R_look_5 u aX aY bX bY s ln ac mn n (i + 1) (fl_R_look_6 u aX aY bX bY s ln ac mn i (mn (s + 1) + 1) 0 sm)) _ ∧ Kp mn L sm (fl_R_look_5 u aX aY bX bY s ln ac mn n (i + 1) (fl_R_look_6 u aX aY bX bY s ln ac mn i (mn (s + 1) + 1) 0 sm)) ∧ ∀ p q, i ≤ p → p ≤ mn s → q ≤ mn (s + 1) → f_R_open u aX aY bX bY ln ac mn s p q = true → f_R_face (fl_R_look_5 u aX aY bX bY s ln ac mn n (i + 1) (fl_R_look_6 u aX aY bX bY s ln ac mn i (mn (s + 1) + 1) 0 sm)) (21 * s + p) = f_R_face (fl_R_look_5 u aX aY bX bY s ln ac mn n (i + 1) (fl_R_look_6 u aX aY bX bY s ln ac mn i (mn (s + 1) + 1) 0 sm)) (21 * (s + 1) + q)
    obtain ⟨g1, g2, g3⟩ := l6_ok (u := u) (aX := aX) (aY := aY) (bX := bX) (bY := bY) (ln := ln) (ac := ac) hR hL hM hs (show i ≤ mn s by omega) (hop i · (by omega)) (mn (s + 1) + 1) 0 sm (by omega) hU
    obtain ⟨i1, i2, i3⟩ := ih (i + 1) _ (by omega) ⟨endsV_mono g1.1 (by omega), g1.2⟩
    refine ⟨i1, Kp_trans g2 i2, fun p q h1 h2 h3 h4 => ?_⟩
    by_cases e : p = i
    · rw [e] at h4 ⊢
      exact i2 _ _ (Vl_at (by omega) (by omega)) (Vl_at (by omega) h3) (g3 q (by omega) h3 h4)
    · exact i3 p q (by omega) h2 h3 h4
theorem l4_ok (hR : Eqv R) (hL : L ≤ 40) (hM : ∀ i, mn i ≤ 20) (hop : ∀ s i j, s < L → i ≤ mn s → j ≤ mn (s + 1) → f_R_open u aX aY bX bY ln ac mn s i j = true → R (21 * s + i) (21 * (s + 1) + j)) : ∀ n s sm, n + s = L → UF mn L R sm (441 * s) → UF mn L R (fl_R_look_4 u aX aY bX bY n s L ln ac mn sm) FF ∧ ∀ t p q, s ≤ t → t < L → p ≤ mn t → q ≤ mn (t + 1) → f_R_open u aX aY bX bY ln ac mn t p q = true → f_R_face (fl_R_look_4 u aX aY bX bY n s L ln ac mn sm) (21 * t + p) = f_R_face (fl_R_look_4 u aX aY bX bY n s L ln ac mn sm) (21 * (t + 1) + q) := by
  have all : ∀ n s sm, n + s = L → UF mn L R sm (441 * s) → UF mn L R (fl_R_look_4 u aX aY bX bY n s L ln ac mn sm) FF ∧ Kp mn L sm (fl_R_look_4 u aX aY bX bY n s L ln ac mn sm) ∧ ∀ t p q, s ≤ t → t < L → p ≤ mn t → q ≤ mn (t + 1) → f_R_open u aX aY bX bY ln ac mn t p q = true → f_R_face (fl_R_look_4 u aX aY bX bY n s L ln ac mn sm) (21 * t + p) = f_R_face (fl_R_look_4 u aX aY bX bY n s L ln ac mn sm) (21 * (t + 1) + q) := by
    intro n
    induction n with
    | zero => intro s sm h hU; exact ⟨⟨endsV_mono hU.1 (by unfold FF; omega), hU.2⟩, Kp_refl, fun t p q h1 h2 => by omega⟩
    | succ n ih =>
      intro s sm h hU
      show UF mn L R (fl_R_look_4 u aX aY bX bY n (s + 1) L ln ac mn (fl_R_look_5 u aX aY bX bY s ln ac mn (mn s + 1) 0 sm)) FF ∧ Kp mn L sm (fl_R_look_4 u aX aY bX bY n (s + 1) L ln ac mn (fl_R_look_5 u aX aY bX bY s ln ac mn (mn s + 1) 0 sm)) ∧ ∀ t p q, s ≤ t → t < L → p ≤ mn t → q ≤ mn (t + 1) → f_R_open u aX aY bX bY ln ac mn t p q = true → f_R_face (fl_R_look_4 u aX aY bX bY n (s + 1) L ln ac mn (fl_R_look_5 u aX aY bX bY s ln ac mn (mn s + 1) 0 sm)) (21 * t + p) = f_R_face (fl_R_look_4 u aX aY bX bY n (s + 1) L ln ac mn (fl_R_look_5 u aX aY bX bY s ln ac mn (mn s + 1) 0 sm)) (21 * (t + 1) + q)
      obtain ⟨g1, g2, g3⟩ := l5_ok (u := u) (aX := aX) (aY := aY) (bX := bX) (bY := bY) (ln := ln) (ac := ac) hR hL hM (show s < L by omega) (fun i j => hop s i j (by omega)) (mn s + 1) 0 sm (by omega) hU
      obtain ⟨i1, i2, i3⟩ := ih (s + 1) _ (by omega) g1
      refine ⟨i1, Kp_trans g2 i2, fun t p q h1 h2 h3 h4 h5 => ?_⟩
      by_cases e : t = s
      · rw [e] at h3 h4 h5 ⊢
        exact i2 _ _ (Vl_at (by omega) h3) (Vl_at (by omega) h4) (g3 p q (by omega) h3 h4 h5)
      · exact i3 t p q (by omega) h2 h3 h4 h5
  intro n s sm h hU
  obtain ⟨a, _, b⟩ := all n s sm h hU
  exact ⟨a, b⟩
end LK
/-! the strips -/
section LS
variable {u : Nat → Bool} {X Y : Nat → Int32}
def StOk (u : Nat → Bool) (tx ty : Nat → Int) (ls : Nat) (lx : Nat → Int) (ac mn : Nat → Nat) (s : Nat) : Prop := (s = 0 ∨ s = ls → mn s = 0) ∧ (0 < s → s < ls → Fil u tx ty (lx (s - 1)) (lx s) 20 (mn s) (fun i => ac (20 * s + i)))
theorem fill_ok (hG : Geo u (tI X) (tI Y)) (hX : Bd X) (hY : Bd Y) {ls : Nat} {l : Nat → Int32} (hs : Srt ls l) (hw : ∀ t, t < ls → Wn 100 (tI l t)) {ac mn : Nat → Nat} {s : Nat} : StOk u (tI X) (tI Y) ls (tI l) (f_R_fill u (eX X) (eX Y) (oX X) (oX Y) ls l ac mn s).1 (f_R_fill u (eX X) (eX Y) (oX X) (oX Y) ls l ac mn s).2 s ∧ ∀ q, q < 20 * s ∨ 20 * s + 20 ≤ q → (f_R_fill u (eX X) (eX Y) (oX X) (oX Y) ls l ac mn s).1 q = ac q := by
  unfold f_R_fill
  by_cases c1 : s = 0
  · rw [if_pos c1]; exact ⟨⟨fun _ => updN_self _ _ _, fun z => by omega⟩, fun _ _ => rfl⟩
  · rw [if_neg c1]
    by_cases c2 : s = ls
    · rw [if_pos c2]; exact ⟨⟨fun _ => updN_self _ _ _, fun _ z => by omega⟩, fun _ _ => rfl⟩
    · rw [if_neg c2]
      by_cases c3 : s < ls
      · obtain ⟨a, b⟩ := f1_ok (u := u) hG hX hY (fm := l (s - 1)) (to := l s) (x0 := tI l (s - 1)) (x1 := tI l s) ⟨rfl, hw _ (by omega)⟩ ⟨rfl, hw _ c3⟩ (hs _ _ (by omega) c3) (sp := s) 20 0 ac (updN mn s 0) rfl (by
          rw [updN_self]
          exact ⟨Nat.zero_le _, fun i hi => by omega, fun j hj => by omega, fun i j hij hj => by omega⟩)
        exact ⟨⟨fun z => by omega, fun _ _ => a⟩, b⟩
      · refine ⟨⟨fun z => by omega, fun _ z => absurd z c3⟩, fun q hq => ?_⟩
        -- no line there: the strip isn't one of ours, but the array is left alone outside it
        have gen : ∀ n k fm to ac mn, n + k = 20 → mn s ≤ k → (fl_R_fill_1 u (eX X) (eX Y) (oX X) (oX Y) s n k fm to ac mn).1 q = ac q := by
          intro n
          induction n with
          | zero => intro k fm to ac mn _ _; rfl
          | succ n ih =>
            intro k fm to ac mn hn hk
            show (fb_R_fill_1 u (eX X) (eX Y) (oX X) (oX Y) s (fl_R_fill_1 u (eX X) (eX Y) (oX X) (oX Y) s n) k fm to ac mn).1 q = ac q
            unfold fb_R_fill_1
            by_cases d1 : u k = true
            · rw [if_pos d1]
              by_cases d2 : fm < eX X k
              · rw [if_pos d2]; exact ih (k + 1) fm to ac mn (by omega) (by omega)
              · rw [if_neg d2]
                by_cases d3 : oX X k < to
                · rw [if_pos d3]; exact ih (k + 1) fm to ac mn (by omega) (by omega)
                · rw [if_neg d3]
                  obtain ⟨p, p1, p2, p3, _⟩ := f2_ok (u := u) (aX := eX X) (aY := eX Y) (bX := oX X) (bY := oX Y) (k := k) (fm := fm) (to := to) (base := 20 * s) (mn s) ac
                  rw [ih (k + 1) fm to _ _ (by omega) (by rw [updN_self]; omega), p2, updN_ne _ _ (by omega), p3, if_neg (by omega)]
            · rw [if_neg d1]; exact ih (k + 1) fm to ac mn (by omega) (by omega)
        exact gen 20 0 _ _ _ _ rfl (by rw [updN_self]; omega)
theorem StOk_keep {tx ty : Nat → Int} {ls : Nat} {lx : Nat → Int} {ac mn ac' mn' : Nat → Nat} {s : Nat} (h : StOk u tx ty ls lx ac mn s) (h1 : mn' s = mn s) (h2 : ∀ i, i < 20 → ac' (20 * s + i) = ac (20 * s + i)) : StOk u tx ty ls lx ac' mn' s := by
  refine ⟨fun z => by rw [h1]; exact h.1 z, fun z1 z2 => ?_⟩
  obtain ⟨f1, f2, f3, f4⟩ := h.2 z1 z2
  rw [h1]
  refine ⟨f1, fun i hi => ?_, fun j hj aj => ?_, fun i j hij hj => ?_⟩
  · show ac' (20 * s + i) < 20 ∧ Acr u tx (lx (s - 1)) (lx s) (ac' (20 * s + i))
    rw [h2 i (by omega)]; exact f2 i hi
  · obtain ⟨i, hi, e⟩ := f3 j hj aj
    exact ⟨i, hi, by show ac' (20 * s + i) = j; rw [h2 i (by omega)]; exact e⟩
  · show mdS tx ty _ _ (ac' (20 * s + i)) < mdS tx ty _ _ (ac' (20 * s + j))
    rw [h2 i (by omega), h2 j (by omega)]; exact f4 i j hij hj
theorem look2_ok (hG : Geo u (tI X) (tI Y)) (hX : Bd X) (hY : Bd Y) {ls : Nat} {l : Nat → Int32} (hs : Srt ls l) (hw : ∀ t, t < ls → Wn 100 (tI l t)) : ∀ n s ac mn sm, n + s = ls + 1 → (∀ t, t < s → StOk u (tI X) (tI Y) ls (tI l) ac mn t) → ∀ t, t ≤ ls → StOk u (tI X) (tI Y) ls (tI l) (fl_R_look_2 u (eX X) (eX Y) (oX X) (oX Y) n s ls l ac mn sm).1 (fl_R_look_2 u (eX X) (eX Y) (oX X) (oX Y) n s ls l ac mn sm).2.1 t := by
  intro n
  induction n with
  | zero => intro s ac mn sm h hI t ht; exact hI t (by omega)
  | succ n ih =>
    intro s ac mn sm h hI
    obtain ⟨a, b⟩ := fill_ok (u := u) hG hX hY hs hw (ac := ac) (mn := mn) (s := s)
    refine ih (s + 1) _ _ _ (by omega) (fun t ht => ?_)
    by_cases e : t = s
    · rw [e]; exact a
    · exact StOk_keep (hI t (by omega)) ((fill_mn_ne _ _ _ _ _ _ _ _ _ _).2 t e) (fun i hi => b _ (by omega))
/-- the reference's cells and faces are right -/
def Good (u : Nat → Bool) (X Y : Nat → Int32) (lns : Nat) (ln : Nat → Int32) (ac mn sm : Nat → Nat) : Prop :=
  Cells u (tI X) (tI Y) lns (tI ln) mn (Kc ac) ∧ (∀ t, t < lns → Wn 100 (tI ln t)) ∧ (∀ c, Vl mn lns c → Vl mn lns (f_R_face sm c)) ∧
  ∀ s i t j, s ≤ lns → i ≤ mn s → t ≤ lns → j ≤ mn t → (f_R_face sm (21 * s + i) = f_R_face sm (21 * t + j) ↔ GS u (tI X) (tI Y) lns (tI ln) mn (Kc ac) (s, i) (t, j))
theorem look_good (hG : Geo u (tI X) (tI Y)) (hX : Bd X) (hY : Bd Y) {kn : Bool} {lns : Nat} {ln : Nat → Int32} {ac mn sm : Nat → Nat} (hP : RPre kn lns ac mn sm) (hk : kn = true → Good u X Y lns ln ac mn sm) : Good u X Y (f_R_look u (eX X) (eX Y) (oX X) (oX Y) kn lns ln ac mn sm).2.1 (f_R_look u (eX X) (eX Y) (oX X) (oX Y) kn lns ln ac mn sm).2.2.1 (f_R_look u (eX X) (eX Y) (oX X) (oX Y) kn lns ln ac mn sm).2.2.2.1 (f_R_look u (eX X) (eX Y) (oX X) (oX Y) kn lns ln ac mn sm).2.2.2.2.1 (f_R_look u (eX X) (eX Y) (oX X) (oX Y) kn lns ln ac mn sm).2.2.2.2.2 := by
  obtain ⟨hA, hM, hS, _⟩ := hP
  unfold f_R_look
  by_cases c : kn = true
  · rw [if_pos c]; exact hk c
  · rw [if_neg c]
    have h1 := look1_le u (eX X) (oX X) 20 0 0 ln (by omega) (by omega)
    obtain ⟨s1, s2⟩ := look1_ok (u := u) (aX := eX X) (bX := oX X) 20 0 0 ln rfl (fun i j hij hj => by omega) (fun v => ⟨fun ⟨t, ht, _⟩ => by omega, fun ⟨j, hj, _⟩ => by omega⟩)
    obtain ⟨a1, a2, a3, a4⟩ := look2_inv u (eX X) (eX Y) (oX X) (oX Y) ((fl_R_look_1 u (eX X) (oX X) 20 0 0 ln).1 + 1) 0 (fl_R_look_1 u (eX X) (oX X) 20 0 0 ln).1 (fl_R_look_1 u (eX X) (oX X) 20 0 0 ln).2 ac mn sm (by omega) h1 hA hM hS (fun s hs => absurd hs (Nat.not_lt_zero _))
    generalize (fl_R_look_1 u (eX X) (oX X) 20 0 0 ln).1 = m at h1 s1 s2 a1 a2 a3 a4 ⊢
    generalize (fl_R_look_1 u (eX X) (oX X) 20 0 0 ln).2 = l at s1 s2 a1 a2 a3 a4 ⊢
    have hw : ∀ t, t < m → Wn 100 (tI l t) := fun t ht => by
      obtain ⟨j, hj, uj, e⟩ := (s2 (tI l t)).mp ⟨t, ht, rfl⟩
      rcases e with e | e
      · rw [e]; exact hX (2 * j) (by omega)
      · rw [e]; exact hX (2 * j + 1) (by omega)
    have st := look2_ok hG hX hY s1 hw (m + 1) 0 ac mn sm rfl (fun t ht => by omega)
    generalize (fl_R_look_2 u (eX X) (eX Y) (oX X) (oX Y) (m + 1) 0 m l ac mn sm).1 = A at a1 a2 a3 a4 st ⊢
    generalize (fl_R_look_2 u (eX X) (eX Y) (oX X) (oX Y) (m + 1) 0 m l ac mn sm).2.1 = M at a1 a2 a3 a4 st ⊢
    generalize (fl_R_look_2 u (eX X) (eX Y) (oX X) (oX Y) (m + 1) 0 m l ac mn sm).2.2 = S at a1 a2 a3 a4 st ⊢
    have hC : Cells u (tI X) (tI Y) m (tI l) M (Kc A) := by
      refine ⟨s1, fun k hk hu => ⟨?_, ?_⟩, ⟨(st 0 (by omega)).1 (Or.inl rfl), (st m (by omega)).1 (Or.inr rfl)⟩, fun s i h0 hs hi => ?_, fun s k h0 hs hk hu x0 x1 => ?_, fun s i j h0 hs hij hj => ?_⟩
      · exact (s2 (tI X (2 * k))).mpr ⟨k, hk, hu, Or.inl rfl⟩
      · exact (s2 (tI X (2 * k + 1))).mpr ⟨k, hk, hu, Or.inr rfl⟩
      · obtain ⟨f1, f2, f3, f4⟩ := (st s (by omega)).2 h0 hs
        obtain ⟨g1, g2, g3, g4⟩ := f2 i hi
        exact ⟨g1, g2, g3, g4⟩
      · obtain ⟨f1, f2, f3, f4⟩ := (st s (by omega)).2 h0 hs
        exact f3 k hk ⟨hu, x0, x1⟩
      · obtain ⟨f1, f2, f3, f4⟩ := (st s (by omega)).2 h0 hs
        exact f4 i j hij hj
    have dv : ∀ s i, i ≤ 20 → (21 * s + i) / 21 = s ∧ (21 * s + i) % 21 = i := fun s i hi => by omega
    have hop := fun (s i j : Nat) (hs : s < m) (hi : i ≤ M s) (hj : j ≤ M (s + 1)) => open_iff (u := u) hG hX hY hC hw hs hi hj
    -- the relation on numbers of cells
    have hR : Eqv (fun c d => GS u (tI X) (tI Y) m (tI l) M (Kc A) (c / 21, c % 21) (d / 21, d % 21)) := ⟨fun _ => GS_ok.1 _, fun _ _ q => GS_ok.2.1 _ _ q, fun _ _ _ q r => GS_ok.2.2.1 _ _ _ q r⟩
    have start : UF M m (fun c d => GS u (tI X) (tI Y) m (tI l) M (Kc A) (c / 21, c % 21) (d / 21, d % 21)) S (441 * 0) := by
      have self : ∀ c, Vl M m c → f_R_face S c = c := fun c ⟨s, i, h1, h2, h3⟩ => by rw [h3]; exact face_self (a4 s h1 i h2)
      refine ⟨a4, fun c hc => by rw [self c hc]; exact hc, fun c d hc hd e => ?_⟩
      rw [self c hc, self d hd] at e
      rw [e]; exact GS_ok.1 _
    obtain ⟨g1, g2⟩ := l4_ok (u := u) (aX := eX X) (aY := eX Y) (bX := oX X) (bY := oX Y) (ln := l) (ac := A) hR h1 a2 (fun s i j hs hi hj ho => by
      obtain ⟨y, hf, e1, e2⟩ := (hop s i j hs hi hj).mp ho
      have p1 := dv s i (by have := a2 s; omega)
      have p2 := dv (s + 1) j (by have := a2 (s + 1); omega)
      show GS u (tI X) (tI Y) m (tI l) M (Kc A) ((21 * s + i) / 21, (21 * s + i) % 21) ((21 * (s + 1) + j) / 21, (21 * (s + 1) + j) % 21)
      rw [p1.1, p1.2, p2.1, p2.2, ← e1, ← e2]
      exact GS_ok.2.2.2 s y hs hf) m 0 S (by omega) start
    refine ⟨hC, hw, g1.2.1, fun s i t j hs hi ht hj => ⟨fun e => ?_, fun e => ?_⟩⟩
    · have p1 := dv s i (by have := a2 s; omega)
      have p2 := dv t j (by have := a2 t; omega)
      have := g1.2.2 _ _ (Vl_at hs hi) (Vl_at ht hj) e
      change GS u (tI X) (tI Y) m (tI l) M (Kc A) ((21 * s + i) / 21, (21 * s + i) % 21) ((21 * t + j) / 21, (21 * t + j) % 21) at this
      rw [p1.1, p1.2, p2.1, p2.2] at this
      exact this
    · have hSok : Sok u (tI X) (tI Y) m (tI l) M (Kc A) (fun c d => c = d ∨ ((c.1 ≤ m ∧ c.2 ≤ M c.1) ∧ (d.1 ≤ m ∧ d.2 ≤ M d.1) ∧ f_R_face (fl_R_look_4 u (eX X) (eX Y) (oX X) (oX Y) m 0 m l A M S) (21 * c.1 + c.2) = f_R_face (fl_R_look_4 u (eX X) (eX Y) (oX X) (oX Y) m 0 m l A M S) (21 * d.1 + d.2))) := by
        refine ⟨fun _ => Or.inl rfl, ?_, ?_, fun t y ht hf => Or.inr ⟨⟨?_, cp_le _ _ _⟩, ⟨?_, cp_le _ _ _⟩, ?_⟩⟩
        · rintro a b (q | ⟨q1, q2, q3⟩)
          · exact Or.inl q.symm
          · exact Or.inr ⟨q2, q1, q3.symm⟩
        · rintro a b c (q | ⟨q1, q2, q3⟩) r
          · rw [q]; exact r
          · rcases r with r | ⟨r1, r2, r3⟩
            · rw [← r]; exact Or.inr ⟨q1, q2, q3⟩
            · exact Or.inr ⟨q1, r2, q3.trans r3⟩
        · show t ≤ m; omega
        · show t + 1 ≤ m; omega
        · exact g2 t _ _ (by omega) ht (cp_le _ _ _) (cp_le _ _ _) ((hop t _ _ ht (cp_le _ _ _) (cp_le _ _ _)).mpr ⟨y, hf, rfl, rfl⟩)
      rcases e _ hSok with q | ⟨_, _, q⟩
      · injection q with q1 q2
        rw [q1, q2]
      · exact q
end LS
