/-! The reference's lines, in order -/
def Srt (m : Nat) (f : Nat → Int32) : Prop := ∀ i j, i < j → j < m → tI f i < tI f j
def Mem (m : Nat) (f : Nat → Int32) (v : Int) : Prop := ∃ t, t < m ∧ tI f t = v
theorem al1_ok {ln : Nat → Int32} {x : Int32} : ∀ n, fl_R_addLine_1 ln x n n ≤ n ∧ (fl_R_addLine_1 ln x n n = 0 ∨ ln (fl_R_addLine_1 ln x n n - 1) ≤ x) ∧ ∀ i, fl_R_addLine_1 ln x n n ≤ i → i < n → ¬ ln i ≤ x := by
  intro n
  induction n with
  | zero => exact ⟨Nat.le_refl _, Or.inl rfl, fun i h1 h2 => by omega⟩
  | succ n ih =>
    have e : fl_R_addLine_1 ln x (n + 1) (n + 1) = if ln n ≤ x then n + 1 else fl_R_addLine_1 ln x n n := rfl
    by_cases c : ln n ≤ x
    · rw [e, if_pos c]
      exact ⟨Nat.le_refl _, Or.inr c, fun i h1 h2 => by omega⟩
    · rw [e, if_neg c]
      refine ⟨by omega, ih.2.1, fun i h1 h2 => ?_⟩
      by_cases z : i = n
      · rw [z]; exact c
      · exact ih.2.2 i h1 (by omega)
theorem al2_ok {a : Nat} : ∀ n (l : Nat → Int32) q, fl_R_addLine_2 n (a + n) a l q = if a < q ∧ q ≤ a + n then l (q - 1) else l q := by
  intro n
  induction n with
  | zero => intro l q; show l q = _; rw [if_neg (by omega)]
  | succ n ih =>
    intro l q
    show fl_R_addLine_2 n (a + (n + 1) - 1) a (upd l (a + (n + 1)) (l (a + (n + 1) - 1))) q = _
    rw [show a + (n + 1) - 1 = a + n by omega, ih]
    by_cases c : a < q ∧ q ≤ a + n
    · rw [if_pos c, if_pos (by omega), pk_un (by omega)]
    · rw [if_neg c]
      by_cases z : q = a + (n + 1)
      · rw [z, pk_us, if_pos (by omega), show a + (n + 1) - 1 = a + n by omega]
      · rw [pk_un z, if_neg (by omega)]
theorem addLine_ok {lns : Nat} {ln : Nat → Int32} (hs : Srt lns ln) (x : Int32) : Srt (f_R_addLine lns ln x).1 (f_R_addLine lns ln x).2 ∧ ∀ v, Mem (f_R_addLine lns ln x).1 (f_R_addLine lns ln x).2 v ↔ Mem lns ln v ∨ v = x.toInt := by
  obtain ⟨h1, h2, h3⟩ := al1_ok (ln := ln) (x := x) lns
  have ins_ok : (fl_R_addLine_1 ln x lns lns = 0 ∨ ln (fl_R_addLine_1 ln x lns lns - 1) < x) → Srt (lns + 1) (upd (fl_R_addLine_2 (lns - fl_R_addLine_1 ln x lns lns) lns (fl_R_addLine_1 ln x lns lns) ln) (fl_R_addLine_1 ln x lns lns) x) ∧ ∀ v, Mem (lns + 1) (upd (fl_R_addLine_2 (lns - fl_R_addLine_1 ln x lns lns) lns (fl_R_addLine_1 ln x lns lns) ln) (fl_R_addLine_1 ln x lns lns) x) v ↔ Mem lns ln v ∨ v = x.toInt := by
    intro h2
    generalize fl_R_addLine_1 ln x lns lns = p at h1 h2 h3 ⊢
    have at_ : ∀ q, tI (upd (fl_R_addLine_2 (lns - p) lns p ln) p x) q = if q = p then x.toInt else if p < q ∧ q ≤ lns then tI ln (q - 1) else tI ln q := by
      intro q
      unfold tI
      by_cases z : q = p
      · rw [z, pk_us, if_pos rfl]
      · rw [pk_un z, if_neg z]
        have := al2_ok (a := p) (lns - p) ln q
        rw [show p + (lns - p) = lns by omega] at this
        rw [this]
        split <;> rfl
    have lo_ : ∀ i, i < p → tI ln i < x.toInt := by
      intro i hi
      rcases h2 with z | z
      · omega
      · have z' := Int32.lt_iff_toInt_lt.mp z
        by_cases e : i = p - 1
        · rw [e]; exact z'
        · have := hs i (p - 1) (by omega) (by omega)
          have z2 : tI ln (p - 1) < x.toInt := z'
          omega
    have hi_ : ∀ i, p ≤ i → i < lns → x.toInt < tI ln i := by
      intro i a b
      have := h3 i a b
      rw [Int32.le_iff_toInt_le] at this
      show x.toInt < (ln i).toInt
      omega
    refine ⟨fun i j hij hj => ?_, fun v => ?_⟩
    · rw [at_ i, at_ j]
      by_cases c1 : i = p
      · rw [if_pos c1, if_neg (by omega), if_pos (by omega)]; exact hi_ _ (by omega) (by omega)
      · rw [if_neg c1]
        by_cases c2 : j = p
        · rw [if_pos c2, if_neg (by omega)]; exact lo_ i (by omega)
        · rw [if_neg c2]
          by_cases c3 : p < i ∧ i ≤ lns
          · rw [if_pos c3, if_pos (by omega)]; exact hs _ _ (by omega) (by omega)
          · rw [if_neg c3]
            by_cases c4 : p < j ∧ j ≤ lns
            · rw [if_pos c4]
              have a := lo_ i (by omega)
              have b := hi_ (j - 1) (by omega) (by omega)
              omega
            · rw [if_neg c4]; exact hs _ _ hij (by omega)
    · constructor
      · rintro ⟨t, ht, e⟩
        rw [at_ t] at e
        by_cases c1 : t = p
        · rw [if_pos c1] at e; exact Or.inr e.symm
        · rw [if_neg c1] at e
          by_cases c3 : p < t ∧ t ≤ lns
          · rw [if_pos c3] at e; exact Or.inl ⟨t - 1, by omega, e⟩
          · rw [if_neg c3] at e; exact Or.inl ⟨t, by omega, e⟩
      · rintro (⟨t, ht, e⟩ | e)
        · by_cases c : t < p
          · exact ⟨t, by omega, by rw [at_ t, if_neg (by omega), if_neg (by omega)]; exact e⟩
          · exact ⟨t + 1, by omega, by rw [at_ (t + 1), if_neg (by omega), if_pos (by omega), show t + 1 - 1 = t by omega]; exact e⟩
        · exact ⟨p, by omega, by rw [at_ p, if_pos rfl]; exact e.symm⟩
  unfold f_R_addLine
  by_cases c : fl_R_addLine_1 ln x lns lns = 0
  · rw [if_pos c]; exact ins_ok (Or.inl c)
  · rw [if_neg c]
    by_cases c2 : ln (fl_R_addLine_1 ln x lns lns - 1) = x
    · rw [if_pos c2]
      refine ⟨hs, fun v => ⟨Or.inl, fun z => z.elim id (fun e => ⟨fl_R_addLine_1 ln x lns lns - 1, by omega, by rw [e]; exact congrArg Int32.toInt c2⟩)⟩⟩
    · rw [if_neg c2]
      refine ins_ok (Or.inr ?_)
      rcases h2 with z | z
      · exact absurd z c
      · rw [Int32.lt_iff_toInt_lt]
        rw [Int32.le_iff_toInt_le] at z
        have : (ln (fl_R_addLine_1 ln x lns lns - 1)).toInt ≠ x.toInt := fun e => c2 (Int32.toInt_inj.mp e)
        omega
theorem look1_ok {u : Nat → Bool} {aX bX : Nat → Int32} : ∀ n k ls l, n + k = 20 → Srt ls l → (∀ v, Mem ls l v ↔ ∃ j, j < k ∧ u j = true ∧ (v = tI aX j ∨ v = tI bX j)) → Srt (fl_R_look_1 u aX bX n k ls l).1 (fl_R_look_1 u aX bX n k ls l).2 ∧ ∀ v, Mem (fl_R_look_1 u aX bX n k ls l).1 (fl_R_look_1 u aX bX n k ls l).2 v ↔ ∃ j, j < 20 ∧ u j = true ∧ (v = tI aX j ∨ v = tI bX j) := by
  intro n
  induction n with
  | zero => intro k ls l h h1 h2; rw [show k = 20 by omega] at h2; exact ⟨h1, h2⟩
  | succ n ih =>
    intro k ls l h h1 h2
    show Srt (fb_R_look_1 u aX bX (fl_R_look_1 u aX bX n) k ls l).1 (fb_R_look_1 u aX bX (fl_R_look_1 u aX bX n) k ls l).2 ∧ ∀ v, Mem (fb_R_look_1 u aX bX (fl_R_look_1 u aX bX n) k ls l).1 (fb_R_look_1 u aX bX (fl_R_look_1 u aX bX n) k ls l).2 v ↔ _
    unfold fb_R_look_1
    by_cases c : u k = true
    · rw [if_pos c]
      obtain ⟨a1, a2⟩ := addLine_ok h1 (aX k)
      obtain ⟨b1, b2⟩ := addLine_ok a1 (bX k)
      refine ih (k + 1) _ _ (by omega) b1 (fun v => ?_)
      rw [b2, a2, h2]
      constructor
      · rintro ((⟨j, p, q, r⟩ | e) | e)
        · exact ⟨j, by omega, q, r⟩
        · exact ⟨k, by omega, c, Or.inl e⟩
        · exact ⟨k, by omega, c, Or.inr e⟩
      · rintro ⟨j, p, q, r⟩
        by_cases z : j = k
        · rw [z] at r
          rcases r with e | e
          · exact Or.inl (Or.inr e)
          · exact Or.inr e
        · exact Or.inl (Or.inl ⟨j, by omega, q, r⟩)
    · rw [if_neg c]
      refine ih (k + 1) _ _ (by omega) h1 (fun v => ?_)
      rw [h2]
      constructor
      · rintro ⟨j, p, q, r⟩; exact ⟨j, by omega, q, r⟩
      · rintro ⟨j, p, q, r⟩
        by_cases z : j = k
        · rw [z] at q; exact absurd q c
        · exact ⟨j, by omega, q, r⟩
/-! Filling a strip -/
section FI
variable {u : Nat → Bool} {aX aY bX bY : Nat → Int32}
theorem f2_ok {k : Nat} {fm to : Int32} {base : Nat} : ∀ n (ac : Nat → Nat), ∃ p, p ≤ n ∧ (fl_R_fill_2 u aX aY bX bY k fm to n (base + n) ac).1 = base + p ∧ (∀ q, (fl_R_fill_2 u aX aY bX bY k fm to n (base + n) ac).2 q = if base + p < q ∧ q ≤ base + n then ac (q - 1) else ac q) ∧ (p = 0 ∨ ¬ f_R_below u aX aY bX bY k (ac (base + p - 1)) (fm + to) = true) ∧ ∀ i, p ≤ i → i < n → f_R_below u aX aY bX bY k (ac (base + i)) (fm + to) = true := by
  intro n
  induction n with
  | zero => intro ac; exact ⟨0, Nat.le_refl _, rfl, fun q => by rw [if_neg (by omega)]; rfl, Or.inl rfl, fun i h1 h2 => by omega⟩
  | succ n ih =>
    intro ac
    have e : fl_R_fill_2 u aX aY bX bY k fm to (n + 1) (base + (n + 1)) ac = if f_R_below u aX aY bX bY k (ac (base + n)) (fm + to) = true then fl_R_fill_2 u aX aY bX bY k fm to n (base + n) (updN ac (base + n + 1) (ac (base + n))) else (base + (n + 1), ac) := rfl
    rw [e]
    by_cases c : f_R_below u aX aY bX bY k (ac (base + n)) (fm + to) = true
    · rw [if_pos c]
      obtain ⟨p, h1, h2, h3, h4, h5⟩ := ih (updN ac (base + n + 1) (ac (base + n)))
      refine ⟨p, by omega, h2, fun q => ?_, ?_, fun i a b => ?_⟩
      · rw [h3]
        by_cases z : base + p < q ∧ q ≤ base + n
        · rw [if_pos z, if_pos (by omega), updN_ne _ _ (by omega)]
        · rw [if_neg z]
          by_cases z2 : q = base + n + 1
          · rw [z2, updN_self, if_pos (by omega), show base + n + 1 - 1 = base + n by omega]
          · rw [updN_ne _ _ z2, if_neg (by omega)]
      · rcases h4 with z | z
        · exact Or.inl z
        · rw [updN_ne _ _ (by omega)] at z; exact Or.inr z
      · by_cases z : i = n
        · rw [z]; exact c
        · have := h5 i a (by omega)
          rw [updN_ne _ _ (by omega)] at this; exact this
    · rw [if_neg c]
      exact ⟨n + 1, Nat.le_refl _, rfl, fun q => by rw [if_neg (by omega)], Or.inr c, fun i h1 h2 => by omega⟩
end FI
section FJ
variable {u : Nat → Bool} {X Y : Nat → Int32}
/-- across, from x0 to x1 -/
def Acr (u : Nat → Bool) (tx : Nat → Int) (x0 x1 : Int) (k : Nat) : Prop := u k = true ∧ tx (2 * k) ≤ x0 ∧ x1 ≤ tx (2 * k + 1)
def mdS (tx ty : Nat → Int) (x0 x1 : Int) (k : Nat) : Int := Hh tx ty k x0 + Hh tx ty k x1
theorem mdS_ne (hG : Geo u (tI X) (tI Y)) {x0 x1 : Int} (hx : x0 < x1) {k j : Nat} (hk : k < 20) (hj : j < 20) (ak : Acr u (tI X) x0 x1 k) (aj : Acr u (tI X) x0 x1 j) (hne : k ≠ j) : mdS (tI X) (tI Y) x0 x1 k ≠ mdS (tI X) (tI Y) x0 x1 j := by
  have fk := hG.flat hk (show tI X (2 * k) < tI X (2 * k + 1) by have := ak.2; omega)
  have fj := hG.flat hj (show tI X (2 * j) < tI X (2 * j + 1) by have := aj.2; omega)
  have hm := hG.2.2 k j hk hj ak.1 aj.1 hne
  have hm' := hG.2.2 j k hj hk aj.1 ak.1 (fun z => hne z.symm)
  unfold mdS
  intro e
  rcases Int.lt_trichotomy (Hh (tI X) (tI Y) k x0) (Hh (tI X) (tI Y) j x0) with z | z | z
  · have := G2 fk fj hm hx ak.2.1 aj.2.1 ak.2.2 aj.2.2 z; omega
  · have := G3 fk fj hm hx ak.2.1 aj.2.1 ak.2.2 aj.2.2 z; omega
  · have := G2 fj fk hm' hx aj.2.1 ak.2.1 aj.2.2 ak.2.2 z; omega
theorem below_iff (hG : Geo u (tI X) (tI Y)) (hX : Bd X) (hY : Bd Y) {fm to : Int32} {x0 x1 : Int} (h0 : Is fm x0 100) (h1 : Is to x1 100) (hx : x0 < x1) {k j : Nat} (hk : k < 20) (hj : j < 20) (ak : Acr u (tI X) x0 x1 k) (aj : Acr u (tI X) x0 x1 j) : f_R_below u (eX X) (eX Y) (oX X) (oX Y) k j (fm + to) = true ↔ mdS (tI X) (tI Y) x0 x1 k < mdS (tI X) (tI Y) x0 x1 j := by
  have fk := hG.flat hk (show tI X (2 * k) < tI X (2 * k + 1) by have := ak.2; omega)
  have fj := hG.flat hj (show tI X (2 * j) < tI X (2 * j + 1) by have := aj.2; omega)
  have it : ∀ {k}, k < 20 → Is (((2 * eX Y k) * (f_R_width u (eX X) (eX Y) (oX X) (oX Y) k)) + ((oX Y k - eX Y k) * ((fm + to) - (2 * eX X k)))) ((2 * tI Y (2 * k)) * (tI X (2 * k + 1) - tI X (2 * k)) + (tI Y (2 * k + 1) - tI Y (2 * k)) * ((x0 + x1) - 2 * tI X (2 * k))) (200 * 200 + 200 * 400) := fun {k} hk => by
    have xa : Is (eX X k) (tI X (2 * k)) 100 := Is_tI hX (by omega)
    have ya : Is (eX Y k) (tI Y (2 * k)) 100 := Is_tI hY (by omega)
    have yb : Is (oX Y k) (tI Y (2 * k + 1)) 100 := Is_tI hY (by omega)
    exact Is_add (Is_mul (Is_mul Is_2 ya (by decide)) (Is_width hX hk) (by decide)) (Is_mul (Is_sub yb ya (by decide)) (Is_sub (Is_add h0 h1 (by decide)) (Is_mul Is_2 xa (by decide)) (by decide)) (by decide)) (by decide)
  unfold f_R_below
  rw [less_iff (it hk) (Is_width hX hk) (it hj) (Is_width hX hj) (by decide) (by decide)]
  have ek := gr_w (ty := tI Y) fk
  have ej := gr_w (ty := tI Y) fj
  have sk : (tI X (2 * k + 1) - tI X (2 * k)) * mdS (tI X) (tI Y) x0 x1 k = Qf * ((2 * tI Y (2 * k)) * (tI X (2 * k + 1) - tI X (2 * k)) + (tI Y (2 * k + 1) - tI Y (2 * k)) * ((x0 + x1) - 2 * tI X (2 * k))) := by unfold mdS Hh; grind
  have sj : (tI X (2 * j + 1) - tI X (2 * j)) * mdS (tI X) (tI Y) x0 x1 j = Qf * ((2 * tI Y (2 * j)) * (tI X (2 * j + 1) - tI X (2 * j)) + (tI Y (2 * j + 1) - tI Y (2 * j)) * ((x0 + x1) - 2 * tI X (2 * j))) := by unfold mdS Hh; grind
  have wk : 0 < tI X (2 * k + 1) - tI X (2 * k) := by have := fk.1; omega
  have wj : 0 < tI X (2 * j + 1) - tI X (2 * j) := by have := fj.1; omega
  generalize (2 * tI Y (2 * k)) * (tI X (2 * k + 1) - tI X (2 * k)) + (tI Y (2 * k + 1) - tI Y (2 * k)) * ((x0 + x1) - 2 * tI X (2 * k)) = A at sk ⊢
  generalize (2 * tI Y (2 * j)) * (tI X (2 * j + 1) - tI X (2 * j)) + (tI Y (2 * j + 1) - tI Y (2 * j)) * ((x0 + x1) - 2 * tI X (2 * j)) = B at sj ⊢
  generalize tI X (2 * k + 1) - tI X (2 * k) = wk' at *
  generalize tI X (2 * j + 1) - tI X (2 * j) = wj' at *
  generalize mdS (tI X) (tI Y) x0 x1 k = mk at *
  generalize mdS (tI X) (tI Y) x0 x1 j = mj at *
  have g : Qf * (B * wk' - A * wj') = (wk' * wj') * (mj - mk) := by grind
  have a := mp_pos (b := B * wk' - A * wj') Qf_pos
  have b := mp_pos (b := mj - mk) (Int.mul_pos wk wj)
  constructor
  · intro h; have := b.mp (by rw [← g]; exact a.mpr (by omega)); omega
  · intro h; have := a.mp (by rw [g]; exact b.mpr (by omega)); omega
/-- a strip that holds, in order, those of the first k that go across -/
def Fil (u : Nat → Bool) (tx ty : Nat → Int) (x0 x1 : Int) (k n : Nat) (K : Nat → Nat) : Prop := n ≤ k ∧ (∀ i, i < n → K i < k ∧ Acr u tx x0 x1 (K i)) ∧ (∀ j, j < k → Acr u tx x0 x1 j → ∃ i, i < n ∧ K i = j) ∧ ∀ i j, i < j → j < n → mdS tx ty x0 x1 (K i) < mdS tx ty x0 x1 (K j)
theorem Fil_put (hG : Geo u (tI X) (tI Y)) {x0 x1 : Int} (hx : x0 < x1) {k n p : Nat} {K K' : Nat → Nat} (hk : k < 20) (h : Fil u (tI X) (tI Y) x0 x1 k n K) (ak : Acr u (tI X) x0 x1 k) (hp : p ≤ n) (hK : ∀ i, i ≤ n → K' i = if i = p then k else if p < i then K (i - 1) else K i) (h1 : p = 0 ∨ ¬ mdS (tI X) (tI Y) x0 x1 k < mdS (tI X) (tI Y) x0 x1 (K (p - 1))) (h2 : ∀ i, p ≤ i → i < n → mdS (tI X) (tI Y) x0 x1 k < mdS (tI X) (tI Y) x0 x1 (K i)) : Fil u (tI X) (tI Y) x0 x1 (k + 1) (n + 1) K' := by
  obtain ⟨f1, f2, f3, f4⟩ := h
  have lo_ : ∀ i, i < p → mdS (tI X) (tI Y) x0 x1 (K i) < mdS (tI X) (tI Y) x0 x1 k := by
    intro i hi
    rcases h1 with z | z
    · omega
    · have q := f2 (p - 1) (by omega)
      have := mdS_ne hG hx hk (by omega) ak q.2 (by omega)
      by_cases e : i = p - 1
      · rw [e]; omega
      · have := f4 i (p - 1) (by omega) (by omega); omega
  refine ⟨by omega, fun i hi => ?_, fun j hj aj => ?_, fun i j hij hj => ?_⟩
  · rw [hK i (by omega)]
    by_cases c : i = p
    · rw [if_pos c]; exact ⟨by omega, ak⟩
    · rw [if_neg c]
      by_cases c2 : p < i
      · rw [if_pos c2]; have := f2 (i - 1) (by omega); exact ⟨by omega, this.2⟩
      · rw [if_neg c2]; have := f2 i (by omega); exact ⟨by omega, this.2⟩
  · by_cases c : j = k
    · exact ⟨p, by omega, by rw [hK p hp, if_pos rfl, c]⟩
    · obtain ⟨i, hi, e⟩ := f3 j (by omega) aj
      by_cases c2 : i < p
      · exact ⟨i, by omega, by rw [hK i (by omega), if_neg (by omega), if_neg (by omega)]; exact e⟩
      · exact ⟨i + 1, by omega, by rw [hK (i + 1) (by omega), if_neg (by omega), if_pos (by omega), show i + 1 - 1 = i by omega]; exact e⟩
  · rw [hK i (by omega), hK j (by omega)]
    by_cases c1 : i = p
    · rw [if_pos c1, if_neg (by omega), if_pos (by omega)]; exact h2 _ (by omega) (by omega)
    · rw [if_neg c1]
      by_cases c2 : j = p
      · rw [if_pos c2, if_neg (by omega)]; exact lo_ i (by omega)
      · rw [if_neg c2]
        by_cases c3 : p < i
        · rw [if_pos c3, if_pos (by omega)]; exact f4 _ _ (by omega) (by omega)
        · rw [if_neg c3]
          by_cases c4 : p < j
          · rw [if_pos c4]
            have a := lo_ i (by omega)
            have b := h2 (j - 1) (by omega) (by omega)
            omega
          · rw [if_neg c4]; exact f4 _ _ hij (by omega)
theorem Fil_skip {tx ty : Nat → Int} {x0 x1 : Int} {k n : Nat} {K : Nat → Nat} (h : Fil u tx ty x0 x1 k n K) (na : ¬ Acr u tx x0 x1 k) : Fil u tx ty x0 x1 (k + 1) n K := by
  obtain ⟨f1, f2, f3, f4⟩ := h
  refine ⟨by omega, fun i hi => ⟨by have := (f2 i hi).1; omega, (f2 i hi).2⟩, fun j hj aj => ?_, f4⟩
  by_cases c : j = k
  · rw [c] at aj; exact absurd aj na
  · exact f3 j (by omega) aj
theorem f1_ok (hG : Geo u (tI X) (tI Y)) (hX : Bd X) (hY : Bd Y) {fm to : Int32} {x0 x1 : Int} (h0 : Is fm x0 100) (h1 : Is to x1 100) (hx : x0 < x1) {sp : Nat} : ∀ n k ac mn, n + k = 20 → Fil u (tI X) (tI Y) x0 x1 k (mn sp) (fun i => ac (20 * sp + i)) → Fil u (tI X) (tI Y) x0 x1 20 ((fl_R_fill_1 u (eX X) (eX Y) (oX X) (oX Y) sp n k fm to ac mn).2 sp) (fun i => (fl_R_fill_1 u (eX X) (eX Y) (oX X) (oX Y) sp n k fm to ac mn).1 (20 * sp + i)) ∧ ∀ q, q < 20 * sp ∨ 20 * sp + 20 ≤ q → (fl_R_fill_1 u (eX X) (eX Y) (oX X) (oX Y) sp n k fm to ac mn).1 q = ac q := by
  intro n
  induction n with
  | zero => intro k ac mn h hF; rw [show k = 20 by omega] at hF; exact ⟨hF, fun _ _ => rfl⟩
  | succ n ih =>
    intro k ac mn h hF
    have hk : k < 20 := by omega
    show Fil u (tI X) (tI Y) x0 x1 20 ((fb_R_fill_1 u (eX X) (eX Y) (oX X) (oX Y) sp (fl_R_fill_1 u (eX X) (eX Y) (oX X) (oX Y) sp n) k fm to ac mn).2 sp) (fun i => (fb_R_fill_1 u (eX X) (eX Y) (oX X) (oX Y) sp (fl_R_fill_1 u (eX X) (eX Y) (oX X) (oX Y) sp n) k fm to ac mn).1 (20 * sp + i)) ∧ ∀ q, q < 20 * sp ∨ 20 * sp + 20 ≤ q → (fb_R_fill_1 u (eX X) (eX Y) (oX X) (oX Y) sp (fl_R_fill_1 u (eX X) (eX Y) (oX X) (oX Y) sp n) k fm to ac mn).1 q = ac q
    unfold fb_R_fill_1
    have xa : Is (eX X k) (tI X (2 * k)) 100 := Is_tI hX (by omega)
    have xb : Is (oX X k) (tI X (2 * k + 1)) 100 := Is_tI hX (by omega)
    by_cases c1 : u k = true
    · rw [if_pos c1]
      by_cases c2 : fm < eX X k
      · rw [if_pos c2]
        exact ih (k + 1) ac mn (by omega) (Fil_skip hF (fun z => by have := (Is_lt h0 xa).mp c2; have := z.2.1; omega))
      · rw [if_neg c2]
        by_cases c3 : oX X k < to
        · rw [if_pos c3]
          exact ih (k + 1) ac mn (by omega) (Fil_skip hF (fun z => by have := (Is_lt xb h1).mp c3; have := z.2.2; omega))
        · rw [if_neg c3]
          have ak : Acr u (tI X) x0 x1 k := ⟨c1, (Is_nlt h0 xa).mp c2, (Is_nlt xb h1).mp c3⟩
          obtain ⟨p, p1, p2, p3, p4, p5⟩ := f2_ok (u := u) (aX := eX X) (aY := eX Y) (bX := oX X) (bY := oX Y) (k := k) (fm := fm) (to := to) (base := 20 * sp) (mn sp) ac
          rw [p2]
          generalize (fl_R_fill_2 u (eX X) (eX Y) (oX X) (oX Y) k fm to (mn sp) (20 * sp + mn sp) ac).2 = A at p3 ⊢
          have hmn : mn sp ≤ k := hF.1
          obtain ⟨r1, r2⟩ := ih (k + 1) (updN A (20 * sp + p) k) (updN mn sp (mn sp + 1)) (by omega) (by
            rw [updN_self]
            refine Fil_put hG hx hk hF ak p1 (fun i hi => ?_) ?_ (fun i a b => ?_)
            · by_cases z : i = p
              · rw [z, updN_self, if_pos rfl]
              · rw [updN_ne _ _ (by omega), p3, if_neg z]
                by_cases z2 : p < i
                · rw [if_pos (by omega), if_pos z2, show 20 * sp + i - 1 = 20 * sp + (i - 1) by omega]
                · rw [if_neg (by omega), if_neg z2]
            · rcases p4 with z | z
              · exact Or.inl z
              · by_cases z0 : p = 0
                · exact Or.inl z0
                · have q := hF.2.1 (p - 1) (by omega)
                  have q1 : ac (20 * sp + (p - 1)) < k := q.1
                  rw [show 20 * sp + p - 1 = 20 * sp + (p - 1) by omega, below_iff hG hX hY h0 h1 hx hk (by omega) ak q.2] at z
                  exact Or.inr z
            · have q := hF.2.1 i b
              have q1 : ac (20 * sp + i) < k := q.1
              have := p5 i a b
              rw [below_iff hG hX hY h0 h1 hx hk (by omega) ak q.2] at this
              exact this)
          refine ⟨r1, fun q hq => ?_⟩
          rw [r2 q hq, updN_ne _ _ (by omega), p3, if_neg (by omega)]
    · rw [if_neg c1]
      exact ih (k + 1) ac mn (by omega) (Fil_skip hF (fun z => c1 z.1))
end FJ
