/-! Counting segments and vertices; points that are free; find -/
section EZ
variable {u : Nat → Bool} {X Y : Nat → Int32} {L1 L2 : Nat → Nat}
theorem has_nI {k : Nat} (hk : k < 20) : f_M_has u X Y (nI k) = u k := by
  unfold f_M_has
  rw [if_neg (nI_pos (by omega)), if_neg (by rw [show (20 : Int32) = nI 20 from rfl]; exact nI_ge hk (by decide)), nI_clamp (by omega)]
  cases u k <;> rfl
theorem seg_fl {aX aY bX bY : Nat → Int32} : ∀ n k c, n + k = 20 → fl_A_segments u X Y L1 L2 n k c = fl_R_segments_1 u n k c := by
  intro n
  induction n with
  | zero => intro k c _; rfl
  | succ n ih =>
    intro k c h
    show fb_A_segments u X Y L1 L2 (fl_A_segments u X Y L1 L2 n) k c = fb_R_segments_1 u (fl_R_segments_1 u n) k c
    unfold fb_A_segments fb_R_segments_1
    rw [has_nI (by omega), ih _ _ (by omega), ih _ _ (by omega)]
theorem segments_eq {aX aY bX bY : Nat → Int32} : f_A_segments u X Y L1 L2 = f_R_segments u aX aY bX bY := seg_fl (aX := aX) (aY := aY) (bX := bX) (bY := bY) 20 0 0 rfl
/-- a proper segment has not both ends at one point -/
theorem prp_ne {tx ty : Nat → Int} {k : Nat} (h : prp tx ty k) : ¬ (tx (2 * k) = tx (2 * k + 1) ∧ ty (2 * k) = ty (2 * k + 1)) := by unfold prp at h; omega
theorem ends_step {x y : Int32} (rec : Nat → Nat → Nat) (a c : Nat) : fb_M_endsAt u X Y x y rec a c = rec (a + 1) (c + if u (a / 2) = true ∧ X a = x ∧ Y a = y then 1 else 0) := by
  unfold fb_M_endsAt
  by_cases c1 : u (a / 2) = true
  · rw [if_pos c1]
    by_cases c2 : X a = x
    · rw [if_pos c2]
      by_cases c3 : Y a = y
      · rw [if_pos c3, if_pos ⟨c1, c2, c3⟩]
      · rw [if_neg c3, if_neg (fun z => c3 z.2.2)]; rfl
    · rw [if_neg c2, if_neg (fun z => c2 z.2.1)]; rfl
  · rw [if_neg c1, if_neg (fun z => c1 z.1)]; rfl
theorem endings_step {aX aY bX bY : Nat → Int32} {x y : Int32} (rec : Nat → Nat → Nat) (k c : Nat) : fb_R_endings_1 u aX aY bX bY x y rec k c = rec (k + 1) (c + if u k = true ∧ f_R_isEnd u aX aY bX bY k x y = true then 1 else 0) := by
  unfold fb_R_endings_1
  by_cases c1 : u k = true
  · rw [if_pos c1]
    by_cases c2 : f_R_isEnd u aX aY bX bY k x y = true
    · rw [if_pos c2, if_pos ⟨c1, c2⟩]
    · rw [if_neg c2, if_neg (fun z => c2 z.2)]; rfl
  · rw [if_neg c1, if_neg (fun z => c1 z.1)]; rfl
theorem ends_fl (hp : ∀ k, k < 20 → u k = true → prp (tI X) (tI Y) k) {x y : Int32} : ∀ n k c, n + k = 20 → fl_M_endsAt u X Y x y (2 * n) (2 * k) c = fl_R_endings_1 u (eX X) (eX Y) (oX X) (oX Y) x y n k c := by
  intro n
  induction n with
  | zero => intro k c _; rfl
  | succ n ih =>
    intro k c h
    show fb_M_endsAt u X Y x y (fb_M_endsAt u X Y x y (fl_M_endsAt u X Y x y (2 * n))) (2 * k) c = fb_R_endings_1 u (eX X) (eX Y) (oX X) (oX Y) x y (fl_R_endings_1 u (eX X) (eX Y) (oX X) (oX Y) x y n) k c
    rw [ends_step, ends_step, endings_step]
    rw [show 2 * k / 2 = k by omega, show (2 * k + 1) / 2 = k by omega, show 2 * k + 1 + 1 = 2 * (k + 1) by omega, ih _ _ (by omega), Nat.add_assoc]
    congr 2
    by_cases c1 : u k = true
    · have pk := prp_ne (hp k (by omega) c1)
      by_cases a1 : X (2 * k) = x ∧ Y (2 * k) = y
      · rw [if_pos ⟨c1, a1⟩, if_neg (fun z => pk ⟨by unfold tI; rw [a1.1, z.2.1], by unfold tI; rw [a1.2, z.2.2]⟩), if_pos ⟨c1, isEnd_iff.mpr (Or.inl ⟨a1.1.symm, a1.2.symm⟩)⟩]
      · by_cases a2 : X (2 * k + 1) = x ∧ Y (2 * k + 1) = y
        · rw [if_neg (fun z => a1 z.2), if_pos ⟨c1, a2⟩, if_pos ⟨c1, isEnd_iff.mpr (Or.inr ⟨a2.1.symm, a2.2.symm⟩)⟩]
        · have no : ¬ f_R_isEnd u (eX X) (eX Y) (oX X) (oX Y) k x y = true := fun z => (isEnd_iff.mp z).elim (fun q => a1 ⟨q.1.symm, q.2.symm⟩) (fun q => a2 ⟨q.1.symm, q.2.symm⟩)
          rw [if_neg (fun z => a1 z.2), if_neg (fun z => a2 z.2), if_neg (fun z => no z.2)]
    · rw [if_neg (fun z => c1 z.1), if_neg (fun z => c1 z.1), if_neg (fun z => c1 z.1)]
theorem ends_eq (hp : ∀ k, k < 20 → u k = true → prp (tI X) (tI Y) k) {x y : Int32} : f_M_endsAt u X Y x y = f_R_endings u (eX X) (eX Y) (oX X) (oX Y) x y := ends_fl hp 20 0 0 rfl
theorem endingsZ_fl {aX aY bX bY : Nat → Int32} {x y : Int32} : ∀ n k c, n + k = 20 → c ≤ fl_R_endings_1 u aX aY bX bY x y n k c ∧ (fl_R_endings_1 u aX aY bX bY x y n k c ≤ c ↔ ∀ j, k ≤ j → j < 20 → u j = true → ¬ f_R_isEnd u aX aY bX bY j x y = true) := by
  intro n
  induction n with
  | zero => intro k c h; exact ⟨Nat.le_refl _, fun _ j h1 h2 => by omega, fun _ => Nat.le_refl _⟩
  | succ n ih =>
    intro k c h
    show c ≤ fb_R_endings_1 u aX aY bX bY x y (fl_R_endings_1 u aX aY bX bY x y n) k c ∧ (fb_R_endings_1 u aX aY bX bY x y (fl_R_endings_1 u aX aY bX bY x y n) k c ≤ c ↔ _)
    unfold fb_R_endings_1
    obtain ⟨i1, i2⟩ := ih (k + 1) c (by omega)
    obtain ⟨j1, _⟩ := ih (k + 1) (c + 1) (by omega)
    have sp : (u k = true → ¬ f_R_isEnd u aX aY bX bY k x y = true) → ((∀ j, k + 1 ≤ j → j < 20 → u j = true → ¬ f_R_isEnd u aX aY bX bY j x y = true) ↔ ∀ j, k ≤ j → j < 20 → u j = true → ¬ f_R_isEnd u aX aY bX bY j x y = true) := fun hk => by
      constructor
      · intro q j h1 h2
        by_cases e : j = k
        · rw [e]; exact hk
        · exact q j (by omega) h2
      · exact fun q j h1 => q j (by omega)
    by_cases c1 : u k = true
    · rw [if_pos c1]
      by_cases c2 : f_R_isEnd u aX aY bX bY k x y = true
      · rw [if_pos c2]
        exact ⟨by omega, fun z => by omega, fun q => absurd c2 (q k (Nat.le_refl _) (by omega) c1)⟩
      · rw [if_neg c2]
        exact ⟨i1, i2.trans (sp (fun _ => c2))⟩
    · rw [if_neg c1]
      exact ⟨i1, i2.trans (sp (fun z => absurd z c1))⟩
theorem endings_zero {aX aY bX bY : Nat → Int32} {x y : Int32} : f_R_endings u aX aY bX bY x y ≤ 0 ↔ ∀ j, j < 20 → u j = true → ¬ f_R_isEnd u aX aY bX bY j x y = true := by
  have := (endingsZ_fl (u := u) (aX := aX) (aY := aY) (bX := bX) (bY := bY) (x := x) (y := y) 20 0 0 rfl).2
  exact this.trans ⟨fun q j => q j (by omega), fun q j _ => q j⟩
theorem free_fl {aX aY bX bY : Nat → Int32} {x y : Int32} : ∀ n k fr, n + k = 20 → (fl_R_isFree_1 u aX aY bX bY x y n k fr = true ↔ fr = true ∧ ∀ j, k ≤ j → j < 20 → u j = true → ¬ f_R_isEnd u aX aY bX bY j x y = true ∧ ¬ f_R_isInside u aX aY bX bY j x y = true) := by
  intro n
  induction n with
  | zero => intro k fr h; exact ⟨fun z => ⟨z, fun j h1 h2 => by omega⟩, fun z => z.1⟩
  | succ n ih =>
    intro k fr h
    show fb_R_isFree_1 u aX aY bX bY x y (fl_R_isFree_1 u aX aY bX bY x y n) k fr = true ↔ _
    unfold fb_R_isFree_1
    have i1 := ih (k + 1) true (by omega)
    have i2 := ih (k + 1) false (by omega)
    have sp : (u k = true → ¬ f_R_isEnd u aX aY bX bY k x y = true ∧ ¬ f_R_isInside u aX aY bX bY k x y = true) → ((∀ j, k + 1 ≤ j → j < 20 → u j = true → ¬ f_R_isEnd u aX aY bX bY j x y = true ∧ ¬ f_R_isInside u aX aY bX bY j x y = true) ↔ ∀ j, k ≤ j → j < 20 → u j = true → ¬ f_R_isEnd u aX aY bX bY j x y = true ∧ ¬ f_R_isInside u aX aY bX bY j x y = true) := fun hk => by
      constructor
      · intro q j h1 h2
        by_cases e : j = k
        · rw [e]; exact hk
        · exact q j (by omega) h2
      · exact fun q j h1 => q j (by omega)
    by_cases c0 : fr = true
    · rw [if_pos c0]
      by_cases c1 : u k = true
      · rw [if_pos c1]
        by_cases c2 : f_R_isEnd u aX aY bX bY k x y = true
        · rw [if_pos c2, i2]
          exact ⟨fun z => (by cases z.1), fun z => absurd c2 (z.2 k (Nat.le_refl _) (by omega) c1).1⟩
        · rw [if_neg c2]
          by_cases c3 : f_R_isInside u aX aY bX bY k x y = true
          · rw [if_pos c3, i2]
            exact ⟨fun z => (by cases z.1), fun z => absurd c3 (z.2 k (Nat.le_refl _) (by omega) c1).2⟩
          · rw [if_neg c3, i1, sp (fun _ => ⟨c2, c3⟩)]
            exact ⟨fun z => ⟨c0, z.2⟩, fun z => ⟨rfl, z.2⟩⟩
      · rw [if_neg c1, i1, sp (fun z => absurd z c1)]
        exact ⟨fun z => ⟨c0, z.2⟩, fun z => ⟨rfl, z.2⟩⟩
    · rw [if_neg c0, i2]
      exact ⟨fun z => (by cases z.1), fun z => absurd z.1 c0⟩
theorem free_iff {aX aY bX bY : Nat → Int32} {x y : Int32} : f_R_isFree u aX aY bX bY x y = true ↔ ∀ j, j < 20 → u j = true → ¬ f_R_isEnd u aX aY bX bY j x y = true ∧ ¬ f_R_isInside u aX aY bX bY j x y = true := by
  have := free_fl (u := u) (aX := aX) (aY := aY) (bX := bX) (bY := bY) (x := x) (y := y) 20 0 true rfl
  exact this.trans ⟨fun q j => q.2 j (by omega), fun q => ⟨rfl, fun j _ => q j⟩⟩
/-- the least segment around a point -/
theorem around_fl {x y : Int32} : ∀ n k, n + k = 20 → (fl_M_segmentAround u X Y x y n k = -1 ∧ (∀ j, k ≤ j → j < 20 → u j = true → ¬ f_M_isInside u X Y j x y = true)) ∨ ∃ j, k ≤ j ∧ j < 20 ∧ fl_M_segmentAround u X Y x y n k = nI j ∧ u j = true ∧ f_M_isInside u X Y j x y = true ∧ ∀ i, k ≤ i → i < j → u i = true → ¬ f_M_isInside u X Y i x y = true := by
  intro n
  induction n with
  | zero => intro k h; exact Or.inl ⟨rfl, fun j h1 h2 => by omega⟩
  | succ n ih =>
    intro k h
    show (fb_M_segmentAround u X Y x y (fl_M_segmentAround u X Y x y n) k = -1 ∧ _) ∨ ∃ j, _ ∧ _ ∧ fb_M_segmentAround u X Y x y (fl_M_segmentAround u X Y x y n) k = nI j ∧ _
    unfold fb_M_segmentAround
    have go : (u k = true → ¬ f_M_isInside u X Y k x y = true) → (fl_M_segmentAround u X Y x y n (k + 1) = -1 ∧ (∀ j, k ≤ j → j < 20 → u j = true → ¬ f_M_isInside u X Y j x y = true)) ∨ ∃ j, k ≤ j ∧ j < 20 ∧ fl_M_segmentAround u X Y x y n (k + 1) = nI j ∧ u j = true ∧ f_M_isInside u X Y j x y = true ∧ ∀ i, k ≤ i → i < j → u i = true → ¬ f_M_isInside u X Y i x y = true := fun hk => by
      rcases ih (k + 1) (by omega) with ⟨a, b⟩ | ⟨j, a, b, c, d, e, f⟩
      · refine Or.inl ⟨a, fun j h1 h2 => ?_⟩
        by_cases e : j = k
        · rw [e]; exact hk
        · exact b j (by omega) h2
      · refine Or.inr ⟨j, by omega, b, c, d, e, fun i h1 h2 => ?_⟩
        by_cases e : i = k
        · rw [e]; exact hk
        · exact f i (by omega) h2
    by_cases c1 : u k = true
    · rw [if_pos c1]
      by_cases c2 : f_M_isInside u X Y k x y = true
      · rw [if_pos c2]
        exact Or.inr ⟨k, Nat.le_refl _, by omega, rfl, c1, c2, fun i h1 h2 => by omega⟩
      · rw [if_neg c2]; exact go (fun _ => c2)
    · rw [if_neg c1]; exact go (fun z => absurd z c1)
theorem around_none {x y : Int32} : f_M_segmentAround u X Y x y = -1 ↔ ∀ j, j < 20 → u j = true → ¬ f_M_isInside u X Y j x y = true := by
  rcases around_fl (u := u) (X := X) (Y := Y) (x := x) (y := y) 20 0 rfl with ⟨a, b⟩ | ⟨j, a, b, c, d, e, f⟩
  · exact ⟨fun _ j => b j (by omega), fun _ => a⟩
  · constructor
    · intro z
      have c : f_M_segmentAround u X Y x y = nI j := c
      exact absurd (by rw [← c, z]) (nI_nm1 (k := j) (by omega))
    · intro z; exact absurd e (z j b d)
/-! find -/
def ru (tx ty : Nat → Int) (x : Int) (k : Nat) : Int := if tx (2 * k) = tx (2 * k + 1) then ty (2 * k) else ty (2 * k) * (tx (2 * k + 1) - tx (2 * k)) + (ty (2 * k + 1) - ty (2 * k)) * (x - tx (2 * k))
def wu (tx : Nat → Int) (k : Nat) : Int := if tx (2 * k) = tx (2 * k + 1) then 1 else tx (2 * k + 1) - tx (2 * k)
theorem wu_pos {tx ty : Nat → Int} {k : Nat} (h : prp tx ty k) : 0 < wu tx k := by unfold wu; unfold prp at h; split <;> omega
theorem ru_hg (hG : Geo u (tI X) (tI Y)) {x : Int} {k : Nat} (hk : k < 20) (hu : u k = true) : wu (tI X) k * hg (tI X) (tI Y) x k = Qf * ru (tI X) (tI Y) x k := by
  unfold wu hg ru
  rcases hG.1 k hk hu with h | ⟨h, h2⟩
  · rw [if_neg (by omega), if_pos h, if_neg (by omega)]
    have e := gr_w (ty := tI Y) (hG.flat hk h)
    unfold Hh
    grind
  · rw [if_pos h, if_neg (by omega), if_pos h]; grind
theorem ru_up (hG : Geo u (tI X) (tI Y)) {x y : Int} {k : Nat} (hk : k < 20) (hu : u k = true) : y * wu (tI X) k < ru (tI X) (tI Y) x k * 1 ↔ Qf * y < hg (tI X) (tI Y) x k := by
  have e := ru_hg hG (x := x) hk hu
  have w := wu_pos (hG.1 k hk hu)
  have g : Qf * (ru (tI X) (tI Y) x k * 1 - y * wu (tI X) k) = wu (tI X) k * (hg (tI X) (tI Y) x k - Qf * y) := by grind
  have a := mp_pos (b := ru (tI X) (tI Y) x k * 1 - y * wu (tI X) k) Qf_pos
  have b := mp_pos (b := hg (tI X) (tI Y) x k - Qf * y) w
  constructor
  · intro h; have := b.mp (by rw [← g]; exact a.mpr (by omega)); omega
  · intro h; have := a.mp (by rw [g]; exact b.mpr (by omega)); omega
theorem ru_lt (hG : Geo u (tI X) (tI Y)) {x : Int} {k j : Nat} (hk : k < 20) (hu : u k = true) (hj : j < 20) (huj : u j = true) : ru (tI X) (tI Y) x k * wu (tI X) j < ru (tI X) (tI Y) x j * wu (tI X) k ↔ hg (tI X) (tI Y) x k < hg (tI X) (tI Y) x j := by
  have e := ru_hg hG (x := x) hk hu
  have f := ru_hg hG (x := x) hj huj
  have g : Qf * (ru (tI X) (tI Y) x j * wu (tI X) k - ru (tI X) (tI Y) x k * wu (tI X) j) = (wu (tI X) k * wu (tI X) j) * (hg (tI X) (tI Y) x j - hg (tI X) (tI Y) x k) := by grind
  have a := mp_pos (b := ru (tI X) (tI Y) x j * wu (tI X) k - ru (tI X) (tI Y) x k * wu (tI X) j) Qf_pos
  have b := mp_pos (b := hg (tI X) (tI Y) x j - hg (tI X) (tI Y) x k) (Int.mul_pos (wu_pos (hG.1 k hk hu)) (wu_pos (hG.1 j hj huj)))
  constructor
  · intro h; have := b.mp (by rw [← g]; exact a.mpr (by omega)); omega
  · intro h; have := a.mp (by rw [g]; exact b.mpr (by omega)); omega
theorem less_iff {a b c d : Int32} {p q r s m n i j : Int} (h1 : Is a p m) (h2 : Is b q n) (h3 : Is c r i) (h4 : Is d s j) (b1 : m * j < 2147483648) (b2 : i * n < 2147483648) : f_R_less a b c d = true ↔ p * s < r * q := by
  unfold f_R_less
  rw [ite_n, Is_nle (Is_mul h3 h2 b2) (Is_mul h1 h4 b1)]
theorem Is_rise (hX : Bd X) (hY : Bd Y) {k : Nat} (hk : k < 20) {x : Int32} {p : Int} (hx : Is x p 100) : Is (f_R_rise u (eX X) (eX Y) (oX X) (oX Y) k x) (tI Y (2 * k) * (tI X (2 * k + 1) - tI X (2 * k)) + (tI Y (2 * k + 1) - tI Y (2 * k)) * (p - tI X (2 * k))) 60000 := Is_add (Is_mul (Is_tI hY (by omega)) (Is_sub (Is_tI hX (by omega)) (Is_tI hX (by omega)) (by decide)) (by decide)) (Is_mul (Is_sub (Is_tI hY (by omega)) (Is_tI hY (by omega)) (by decide)) (Is_sub hx (Is_tI hX (by omega)) (by decide)) (by decide)) (by decide)
theorem Is_width (hX : Bd X) {k : Nat} (hk : k < 20) : Is (f_R_width u (eX X) (eX Y) (oX X) (oX Y) k) (tI X (2 * k + 1) - tI X (2 * k)) 200 := Is_sub (Is_tI hX (by omega)) (Is_tI hX (by omega)) (by decide)
theorem upright_iff {k : Nat} : f_R_isUpright u (eX X) (eX Y) (oX X) (oX Y) k = true ↔ tI X (2 * k) = tI X (2 * k + 1) := by
  unfold f_R_isUpright; rw [ite_p, I32_eq]; exact Iff.rfl
theorem Is_M : Is 1000000 1000000 1000000 := ⟨rfl, by decide, by decide⟩
def FiI (u : Nat → Bool) (X Y : Nat → Int32) (x y : Int) (k : Nat) (fo up wi : Int32) : Prop := BestN u (tI X) (tI Y) x y k fo ∧ (fo = -1 → Is up 1000000 1000000 ∧ Is wi 1 200) ∧ (∀ b, b < k → fo = nI b → u b = true ∧ Is up (ru (tI X) (tI Y) x b) 60000 ∧ Is wi (wu (tI X) b) 200)
theorem hg_bd (hG : Geo u (tI X) (tI Y)) {x : Int} {k : Nat} (hk : k < 20) (he : El u (tI X) x k) : hg (tI X) (tI Y) x k ≤ Qf * 100 := by
  rcases hG.1 k hk he.1 with h | ⟨h, h2⟩
  · rw [hg_flat h]; exact (Hh_bd hG hk h he.2.1 he.2.2).2
  · rw [hg_up h]; exact Qf_le.mpr (hG.2.1 (2 * k) (by omega)).2.2
set_option maxHeartbeats 1000000 in
theorem find_fl (hG : Geo u (tI X) (tI Y)) (hX : Bd X) (hY : Bd Y) {x y : Int32} {p q : Int} (hx : Is x p 100) (hy : Is y q 100) : ∀ n k fo up wi, n + k = 20 → FiI u X Y p q k fo up wi → (∃ j, k ≤ j ∧ j < 20 ∧ fl_R_find_1 u (eX X) (eX Y) (oX X) (oX Y) x y n k fo up wi = nI (100 + j) ∧ u j = true ∧ ins (tI X) (tI Y) j p q ∧ ∀ i, k ≤ i → i < j → u i = true → ¬ ins (tI X) (tI Y) i p q) ∨ ((∀ i, k ≤ i → i < 20 → u i = true → ¬ ins (tI X) (tI Y) i p q) ∧ BestN u (tI X) (tI Y) p q 20 (fl_R_find_1 u (eX X) (eX Y) (oX X) (oX Y) x y n k fo up wi)) := by
  intro n
  induction n with
  | zero =>
    intro k fo up wi h hI
    rw [show k = 20 by omega] at hI ⊢
    exact Or.inr ⟨fun i h1 h2 => by omega, hI.1⟩
  | succ n ih =>
    intro k fo up wi h hI
    have hk : k < 20 := by omega
    show (∃ j, _ ∧ _ ∧ fb_R_find_1 u (eX X) (eX Y) (oX X) (oX Y) x y (fl_R_find_1 u (eX X) (eX Y) (oX X) (oX Y) x y n) k fo up wi = nI (100 + j) ∧ _) ∨ (_ ∧ BestN u (tI X) (tI Y) p q 20 (fb_R_find_1 u (eX X) (eX Y) (oX X) (oX Y) x y (fl_R_find_1 u (eX X) (eX Y) (oX X) (oX Y) x y n) k fo up wi))
    have go : ∀ fo up wi, (u k = true → ¬ ins (tI X) (tI Y) k p q) → FiI u X Y p q (k + 1) fo up wi → (∃ j, k ≤ j ∧ j < 20 ∧ fl_R_find_1 u (eX X) (eX Y) (oX X) (oX Y) x y n (k + 1) fo up wi = nI (100 + j) ∧ u j = true ∧ ins (tI X) (tI Y) j p q ∧ ∀ i, k ≤ i → i < j → u i = true → ¬ ins (tI X) (tI Y) i p q) ∨ ((∀ i, k ≤ i → i < 20 → u i = true → ¬ ins (tI X) (tI Y) i p q) ∧ BestN u (tI X) (tI Y) p q 20 (fl_R_find_1 u (eX X) (eX Y) (oX X) (oX Y) x y n (k + 1) fo up wi)) := fun fo up wi hk hI => by
      rcases ih (k + 1) fo up wi (by omega) hI with ⟨j, a, b, c, d, e, f⟩ | ⟨a, b⟩
      · refine Or.inl ⟨j, by omega, b, c, d, e, fun i h1 h2 => ?_⟩
        by_cases e : i = k
        · rw [e]; exact hk
        · exact f i (by omega) h2
      · refine Or.inr ⟨fun i h1 h2 => ?_, b⟩
        by_cases e : i = k
        · rw [e]; exact hk
        · exact a i (by omega) h2
    have skipI : (El u (tI X) p k → hg (tI X) (tI Y) p k ≤ Qf * q) → FiI u X Y p q (k + 1) fo up wi := fun hs => by
      refine ⟨BestN_skip hI.1 hs, hI.2.1, fun b hb e => ?_⟩
      rcases Nat.lt_or_ge b k with z | z
      · exact hI.2.2 b z e
      · exfalso
        rcases hI.1 with ⟨e2, _⟩ | ⟨c, hc, e2, _⟩
        · exact nI_nm1 (k := b) (by omega) (by rw [← e, e2])
        · have := (nI_eq (a := b) (b := c) (by omega) (by omega)).mp (by rw [← e, e2]); omega
    unfold fb_R_find_1
    by_cases c1 : u k = true
    · rw [if_pos c1]
      have pk := hG.1 k hk c1
      have hin := in_ref (u := u) hX hY hk pk hx hy
      by_cases c2 : f_R_isInside u (eX X) (eX Y) (oX X) (oX Y) k x y = true
      · rw [if_pos c2]
        exact Or.inl ⟨k, Nat.le_refl _, hk, rfl, c1, hin.mp c2, fun i h1 h2 => by omega⟩
      · rw [if_neg c2, if_pos c1]
        have nin : u k = true → ¬ ins (tI X) (tI Y) k p q := fun _ z => c2 (hin.mpr z)
        have xa : Is (eX X k) (tI X (2 * k)) 100 := Is_tI hX (by omega)
        have xb : Is (oX X k) (tI X (2 * k + 1)) 100 := Is_tI hX (by omega)
        have ya : Is (eX Y k) (tI Y (2 * k)) 100 := Is_tI hY (by omega)
        by_cases c3 : x < eX X k
        · rw [if_pos c3]
          exact go _ _ _ nin (skipI (fun e => by have := (Is_lt hx xa).mp c3; have := e.2.1; omega))
        · rw [if_neg c3]
          by_cases c4 : oX X k < x
          · rw [if_pos c4]
            exact go _ _ _ nin (skipI (fun e => by have := (Is_lt xb hx).mp c4; have := e.2.2; omega))
          · rw [if_neg c4]
            have el : El u (tI X) p k := ⟨c1, (Is_nlt hx xa).mp c3, (Is_nlt xb hx).mp c4⟩
            -- the two tests, with whatever stands for the height
            have core : ∀ (A B : Int32), Is A (ru (tI X) (tI Y) p k) 60000 → Is B (wu (tI X) k) 200 → (∃ j, k ≤ j ∧ j < 20 ∧ (if f_R_less y 1 A B = true then (if f_R_less A B up wi = true then (fl_R_find_1 u (eX X) (eX Y) (oX X) (oX Y) x y n (k + 1) (nI k) A B) else (fl_R_find_1 u (eX X) (eX Y) (oX X) (oX Y) x y n (k + 1) fo up wi)) else (fl_R_find_1 u (eX X) (eX Y) (oX X) (oX Y) x y n (k + 1) fo up wi)) = nI (100 + j) ∧ u j = true ∧ ins (tI X) (tI Y) j p q ∧ ∀ i, k ≤ i → i < j → u i = true → ¬ ins (tI X) (tI Y) i p q) ∨ ((∀ i, k ≤ i → i < 20 → u i = true → ¬ ins (tI X) (tI Y) i p q) ∧ BestN u (tI X) (tI Y) p q 20 (if f_R_less y 1 A B = true then (if f_R_less A B up wi = true then (fl_R_find_1 u (eX X) (eX Y) (oX X) (oX Y) x y n (k + 1) (nI k) A B) else (fl_R_find_1 u (eX X) (eX Y) (oX X) (oX Y) x y n (k + 1) fo up wi)) else (fl_R_find_1 u (eX X) (eX Y) (oX X) (oX Y) x y n (k + 1) fo up wi))) := by
              intro A B hA hB
              have l1 := less_iff hy Is_1 hA hB (by decide) (by decide)
              rw [ru_up hG hk c1] at l1
              by_cases d1 : f_R_less y 1 A B = true
              · rw [if_pos d1]
                have h5 := l1.mp d1
                have new : (∀ b, b < k → fo = nI b → hg (tI X) (tI Y) p k < hg (tI X) (tI Y) p b) → FiI u X Y p q (k + 1) (nI k) A B := fun hb => by
                  refine ⟨BestN_new hI.1 el h5 hb, fun e => absurd e (nI_nm1 (by omega)), fun b hb2 e => ?_⟩
                  have := (nI_eq (a := k) (b := b) (by omega) (by omega)).mp e
                  subst this
                  exact ⟨c1, hA, hB⟩
                rcases hI.1 with ⟨e2, hnone⟩ | ⟨b, hb, e2, b1, b2, b3⟩
                · obtain ⟨i1, i2⟩ := hI.2.1 e2
                  have l2 := less_iff hA hB i1 i2 (by decide) (by decide)
                  have bd := hg_bd hG hk el
                  have e := ru_hg hG (x := p) hk c1
                  have w := wu_pos pk
                  have lt : ru (tI X) (tI Y) p k * 1 < 1000000 * wu (tI X) k := by
                    have g : Qf * (1000000 * wu (tI X) k - ru (tI X) (tI Y) p k * 1) = wu (tI X) k * (Qf * 1000000 - hg (tI X) (tI Y) p k) := by grind
                    have a := mp_pos (b := 1000000 * wu (tI X) k - ru (tI X) (tI Y) p k * 1) Qf_pos
                    have q0 : Qf * 100 < Qf * 1000000 := Qf_lt.mpr (by decide)
                    have := a.mp (by rw [g]; exact Int.mul_pos w (by omega))
                    omega
                  rw [if_pos (l2.mpr lt)]
                  exact go _ _ _ nin (new (fun b hb e => absurd (by rw [← e, e2]) (nI_nm1 (k := b) (by omega))))
                · obtain ⟨ub, i1, i2⟩ := hI.2.2 b hb e2
                  have l2 := less_iff hA hB i1 i2 (by decide) (by decide)
                  rw [ru_lt hG hk c1 (show b < 20 by omega) ub] at l2
                  by_cases d2 : f_R_less A B up wi = true
                  · rw [if_pos d2]
                    refine go _ _ _ nin (new (fun b' hb' e => ?_))
                    have := (nI_eq (a := b) (b := b') (by omega) (by omega)).mp (by rw [← e, e2])
                    subst this
                    exact l2.mp d2
                  · rw [if_neg d2]
                    refine go _ _ _ nin ⟨?_, hI.2.1, fun b' hb' e => ?_⟩
                    · have hI1 := hI.1
                      rw [e2] at hI1 ⊢
                      exact BestN_keep hb hI1 (by have := fun z => d2 (l2.mpr z); exact Int.not_lt.mp this) (by omega)
                    · have := (nI_eq (a := b) (b := b') (by omega) (by omega)).mp (by rw [← e, e2])
                      subst this
                      exact ⟨ub, i1, i2⟩
              · rw [if_neg d1]
                exact go _ _ _ nin (skipI (fun _ => Int.not_lt.mp (fun z => d1 (l1.mpr z))))
            by_cases c5 : f_R_isUpright u (eX X) (eX Y) (oX X) (oX Y) k = true
            · rw [if_pos c5, if_pos c5]
              have up' := upright_iff.mp c5
              exact core _ _ (by unfold ru; rw [if_pos up']; exact Is_up ya (by decide)) (by unfold wu; rw [if_pos up']; exact Is_up Is_1 (by decide))
            · rw [if_neg c5, if_neg c5]
              have up' : ¬ tI X (2 * k) = tI X (2 * k + 1) := fun z => c5 (upright_iff.mpr z)
              exact core _ _ (by unfold ru; rw [if_neg up']; exact Is_rise hX hY hk hx) (by unfold wu; rw [if_neg up']; exact Is_width hX hk)
    · rw [if_neg c1, if_neg c1]
      exact go _ _ _ (fun z => absurd z c1) (skipI (fun e => absurd e.1 c1))
theorem nI_sum (j : Nat) : (100 : Int32) + nI j = nI (100 + j) := nI_add 100 j
theorem find_eq (hG : Geo u (tI X) (tI Y)) (hX : Bd X) (hY : Bd Y) (x y : Int32) : f_A_find u X Y L1 L2 x y = f_R_find u (eX X) (eX Y) (oX X) (oX Y) x y := by
  unfold f_A_find f_R_find
  by_cases n1 : f_R_near x = true
  · by_cases n2 : f_R_near y = true
    · rw [if_pos (nearby_iff.mpr ⟨near_iff.mp n1, near_iff.mp n2⟩), if_pos n1, if_pos n2, ends_eq hG.1]
      have hx := Is_near n1
      have hy := Is_near n2
      by_cases c1 : f_R_endings u (eX X) (eX Y) (oX X) (oX Y) x y ≤ 0
      · rw [if_pos c1, if_pos c1]
        have hf := find_fl hG hX hY hx hy 20 0 (-1) 1000000 1 rfl ⟨Or.inl ⟨rfl, fun k hk => by omega⟩, fun _ => ⟨Is_M, Is_up Is_1 (by decide)⟩, fun b hb => by omega⟩
        rcases around_fl (u := u) (X := X) (Y := Y) (x := x) (y := y) 20 0 rfl with ⟨a, b⟩ | ⟨j, a, b, c, d, e, f⟩
        · have a : f_M_segmentAround u X Y x y = -1 := a
          rw [if_pos a]
          rcases hf with ⟨i, _, i2, _, i4, i5, _⟩ | ⟨_, i2⟩
          · exact absurd ((in_class hX hY i2 hx hy).mpr i5) (b i (by omega) i2 i4)
          · exact Best_eq (struck_best hG hX hY hx hy) i2
        · have c : f_M_segmentAround u X Y x y = nI j := c
          rw [c, if_neg (nI_nm1 (by omega)), nI_sum]
          rcases hf with ⟨i, i1, i2, i3, i4, i5, i6⟩ | ⟨i1, _⟩
          · rw [i3]
            have ej := (in_class hX hY b hx hy).mp e
            rcases Nat.lt_trichotomy i j with z | z | z
            · exact absurd ((in_class hX hY i2 hx hy).mpr i5) (f i (by omega) z i4)
            · rw [z]
            · exact absurd ej (i6 j (by omega) z d)
          · exact absurd ((in_class hX hY b hx hy).mp e) (i1 j (by omega) b d)
      · rw [if_neg c1, if_neg c1]
    · rw [if_neg (fun z => n2 (near_iff.mpr (nearby_iff.mp z).2)), if_pos n1, if_neg n2]
  · rw [if_neg (fun z => n1 (near_iff.mpr (nearby_iff.mp z).1)), if_neg n1]
end EZ
