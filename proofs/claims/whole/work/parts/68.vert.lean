/-! vertices; what a point sees -/
section VE
variable {u : Nat → Bool} {X Y : Nat → Int32} {L1 L2 : Nat → Nat}
theorem fov_fl {a : Nat} : ∀ n b, n + b = a → (fl_M_isFirstOfItsVertex u X Y a n b = true ↔ ∀ c, b ≤ c → c < a → u (c / 2) = true → ¬ f_M_sameTail u X Y a c = true) := by
  intro n
  induction n with
  | zero => intro b h; exact ⟨fun _ c h1 h2 => by omega, fun _ => rfl⟩
  | succ n ih =>
    intro b h
    show fb_M_isFirstOfItsVertex u X Y a (fl_M_isFirstOfItsVertex u X Y a n) b = true ↔ _
    unfold fb_M_isFirstOfItsVertex
    have go : (u (b / 2) = true → ¬ f_M_sameTail u X Y a b = true) → (fl_M_isFirstOfItsVertex u X Y a n (b + 1) = true ↔ ∀ c, b ≤ c → c < a → u (c / 2) = true → ¬ f_M_sameTail u X Y a c = true) := fun hb => by
      rw [ih (b + 1) (by omega)]
      constructor
      · intro q c h1 h2
        by_cases e : c = b
        · rw [e]; exact hb
        · exact q c (by omega) h2
      · exact fun q c h1 => q c (by omega)
    by_cases c1 : u (b / 2) = true
    · rw [if_pos c1]
      by_cases c2 : f_M_sameTail u X Y a b = true
      · rw [if_pos c2]; exact ⟨fun z => (by cases z), fun z => absurd c2 (z b (Nat.le_refl _) (by omega) c1)⟩
      · rw [if_neg c2]; exact go (fun _ => c2)
    · rw [if_neg c1]; exact go (fun z => absurd z c1)
theorem fov_iff {a : Nat} : f_M_isFirstOfItsVertex u X Y a = true ↔ ∀ c, c < a → u (c / 2) = true → ¬ (tI X a = tI X c ∧ tI Y a = tI Y c) := by
  have h := fov_fl (u := u) (X := X) (Y := Y) (a := a) a 0 rfl
  refine h.trans ⟨fun q c h1 h2 h3 => q c (by omega) h1 h2 (same_tail.mpr h3), fun q c _ h1 h2 h3 => q c h1 h2 (same_tail.mp h3)⟩
theorem first_fl {aX aY bX bY : Nat → Int32} {x y : Int32} : ∀ n fo, (∃ k, k < n ∧ u k = true ∧ f_R_isEnd u aX aY bX bY k x y = true ∧ (∀ j, j < k → u j = true → ¬ f_R_isEnd u aX aY bX bY j x y = true) ∧ fl_R_firstAt_1 u aX aY bX bY x y n fo = k) ∨ ((∀ j, j < n → u j = true → ¬ f_R_isEnd u aX aY bX bY j x y = true) ∧ fl_R_firstAt_1 u aX aY bX bY x y n fo = fo) := by
  intro n
  induction n with
  | zero => intro fo; exact Or.inr ⟨fun j h => by omega, rfl⟩
  | succ n ih =>
    intro fo
    show (∃ k, _ ∧ _ ∧ _ ∧ _ ∧ fb_R_firstAt_1 u aX aY bX bY x y (fl_R_firstAt_1 u aX aY bX bY x y n) n fo = k) ∨ (_ ∧ fb_R_firstAt_1 u aX aY bX bY x y (fl_R_firstAt_1 u aX aY bX bY x y n) n fo = fo)
    unfold fb_R_firstAt_1
    have go : (u n = true → ¬ f_R_isEnd u aX aY bX bY n x y = true) → (∃ k, k < n + 1 ∧ u k = true ∧ f_R_isEnd u aX aY bX bY k x y = true ∧ (∀ j, j < k → u j = true → ¬ f_R_isEnd u aX aY bX bY j x y = true) ∧ fl_R_firstAt_1 u aX aY bX bY x y n fo = k) ∨ ((∀ j, j < n + 1 → u j = true → ¬ f_R_isEnd u aX aY bX bY j x y = true) ∧ fl_R_firstAt_1 u aX aY bX bY x y n fo = fo) := fun hn => by
      rcases ih fo with ⟨k, a, b, c, d, e⟩ | ⟨a, b⟩
      · exact Or.inl ⟨k, by omega, b, c, d, e⟩
      · refine Or.inr ⟨fun j hj => ?_, b⟩
        by_cases e : j = n
        · rw [e]; exact hn
        · exact a j (by omega)
    by_cases c1 : u n = true
    · rw [if_pos c1]
      by_cases c2 : f_R_isEnd u aX aY bX bY n x y = true
      · rw [if_pos c2]
        rcases ih n with ⟨k, a, b, c, d, e⟩ | ⟨a, b⟩
        · exact Or.inl ⟨k, by omega, b, c, d, e⟩
        · exact Or.inl ⟨n, by omega, c1, c2, a, b⟩
      · rw [if_neg c2]; exact go (fun _ => c2)
    · rw [if_neg c1]; exact go (fun z => absurd z c1)
theorem first_iff {aX aY bX bY : Nat → Int32} {x y : Int32} {k : Nat} (hk : k < 20) (hu : u k = true) (he : f_R_isEnd u aX aY bX bY k x y = true) : f_R_firstAt u aX aY bX bY x y = k ↔ ∀ j, j < k → u j = true → ¬ f_R_isEnd u aX aY bX bY j x y = true := by
  rcases first_fl (u := u) (aX := aX) (aY := aY) (bX := bX) (bY := bY) (x := x) (y := y) 20 20 with ⟨i, a, b, c, d, e⟩ | ⟨a, b⟩
  · have e : f_R_firstAt u aX aY bX bY x y = i := e
    rw [e]
    constructor
    · intro z; rw [← z]; exact d
    · intro q
      rcases Nat.lt_trichotomy i k with z | z | z
      · exact absurd c (q i z b)
      · exact z
      · exact absurd he (d k z hu)
  · exact absurd he (a k hk hu)
theorem vert_stepA (rec : Nat → Nat → Nat) (a c : Nat) : fb_A_vertices u X Y L1 L2 rec a c = rec (a + 1) (c + if u (a / 2) = true ∧ f_M_isFirstOfItsVertex u X Y a = true then 1 else 0) := by
  unfold fb_A_vertices f_M_hasArrow
  by_cases c1 : u (a / 2) = true
  · rw [if_pos c1]
    by_cases c2 : f_M_isFirstOfItsVertex u X Y a = true
    · rw [if_pos c2, if_pos ⟨c1, c2⟩]
    · rw [if_neg c2, if_neg (fun z => c2 z.2)]; rfl
  · rw [if_neg c1, if_neg (fun z => c1 z.1)]; rfl
theorem vert_stepR {aX aY bX bY : Nat → Int32} (rec : Nat → Nat → Nat) (k c : Nat) : fb_R_vertices_1 u aX aY bX bY rec k c = rec (k + 1) (c + ((if u k = true ∧ f_R_firstAt u aX aY bX bY (aX k) (aY k) = k then 1 else 0) + if u k = true ∧ f_R_firstAt u aX aY bX bY (bX k) (bY k) = k then 1 else 0)) := by
  unfold fb_R_vertices_1
  by_cases c1 : u k = true
  · rw [if_pos c1]
    by_cases c2 : f_R_firstAt u aX aY bX bY (aX k) (aY k) = k <;> by_cases c3 : f_R_firstAt u aX aY bX bY (bX k) (bY k) = k
    · rw [if_pos c2, if_pos c3, if_pos ⟨c1, c2⟩, if_pos ⟨c1, c3⟩]
    · rw [if_pos c2, if_neg c3, if_pos ⟨c1, c2⟩, if_neg (fun z => c3 z.2)]
    · rw [if_neg c2, if_pos c3, if_neg (fun z => c2 z.2), if_pos ⟨c1, c3⟩]
    · rw [if_neg c2, if_neg c3, if_neg (fun z => c2 z.2), if_neg (fun z => c3 z.2)]
  · rw [if_neg c1, if_neg (fun z => c1 z.1), if_neg (fun z => c1 z.1)]; rfl
theorem ifN {p q : Prop} [Decidable p] [Decidable q] (h : p ↔ q) : (if p then 1 else 0 : Nat) = if q then 1 else 0 := ifc h 1 0
theorem vert_fl (hp : ∀ k, k < 20 → u k = true → prp (tI X) (tI Y) k) : ∀ n k c, n + k = 20 → fl_A_vertices u X Y L1 L2 (2 * n) (2 * k) c = fl_R_vertices_1 u (eX X) (eX Y) (oX X) (oX Y) n k c := by
  intro n
  induction n with
  | zero => intro k c _; rfl
  | succ n ih =>
    intro k c h
    show fb_A_vertices u X Y L1 L2 (fb_A_vertices u X Y L1 L2 (fl_A_vertices u X Y L1 L2 (2 * n))) (2 * k) c = fb_R_vertices_1 u (eX X) (eX Y) (oX X) (oX Y) (fl_R_vertices_1 u (eX X) (eX Y) (oX X) (oX Y) n) k c
    rw [vert_stepA, vert_stepA, vert_stepR]
    rw [show 2 * k / 2 = k by omega, show (2 * k + 1) / 2 = k by omega, show 2 * k + 1 + 1 = 2 * (k + 1) by omega, ih _ _ (by omega), Nat.add_assoc]
    have hk : k < 20 := by omega
    have e1 : (u k = true ∧ f_M_isFirstOfItsVertex u X Y (2 * k) = true) ↔ (u k = true ∧ f_R_firstAt u (eX X) (eX Y) (oX X) (oX Y) (eX X k) (eX Y k) = k) := by
      refine and_congr_right (fun hu => ?_)
      rw [fov_iff, first_iff hk hu (isEnd_iff.mpr (Or.inl ⟨rfl, rfl⟩))]
      constructor
      · intro q j hj huj he
        rcases isEnd_I.mp he with z | z
        · exact q (2 * j) (by omega) (by rw [show 2 * j / 2 = j by omega]; exact huj) z
        · exact q (2 * j + 1) (by omega) (by rw [show (2 * j + 1) / 2 = j by omega]; exact huj) z
      · intro q c hc huc he
        refine q (c / 2) (by omega) huc (isEnd_I.mpr ?_)
        rcases (show c = 2 * (c / 2) ∨ c = 2 * (c / 2) + 1 by omega) with e | e
        · left; rw [← e]; exact he
        · right; rw [← e]; exact he
    have e2 : (u k = true ∧ f_M_isFirstOfItsVertex u X Y (2 * k + 1) = true) ↔ (u k = true ∧ f_R_firstAt u (eX X) (eX Y) (oX X) (oX Y) (oX X k) (oX Y k) = k) := by
      refine and_congr_right (fun hu => ?_)
      rw [fov_iff, first_iff hk hu (isEnd_iff.mpr (Or.inr ⟨rfl, rfl⟩))]
      constructor
      · intro q j hj huj he
        rcases isEnd_I.mp he with z | z
        · exact q (2 * j) (by omega) (by rw [show 2 * j / 2 = j by omega]; exact huj) z
        · exact q (2 * j + 1) (by omega) (by rw [show (2 * j + 1) / 2 = j by omega]; exact huj) z
      · intro q c hc huc he
        by_cases e3 : c = 2 * k
        · rw [e3] at he; exact prp_ne (hp k hk hu) ⟨he.1.symm, he.2.symm⟩
        · refine q (c / 2) (by omega) huc (isEnd_I.mpr ?_)
          rcases (show c = 2 * (c / 2) ∨ c = 2 * (c / 2) + 1 by omega) with e | e
          · left; rw [← e]; exact he
          · right; rw [← e]; exact he
    rw [ifN e1, ifN e2]
theorem vertices_eq (hp : ∀ k, k < 20 → u k = true → prp (tI X) (tI Y) k) : f_A_vertices u X Y L1 L2 = f_R_vertices u (eX X) (eX Y) (oX X) (oX Y) := vert_fl hp 20 0 0 rfl
/-- free, in whole numbers -/
def Free (u : Nat → Bool) (tx ty : Nat → Int) (x y : Int) : Prop := ∀ j, j < 20 → u j = true → ¬ ((x = tx (2 * j) ∧ y = ty (2 * j)) ∨ (x = tx (2 * j + 1) ∧ y = ty (2 * j + 1))) ∧ ¬ ins tx ty j x y
theorem free_I (hG : Geo u (tI X) (tI Y)) (hX : Bd X) (hY : Bd Y) {x y : Int32} (n1 : f_R_near x = true) (n2 : f_R_near y = true) : f_R_isFree u (eX X) (eX Y) (oX X) (oX Y) x y = true ↔ Free u (tI X) (tI Y) x.toInt y.toInt := by
  rw [free_iff]
  have h1 := Is_near n1
  have h2 := Is_near n2
  exact ⟨fun q j hj hu => ⟨fun z => (q j hj hu).1 (isEnd_I.mpr z), fun z => (q j hj hu).2 ((in_ref hX hY hj (hG.1 j hj hu) h1 h2).mpr z)⟩, fun q j hj hu => ⟨fun z => (q j hj hu).1 (isEnd_I.mp z), fun z => (q j hj hu).2 ((in_ref hX hY hj (hG.1 j hj hu) h1 h2).mp z)⟩⟩
/-- the side that a point sees, or why none -/
theorem seen (hG : Geo u (tI X) (tI Y)) (hX : Bd X) (hY : Bd Y) (x y : Int32) : (f_R_near x = true ∧ f_R_near y = true ∧ f_R_isFree u (eX X) (eX Y) (oX X) (oX Y) x y = true ∧ Free u (tI X) (tI Y) x.toInt y.toInt ∧ f_R_refusal u (eX X) (eX Y) (oX X) (oX Y) x y = 0 ∧ f_A_sideSeenFrom u X Y L1 L2 x y = nI (f_M_sideAbove u X Y x y) ∧ f_M_sideAbove u X Y x y = sab u X Y x.toInt y.toInt) ∨ (¬ (f_R_near x = true ∧ f_R_near y = true ∧ f_R_isFree u (eX X) (eX Y) (oX X) (oX Y) x y = true) ∧ f_A_sideSeenFrom u X Y L1 L2 x y = f_R_refusal u (eX X) (eX Y) (oX X) (oX Y) x y ∧ f_R_refusal u (eX X) (eX Y) (oX X) (oX Y) x y < 0) := by
  unfold f_R_refusal f_A_sideSeenFrom
  by_cases n1 : f_R_near x = true
  · by_cases n2 : f_R_near y = true
    · rw [if_pos (nearby_iff.mpr ⟨near_iff.mp n1, near_iff.mp n2⟩), if_pos n1, if_pos n2]
      have h1 := Is_near n1
      have h2 := Is_near n2
      by_cases c1 : f_R_isFree u (eX X) (eX Y) (oX X) (oX Y) x y = true
      · have q := free_iff.mp c1
        have e0 : ¬ 0 < f_M_endsAt u X Y x y := by
          rw [ends_eq hG.1]
          have := endings_zero.mpr (fun j hj hu => (q j hj hu).1)
          omega
        have e1 : f_M_segmentAround u X Y x y = -1 := around_none.mpr (fun j hj hu z => (q j hj hu).2 ((in_ref hX hY hj (hG.1 j hj hu) h1 h2).mpr ((in_class hX hY hj h1 h2).mp z)))
        rw [if_pos c1, if_neg e0, if_pos e1]
        exact Or.inl ⟨n1, n2, c1, (free_I hG hX hY n1 n2).mp c1, rfl, rfl, (sab_at h1 h2).symm⟩
      · rw [if_neg c1]
        refine Or.inr ⟨fun z => c1 z.2.2, ?_, by decide⟩
        by_cases e0 : 0 < f_M_endsAt u X Y x y
        · rw [if_pos e0]
        · rw [if_neg e0, if_neg]
          intro e1
          refine c1 (free_iff.mpr (fun j hj hu => ⟨?_, fun z => around_none.mp e1 j hj hu ((in_class hX hY hj h1 h2).mpr ((in_ref hX hY hj (hG.1 j hj hu) h1 h2).mp z))⟩))
          rw [ends_eq hG.1] at e0
          exact endings_zero.mp (by omega) j hj hu
    · rw [if_neg (fun z => n2 (near_iff.mpr (nearby_iff.mp z).2)), if_pos n1, if_neg n2]
      exact Or.inr ⟨fun z => n2 z.2.1, rfl, by decide⟩
  · rw [if_neg (fun z => n1 (near_iff.mpr (nearby_iff.mp z).1)), if_neg n1]
    exact Or.inr ⟨fun z => n1 z.1, rfl, by decide⟩
end VE
/-! Counting -/
def cnt (P : Nat → Bool) : Nat → Nat
  | 0 => 0
  | n + 1 => cnt P n + if P n = true then 1 else 0
theorem cnt_congr {P Q : Nat → Bool} : ∀ n, (∀ i, i < n → P i = Q i) → cnt P n = cnt Q n := by
  intro n
  induction n with
  | zero => intro _; rfl
  | succ n ih => intro h; unfold cnt; rw [ih (fun i hi => h i (by omega)), h n (by omega)]
/-- one taken out -/
theorem cnt_out {Q : Nat → Bool} {j : Nat} : ∀ n, j < n → Q j = true → cnt Q n = cnt (fun i => if i = j then false else Q i) n + 1 := by
  intro n
  induction n with
  | zero => intro h; omega
  | succ n ih =>
    intro h hq
    unfold cnt
    by_cases e : j = n
    · subst e
      rw [cnt_congr (Q := Q) j (P := fun i => if i = j then false else Q i) (fun i hi => by rw [if_neg (by omega)]), hq, if_pos rfl, if_pos rfl, if_neg (by decide)]
    · rw [ih (by omega) hq, if_neg (show ¬ n = j from fun z => e z.symm)]; omega
theorem cnt_le {P Q : Nat → Bool} {m : Nat} (f : Nat → Nat) : ∀ n, (∀ i, i < n → P i = true → f i < m ∧ Q (f i) = true) → (∀ i j, i < n → j < n → P i = true → P j = true → f i = f j → i = j) → cnt P n ≤ cnt Q m := by
  intro n
  induction n generalizing Q with
  | zero => intro _ _; exact Nat.zero_le _
  | succ n ih =>
    intro h1 h2
    show cnt P n + (if P n = true then 1 else 0) ≤ cnt Q m
    by_cases c : P n = true
    · rw [if_pos c]
      obtain ⟨a, b⟩ := h1 n (by omega) c
      rw [cnt_out m a b]
      have := ih (Q := fun i => if i = f n then false else Q i) (fun i hi hp => by
        obtain ⟨a2, b2⟩ := h1 i (by omega) hp
        refine ⟨a2, ?_⟩
        rw [if_neg]
        · exact b2
        · intro e; have := h2 i n (by omega) (by omega) hp c e; omega) (fun i j hi hj => h2 i j (by omega) (by omega))
      omega
    · rw [if_neg c]
      exact ih (fun i hi => h1 i (by omega)) (fun i j hi hj => h2 i j (by omega) (by omega))
theorem cnt_eq {P Q : Nat → Bool} {n m : Nat} (f g : Nat → Nat) (h1 : ∀ i, i < n → P i = true → f i < m ∧ Q (f i) = true) (h2 : ∀ i j, i < n → j < n → P i = true → P j = true → f i = f j → i = j) (h3 : ∀ i, i < m → Q i = true → g i < n ∧ P (g i) = true) (h4 : ∀ i j, i < m → j < m → Q i = true → Q j = true → g i = g j → i = j) : cnt P n = cnt Q m := Nat.le_antisymm (cnt_le f n h1 h2) (cnt_le g m h3 h4)
