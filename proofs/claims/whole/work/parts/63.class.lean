/-! What the class's own looking about answers, in whole numbers -/
def tI (X : Nat → Int32) : Nat → Int := fun a => (X a).toInt
def Bd (X : Nat → Int32) : Prop := ∀ a, a < 40 → Wn 100 (X a).toInt
theorem Is_tI {X : Nat → Int32} (h : Bd X) {a : Nat} (ha : a < 40) : Is (X a) (tI X a) 100 := ⟨rfl, h a ha⟩
theorem Is_ofInt {a n : Int} (h : Wn n a) (hn : n < 2147483648) : Is (Int32.ofInt a) a n := ⟨Int32.toInt_ofInt_of_le (by have := h.1; omega) (by have := h.2; omega), h⟩
theorem ofInt_Is {x : Int32} {a n : Int} (h : Is x a n) : Int32.ofInt a = x := by rw [← h.1]; exact Int32.ofInt_toInt x
theorem ifc {α : Type} {p q : Prop} [Decidable p] [Decidable q] (h : p ↔ q) (a b : α) : (if p then a else b) = if q then a else b := by
  by_cases c : p
  · rw [if_pos c, if_pos (h.mp c)]
  · rw [if_neg c, if_neg (fun z => c (h.mpr z))]
theorem Is_nlt {x y : Int32} {a b m n : Int} (hx : Is x a m) (hy : Is y b n) : ¬ x < y ↔ b ≤ a := by rw [Is_lt hx hy]; omega
theorem Is_nle {x y : Int32} {a b m n : Int} (hx : Is x a m) (hy : Is y b n) : ¬ x ≤ y ↔ b < a := by rw [Is_le hx hy]; omega
section KL
variable {u : Nat → Bool} {X Y : Nat → Int32}
theorem Is_stepX (hX : Bd X) {a : Nat} (ha : a < 40) : Is (f_M_stepX u X Y a) (tI X (tw a) - tI X a) 200 := Is_sub (Is_tI hX (tw_lt ha)) (Is_tI hX ha) (by decide)
theorem Is_stepY (hY : Bd Y) {a : Nat} (ha : a < 40) : Is (f_M_stepY u X Y a) (tI Y (tw a) - tI Y a) 200 := Is_sub (Is_tI hY (tw_lt ha)) (Is_tI hY ha) (by decide)
theorem Is_cross {px py qx qy : Int32} {a b c d m n : Int} (h1 : Is px a m) (h2 : Is py b m) (h3 : Is qx c n) (h4 : Is qy d n) (h : m * n + m * n < 2147483648) (h0 : 0 ≤ m * n) : Is (f_M_cross px py qx qy) (cr a b c d) (m * n + m * n) := Is_sub (Is_mul h1 h4 (by omega)) (Is_mul h2 h3 (by omega)) h
theorem turn_rk {dx dy px py : Int32} {a b c d : Int} (h1 : Is dx a 200) (h2 : Is dy b 200) (h3 : Is px c 200) (h4 : Is py d 200) : f_M_turnRank dx dy px py = nI (rk a b c d) := by
  have k1 : Is (dx * py - dy * px) (cr a b c d) (200 * 200 + 200 * 200) := Is_sub (Is_mul h1 h4 (by decide)) (Is_mul h2 h3 (by decide)) (by decide)
  have k2 : Is (dx * px + dy * py) (a * c + b * d) (200 * 200 + 200 * 200) := Is_add (Is_mul h1 h3 (by decide)) (Is_mul h2 h4 (by decide)) (by decide)
  unfold f_M_turnRank rk
  rw [ifc (Is_eq k1 Is_0), ifc (Is_le Is_0 k2), ifc (Is_le k1 Is_0)]
  by_cases e1 : cr a b c d = 0
  · rw [if_pos e1, if_pos e1]
    by_cases e2 : a * c + b * d < 0
    · rw [if_neg (by omega), if_pos e2]; rfl
    · rw [if_pos (by omega), if_neg e2]; rfl
  · rw [if_neg e1, if_neg e1]
    by_cases e2 : 0 < cr a b c d
    · rw [if_neg (by omega), if_pos e2]; rfl
    · rw [if_pos (by omega), if_neg e2]; rfl
theorem rk_small (a b c d : Int) : rk a b c d < 2 ^ 31 := by
  unfold rk
  split <;> split <;> decide
theorem sooner (hX : Bd X) (hY : Bd Y) {a b : Nat} (ha : a < 40) (hb : b < 40) {dx dy : Int32} {p q : Int} (h1 : Is dx p 200) (h2 : Is dy q 200) : f_M_comesSooner u X Y a b dx dy = true ↔ dom p q (tI X (tw a) - tI X a) (tI Y (tw a) - tI Y a) (tI X (tw b) - tI X b) (tI Y (tw b) - tI Y b) := by
  have r1 := turn_rk h1 h2 (Is_stepX (u := u) (Y := Y) hX ha) (Is_stepY (u := u) (X := X) hY ha)
  have r2 := turn_rk h1 h2 (Is_stepX (u := u) (Y := Y) hX hb) (Is_stepY (u := u) (X := X) hY hb)
  have r3 := Is_cross (Is_stepX (u := u) (Y := Y) hX ha) (Is_stepY (u := u) (X := X) hY ha) (Is_stepX (u := u) (Y := Y) hX hb) (Is_stepY (u := u) (X := X) hY hb) (by decide) (by decide)
  unfold f_M_comesSooner dom
  rw [r1, r2]
  have s1 := rk_small p q (tI X (tw a) - tI X a) (tI Y (tw a) - tI Y a)
  have s2 := rk_small p q (tI X (tw b) - tI X b) (tI Y (tw b) - tI Y b)
  rw [ifc (nI_eq s1 s2), ifc (nI_leI s2 s1), ifc (Is_le r3 Is_0)]
  generalize rk p q (tI X (tw a) - tI X a) (tI Y (tw a) - tI Y a) = ra
  generalize rk p q (tI X (tw b) - tI X b) (tI Y (tw b) - tI Y b) = rb
  generalize cr (tI X (tw a) - tI X a) (tI Y (tw a) - tI Y a) (tI X (tw b) - tI X b) (tI Y (tw b) - tI Y b) = z
  by_cases e1 : ra = rb
  · rw [if_pos e1]
    by_cases e2 : z ≤ 0
    · rw [if_pos e2]; constructor
      · intro h; cases h
      · rintro (h | h) <;> omega
    · rw [if_neg e2]; exact ⟨fun _ => Or.inr ⟨e1, by omega⟩, fun _ => rfl⟩
  · rw [if_neg e1]
    by_cases e2 : rb ≤ ra
    · rw [if_pos e2]; constructor
      · intro h; cases h
      · rintro (h | h) <;> omega
    · rw [if_neg e2]; exact ⟨fun _ => Or.inl (by omega), fun _ => rfl⟩
theorem same_tail {a b : Nat} : f_M_sameTail u X Y a b = true ↔ tI X a = tI X b ∧ tI Y a = tI Y b := by
  have e : ∀ x y : Int32, x = y ↔ x.toInt = y.toInt := fun x y => Int32.toInt_inj.symm
  unfold f_M_sameTail tI
  rw [ifc (e (X a) (X b)), ifc (e (Y a) (Y b))]
  split
  · next h => split
              · next h2 => exact ⟨fun _ => ⟨h, h2⟩, fun _ => rfl⟩
              · next h2 => exact ⟨fun q => (by cases q), fun q => absurd q.2 h2⟩
  · next h => exact ⟨fun q => (by cases q), fun q => absurd q.1 h⟩
/-- the scan for the first arrow -/
theorem scan (hX : Bd X) (hY : Bd Y) {w b : Nat} {dx dy : Int32} {p q : Int} (h1 : Is dx p 200) (h2 : Is dy q 200) (hb : b < 40) (hub : u (b / 2) = true) (t1 : tI X b = tI X w) (t2 : tI Y b = tI Y w)
    (hd : ∀ c, c < 40 → u (c / 2) = true → tI X c = tI X w → tI Y c = tI Y w → c ≠ b → dom p q (tI X (tw b) - tI X b) (tI Y (tw b) - tI Y b) (tI X (tw c) - tI X c) (tI Y (tw c) - tI Y c)) :
    ∀ n a fst, n + a = 40 → fst < 40 → u (fst / 2) = true → tI X fst = tI X w → tI Y fst = tI Y w → (b < a → fst = b) → fl_M_sideFacing u X Y w dx dy n a fst = tw b := by
  intro n
  induction n with
  | zero =>
    intro a fst hn hf uf f1 f2 hI
    show tw fst = tw b
    rw [hI (by omega)]
  | succ n ih =>
    intro a fst hn hf uf f1 f2 hI
    show fb_M_sideFacing u X Y w dx dy (fl_M_sideFacing u X Y w dx dy n) a fst = tw b
    unfold fb_M_sideFacing
    have skip : a ≠ b → fl_M_sideFacing u X Y w dx dy n (a + 1) fst = tw b := fun hne => ih (a + 1) fst (by omega) hf uf f1 f2 (fun h => hI (by omega))
    by_cases c1 : u (a / 2) = true
    · rw [if_pos c1]
      by_cases c2 : f_M_sameTail u X Y a w = true
      · rw [if_pos c2]
        obtain ⟨d1, d2⟩ := same_tail.mp c2
        by_cases c3 : f_M_comesSooner u X Y a fst dx dy = true
        · rw [if_pos c3]
          refine ih (a + 1) a (by omega) (by omega) c1 d1 d2 (fun h => ?_)
          by_cases e : a = b
          · exact e
          · have e2 := hI (by omega)
            have := (sooner hX hY (by omega) hf h1 h2).mp c3
            rw [e2] at this
            exact absurd (hd a (by omega) c1 d1 d2 e) (dom_asym this)
        · rw [if_neg c3]
          refine ih (a + 1) fst (by omega) hf uf f1 f2 (fun h => ?_)
          by_cases e : a = b
          · apply Decidable.byContradiction
            intro hne
            exact c3 ((sooner hX hY (by omega) hf h1 h2).mpr (by rw [e]; exact hd fst hf uf f1 f2 hne))
          · exact hI (by omega)
      · rw [if_neg c2]
        exact skip (fun e => c2 (same_tail.mpr (by rw [e]; exact ⟨t1, t2⟩)))
    · rw [if_neg c1]
      exact skip (fun e => c1 (by rw [e]; exact hub))
def sfn (u : Nat → Bool) (X Y : Nat → Int32) (w : Nat) (dx dy : Int) : Nat := f_M_sideFacing u X Y w (Int32.ofInt dx) (Int32.ofInt dy)
def sab (u : Nat → Bool) (X Y : Nat → Int32) (x y : Int) : Nat := f_M_sideAbove u X Y (Int32.ofInt x) (Int32.ofInt y)
theorem class_SF (hX : Bd X) (hY : Bd Y) : SFok u (tI X) (tI Y) (sfn u X Y) := by
  intro w b dx dy wx wy hw uw hb ub t1 t2 hd
  exact scan hX hY (Is_ofInt wx (by decide)) (Is_ofInt wy (by decide)) hb ub t1 t2 hd 40 0 w rfl hw uw rfl rfl (fun h => by omega)
end KL
/-! The segment straight above -/
def El (u : Nat → Bool) (tx : Nat → Int) (x : Int) (k : Nat) : Prop := u k = true ∧ tx (2 * k) ≤ x ∧ x ≤ tx (2 * k + 1)
def hg (tx ty : Nat → Int) (x : Int) (k : Nat) : Int := if tx (2 * k) < tx (2 * k + 1) then Hh tx ty k x else Qf * ty (2 * k)
def BestN (u : Nat → Bool) (tx ty : Nat → Int) (x y : Int) (n : Nat) (r : Int32) : Prop := (r = -1 ∧ ∀ k, k < n → El u tx x k → hg tx ty x k ≤ Qf * y) ∨ ∃ k, k < n ∧ r = nI k ∧ El u tx x k ∧ Qf * y < hg tx ty x k ∧ ∀ j, j < n → El u tx x j → Qf * y < hg tx ty x j → hg tx ty x k ≤ hg tx ty x j ∧ (j < k → hg tx ty x k < hg tx ty x j)
theorem nI_nm1 {k : Nat} (h : k < 2 ^ 31) : nI k ≠ -1 := fun e => by
  have := nI_pos h
  rw [e] at this
  exact this (by decide)
theorem Best_eq {u : Nat → Bool} {tx ty : Nat → Int} {x y : Int} {n : Nat} {r s : Int32} (h1 : BestN u tx ty x y n r) (h2 : BestN u tx ty x y n s) : r = s := by
  rcases h1 with ⟨e1, a⟩ | ⟨k, hk, e1, a1, a2, a3⟩ <;> rcases h2 with ⟨e2, b⟩ | ⟨j, hj, e2, b1, b2, b3⟩
  · rw [e1, e2]
  · have := a j hj b1; omega
  · have := b k hk a1; omega
  · rw [e1, e2]
    have p := a3 j hj b1 b2
    have q := b3 k hk a1 a2
    rcases Nat.lt_trichotomy k j with z | z | z
    · have := q.2 z; omega
    · rw [z]
    · have := p.2 z; omega
def rn (tx : Nat → Int) (k : Nat) : Int := if 1 < tx (2 * k + 1) - tx (2 * k) then tx (2 * k + 1) - tx (2 * k) else 1
def rs (tx ty : Nat → Int) (x y : Int) (k : Nat) : Int := (ty (2 * k) - y) * rn tx k + (ty (2 * k + 1) - ty (2 * k)) * (x - tx (2 * k))
theorem rn_pos (tx : Nat → Int) (k : Nat) : 0 < rn tx k := by unfold rn; split <;> omega
theorem rs_hg {u : Nat → Bool} {tx ty : Nat → Int} (hG : Geo u tx ty) {x y : Int} {k : Nat} (hk : k < 20) (he : El u tx x k) : rn tx k * (hg tx ty x k - Qf * y) = Qf * rs tx ty x y k := by
  unfold hg
  rcases hG.1 k hk he.1 with h | ⟨h, h2⟩
  · rw [if_pos h]
    have e : rn tx k = tx (2 * k + 1) - tx (2 * k) := by unfold rn; split <;> omega
    have q := Hh_lf (ty := ty) (hG.flat hk h) x y
    unfold rs
    rw [e]
    unfold lf at q
    grind
  · rw [if_neg (by omega)]
    have e : rn tx k = 1 := by unfold rn; rw [if_neg (by omega)]
    have ex : x = tx (2 * k) := by have := he.2.1; have := he.2.2; omega
    unfold rs
    rw [e, ex]
    grind
theorem rs_pos {u : Nat → Bool} {tx ty : Nat → Int} (hG : Geo u tx ty) {x y : Int} {k : Nat} (hk : k < 20) (he : El u tx x k) : 0 < rs tx ty x y k ↔ Qf * y < hg tx ty x k := by
  have e := rs_hg (y := y) hG hk he
  have a := mp_pos (b := rs tx ty x y k) Qf_pos
  have b := mp_pos (b := hg tx ty x k - Qf * y) (rn_pos tx k)
  rw [← a, ← e, b]; omega
theorem rs_lt {u : Nat → Bool} {tx ty : Nat → Int} (hG : Geo u tx ty) {x y : Int} {k j : Nat} (hk : k < 20) (he : El u tx x k) (hj : j < 20) (hf : El u tx x j) : rs tx ty x y j * rn tx k < rs tx ty x y k * rn tx j ↔ hg tx ty x j < hg tx ty x k := by
  have e := rs_hg (y := y) hG hk he
  have f := rs_hg (y := y) hG hj hf
  have g : Qf * (rs tx ty x y k * rn tx j - rs tx ty x y j * rn tx k) = (rn tx k * rn tx j) * (hg tx ty x k - hg tx ty x j) := by grind
  have a := mp_pos (b := rs tx ty x y k * rn tx j - rs tx ty x y j * rn tx k) Qf_pos
  have b := mp_pos (b := hg tx ty x k - hg tx ty x j) (Int.mul_pos (rn_pos tx k) (rn_pos tx j))
  constructor
  · intro h
    have := b.mp (by rw [← g]; exact a.mpr (by omega)); omega
  · intro h
    have := a.mp (by rw [g]; exact b.mpr (by omega)); omega
section KA
variable {u : Nat → Bool} {X Y : Nat → Int32}
/-- what the loop holds: the best of the first k -/
def StI (u : Nat → Bool) (X Y : Nat → Int32) (x y : Int) (k : Nat) (best br bn : Int32) : Prop := BestN u (tI X) (tI Y) x y k best ∧ (∀ b, b < k → best = nI b → Is br (rs (tI X) (tI Y) x y b) 80000 ∧ Is bn (rn (tI X) b) 200)
theorem BestN_skip {tx ty : Nat → Int} {x y : Int} {k : Nat} {r : Int32} (h : BestN u tx ty x y k r) (hs : El u tx x k → hg tx ty x k ≤ Qf * y) : BestN u tx ty x y (k + 1) r := by
  have sp : ∀ {P : Nat → Prop}, (∀ j, j < k → P j) → P k → ∀ j, j < k + 1 → P j := fun a b j hj => by
    rcases Nat.lt_or_ge j k with q | q
    · exact a j q
    · rw [show j = k by omega]; exact b
  rcases h with ⟨e, a⟩ | ⟨b, hb, e, b1, b2, b3⟩
  · exact Or.inl ⟨e, sp a hs⟩
  · exact Or.inr ⟨b, by omega, e, b1, b2, sp b3 (fun q1 q2 => by have := hs q1; omega)⟩
theorem BestN_keep {tx ty : Nat → Int} {x y : Int} {k b : Nat} (hb : b < k) (h : BestN u tx ty x y k (nI b)) (h2 : hg tx ty x b ≤ hg tx ty x k) (hk : k < 2 ^ 31) : BestN u tx ty x y (k + 1) (nI b) := by
  rcases h with ⟨e, a⟩ | ⟨c, hc, e, b1, b2, b3⟩
  · exact absurd e (nI_nm1 (by omega))
  · have e2 : b = c := (nI_eq (by omega) (by omega)).mp e
    subst e2
    refine Or.inr ⟨b, by omega, rfl, b1, b2, fun j hj q1 q2 => ?_⟩
    rcases Nat.lt_or_ge j k with q | q
    · exact b3 j q q1 q2
    · rw [show j = k by omega]; exact ⟨h2, fun z => by omega⟩
theorem BestN_new {tx ty : Nat → Int} {x y : Int} {k : Nat} {r : Int32} (h : BestN u tx ty x y k r) (he : El u tx x k) (h0 : Qf * y < hg tx ty x k) (h2 : ∀ b, b < k → r = nI b → hg tx ty x k < hg tx ty x b) : BestN u tx ty x y (k + 1) (nI k) := by
  refine Or.inr ⟨k, by omega, rfl, he, h0, fun j hj q1 q2 => ?_⟩
  rcases Nat.lt_or_ge j k with q | q
  · have lt : hg tx ty x k < hg tx ty x j := by
      rcases h with ⟨e, a⟩ | ⟨b, hb, e, b1, b2, b3⟩
      · have := a j q q1; omega
      · have := h2 b hb e; have := (b3 j q q1 q2).1; omega
    exact ⟨by omega, fun _ => lt⟩
  · rw [show j = k by omega]; exact ⟨by omega, fun z => by omega⟩
set_option maxHeartbeats 1000000 in
theorem struck_loop (hG : Geo u (tI X) (tI Y)) (hX : Bd X) (hY : Bd Y) {x y : Int32} {p q : Int} (hx : Is x p 100) (hy : Is y q 100) : ∀ n k best br bn, n + k = 20 → StI u X Y p q k best br bn → BestN u (tI X) (tI Y) p q 20 (fl_M_struckAbove u X Y x y n k best br bn) := by
  intro n
  induction n with
  | zero =>
    intro k best br bn hn hI
    rw [show k = 20 by omega] at hI
    exact hI.1
  | succ n ih =>
    intro k best br bn hn hI
    show BestN u (tI X) (tI Y) p q 20 (fb_M_struckAbove u X Y x y (fl_M_struckAbove u X Y x y n) k best br bn)
    have hk : k < 20 := by omega
    have xa := Is_tI hX (a := 2 * k) (by omega)
    have xb := Is_tI hX (a := 2 * k + 1) (by omega)
    have ya := Is_tI hY (a := 2 * k) (by omega)
    have sX := Is_stepX (u := u) (Y := Y) hX (a := 2 * k) (by omega)
    have sY := Is_stepY (u := u) (X := X) hY (a := 2 * k) (by omega)
    rw [tw_even] at sX sY
    have skip : (El u (tI X) p k → hg (tI X) (tI Y) p k ≤ Qf * q) → BestN u (tI X) (tI Y) p q 20 (fl_M_struckAbove u X Y x y n (k + 1) best br bn) := fun hs => by
      refine ih (k + 1) best br bn (by omega) ⟨BestN_skip hI.1 hs, fun b hb e => ?_⟩
      rcases Nat.lt_or_ge b k with z | z
      · exact hI.2 b z e
      · exfalso
        rcases hI.1 with ⟨e2, _⟩ | ⟨c, hc, e2, _⟩
        · exact nI_nm1 (k := b) (by omega) (by rw [← e, e2])
        · have := (nI_eq (a := b) (b := c) (by omega) (by omega)).mp (by rw [← e, e2]); omega
    have hrn : Is (if 1 < (f_M_stepX u X Y (2 * k)) then (f_M_stepX u X Y (2 * k)) else 1) (rn (tI X) k) 200 := by
      unfold rn
      rw [ifc (Is_lt Is_1 sX)]
      split
      · exact sX
      · exact ⟨rfl, by decide, by decide⟩
    have hrs : Is (((Y (2 * k) - y) * (if 1 < (f_M_stepX u X Y (2 * k)) then (f_M_stepX u X Y (2 * k)) else 1)) + ((f_M_stepY u X Y (2 * k)) * (x - X (2 * k)))) (rs (tI X) (tI Y) p q k) 80000 := Is_add (Is_mul (Is_sub ya hy (by decide)) hrn (by decide)) (Is_mul sY (Is_sub hx xa (by decide)) (by decide)) (by decide)
    unfold fb_M_struckAbove
    generalize (((Y (2 * k) - y) * (if 1 < (f_M_stepX u X Y (2 * k)) then (f_M_stepX u X Y (2 * k)) else 1)) + ((f_M_stepY u X Y (2 * k)) * (x - X (2 * k)))) = RS at hrs ⊢
    generalize (if 1 < (f_M_stepX u X Y (2 * k)) then (f_M_stepX u X Y (2 * k)) else 1) = RN at hrn ⊢
    by_cases c1 : u k = true
    · rw [if_pos c1]
      by_cases c2 : x < X (2 * k)
      · rw [if_pos c2]
        exact skip (fun e => by have := (Is_lt hx xa).mp c2; have := e.2.1; omega)
      · rw [if_neg c2]
        by_cases c3 : x ≤ X (2 * k + 1)
        · rw [if_pos c3]
          have el : El u (tI X) p k := ⟨c1, (Is_nlt hx xa).mp c2, (Is_le hx xb).mp c3⟩
          by_cases c4 : RS ≤ 0
          · rw [if_pos c4]
            have := (Is_le hrs Is_0).mp c4
            have g := rs_pos (y := q) hG hk el
            exact skip (fun _ => by omega)
          · rw [if_neg c4]
            have h4 : 0 < rs (tI X) (tI Y) p q k := (Is_nle hrs Is_0).mp c4
            have h5 := (rs_pos (y := q) hG hk el).mp h4
            have new : (∀ b, b < k → best = nI b → hg (tI X) (tI Y) p k < hg (tI X) (tI Y) p b) → BestN u (tI X) (tI Y) p q 20 (fl_M_struckAbove u X Y x y n (k + 1) (nI k) RS RN) := fun hb => by
              refine ih (k + 1) (nI k) RS RN (by omega) ⟨BestN_new hI.1 el h5 hb, fun b hb2 e => ?_⟩
              have := (nI_eq (a := k) (b := b) (by omega) (by omega)).mp e
              subst this
              exact ⟨hrs, hrn⟩
            by_cases c5 : best = -1
            · rw [if_pos c5]
              exact new (fun b hb e => absurd (by rw [← e, c5]) (nI_nm1 (k := b) (by omega)))
            · rw [if_neg c5]
              rcases hI.1 with ⟨e2, _⟩ | ⟨b, hb, e2, b1, b2, b3⟩
              · exact absurd e2 c5
              obtain ⟨i1, i2⟩ := hI.2 b hb e2
              have cmp : br * RN ≤ RS * bn ↔ rs (tI X) (tI Y) p q b * rn (tI X) k ≤ rs (tI X) (tI Y) p q k * rn (tI X) b := Is_le (Is_mul i1 hrn (by decide)) (Is_mul hrs i2 (by decide))
              have lt := rs_lt (y := q) hG (show b < 20 by omega) b1 hk el
              by_cases c6 : br * RN ≤ RS * bn
              · rw [if_pos c6]
                have c6' := cmp.mp c6
                have hle : hg (tI X) (tI Y) p b ≤ hg (tI X) (tI Y) p k := by
                  apply Int.not_lt.mp; intro z; have := lt.mpr z; omega
                have hI1 := hI.1
                rw [e2] at hI1 ⊢
                refine ih (k + 1) (nI b) br bn (by omega) ⟨BestN_keep hb hI1 hle (by omega), fun b' hb' e => ?_⟩
                have := (nI_eq (a := b) (b := b') (by omega) (by omega)).mp e
                subst this
                exact ⟨i1, i2⟩
              · rw [if_neg c6]
                have c6' : rs (tI X) (tI Y) p q k * rn (tI X) b < rs (tI X) (tI Y) p q b * rn (tI X) k := (Is_nle (Is_mul i1 hrn (by decide)) (Is_mul hrs i2 (by decide))).mp c6
                refine new (fun b' hb' e => ?_)
                have := (nI_eq (a := b) (b := b') (by omega) (by omega)).mp (by rw [← e, e2])
                subst this
                exact lt.mp c6'
        · rw [if_neg c3]
          exact skip (fun e => absurd ((Is_le hx xb).mpr e.2.2) c3)
    · rw [if_neg c1]
      exact skip (fun e => absurd e.1 c1)
theorem struck_best (hG : Geo u (tI X) (tI Y)) (hX : Bd X) (hY : Bd Y) {x y : Int32} {p q : Int} (hx : Is x p 100) (hy : Is y q 100) : BestN u (tI X) (tI Y) p q 20 (f_M_struckAbove u X Y x y) :=
  struck_loop hG hX hY hx hy 20 0 (-1) 0 1 rfl ⟨Or.inl ⟨rfl, fun k hk => by omega⟩, fun b hb => by omega⟩
end KA
