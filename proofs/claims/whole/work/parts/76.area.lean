/-! Each side has one that comes before it: sums round a face -/
theorem sq_nn (a : Int) : 0 ≤ a * a := by
  rcases Int.le_total 0 a with q | q
  · exact Int.mul_nonneg q q
  · exact Int.mul_nonneg_of_nonpos_of_nonpos q q
theorem sq_pos {a b : Int} (h : ¬ (a = 0 ∧ b = 0)) : 0 < a * a + b * b := by
  have p := sq_nn a
  have q := sq_nn b
  rcases Int.lt_trichotomy a 0 with z | z | z
  · have := Int.mul_pos_of_neg_of_neg z z; omega
  · rcases Int.lt_trichotomy b 0 with y | y | y
    · have := Int.mul_pos_of_neg_of_neg y y; omega
    · exact absurd ⟨z, y⟩ h
    · have := Int.mul_pos y y; omega
  · have := Int.mul_pos z z; omega
theorem rk_cases (dx dy px py : Int) : (rk dx dy px py = 1 ∧ 0 < cr dx dy px py) ∨ (rk dx dy px py = 2 ∧ cr dx dy px py = 0 ∧ dx * px + dy * py < 0) ∨ (rk dx dy px py = 3 ∧ cr dx dy px py < 0) ∨ (rk dx dy px py = 4 ∧ cr dx dy px py = 0 ∧ ¬ dx * px + dy * py < 0) := by
  rcases Int.lt_trichotomy (cr dx dy px py) 0 with z | z | z
  · exact Or.inr (Or.inr (Or.inl ⟨rk_3 z, z⟩))
  · by_cases c : dx * px + dy * py < 0
    · exact Or.inr (Or.inl ⟨rk_2 z c, z, c⟩)
    · exact Or.inr (Or.inr (Or.inr ⟨rk_4 z c, z, c⟩))
  · exact Or.inl ⟨rk_1 z, z⟩
/-- not both: met ahead of the other from each of two directions -/
theorem dom_cyc {ax ay bx b2 cx cy : Int} (ha : ¬ (ax = 0 ∧ ay = 0)) (hn : rk ax ay cx cy ≠ 4) (h1 : dom ax ay bx b2 cx cy) (h2 : dom cx cy bx b2 ax ay) : False := by
  have pa := sq_pos ha
  have e1 : (ax * ax + ay * ay) * cr cx cy bx b2 = (ax * cx + ay * cy) * cr ax ay bx b2 - (ax * bx + ay * b2) * cr ax ay cx cy := by unfold cr; grind
  have e2 : (ax * ax + ay * ay) * cr bx b2 cx cy = (ax * bx + ay * b2) * cr ax ay cx cy - (ax * cx + ay * cy) * cr ax ay bx b2 := by unfold cr; grind
  have f1 := cr_flip ax ay cx cy
  have f2 := cr_flip bx b2 cx cy
  have f3 := cr_flip ax ay bx b2
  have f4 := cr_flip cx cy bx b2
  have dsym : cx * ax + cy * ay = ax * cx + ay * cy := by grind
  unfold dom at h1 h2
  rcases rk_cases ax ay cx cy with ⟨r, q⟩ | ⟨r, q, q2⟩ | ⟨r, q⟩ | ⟨r, _⟩
  · -- c to the left of a
    rw [r] at h1
    rw [rk_3 (show cr cx cy ax ay < 0 by omega)] at h2
    rcases rk_cases ax ay bx b2 with ⟨s, p⟩ | ⟨s, _⟩ | ⟨s, _⟩ | ⟨s, _⟩ <;> rw [s] at h1
    · have hbc : 0 < cr bx b2 cx cy := by rcases h1 with z | z <;> omega
      rw [rk_3 (show cr cx cy bx b2 < 0 by omega)] at h2
      rcases h2 with z | z <;> omega
    · rcases h1 with z | z <;> omega
    · rcases h1 with z | z <;> omega
    · rcases h1 with z | z <;> omega
  · -- opposite
    rw [r] at h1
    rw [rk_2 (show cr cx cy ax ay = 0 by omega) (by omega)] at h2
    rw [q, Int.mul_zero] at e1 e2
    rcases rk_cases ax ay bx b2 with ⟨s, p⟩ | ⟨s, p, _⟩ | ⟨s, _⟩ | ⟨s, _⟩ <;> rw [s] at h1
    · have : cr cx cy bx b2 < 0 := (mp_neg pa).mp (by rw [e1]; have := Int.mul_neg_of_neg_of_pos q2 p; omega)
      rw [rk_3 this] at h2
      rcases h2 with z | z <;> omega
    · rw [p, Int.mul_zero] at e2
      have : cr bx b2 cx cy = 0 := (mp_zero pa).mp (by rw [e2]; rfl)
      rcases h1 with z | z <;> omega
    · rcases h1 with z | z <;> omega
    · rcases h1 with z | z <;> omega
  · -- c to the right of a
    rw [r] at h1
    rw [rk_1 (show 0 < cr cx cy ax ay by omega)] at h2
    rcases rk_cases cx cy bx b2 with ⟨s, p⟩ | ⟨s, _⟩ | ⟨s, _⟩ | ⟨s, _⟩ <;> rw [s] at h2
    · have hba : 0 < cr bx b2 ax ay := by rcases h2 with z | z <;> omega
      rw [rk_3 (show cr ax ay bx b2 < 0 by omega)] at h1
      rcases h1 with z | z <;> omega
    · rcases h2 with z | z <;> omega
    · rcases h2 with z | z <;> omega
    · rcases h2 with z | z <;> omega
  · exact hn r
section TU
variable {u : Nat → Bool} {tx ty : Nat → Int}
abbrev dX (tx : Nat → Int) (a : Nat) : Int := tx (tw a) - tx a
/-- where an arrow goes, by its kind -/
theorem go_R {k : Nat} (h : tx (2 * k) < tx (2 * k + 1)) : 0 < dX tx (2 * k) ∧ dX tx (2 * k + 1) < 0 := by unfold dX; rw [tw_even, tw_odd]; omega
theorem dX_e (k : Nat) : dX tx (2 * k) = tx (2 * k + 1) - tx (2 * k) := by unfold dX; rw [tw_even]
theorem dX_o (k : Nat) : dX tx (2 * k + 1) = -(tx (2 * k + 1) - tx (2 * k)) := by unfold dX; rw [tw_odd]; omega
theorem dir_ne (hG : Geo u tx ty) {a : Nat} (ha : a < 40) (hu : u (a / 2) = true) : ¬ (dX tx a = 0 ∧ dX ty a = 0) := by
  have hp := hG.1 (a / 2) (by omega) hu
  rcases (show a = 2 * (a / 2) ∨ a = 2 * (a / 2) + 1 by omega) with e | e
  · rw [e, dX_e, dX_e]; unfold prp at hp; omega
  · rw [e, dX_o, dX_o]; unfold prp at hp; omega
/-- two arrows of one point don't go the same way -/
theorem dir_diff (hG : Geo u tx ty) {a c : Nat} (ha : a < 40) (ua : u (a / 2) = true) (hc : c < 40) (uc : u (c / 2) = true) (e1 : tx c = tx a) (e2 : ty c = ty a) (hne : a ≠ c) : rk (dX tx a) (dX ty a) (dX tx c) (dX ty c) ≠ 4 := by
  have n4 : cr (dX tx a) (dX ty a) (dX tx c) (dX ty c) ≠ 0 ∨ dX tx a * dX tx c + dX ty a * dX ty c < 0 → rk (dX tx a) (dX ty a) (dX tx c) (dX ty c) ≠ 4 := by
    intro h
    rcases rk_cases (dX tx a) (dX ty a) (dX tx c) (dX ty c) with ⟨r, q⟩ | ⟨r, q⟩ | ⟨r, q⟩ | ⟨r, q, q2⟩
    · omega
    · omega
    · omega
    · rcases h with z | z
      · exact absurd q z
      · exact absurd z q2
  apply n4
  have ka := arrow_kind hG ha ua
  have kc := arrow_kind hG hc uc
  rw [e1, e2] at kc
  rcases ka with ⟨k, rfl, hk⟩ | ⟨k, rfl, hk⟩ | ⟨k, rfl, hk⟩ | ⟨k, rfl, hk⟩ <;> rcases kc with ⟨j, rfl, hj⟩ | ⟨j, rfl, hj⟩ | ⟨j, rfl, hj⟩ | ⟨j, rfl, hj⟩
  · -- both to the right
    left
    have hs := Rt_slope hG hk hj (by omega)
    rw [dX_e, dX_e, dX_e, dX_e]
    have g1 := cr_gr (ty := ty) (hG.flat hk.1 hk.2.2.1) (hG.flat hj.1 hj.2.2.1)
    rcases Int.lt_or_le (gr tx ty k) (gr tx ty j) with z | z
    · have := g1.mpr z; omega
    · have := cr_gr_neg (ty := ty) (hG.flat hk.1 hk.2.2.1) (hG.flat hj.1 hj.2.2.1) (by omega); omega
  · by_cases z : cr (dX tx (2 * k)) (dX ty (2 * k)) (dX tx (2 * j + 1)) (dX ty (2 * j + 1)) = 0
    · exact Or.inr (cr_opp (go_R hk.2.2.1).1 (go_R hj.2.2.1).2 z)
    · exact Or.inl z
  · left
    rw [dX_e, dX_e, dX_e (tx := tx) j, dX_e (tx := ty) j]
    have e0 : tx (2 * j + 1) - tx (2 * j) = 0 := by have := hj.2.2.1.1; omega
    rw [e0, cr_u]
    have := Int.mul_pos (show 0 < tx (2 * k + 1) - tx (2 * k) by have := hk.2.2.1; omega) (show 0 < ty (2 * j + 1) - ty (2 * j) by have := hj.2.2.1.2; omega)
    omega
  · left
    rw [dX_e, dX_e, dX_o, dX_o]
    have e0 : -(tx (2 * j + 1) - tx (2 * j)) = 0 := by have := hj.2.2.1.1; omega
    rw [e0, cr_u]
    have := Int.mul_neg_of_pos_of_neg (show 0 < tx (2 * k + 1) - tx (2 * k) by have := hk.2.2.1; omega) (show -(ty (2 * j + 1) - ty (2 * j)) < 0 by have := hj.2.2.1.2; omega)
    omega
  · by_cases z : cr (dX tx (2 * k + 1)) (dX ty (2 * k + 1)) (dX tx (2 * j)) (dX ty (2 * j)) = 0
    · have f := cr_flip (dX tx (2 * k + 1)) (dX ty (2 * k + 1)) (dX tx (2 * j)) (dX ty (2 * j))
      have := cr_opp (go_R hj.2.2.1).1 (go_R hk.2.2.1).2 (by rw [f, z]; rfl)
      right
      have e : dX tx (2 * k + 1) * dX tx (2 * j) + dX ty (2 * k + 1) * dX ty (2 * j) = dX tx (2 * j) * dX tx (2 * k + 1) + dX ty (2 * j) * dX ty (2 * k + 1) := by grind
      omega
    · exact Or.inl z
  · -- both to the left
    left
    have hs := Lt_slope hG hk hj (by omega)
    rw [dX_o, dX_o, dX_o, dX_o, cr_neg]
    have g1 := cr_gr (ty := ty) (hG.flat hk.1 hk.2.2.1) (hG.flat hj.1 hj.2.2.1)
    rcases Int.lt_or_le (gr tx ty k) (gr tx ty j) with z | z
    · have := g1.mpr z; omega
    · have := cr_gr_neg (ty := ty) (hG.flat hk.1 hk.2.2.1) (hG.flat hj.1 hj.2.2.1) (by omega); omega
  · left
    rw [dX_o, dX_o, dX_e, dX_e]
    have e0 : tx (2 * j + 1) - tx (2 * j) = 0 := by have := hj.2.2.1.1; omega
    rw [e0, cr_u]
    have := Int.mul_neg_of_neg_of_pos (show -(tx (2 * k + 1) - tx (2 * k)) < 0 by have := hk.2.2.1; omega) (show 0 < ty (2 * j + 1) - ty (2 * j) by have := hj.2.2.1.2; omega)
    omega
  · left
    rw [dX_o, dX_o, dX_o (tx := tx) j, dX_o (tx := ty) j]
    have e0 : -(tx (2 * j + 1) - tx (2 * j)) = 0 := by have := hj.2.2.1.1; omega
    rw [e0, cr_u]
    have := Int.mul_pos_of_neg_of_neg (show -(tx (2 * k + 1) - tx (2 * k)) < 0 by have := hk.2.2.1; omega) (show -(ty (2 * j + 1) - ty (2 * j)) < 0 by have := hj.2.2.1.2; omega)
    omega
  · left
    rw [dX_e (tx := tx) k, dX_e (tx := ty) k, dX_e, dX_e]
    have e0 : tx (2 * k + 1) - tx (2 * k) = 0 := by have := hk.2.2.1.1; omega
    rw [e0, cr_v]
    have := Int.mul_pos (show 0 < ty (2 * k + 1) - ty (2 * k) by have := hk.2.2.1.2; omega) (show 0 < tx (2 * j + 1) - tx (2 * j) by have := hj.2.2.1; omega)
    omega
  · left
    rw [dX_e, dX_e, dX_o, dX_o]
    have e0 : tx (2 * k + 1) - tx (2 * k) = 0 := by have := hk.2.2.1.1; omega
    rw [e0, cr_v]
    have := Int.mul_neg_of_pos_of_neg (show 0 < ty (2 * k + 1) - ty (2 * k) by have := hk.2.2.1.2; omega) (show -(tx (2 * j + 1) - tx (2 * j)) < 0 by have := hj.2.2.1; omega)
    omega
  · exact absurd (by rw [Up_one hG hk hj]) hne
  · right
    rw [dX_e, dX_e, dX_o, dX_o]
    have e0 : tx (2 * k + 1) - tx (2 * k) = 0 := by have := hk.2.2.1.1; omega
    rw [e0, Int.zero_mul]
    have := Int.mul_neg_of_pos_of_neg (show 0 < ty (2 * k + 1) - ty (2 * k) by have := hk.2.2.1.2; omega) (show -(ty (2 * j + 1) - ty (2 * j)) < 0 by have := hj.2.2.1.2; omega)
    omega
  · left
    rw [dX_o, dX_o, dX_e, dX_e]
    have e0 : -(tx (2 * k + 1) - tx (2 * k)) = 0 := by have := hk.2.2.1.1; omega
    rw [e0, cr_v]
    have := Int.mul_neg_of_neg_of_pos (show -(ty (2 * k + 1) - ty (2 * k)) < 0 by have := hk.2.2.1.2; omega) (show 0 < tx (2 * j + 1) - tx (2 * j) by have := hj.2.2.1; omega)
    omega
  · left
    rw [dX_o (tx := tx) k, dX_o (tx := ty) k, dX_o, dX_o]
    have e0 : -(tx (2 * k + 1) - tx (2 * k)) = 0 := by have := hk.2.2.1.1; omega
    rw [e0, cr_v]
    have := Int.mul_pos_of_neg_of_neg (show -(ty (2 * k + 1) - ty (2 * k)) < 0 by have := hk.2.2.1.2; omega) (show -(tx (2 * j + 1) - tx (2 * j)) < 0 by have := hj.2.2.1; omega)
    omega
  · right
    rw [dX_o, dX_o, dX_e, dX_e]
    have e0 : -(tx (2 * k + 1) - tx (2 * k)) = 0 := by have := hk.2.2.1.1; omega
    rw [e0, Int.zero_mul]
    have := Int.mul_neg_of_neg_of_pos (show -(ty (2 * k + 1) - ty (2 * k)) < 0 by have := hk.2.2.1.2; omega) (show 0 < ty (2 * j + 1) - ty (2 * j) by have := hj.2.2.1.2; omega)
    omega
  · exact absurd (by rw [Dn_one hG hk hj]) hne
/-- b is met ahead of each other arrow of its point, turning left from arrow a -/
def Fst (u : Nat → Bool) (tx ty : Nat → Int) (a b : Nat) : Prop := b < 40 ∧ u (b / 2) = true ∧ tx b = tx a ∧ ty b = ty a ∧ ∀ c, c < 40 → u (c / 2) = true → tx c = tx a → ty c = ty a → c ≠ b → dom (dX tx a) (dX ty a) (dX tx b) (dX ty b) (dX tx c) (dX ty c)
/-- there is one -/
theorem ex_fst {m : Nat} {lx : Nat → Int} {N : Nat → Nat} {K : Nat → Nat → Nat} (hG : Geo u tx ty) (hC : Cells u tx ty m lx N K) {a : Nat} (ha : a < 40) (hu : u (a / 2) = true) : ∃ b, Fst u tx ty a b := by
  -- a turning that answers 999 where none is first
  have pick : ∀ w dx dy, ∃ v, (∀ b, b < 40 → u (b / 2) = true → tx b = tx w → ty b = ty w → (∀ c, c < 40 → u (c / 2) = true → tx c = tx w → ty c = ty w → c ≠ b → dom dx dy (tx (tw b) - tx b) (ty (tw b) - ty b) (tx (tw c) - tx c) (ty (tw c) - ty c)) → v = tw b) ∧ ((¬ ∃ b, b < 40 ∧ u (b / 2) = true ∧ tx b = tx w ∧ ty b = ty w ∧ ∀ c, c < 40 → u (c / 2) = true → tx c = tx w → ty c = ty w → c ≠ b → dom dx dy (tx (tw b) - tx b) (ty (tw b) - ty b) (tx (tw c) - tx c) (ty (tw c) - ty c)) → v = 999) := by
    intro w dx dy
    by_cases h : ∃ b, b < 40 ∧ u (b / 2) = true ∧ tx b = tx w ∧ ty b = ty w ∧ ∀ c, c < 40 → u (c / 2) = true → tx c = tx w → ty c = ty w → c ≠ b → dom dx dy (tx (tw b) - tx b) (ty (tw b) - ty b) (tx (tw c) - tx c) (ty (tw c) - ty c)
    · obtain ⟨b, h1, h2, h3, h4, h5⟩ := h
      refine ⟨tw b, fun b' g1 g2 g3 g4 g5 => ?_, fun z => absurd ⟨b, h1, h2, h3, h4, h5⟩ z⟩
      by_cases e : b' = b
      · rw [e]
      · exact absurd (g5 b h1 h2 h3 h4 (fun z => e z.symm)) (dom_asym (h5 b' g1 g2 g3 g4 e))
    · exact ⟨999, fun b h1 h2 h3 h4 h5 => absurd ⟨b, h1, h2, h3, h4, h5⟩ h, fun _ => rfl⟩
  have hSF : SFok u tx ty (fun w dx dy => Classical.choose (pick w dx dy)) := fun w b dx dy _ _ _ _ hb ub t1 t2 hd => (Classical.choose_spec (pick w dx dy)).1 b hb ub t1 t2 hd
  obtain ⟨c, d, _, hd, _⟩ := E1_resp hG hC hSF (GS_ok (u := u) (tx := tx) (ty := ty) (m := m) (lx := lx) (N := N) (K := K)) ha hu
  apply Classical.byContradiction
  intro hno
  have e : Classical.choose (pick a (tx (tw a) - tx a) (ty (tw a) - ty a)) = 999 := (Classical.choose_spec (pick a (tx (tw a) - tx a) (ty (tw a) - ty a))).2 hno
  have hd : Tc u tx ty m lx N K (Classical.choose (pick a (tx (tw a) - tx a) (ty (tw a) - ty a))) d := hd
  rw [e] at hd
  rcases hd with ⟨s, j, hs, hj, h⟩ | ⟨f, t, ht, hf, h⟩ | ⟨s, hs, h, _⟩
  · have := (hC.at hG hs hj).2.2.1; omega
  · have := hf.1; omega
  · omega
theorem fst_inj (hG : Geo u tx ty) {a c b : Nat} (ha : a < 40) (ua : u (a / 2) = true) (hc : c < 40) (uc : u (c / 2) = true) (h1 : Fst u tx ty a b) (h2 : Fst u tx ty c b) : a = c := by
  obtain ⟨b1, b2, b3, b4, b5⟩ := h1
  obtain ⟨_, _, c3, c4, c5⟩ := h2
  have t1 : tx c = tx a := by omega
  have t2 : ty c = ty a := by omega
  apply Decidable.byContradiction
  intro hne
  -- if the first is the arrow itself, it stands alone
  have alone : ∀ a c, a < 40 → u (a / 2) = true → c < 40 → u (c / 2) = true → tx c = tx a → ty c = ty a → a ≠ c → ¬ dom (dX tx a) (dX ty a) (dX tx a) (dX ty a) (dX tx c) (dX ty c) := by
    intro a c ha ua hc uc e1 e2 hne h
    have r4 : rk (dX tx a) (dX ty a) (dX tx a) (dX ty a) = 4 := rk_4 (by unfold cr; grind) (by have := sq_nn (dX tx a); have := sq_nn (dX ty a); omega)
    have d := dir_diff hG ha ua hc uc e1 e2 hne
    unfold dom at h
    rw [r4] at h
    rcases rk_cases (dX tx a) (dX ty a) (dX tx c) (dX ty c) with ⟨r, q⟩ | ⟨r, q⟩ | ⟨r, q⟩ | ⟨r, q, q2⟩ <;> omega
  by_cases e1 : b = a
  · rw [e1] at b5
    exact alone a c ha ua hc uc t1 t2 hne (b5 c hc uc t1 t2 (fun z => hne z.symm))
  · by_cases e2 : b = c
    · rw [e2] at c5
      exact alone c a hc uc ha ua t1.symm t2.symm (fun z => hne z.symm) (c5 a ha ua t1.symm t2.symm hne)
    · exact dom_cyc (dir_ne hG ha ua) (dir_diff hG ha ua hc uc t1 t2 hne) (b5 c hc uc t1 t2 (fun z => e2 z.symm)) (c5 a ha ua t1.symm t2.symm (fun z => e1 z.symm))
end TU
/-! Sums -/
def sI (f : Nat → Int) : Nat → Int
  | 0 => 0
  | n + 1 => sI f n + f n
theorem sI_congr {f g : Nat → Int} : ∀ n, (∀ i, i < n → f i = g i) → sI f n = sI g n := by
  intro n
  induction n with
  | zero => intro _; rfl
  | succ n ih => intro h; show sI f n + f n = sI g n + g n; rw [ih (fun i hi => h i (by omega)), h n (by omega)]
theorem sI_out {Q : Nat → Bool} {h : Nat → Int} {j : Nat} : ∀ n, j < n → Q j = true → sI (fun i => if Q i = true then h i else 0) n = sI (fun i => if (if i = j then false else Q i) = true then h i else 0) n + h j := by
  intro n
  induction n with
  | zero => intro h; omega
  | succ n ih =>
    intro hj hq
    show sI (fun i => if Q i = true then h i else 0) n + (if Q n = true then h n else 0) = sI (fun i => if (if i = j then false else Q i) = true then h i else 0) n + (if (if n = j then false else Q n) = true then h n else 0) + h j
    by_cases e : n = j
    · subst e
      rw [if_pos rfl, if_pos hq, if_neg (show ¬ false = true by decide), sI_congr (g := fun i => if (if i = n then false else Q i) = true then h i else 0) n (fun i hi => by rw [if_neg (show ¬ i = n by omega)])]
      omega
    · rw [if_neg e, ih (by omega) hq]; omega
theorem sI_none {Q : Nat → Bool} {h : Nat → Int} : ∀ n, cnt Q n = 0 → sI (fun i => if Q i = true then h i else 0) n = 0 := by
  intro n
  induction n with
  | zero => intro _; rfl
  | succ n ih =>
    intro hc
    have hc : cnt Q n + (if Q n = true then 1 else 0) = 0 := hc
    show sI (fun i => if Q i = true then h i else 0) n + (if Q n = true then h n else 0) = 0
    by_cases c : Q n = true
    · rw [if_pos c] at hc; omega
    · rw [if_neg c, ih (by omega)]; rfl
theorem sI_inj {P : Nat → Bool} {h : Nat → Int} {m : Nat} (f : Nat → Nat) : ∀ n (Q : Nat → Bool), (∀ i, i < n → P i = true → f i < m ∧ Q (f i) = true) → (∀ i j, i < n → j < n → P i = true → P j = true → f i = f j → i = j) → cnt P n = cnt Q m → sI (fun i => if P i = true then h (f i) else 0) n = sI (fun i => if Q i = true then h i else 0) m := by
  intro n
  induction n with
  | zero => intro Q _ _ hc; exact (sI_none m hc.symm).symm
  | succ n ih =>
    intro Q h1 h2 hc
    have hc : cnt P n + (if P n = true then 1 else 0) = cnt Q m := hc
    show sI (fun i => if P i = true then h (f i) else 0) n + (if P n = true then h (f n) else 0) = _
    by_cases c : P n = true
    · obtain ⟨a, b⟩ := h1 n (by omega) c
      rw [if_pos c] at hc ⊢
      rw [cnt_out m a b] at hc
      rw [sI_out m a b, ih (fun i => if i = f n then false else Q i) (fun i hi hp => by
        obtain ⟨a2, b2⟩ := h1 i (by omega) hp
        refine ⟨a2, ?_⟩
        rw [if_neg]
        · exact b2
        · intro e; have := h2 i n (by omega) (by omega) hp c e; omega) (fun i j hi hj => h2 i j (by omega) (by omega)) (by omega)]
    · rw [if_neg c] at hc ⊢
      rw [ih Q (fun i hi => h1 i (by omega)) (fun i j hi hj => h2 i j (by omega) (by omega)) (by omega)]
      exact Int.add_zero _
/-- two by two -/
theorem sI_two {f : Nat → Int} : ∀ n, sI f (2 * n) = sI (fun k => f (2 * k) + f (2 * k + 1)) n := by
  intro n
  induction n with
  | zero => rfl
  | succ n ih =>
    show sI f (2 * n) + f (2 * n) + f (2 * n + 1) = sI (fun k => f (2 * k) + f (2 * k + 1)) n + (f (2 * n) + f (2 * n + 1))
    rw [ih]; omega
theorem sI_sub {f g : Nat → Int} : ∀ n, sI (fun i => f i - g i) n = sI f n - sI g n := by
  intro n
  induction n with
  | zero => rfl
  | succ n ih => show sI (fun i => f i - g i) n + (f n - g n) = sI f n + f n - (sI g n + g n); rw [ih]; omega
