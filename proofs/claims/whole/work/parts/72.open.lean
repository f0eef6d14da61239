/-! When two cells that meet at a line are open to each other -/
def Rep (a b : Int32) (h : Int) : Prop := ∃ p w, Is a p 1000000 ∧ Is b w 200 ∧ 0 < w ∧ w * h = Qf * p
theorem less_rep {a b c d : Int32} {h g : Int} (h1 : Rep a b h) (h2 : Rep c d g) : f_R_less a b c d = true ↔ h < g := by
  obtain ⟨p, w, a1, a2, a3, a4⟩ := h1
  obtain ⟨q, v, b1, b2, b3, b4⟩ := h2
  rw [less_iff a1 a2 b1 b2 (by decide) (by decide)]
  have e : Qf * (q * w - p * v) = (w * v) * (g - h) := by grind
  have x := mp_pos (b := q * w - p * v) Qf_pos
  have y := mp_pos (b := g - h) (Int.mul_pos a3 b3)
  constructor
  · intro z; have := y.mp (by rw [← e]; exact x.mpr (by omega)); omega
  · intro z; have := x.mp (by rw [e]; exact y.mpr (by omega)); omega
theorem Rep_1 {a : Int32} {p : Int} (h : Is a p 1000000) : Rep a 1 (Qf * p) := ⟨p, 1, h, Is_up Is_1 (by decide), by decide, by rw [Int.one_mul]⟩
theorem Rep_lo : Rep (-1000000) 1 (Qf * (-1000000)) := Rep_1 ⟨rfl, by decide, by decide⟩
theorem Rep_hi : Rep 1000000 1 (Qf * 1000000) := Rep_1 Is_M
section OP
variable {u : Nat → Bool} {X Y : Nat → Int32} {m : Nat} {ln : Nat → Int32} {ac mn : Nat → Nat}
theorem Rep_rise (hG : Geo u (tI X) (tI Y)) (hX : Bd X) (hY : Bd Y) {k : Nat} (hk : k < 20) (hf : tI X (2 * k) < tI X (2 * k + 1)) {x : Int32} {p : Int} (hx : Is x p 100) : Rep (f_R_rise u (eX X) (eX Y) (oX X) (oX Y) k x) (f_R_width u (eX X) (eX Y) (oX X) (oX Y) k) (Hh (tI X) (tI Y) k p) := by
  refine ⟨_, _, Is_up (Is_rise hX hY hk hx) (by decide), Is_width hX hk, by omega, ?_⟩
  have e := gr_w (ty := tI Y) (hG.flat hk hf)
  unfold Hh
  grind
/-- an upright at x that holds the place just above h -/
def Stn (u : Nat → Bool) (tx ty : Nat → Int) (x h : Int) (e : Nat) : Prop := u e = true ∧ tx (2 * e) = tx (2 * e + 1) ∧ tx (2 * e) = x ∧ Qf * ty (2 * e) ≤ h ∧ h < Qf * ty (2 * e + 1)
theorem o2_ok (hX : Bd X) (hY : Bd Y) {x : Int32} {p : Int} (hx : Is x p 100) {lo1 lw1 : Int32} {h1 : Int} : ∀ n k lo lw mv h, n + k = 20 → Rep lo lw h → h1 ≤ h → potI (oX Y) lo1 lw1 lo lw mv → (¬ mv = true → h = h1 ∧ ∀ e, e < k → ¬ Stn u (tI X) (tI Y) p h1 e) → (∀ y, (∀ e, e < 20 → ¬ Stn u (tI X) (tI Y) p y e) → h1 ≤ y → h ≤ y) → ∃ h', Rep (fl_R_open_2 u (eX X) (eX Y) (oX X) (oX Y) x n k lo lw mv).1 (fl_R_open_2 u (eX X) (eX Y) (oX X) (oX Y) x n k lo lw mv).2.1 h' ∧ h1 ≤ h' ∧ potI (oX Y) lo1 lw1 (fl_R_open_2 u (eX X) (eX Y) (oX X) (oX Y) x n k lo lw mv).1 (fl_R_open_2 u (eX X) (eX Y) (oX X) (oX Y) x n k lo lw mv).2.1 (fl_R_open_2 u (eX X) (eX Y) (oX X) (oX Y) x n k lo lw mv).2.2 ∧ (¬ (fl_R_open_2 u (eX X) (eX Y) (oX X) (oX Y) x n k lo lw mv).2.2 = true → h' = h1 ∧ ∀ e, e < 20 → ¬ Stn u (tI X) (tI Y) p h1 e) ∧ (∀ y, (∀ e, e < 20 → ¬ Stn u (tI X) (tI Y) p y e) → h1 ≤ y → h' ≤ y) := by
  intro n
  induction n with
  | zero =>
    intro k lo lw mv h hn hR hle hp hm hy
    rw [show k = 20 by omega] at hm ⊢
    exact ⟨h, hR, hle, hp, hm, hy⟩
  | succ n ih =>
    intro k lo lw mv h hn hR hle hp hm hy
    have hk : k < 20 := by omega
    show ∃ h', Rep (fb_R_open_2 u (eX X) (eX Y) (oX X) (oX Y) x (fl_R_open_2 u (eX X) (eX Y) (oX X) (oX Y) x n) k lo lw mv).1 (fb_R_open_2 u (eX X) (eX Y) (oX X) (oX Y) x (fl_R_open_2 u (eX X) (eX Y) (oX X) (oX Y) x n) k lo lw mv).2.1 h' ∧ h1 ≤ h' ∧ potI (oX Y) lo1 lw1 (fb_R_open_2 u (eX X) (eX Y) (oX X) (oX Y) x (fl_R_open_2 u (eX X) (eX Y) (oX X) (oX Y) x n) k lo lw mv).1 (fb_R_open_2 u (eX X) (eX Y) (oX X) (oX Y) x (fl_R_open_2 u (eX X) (eX Y) (oX X) (oX Y) x n) k lo lw mv).2.1 (fb_R_open_2 u (eX X) (eX Y) (oX X) (oX Y) x (fl_R_open_2 u (eX X) (eX Y) (oX X) (oX Y) x n) k lo lw mv).2.2 ∧ (¬ (fb_R_open_2 u (eX X) (eX Y) (oX X) (oX Y) x (fl_R_open_2 u (eX X) (eX Y) (oX X) (oX Y) x n) k lo lw mv).2.2 = true → h' = h1 ∧ ∀ e, e < 20 → ¬ Stn u (tI X) (tI Y) p h1 e) ∧ (∀ y, (∀ e, e < 20 → ¬ Stn u (tI X) (tI Y) p y e) → h1 ≤ y → h' ≤ y)
    unfold fb_R_open_2
    have skip : (¬ Stn u (tI X) (tI Y) p h k) → ∃ h', Rep (fl_R_open_2 u (eX X) (eX Y) (oX X) (oX Y) x n (k + 1) lo lw mv).1 (fl_R_open_2 u (eX X) (eX Y) (oX X) (oX Y) x n (k + 1) lo lw mv).2.1 h' ∧ h1 ≤ h' ∧ potI (oX Y) lo1 lw1 (fl_R_open_2 u (eX X) (eX Y) (oX X) (oX Y) x n (k + 1) lo lw mv).1 (fl_R_open_2 u (eX X) (eX Y) (oX X) (oX Y) x n (k + 1) lo lw mv).2.1 (fl_R_open_2 u (eX X) (eX Y) (oX X) (oX Y) x n (k + 1) lo lw mv).2.2 ∧ (¬ (fl_R_open_2 u (eX X) (eX Y) (oX X) (oX Y) x n (k + 1) lo lw mv).2.2 = true → h' = h1 ∧ ∀ e, e < 20 → ¬ Stn u (tI X) (tI Y) p h1 e) ∧ (∀ y, (∀ e, e < 20 → ¬ Stn u (tI X) (tI Y) p y e) → h1 ≤ y → h' ≤ y) := fun hs =>
      ih (k + 1) lo lw mv h (by omega) hR hle hp (fun z => ⟨(hm z).1, fun e he => by
        by_cases c : e = k
        · rw [c, ← (hm z).1]; exact hs
        · exact (hm z).2 e (by omega)⟩) hy
    have xa : Is (eX X k) (tI X (2 * k)) 100 := Is_tI hX (by omega)
    have ra : Rep (eX Y k) 1 (Qf * tI Y (2 * k)) := Rep_1 (Is_up (Is_tI hY (by omega)) (by decide))
    have rb : Rep (oX Y k) 1 (Qf * tI Y (2 * k + 1)) := Rep_1 (Is_up (Is_tI hY (by omega)) (by decide))
    by_cases c1 : u k = true
    · rw [if_pos c1]
      by_cases c2 : f_R_isUpright u (eX X) (eX Y) (oX X) (oX Y) k = true
      · rw [if_pos c2]
        by_cases c3 : eX X k = x
        · rw [if_pos c3]
          by_cases c4 : f_R_less lo lw (eX Y k) 1 = true
          · rw [if_pos c4]
            have := (less_rep hR ra).mp c4
            exact skip (fun z => by have := z.2.2.2.1; omega)
          · rw [if_neg c4]
            by_cases c5 : f_R_less lo lw (oX Y k) 1 = true
            · rw [if_pos c5]
              have q1 : Qf * tI Y (2 * k) ≤ h := Int.not_lt.mp (fun z => c4 ((less_rep hR ra).mpr z))
              have q2 := (less_rep hR rb).mp c5
              refine ih (k + 1) _ _ true (Qf * tI Y (2 * k + 1)) (by omega) rb (by omega) (potI_up hp hk c5) (fun z => absurd rfl z) (fun y hf hy1 => ?_)
              have q3 := hy y hf hy1
              apply Int.not_lt.mp
              intro q4
              exact hf k hk ⟨c1, upright_iff.mp c2, (Is_eq xa hx).mp c3, by omega, q4⟩
            · rw [if_neg c5]
              exact skip (fun z => c5 ((less_rep hR rb).mpr z.2.2.2.2))
        · rw [if_neg c3]; exact skip (fun z => c3 ((Is_eq xa hx).mpr z.2.2.1))
      · rw [if_neg c2]; exact skip (fun z => c2 (upright_iff.mpr z.2.1))
    · rw [if_neg c1]; exact skip (fun z => c1 z.1)
theorem o1_ok (hX : Bd X) (hY : Bd Y) {x : Int32} {p : Int} (hx : Is x p 100) {h0 : Int} {hi hw : Int32} : ∀ n lo lw mv h, Rep lo lw h → h0 ≤ h → (mv = true → pot (oX Y) lo lw < n) → (¬ mv = true → ∀ e, e < 20 → ¬ Stn u (tI X) (tI Y) p h e) → (∀ y, (∀ e, e < 20 → ¬ Stn u (tI X) (tI Y) p y e) → h0 ≤ y → h ≤ y) → ∃ h', Rep (fl_R_open_1 u (eX X) (eX Y) (oX X) (oX Y) n lo lw mv x hi hw).1 (fl_R_open_1 u (eX X) (eX Y) (oX X) (oX Y) n lo lw mv x hi hw).2 h' ∧ h0 ≤ h' ∧ (∀ e, e < 20 → ¬ Stn u (tI X) (tI Y) p h' e) ∧ (∀ y, (∀ e, e < 20 → ¬ Stn u (tI X) (tI Y) p y e) → h0 ≤ y → h' ≤ y) := by
  intro n
  induction n with
  | zero =>
    intro lo lw mv h hR hle hp hm hy
    exact ⟨h, hR, hle, hm (fun z => by have := hp z; omega), hy⟩
  | succ n ih =>
    intro lo lw mv h hR hle hp hm hy
    show ∃ h', Rep (fb_R_open_1 u (eX X) (eX Y) (oX X) (oX Y) (fl_R_open_1 u (eX X) (eX Y) (oX X) (oX Y) n) lo lw mv x hi hw).1 (fb_R_open_1 u (eX X) (eX Y) (oX X) (oX Y) (fl_R_open_1 u (eX X) (eX Y) (oX X) (oX Y) n) lo lw mv x hi hw).2 h' ∧ _
    unfold fb_R_open_1
    by_cases c : mv = true
    · rw [if_pos c]
      obtain ⟨h', r1, r2, r3, r4, r5⟩ := o2_ok (u := u) hX hY hx (lo1 := lo) (lw1 := lw) (h1 := h) 20 0 lo lw false h rfl hR (Int.le_refl _) (potI_0 _ _ _) (fun _ => ⟨rfl, fun e he => by omega⟩) (fun y _ z => z)
      refine ih _ _ _ h' r1 (by omega) (pot_next r3 (hp c)) (fun z => ?_) (fun y hf h3 => r5 y hf (hy y hf h3))
      obtain ⟨e1, e2⟩ := r4 z
      rw [e1]; exact e2
    · rw [if_neg c]; exact ⟨h, hR, hle, hm c, hy⟩
/-- floors and roofs, in heights -/
def Fl (f : Nat → Int) (i : Nat) : Int := if i = 0 then Qf * (-1000000) else f (i - 1)
def Rf (f : Nat → Int) (n i : Nat) : Int := if i = n then Qf * 1000000 else f i
theorem cp_cut {f : Nat → Int} {n i : Nat} {y : Int} (hm : mono f n) (hi : i ≤ n) (h1 : Fl f i ≤ y) (h2 : y < Rf f n i) : cp f n y = i := by
  refine cp_eq hm hi (fun j hj => ?_) (fun j hj hn => ?_)
  · unfold Fl at h1
    rw [if_neg (by omega)] at h1
    by_cases e : j = i - 1
    · rw [e]; exact h1
    · have := hm j (i - 1) (by omega) (by omega); omega
  · unfold Rf at h2
    rw [if_neg (by omega)] at h2
    by_cases e : j = i
    · rw [e]; exact h2
    · have := hm i j (by omega) hn; omega
theorem cut_fl {f : Nat → Int} {n : Nat} {y : Int} (hm : mono f n) (h1 : Qf * (-1000000) ≤ y) : Fl f (cp f n y) ≤ y := by
  unfold Fl
  split
  · exact h1
  · next c => exact cp_lo hm _ (by omega)
theorem cut_rf {f : Nat → Int} {n : Nat} {y : Int} (h1 : y < Qf * 1000000) : y < Rf f n (cp f n y) := by
  unfold Rf
  split
  · exact h1
  · next c => exact cp_hi f y n _ (Nat.le_refl _) (by have := cp_le f y n; omega)
/-- the reference's cells, as cells -/
abbrev Kc (ac : Nat → Nat) : Nat → Nat → Nat := fun s i => ac (20 * s + i)
theorem Rep_floor (hG : Geo u (tI X) (tI Y)) (hX : Bd X) (hY : Bd Y) (hC : Cells u (tI X) (tI Y) m (tI ln) mn (Kc ac)) {s i : Nat} (hs : s ≤ m) (hi : i ≤ mn s) {x : Int32} {p : Int} (hx : Is x p 100) : Rep (f_R_floorRise u (eX X) (eX Y) (oX X) (oX Y) ac s i x) (f_R_floorWidth u (eX X) (eX Y) (oX X) (oX Y) ac s i) (Fl (fun i => Hh (tI X) (tI Y) (Kc ac s i) p) i) := by
  unfold f_R_floorRise f_R_floorWidth Fl
  by_cases c : i = 0
  · rw [if_pos c, if_pos c, if_pos c]; exact Rep_lo
  · rw [if_neg c, if_neg c, if_neg c]
    obtain ⟨_, _, c1, c2, _, _, _, c6⟩ := hC.at hG hs (show i - 1 < mn s by omega)
    rw [show 20 * s + i - 1 = 20 * s + (i - 1) by omega]
    exact Rep_rise hG hX hY c1 c6.1 hx
theorem Rep_roof (hG : Geo u (tI X) (tI Y)) (hX : Bd X) (hY : Bd Y) (hC : Cells u (tI X) (tI Y) m (tI ln) mn (Kc ac)) {s i : Nat} (hs : s ≤ m) (hi : i ≤ mn s) {x : Int32} {p : Int} (hx : Is x p 100) : Rep (f_R_roofRise u (eX X) (eX Y) (oX X) (oX Y) ac mn s i x) (f_R_roofWidth u (eX X) (eX Y) (oX X) (oX Y) ac mn s i) (Rf (fun i => Hh (tI X) (tI Y) (Kc ac s i) p) (mn s) i) := by
  unfold f_R_roofRise f_R_roofWidth Rf
  by_cases c : i = mn s
  · rw [if_pos c, if_pos c, if_pos c]; exact Rep_hi
  · rw [if_neg c, if_neg c, if_neg c]
    obtain ⟨_, _, c1, c2, _, _, _, c6⟩ := hC.at hG hs (show i < mn s by omega)
    exact Rep_rise hG hX hY c1 c6.1 hx
set_option maxHeartbeats 1000000 in
theorem open_iff (hG : Geo u (tI X) (tI Y)) (hX : Bd X) (hY : Bd Y) (hC : Cells u (tI X) (tI Y) m (tI ln) mn (Kc ac)) (hln : ∀ t, t < m → Wn 100 (tI ln t)) {t i j : Nat} (ht : t < m) (hi : i ≤ mn t) (hj : j ≤ mn (t + 1)) : f_R_open u (eX X) (eX Y) (oX X) (oX Y) ln ac mn t i j = true ↔ ∃ y, freeA u (tI X) (tI Y) (tI ln) t y ∧ PL (tI X) (tI Y) (tI ln) mn (Kc ac) t y = i ∧ PR (tI X) (tI Y) (tI ln) mn (Kc ac) t y = j := by
  have hx : Is (ln t) (tI ln t) 100 := ⟨rfl, hln t ht⟩
  have fi := Rep_floor hG hX hY hC (show t ≤ m by omega) hi hx
  have fj := Rep_floor hG hX hY hC (show t + 1 ≤ m by omega) hj hx
  have ri := Rep_roof hG hX hY hC (show t ≤ m by omega) hi hx
  have rj := Rep_roof hG hX hY hC (show t + 1 ≤ m by omega) hj hx
  have mL := mono_L hG hC (t := t) (by omega)
  have mR := mono_R hG hC ht
  have stn : ∀ y, (∀ e, e < 20 → ¬ Stn u (tI X) (tI Y) (tI ln t) y e) ↔ freeA u (tI X) (tI Y) (tI ln) t y := fun y => ⟨fun h e he hu h1 h2 h3 => h e he ⟨hu, h1, h2, h3.1, h3.2⟩, fun h e he z => h e he z.1 z.2.1 z.2.2.1 ⟨z.2.2.2.1, z.2.2.2.2⟩⟩
  have core : ∀ (LO LW HI HW : Int32) (l h : Int), Rep LO LW l → Rep HI HW h → (∀ y, l ≤ y ↔ Fl (fL (tI X) (tI Y) (tI ln) (Kc ac) t) i ≤ y ∧ Fl (fR (tI X) (tI Y) (tI ln) (Kc ac) t) j ≤ y) → (∀ y, y < h ↔ y < Rf (fL (tI X) (tI Y) (tI ln) (Kc ac) t) (mn t) i ∧ y < Rf (fR (tI X) (tI Y) (tI ln) (Kc ac) t) (mn (t + 1)) j) → (f_R_less (fl_R_open_1 u (eX X) (eX Y) (oX X) (oX Y) 22 LO LW true (ln t) HI HW).1 (fl_R_open_1 u (eX X) (eX Y) (oX X) (oX Y) 22 LO LW true (ln t) HI HW).2 HI HW = true ↔ ∃ y, freeA u (tI X) (tI Y) (tI ln) t y ∧ PL (tI X) (tI Y) (tI ln) mn (Kc ac) t y = i ∧ PR (tI X) (tI Y) (tI ln) mn (Kc ac) t y = j) := by
    intro LO LW HI HW l h hL hH hl hh
    obtain ⟨h', r1, r2, r3, r4⟩ := o1_ok (u := u) hX hY hx (h0 := l) (hi := HI) (hw := HW) 22 LO LW true l hL (Int.le_refl _) (fun _ => pot_lt _ _ _) (fun z => absurd rfl z) (fun y _ z => z)
    rw [less_rep r1 hH]
    constructor
    · intro z
      have a := (hl h').mp r2
      have b := (hh h').mp z
      exact ⟨h', (stn h').mp r3, cp_cut mL hi a.1 b.1, cp_cut mR hj a.2 b.2⟩
    · rintro ⟨y, hf, ei, ej⟩
      -- within the sentinels
      obtain ⟨y', y1, y2, hf', ei', ej'⟩ : ∃ y', Qf * (-1000000) ≤ y' ∧ y' < Qf * 1000000 ∧ freeA u (tI X) (tI Y) (tI ln) t y' ∧ PL (tI X) (tI Y) (tI ln) mn (Kc ac) t y' = i ∧ PR (tI X) (tI Y) (tI ln) mn (Kc ac) t y' = j := by
        have q1 : Qf * (-1000000) < Qf * (-100) := Qf_lt.mpr (by decide)
        have q2 : Qf * 100 < Qf * 1000000 := Qf_lt.mpr (by decide)
        have q3 : Qf * (-100) < Qf * 100 := Qf_lt.mpr (by decide)
        have bL : ∀ a, a < mn t → Qf * (-100) ≤ fL (tI X) (tI Y) (tI ln) (Kc ac) t a ∧ fL (tI X) (tI Y) (tI ln) (Kc ac) t a ≤ Qf * 100 := fun a ha => by
          obtain ⟨_, _, b1, b2, b3, b4, b5, b6⟩ := hC.at hG (s := t) (by omega) ha
          exact Hh_bd hG b1 b6.1 (by omega) b5
        have bR : ∀ a, a < mn (t + 1) → Qf * (-100) ≤ fR (tI X) (tI Y) (tI ln) (Kc ac) t a ∧ fR (tI X) (tI Y) (tI ln) (Kc ac) t a ≤ Qf * 100 := fun a ha => by
          obtain ⟨_, _, b1, b2, b3, b4, b5, b6⟩ := hC.at hG (s := t + 1) (by omega) ha
          rw [show t + 1 - 1 = t by omega] at b3 b4
          exact Hh_bd hG b1 b6.1 b3 (by omega)
        by_cases c1 : y < Qf * (-1000000)
        · refine ⟨Qf * (-1000000), Int.le_refl _, by omega, fun e he hu h1 h2 h3 => ?_, ?_, ?_⟩
          · have := Qf_le.mpr (hG.2.1 (2 * e) (by omega)).2.1; omega
          · rw [← ei]
            exact cp_same mL (by omega) (fun a ha _ => by have := (bL a ha).1; omega)
          · rw [← ej]
            exact cp_same mR (by omega) (fun a ha _ => by have := (bR a ha).1; omega)
        · by_cases c2 : Qf * 1000000 ≤ y
          · refine ⟨Qf * 100, by omega, q2, fun e he hu h1 h2 h3 => ?_, ?_, ?_⟩
            · have := Qf_le.mpr (hG.2.1 (2 * e + 1) (by omega)).2.2; omega
            · rw [← ei]
              exact (cp_same mL (y := Qf * 100) (h := y) (by omega) (fun a ha z => by have := (bL a ha).2; omega)).symm
            · rw [← ej]
              exact (cp_same mR (y := Qf * 100) (h := y) (by omega) (fun a ha z => by have := (bR a ha).2; omega)).symm
          · exact ⟨y, by omega, by omega, hf, ei, ej⟩
      have a1 := cut_fl mL y1
      have a2 := cut_fl mR y1
      have b1 := cut_rf (f := fL (tI X) (tI Y) (tI ln) (Kc ac) t) (n := mn t) y2
      have b2 := cut_rf (f := fR (tI X) (tI Y) (tI ln) (Kc ac) t) (n := mn (t + 1)) y2
      have e1 : cp (fL (tI X) (tI Y) (tI ln) (Kc ac) t) (mn t) y' = i := ei'
      have e2 : cp (fR (tI X) (tI Y) (tI ln) (Kc ac) t) (mn (t + 1)) y' = j := ej'
      rw [e1] at a1 b1
      rw [e2] at a2 b2
      have s1 := r4 y' ((stn y').mpr hf') ((hl y').mpr ⟨a1, a2⟩)
      have s2 := (hh y').mpr ⟨b1, b2⟩
      omega
  have l1 := less_rep fi fj
  have l2 := less_rep rj ri
  have E1 : Fl (fL (tI X) (tI Y) (tI ln) (Kc ac) t) i = Fl (fun i => Hh (tI X) (tI Y) (Kc ac t i) (tI ln t)) i := rfl
  have E2 : Fl (fR (tI X) (tI Y) (tI ln) (Kc ac) t) j = Fl (fun i => Hh (tI X) (tI Y) (Kc ac (t + 1) i) (tI ln t)) j := rfl
  have E3 : Rf (fL (tI X) (tI Y) (tI ln) (Kc ac) t) (mn t) i = Rf (fun i => Hh (tI X) (tI Y) (Kc ac t i) (tI ln t)) (mn t) i := rfl
  have E4 : Rf (fR (tI X) (tI Y) (tI ln) (Kc ac) t) (mn (t + 1)) j = Rf (fun i => Hh (tI X) (tI Y) (Kc ac (t + 1) i) (tI ln t)) (mn (t + 1)) j := rfl
  rw [E1, E2, E3, E4] at core
  unfold f_R_open
  by_cases c1 : f_R_less (f_R_floorRise u (eX X) (eX Y) (oX X) (oX Y) ac t i (ln t)) (f_R_floorWidth u (eX X) (eX Y) (oX X) (oX Y) ac t i) (f_R_floorRise u (eX X) (eX Y) (oX X) (oX Y) ac (t + 1) j (ln t)) (f_R_floorWidth u (eX X) (eX Y) (oX X) (oX Y) ac (t + 1) j) = true <;>
  by_cases c2 : f_R_less (f_R_roofRise u (eX X) (eX Y) (oX X) (oX Y) ac mn (t + 1) j (ln t)) (f_R_roofWidth u (eX X) (eX Y) (oX X) (oX Y) ac mn (t + 1) j) (f_R_roofRise u (eX X) (eX Y) (oX X) (oX Y) ac mn t i (ln t)) (f_R_roofWidth u (eX X) (eX Y) (oX X) (oX Y) ac mn t i) = true
  · have d1 := l1.mp c1
    have d2 := l2.mp c2
    rw [if_pos c1, if_pos c1, if_pos c2, if_pos c2]
    exact core _ _ _ _ _ _ fj rj (fun y => by omega) (fun y => by omega)
  · have d1 := l1.mp c1
    have d2 := Int.not_lt.mp (fun z => c2 (l2.mpr z))
    rw [if_pos c1, if_pos c1, if_neg c2, if_neg c2]
    exact core _ _ _ _ _ _ fj ri (fun y => by omega) (fun y => by omega)
  · have d1 := Int.not_lt.mp (fun z => c1 (l1.mpr z))
    have d2 := l2.mp c2
    rw [if_neg c1, if_neg c1, if_pos c2, if_pos c2]
    exact core _ _ _ _ _ _ fi rj (fun y => by omega) (fun y => by omega)
  · have d1 := Int.not_lt.mp (fun z => c1 (l1.mpr z))
    have d2 := Int.not_lt.mp (fun z => c2 (l2.mpr z))
    rw [if_neg c1, if_neg c1, if_neg c2, if_neg c2]
    exact core _ _ _ _ _ _ fi ri (fun y => by omega) (fun y => by omega)
end OP
