/-! What stands under an unused number doesn't matter -/
def Agr (u : Nat → Bool) (X X' : Nat → Int32) : Prop := ∀ a, a < 40 → u (a / 2) = true → X' a = X a
section AG
variable {u : Nat → Bool} {X Y X' Y' : Nat → Int32}
theorem agr_tw (h : Agr u X X') {a : Nat} (ha : a < 40) (hu : u (a / 2) = true) : X' (tw a) = X (tw a) := h _ (tw_lt ha) (by rw [tw_half]; exact hu)
theorem agr_I (h : Agr u X X') {a : Nat} (ha : a < 40) (hu : u (a / 2) = true) : tI X' a = tI X a := by unfold tI; rw [h a ha hu]
theorem agr_It (h : Agr u X X') {a : Nat} (ha : a < 40) (hu : u (a / 2) = true) : tI X' (tw a) = tI X (tw a) := by unfold tI; rw [agr_tw h ha hu]
theorem agr_e (h : Agr u X X') {k : Nat} (hk : k < 20) (hu : u k = true) : X' (2 * k) = X (2 * k) ∧ X' (2 * k + 1) = X (2 * k + 1) := ⟨h _ (by omega) (by rw [show 2 * k / 2 = k by omega]; exact hu), h _ (by omega) (by rw [show (2 * k + 1) / 2 = k by omega]; exact hu)⟩
theorem agr_sf (hX : Agr u X X') (hY : Agr u Y Y') {w : Nat} (hw : w < 40) (uw : u (w / 2) = true) {dx dy : Int32} : ∀ n a fst, n + a = 40 → fst < 40 → u (fst / 2) = true → fl_M_sideFacing u X' Y' w dx dy n a fst = fl_M_sideFacing u X Y w dx dy n a fst := by
  intro n
  induction n with
  | zero => intro a fst _ _ _; rfl
  | succ n ih =>
    intro a fst h hf uf
    show fb_M_sideFacing u X' Y' w dx dy (fl_M_sideFacing u X' Y' w dx dy n) a fst = fb_M_sideFacing u X Y w dx dy (fl_M_sideFacing u X Y w dx dy n) a fst
    unfold fb_M_sideFacing
    by_cases c1 : u (a / 2) = true
    · have ha : a < 40 := by omega
      have e1 : f_M_sameTail u X' Y' a w = f_M_sameTail u X Y a w := by unfold f_M_sameTail; rw [hX a ha c1, hX w hw uw, hY a ha c1, hY w hw uw]
      have e2 : f_M_comesSooner u X' Y' a fst dx dy = f_M_comesSooner u X Y a fst dx dy := by
        unfold f_M_comesSooner f_M_stepX f_M_stepY
        rw [hX a ha c1, agr_tw hX ha c1, hY a ha c1, agr_tw hY ha c1, hX fst hf uf, agr_tw hX hf uf, hY fst hf uf, agr_tw hY hf uf]
      rw [if_pos c1, if_pos c1, e1, e2, ih (a + 1) a (by omega) ha c1, ih (a + 1) fst (by omega) hf uf]
    · rw [if_neg c1, if_neg c1, ih (a + 1) fst (by omega) hf uf]
theorem agr_side (hX : Agr u X X') (hY : Agr u Y Y') {w : Nat} (hw : w < 40) (uw : u (w / 2) = true) (dx dy : Int32) : f_M_sideFacing u X' Y' w dx dy = f_M_sideFacing u X Y w dx dy := agr_sf hX hY hw uw 40 0 w rfl hw uw
theorem agr_st (hX : Agr u X X') (hY : Agr u Y Y') {x y : Int32} : ∀ n k best br bn, n + k = 20 → fl_M_struckAbove u X' Y' x y n k best br bn = fl_M_struckAbove u X Y x y n k best br bn := by
  intro n
  induction n with
  | zero => intro k best br bn _; rfl
  | succ n ih =>
    intro k best br bn h
    show fb_M_struckAbove u X' Y' x y (fl_M_struckAbove u X' Y' x y n) k best br bn = fb_M_struckAbove u X Y x y (fl_M_struckAbove u X Y x y n) k best br bn
    have i := fun b p q => ih (k + 1) b p q (by omega)
    unfold fb_M_struckAbove
    by_cases c1 : u k = true
    · obtain ⟨e1, e2⟩ := agr_e hX (show k < 20 by omega) c1
      obtain ⟨e3, e4⟩ := agr_e hY (show k < 20 by omega) c1
      have s1 : f_M_stepX u X' Y' (2 * k) = f_M_stepX u X Y (2 * k) := by unfold f_M_stepX; rw [tw_even, e1, e2]
      have s2 : f_M_stepY u X' Y' (2 * k) = f_M_stepY u X Y (2 * k) := by unfold f_M_stepY; rw [tw_even, e3, e4]
      rw [if_pos c1, if_pos c1, s1, s2, e1, e2, e3]
      simp only [i]
    · rw [if_neg c1, if_neg c1, i]
theorem agr_above (hG : Geo u (tI X) (tI Y)) (bX : Bd X) (bY : Bd Y) (hX : Agr u X X') (hY : Agr u Y Y') {x y : Int32} {p q : Int} (hx : Is x p 100) (hy : Is y q 100) : f_M_sideAbove u X' Y' x y = f_M_sideAbove u X Y x y := by
  have e : f_M_struckAbove u X' Y' x y = f_M_struckAbove u X Y x y := agr_st hX hY 20 0 _ _ _ rfl
  rcases struck_best hG bX bY hx hy with ⟨s, _⟩ | ⟨k, hk, s, el, _⟩
  · unfold f_M_sideAbove
    rw [e, if_pos s, if_pos s]
  · rw [side_eval hk (e.trans s), side_eval hk s]
    obtain ⟨e1, e2⟩ := agr_e hX hk el.1
    rw [e1, e2, agr_side hX hY (w := 2 * k) (by omega) (by rw [show 2 * k / 2 = k by omega]; exact el.1), agr_side hX hY (w := 2 * k + 1) (by omega) (by rw [show (2 * k + 1) / 2 = k by omega]; exact el.1)]
theorem agr_GF (hG : Geo u (tI X) (tI Y)) (bX : Bd X) (bY : Bd Y) (bX' : Bd X') (bY' : Bd Y') (hX : Agr u X X') (hY : Agr u Y Y') (a b : Nat) : GF u X' Y' a b ↔ GF u X Y a b := by
  have j1 : ∀ R, J1 u (tI X') (tI Y') (sfn u X' Y') R ↔ J1 u (tI X) (tI Y) (sfn u X Y) R := fun R => by
    refine forall_congr' (fun a => forall_congr' (fun ha => forall_congr' (fun hu => ?_)))
    rw [sfn_step bX' bY' ha, sfn_step bX bY ha, agr_side hX hY ha hu]
    unfold f_M_stepX f_M_stepY
    rw [hX a ha hu, agr_tw hX ha hu, hY a ha hu, agr_tw hY ha hu]
  have j2 : ∀ R, J2 u (tI X') (tI Y') (sfn u X' Y') (sab u X' Y') R ↔ J2 u (tI X) (tI Y) (sfn u X Y) (sab u X Y) R := fun R => by
    refine forall_congr' (fun a => forall_congr' (fun ha => forall_congr' (fun hu => ?_)))
    have e1 : (∀ c, c < 40 → u (c / 2) = true → tI X' c = tI X' a → tI Y' c = tI Y' a → tI Y' (tw c) - tI Y' c ≤ 0) ↔ (∀ c, c < 40 → u (c / 2) = true → tI X c = tI X a → tI Y c = tI Y a → tI Y (tw c) - tI Y c ≤ 0) := by
      refine forall_congr' (fun c => forall_congr' (fun hc => forall_congr' (fun uc => ?_)))
      rw [agr_I hX hc uc, agr_I hX ha hu, agr_I hY hc uc, agr_I hY ha hu, agr_It hY hc uc]
    rw [e1, sfn_up, sfn_up, agr_side hX hY ha hu, sab_at (Is_tI bX' ha) (Is_tI bY' ha), sab_at (Is_tI bX ha) (Is_tI bY ha), hX a ha hu, hY a ha hu, agr_above hG bX bY hX hY (Is_tI bX ha) (Is_tI bY ha)]
  exact ⟨fun h R h1 h2 h3 => h R h1 ((j1 R).mpr h2) ((j2 R).mpr h3), fun h R h1 h2 h3 => h R h1 ((j1 R).mp h2) ((j2 R).mp h3)⟩
theorem agr_GP (hX : Agr u X X') (hY : Agr u Y Y') (a b : Nat) : GP u X' Y' a b ↔ GP u X Y a b := by
  have e : ∀ a, a < 40 → u (a / 2) = true → nxt u X' Y' a = nxt u X Y a := fun a ha hu => by
    unfold nxt
    rw [agr_side hX hY ha hu]
    unfold f_M_stepX f_M_stepY
    rw [hX a ha hu, agr_tw hX ha hu, hY a ha hu, agr_tw hY ha hu]
  exact ⟨fun h R h1 h2 => h R h1 (fun a ha hu => by rw [e a ha hu]; exact h2 a ha hu), fun h R h1 h2 => h R h1 (fun a ha hu => by rw [← e a ha hu]; exact h2 a ha hu)⟩
theorem agr_Geo (hG : Geo u (tI X) (tI Y)) (bX' : Bd X') (bY' : Bd Y') (hX : Agr u X X') (hY : Agr u Y Y') : Geo u (tI X') (tI Y') := by
  have e : ∀ k, k < 20 → u k = true → (tI X' (2 * k) = tI X (2 * k) ∧ tI X' (2 * k + 1) = tI X (2 * k + 1)) ∧ tI Y' (2 * k) = tI Y (2 * k) ∧ tI Y' (2 * k + 1) = tI Y (2 * k + 1) := fun k hk hu => by
    obtain ⟨a, b⟩ := agr_e hX hk hu
    obtain ⟨c, d⟩ := agr_e hY hk hu
    unfold tI
    rw [a, b, c, d]; exact ⟨⟨rfl, rfl⟩, rfl, rfl⟩
  refine ⟨fun k hk hu => ?_, fun a ha => ⟨bX' a ha, bY' a ha⟩, fun k j hk hj uk uj hne h => ?_⟩
  · obtain ⟨⟨a, b⟩, c, d⟩ := e k hk hu
    have := hG.1 k hk hu
    unfold prp at this ⊢
    rw [a, b, c, d]; exact this
  · obtain ⟨⟨a, b⟩, c, d⟩ := e k hk uk
    obtain ⟨⟨a2, b2⟩, c2, d2⟩ := e j hj uj
    refine hG.2.2 k j hk hj uk uj hne ?_
    unfold meetI sameE opp ins lf dt at h ⊢
    rw [a, b, c, d, a2, b2, c2, d2] at h
    exact h
theorem agr_Hh (hX : Agr u X X') (hY : Agr u Y Y') {k : Nat} (hk : k < 20) (hu : u k = true) (x : Int) : Hh (tI X') (tI Y') k x = Hh (tI X) (tI Y) k x := by
  obtain ⟨a, b⟩ := agr_e hX hk hu
  obtain ⟨c, d⟩ := agr_e hY hk hu
  unfold Hh gr tI
  rw [a, b, c, d]
theorem cp_congr {f g : Nat → Int} {y : Int} : ∀ n, (∀ i, i < n → f i = g i) → cp f n y = cp g n y := by
  intro n
  induction n with
  | zero => intro _; rfl
  | succ n ih => intro h; unfold cp; rw [h n (by omega), ih (fun i hi => h i (by omega))]
theorem agr_Good (hG : Geo u (tI X) (tI Y)) (hX : Agr u X X') (hY : Agr u Y Y') {m : Nat} {ln : Nat → Int32} {ac mn sm : Nat → Nat} (h : Good u X Y m ln ac mn sm) : Good u X' Y' m ln ac mn sm := by
  obtain ⟨hC, hw, hV, hF⟩ := h
  have tx : ∀ k, k < 20 → u k = true → tI X' (2 * k) = tI X (2 * k) ∧ tI X' (2 * k + 1) = tI X (2 * k + 1) := fun k hk hu => by
    obtain ⟨a, b⟩ := agr_e hX hk hu
    unfold tI; rw [a, b]; exact ⟨rfl, rfl⟩
  have ty : ∀ k, k < 20 → u k = true → tI Y' (2 * k) = tI Y (2 * k) ∧ tI Y' (2 * k + 1) = tI Y (2 * k + 1) := fun k hk hu => by
    obtain ⟨a, b⟩ := agr_e hY hk hu
    unfold tI; rw [a, b]; exact ⟨rfl, rfl⟩
  have hC' : Cells u (tI X') (tI Y') m (tI ln) mn (Kc ac) := by
    refine ⟨hC.1, fun k hk hu => ?_, hC.2.2.1, fun s i h0 hs hi => ?_, fun s k h0 hs hk hu x0 x1 => ?_, fun s i j h0 hs hij hj => ?_⟩
    · obtain ⟨a, b⟩ := tx k hk hu
      rw [a, b]; exact hC.2.1 k hk hu
    · obtain ⟨c1, c2, c3, c4⟩ := hC.2.2.2.1 s i h0 hs hi
      obtain ⟨a, b⟩ := tx _ c1 c2
      rw [a, b]; exact ⟨c1, c2, c3, c4⟩
    · obtain ⟨a, b⟩ := tx k hk hu
      rw [a] at x0; rw [b] at x1
      exact hC.2.2.2.2.1 s k h0 hs hk hu x0 x1
    · obtain ⟨c1, c2, _⟩ := hC.2.2.2.1 s i h0 hs (by omega)
      obtain ⟨d1, d2, _⟩ := hC.2.2.2.1 s j h0 hs hj
      rw [agr_Hh hX hY c1 c2, agr_Hh hX hY c1 c2, agr_Hh hX hY d1 d2, agr_Hh hX hY d1 d2]
      exact hC.2.2.2.2.2 s i j h0 hs hij hj
  have fr : ∀ t y, freeA u (tI X') (tI Y') (tI ln) t y ↔ freeA u (tI X) (tI Y) (tI ln) t y := fun t y => by
    refine forall_congr' (fun e => forall_congr' (fun he => forall_congr' (fun hu => ?_)))
    obtain ⟨a, b⟩ := tx e he hu
    obtain ⟨c, d⟩ := ty e he hu
    rw [a, b, c, d]
  have pl : ∀ t y, t < m → PL (tI X') (tI Y') (tI ln) mn (Kc ac) t y = PL (tI X) (tI Y) (tI ln) mn (Kc ac) t y := fun t y ht => cp_congr _ (fun i hi => by
    obtain ⟨_, _, c1, c2, _⟩ := hC.at hG (s := t) (by omega) hi
    exact agr_Hh hX hY c1 c2 _)
  have pr : ∀ t y, t < m → PR (tI X') (tI Y') (tI ln) mn (Kc ac) t y = PR (tI X) (tI Y) (tI ln) mn (Kc ac) t y := fun t y ht => cp_congr _ (fun i hi => by
    obtain ⟨_, _, c1, c2, _⟩ := hC.at hG (s := t + 1) (by omega) hi
    exact agr_Hh hX hY c1 c2 _)
  have sok : ∀ S, Sok u (tI X') (tI Y') m (tI ln) mn (Kc ac) S ↔ Sok u (tI X) (tI Y) m (tI ln) mn (Kc ac) S := fun S => by
    refine and_congr_right (fun _ => and_congr_right (fun _ => and_congr_right (fun _ => ?_)))
    refine forall_congr' (fun t => forall_congr' (fun y => forall_congr' (fun ht => ?_)))
    rw [fr, pl t y ht, pr t y ht]
  refine ⟨hC', hw, hV, fun s i t j hs hi ht hj => (hF s i t j hs hi ht hj).trans ?_⟩
  exact ⟨fun h S hS => h S ((sok S).mp hS), fun h S hS => h S ((sok S).mpr hS)⟩
end AG
