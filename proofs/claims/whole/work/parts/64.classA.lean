section KB
variable {u : Nat → Bool} {X Y : Nat → Int32}
theorem side_eval {x y : Int32} {k : Nat} (hk : k < 20) (h : f_M_struckAbove u X Y x y = nI k) : f_M_sideAbove u X Y x y = if x ≤ X (2 * k) then (if x = X (2 * k) then f_M_sideFacing u X Y (2 * k) 0 (-1) else f_M_sideFacing u X Y (2 * k + 1) 0 (-1)) else if X (2 * k + 1) ≤ x then (if x = X (2 * k) then f_M_sideFacing u X Y (2 * k) 0 (-1) else f_M_sideFacing u X Y (2 * k + 1) 0 (-1)) else 2 * k + 1 := by
  unfold f_M_sideAbove
  rw [h, if_neg (nI_nm1 (by omega)), nI_clamp (by omega)]
theorem hg_flat {tx ty : Nat → Int} {x : Int} {k : Nat} (h : tx (2 * k) < tx (2 * k + 1)) : hg tx ty x k = Hh tx ty k x := by unfold hg; rw [if_pos h]
theorem hg_up {tx ty : Nat → Int} {x : Int} {k : Nat} (h : tx (2 * k) = tx (2 * k + 1)) : hg tx ty x k = Qf * ty (2 * k) := by unfold hg; rw [if_neg (by omega)]
theorem sfn_dn (w : Nat) : sfn u X Y w 0 (-1) = f_M_sideFacing u X Y w 0 (-1) := rfl
theorem sfn_up (w : Nat) : sfn u X Y w 0 1 = f_M_sideFacing u X Y w 0 1 := rfl
set_option maxHeartbeats 1000000 in
theorem class_SA (hG : Geo u (tI X) (tI Y)) (hX : Bd X) (hY : Bd Y) : SAok u (tI X) (tI Y) (sfn u X Y) (sab u X Y) := by
  refine ⟨fun x y wx wy h1 h2 => ?_, fun x y k wx wy hk hu p1 p2 p3 h1 h2 => ?_, fun x y y2 wx wy hy ⟨w, hw, nD⟩ h1 h2 => ?_⟩
  · have hb := struck_best hG hX hY (Is_ofInt wx (by decide)) (Is_ofInt wy (by decide))
    rcases hb with ⟨e, _⟩ | ⟨k, hk, e, b1, b2, _⟩
    · unfold sab f_M_sideAbove
      rw [if_pos e]
    · exfalso
      rcases hG.1 k hk b1.1 with h | ⟨h, h3⟩
      · rw [hg_flat h] at b2
        have := h1 k hk b1.1 h b1.2.1 b1.2.2; omega
      · rw [hg_up h] at b2
        have := Qf_lt.mp b2
        have := h2 k hk b1.1 h (by have := b1.2.1; have := b1.2.2; omega); omega
  · have ix := Is_ofInt wx (by decide)
    have hb := struck_best hG hX hY ix (Is_ofInt wy (by decide))
    have hf : tI X (2 * k) < tI X (2 * k + 1) := by omega
    have ek : El u (tI X) x k := ⟨hu, by omega, by omega⟩
    have gk : hg (tI X) (tI Y) x k = Hh (tI X) (tI Y) k x := hg_flat hf
    rcases hb with ⟨_, b⟩ | ⟨b, hb, e, b1, b2, b3⟩
    · have := b k hk ek; omega
    have q1 := (b3 k hk ek (by omega)).1
    have hbk : b = k := by
      apply Decidable.byContradiction
      intro hne
      have hm := hG.2.2 k b hk hb hu b1.1 (fun z => hne z.symm)
      rcases hG.1 b hb b1.1 with h | ⟨h, h3⟩
      · rw [hg_flat h] at b2 q1
        have q2 := h1 b hb b1.1 h b1.2.1 b1.2.2 b2
        have := (G1 (hG.flat hk hf) (hG.flat hb h) hm (by omega) b1.2.1 (by omega) b1.2.2 (by omega)).1
        omega
      · have ex : tI X (2 * b) = x := by have := b1.2.1; have := b1.2.2; omega
        rw [hg_up h] at b2 q1
        have q2 := h2 b hb b1.1 h ex (Qf_lt.mp b2)
        have q3 := Qf_lt.mpr h3
        have := (G4 h h3 (hG.flat hk hf) hm (by omega) (by omega) (by rw [ex]; omega) (by rw [ex]; omega)).2
        omega
    subst hbk
    unfold sab
    rw [side_eval hk e, if_neg (fun z => by have := (Is_le ix (Is_tI hX (a := 2 * b) (by omega))).mp z; omega), if_neg (fun z => by have := (Is_le (Is_tI hX (a := 2 * b + 1) (by omega)) ix).mp z; omega)]
  · have ix := Is_ofInt wx (by decide)
    have hb := struck_best hG hX hY ix (Is_ofInt wy (by decide))
    have hyq := Qf_lt.mpr hy
    -- some segment stands at that height
    obtain ⟨k, hk, ek, gk⟩ : ∃ k, k < 20 ∧ El u (tI X) x k ∧ hg (tI X) (tI Y) x k = Qf * y2 := by
      rcases hw.kind hG with ⟨k, q⟩ | ⟨k, q⟩ | ⟨k, q⟩ | ⟨k, q⟩
      · exact ⟨k, q.1, ⟨q.2.1, by have := q.2.2.2.1; omega, by have := q.2.2.2.1; have := q.2.2.1; omega⟩, by rw [hg_flat q.2.2.1]; exact q.h⟩
      · exact ⟨k, q.1, ⟨q.2.1, by have := q.2.2.2.1; have := q.2.2.1; omega, by have := q.2.2.2.1; omega⟩, by rw [hg_flat q.2.2.1]; exact q.h hG⟩
      · exact ⟨k, q.1, ⟨q.2.1, by have := q.2.2.2.1; omega, by have := q.2.2.2.1; have := q.2.2.1.1; omega⟩, by rw [hg_up q.2.2.1.1, q.2.2.2.2]⟩
      · exact absurd q (nD k)
    rcases hb with ⟨_, b⟩ | ⟨b, hb, e, b1, b2, b3⟩
    · have := b k hk ek; omega
    have q1 := (b3 k hk ek (by omega)).1
    unfold sab
    rw [side_eval hb e]
    have iA := Is_tI hX (a := 2 * b) (by omega)
    have iB := Is_tI hX (a := 2 * b + 1) (by omega)
    rcases hG.1 b hb b1.1 with h | ⟨h, h3⟩
    · rw [hg_flat h] at b2 q1
      have q2 := h1 b hb b1.1 h b1.2.1 b1.2.2 b2
      have hq : Hh (tI X) (tI Y) b x = Qf * y2 := by omega
      have fb := hG.flat hb h
      by_cases c1 : x = tI X (2 * b)
      · have r : Rt u (tI X) (tI Y) x y2 b := ⟨hb, b1.1, h, c1.symm, Qf_inj (by rw [← Hh_left (tI X) (tI Y) b, ← c1]; exact hq)⟩
        refine ⟨2 * b, r.at, ?_⟩
        rw [if_pos ((Is_le ix iA).mpr (by omega)), if_pos ((Is_eq ix iA).mpr c1)]
        rfl
      by_cases c2 : x = tI X (2 * b + 1)
      · have r : Lt u (tI X) (tI Y) x y2 b := ⟨hb, b1.1, h, c2.symm, Qf_inj (by rw [← Hh_right (ty := tI Y) fb, ← c2]; exact hq)⟩
        refine ⟨2 * b + 1, r.at, ?_⟩
        rw [if_neg (fun z => by have := (Is_le ix iA).mp z; omega), if_pos ((Is_le iB ix).mpr (by omega)), if_neg (fun z => c1 ((Is_eq ix iA).mp z))]
        rfl
      -- it cannot pass through a point where another ends
      exfalso
      have hl := (lf_zero (ty := tI Y) fb x y2).mpr hq
      have hin : ins (tI X) (tI Y) b x y2 := ⟨hl, (ins_flat fb hl).mpr ⟨by have := b1.2.1; omega, by have := b1.2.2; omega⟩⟩
      have hne : b ≠ w / 2 := by
        intro z
        rcases (show w = 2 * (w / 2) ∨ w = 2 * (w / 2) + 1 by omega) with e3 | e3
        · rw [← z] at e3; rw [e3] at hw; exact c1 hw.2.2.1.symm
        · rw [← z] at e3; rw [e3] at hw; exact c2 hw.2.2.1.symm
      refine hG.2.2 b (w / 2) hb (by have := hw.1; omega) b1.1 hw.2.1 hne (Or.inr (Or.inl ?_))
      rcases (show w = 2 * (w / 2) ∨ w = 2 * (w / 2) + 1 by omega) with e3 | e3
      · left; rw [← e3, hw.2.2.1, hw.2.2.2]; exact hin
      · right; rw [← e3, hw.2.2.1, hw.2.2.2]; exact hin
    · have ex : tI X (2 * b) = x := by have := b1.2.1; have := b1.2.2; omega
      rw [hg_up h] at b2 q1
      have q2 := h2 b hb b1.1 h ex (Qf_lt.mp b2)
      have q3 := Qf_le.mpr q2
      have r : Up u (tI X) (tI Y) x y2 b := ⟨hb, b1.1, ⟨h, h3⟩, ex, Qf_inj (by omega)⟩
      refine ⟨2 * b, r.at, ?_⟩
      rw [if_pos ((Is_le ix iA).mpr (by omega)), if_pos ((Is_eq ix iA).mpr ex.symm)]
      rfl
/-- as the class calls them -/
theorem sfn_step (hX : Bd X) (hY : Bd Y) {a : Nat} (ha : a < 40) : sfn u X Y a (tI X (tw a) - tI X a) (tI Y (tw a) - tI Y a) = f_M_sideFacing u X Y a (f_M_stepX u X Y a) (f_M_stepY u X Y a) := by
  unfold sfn
  rw [ofInt_Is (Is_stepX (u := u) (Y := Y) hX ha), ofInt_Is (Is_stepY (u := u) (X := X) hY ha)]
theorem sab_at {x y : Int32} {p q : Int} (hx : Is x p 100) (hy : Is y q 100) : sab u X Y p q = f_M_sideAbove u X Y x y := by
  unfold sab; rw [ofInt_Is hx, ofInt_Is hy]
/-- the scan's answer is a side of a segment there, whatever it is -/
theorem scan_in {w : Nat} {dx dy : Int32} : ∀ n a fst, n + a = 40 → fst < 40 → u (fst / 2) = true → tI X fst = tI X w → tI Y fst = tI Y w → ∃ b, b < 40 ∧ u (b / 2) = true ∧ tI X b = tI X w ∧ tI Y b = tI Y w ∧ fl_M_sideFacing u X Y w dx dy n a fst = tw b := by
  intro n
  induction n with
  | zero => intro a fst _ h1 h2 h3 h4; exact ⟨fst, h1, h2, h3, h4, rfl⟩
  | succ n ih =>
    intro a fst hn h1 h2 h3 h4
    show ∃ b, _ ∧ _ ∧ _ ∧ _ ∧ fb_M_sideFacing u X Y w dx dy (fl_M_sideFacing u X Y w dx dy n) a fst = tw b
    unfold fb_M_sideFacing
    have skip := ih (a + 1) fst (by omega) h1 h2 h3 h4
    by_cases c1 : u (a / 2) = true
    · rw [if_pos c1]
      by_cases c2 : f_M_sameTail u X Y a w = true
      · rw [if_pos c2]
        obtain ⟨d1, d2⟩ := same_tail.mp c2
        by_cases c3 : f_M_comesSooner u X Y a fst dx dy = true
        · rw [if_pos c3]
          exact ih (a + 1) a (by omega) (by omega) c1 d1 d2
        · rw [if_neg c3]; exact skip
      · rw [if_neg c2]; exact skip
    · rw [if_neg c1]; exact skip
theorem side_in {w : Nat} {dx dy : Int32} (hw : w < 40) (hu : u (w / 2) = true) : ∃ b, b < 40 ∧ u (b / 2) = true ∧ tI X b = tI X w ∧ tI Y b = tI Y w ∧ f_M_sideFacing u X Y w dx dy = tw b := scan_in 40 0 w rfl hw hu rfl rfl
end KB
