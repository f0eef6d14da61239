theorem sideAbove_lt (u : Nat → Bool) (X Y : Nat → Int32) (x y : Int32) : f_M_sideAbove u X Y x y < 41 := by
  unfold f_M_sideAbove
  split
  · omega
  · rename_i h
    have h1 := struck_lt u X Y x y h
    repeat' split
    all_goals first
      | omega
      | exact Nat.lt_succ_of_lt (sideFacing_lt u X Y _ _ _ (by omega))
theorem endsAt_fl (u : Nat → Bool) (X Y : Nat → Int32) (x y : Int32) : ∀ (n a cnt : Nat), fl_M_endsAt u X Y x y n a cnt ≤ cnt + n := by
  intro n
  induction n with
  | zero => intro a cnt; exact Nat.le_refl _
  | succ n ih =>
    intro a cnt
    show fb_M_endsAt u X Y x y (fl_M_endsAt u X Y x y n) a cnt ≤ _
    unfold fb_M_endsAt
    have h1 := ih (a + 1) (cnt + 1)
    have h2 := ih (a + 1) cnt
    repeat' split
    all_goals omega
theorem endsAt_le (u : Nat → Bool) (X Y : Nat → Int32) (x y : Int32) : f_M_endsAt u X Y x y ≤ 40 := by
  have h := endsAt_fl u X Y x y 40 0 0
  unfold f_M_endsAt
  omega
theorem lu_fl (u : Nat → Bool) (X Y : Nat → Int32) : ∀ (n k : Nat), k + n = 20 → okN 20 (fl_M_leastUnusedNumber u X Y n k) := by
  intro n
  induction n with
  | zero => intro k _; exact Or.inl rfl
  | succ n ih =>
    intro k hk
    show okN 20 (fb_M_leastUnusedNumber u X Y (fl_M_leastUnusedNumber u X Y n) k)
    unfold fb_M_leastUnusedNumber
    split
    · exact ih _ (by omega)
    · exact Or.inr ⟨k, by omega, rfl⟩
theorem lu_ok (u : Nat → Bool) (X Y : Nat → Int32) : okN 20 (f_M_leastUnusedNumber u X Y) := lu_fl u X Y 20 0 (by omega)
theorem lu_nat (u : Nat → Bool) (X Y : Nat → Int32) (h : ¬ f_M_leastUnusedNumber u X Y = -1) : f_M_leastUnusedNumber u X Y = nI (f_M_leastUnusedNumber u X Y).toNatClampNeg := (okN_nat (lu_ok u X Y) h (by decide)).1
theorem lu_lt (u : Nat → Bool) (X Y : Nat → Int32) (h : ¬ f_M_leastUnusedNumber u X Y = -1) : (f_M_leastUnusedNumber u X Y).toNatClampNeg < 20 := (okN_nat (lu_ok u X Y) h (by decide)).2
theorem has_ok {u : Nat → Bool} {X Y : Nat → Int32} {k : Int32} (h : f_M_has u X Y k = true) : k = nI k.toNatClampNeg ∧ k.toNatClampNeg < 20 ∧ u k.toNatClampNeg = true := by
  unfold f_M_has at h
  by_cases h1 : k < 0
  · rw [if_pos h1] at h; cases h
  · rw [if_neg h1] at h
    by_cases h2 : 20 ≤ k
    · rw [if_pos h2] at h; cases h
    · rw [if_neg h2] at h
      by_cases h3 : u k.toNatClampNeg = true
      · exact ⟨raw_nat h1, raw_lt h1 h2, h3⟩
      · rw [if_neg h3] at h; cases h
