theorem sf_fl (u : Nat → Bool) (X Y : Nat → Int32) (w : Nat) (dx dy : Int32) : ∀ (n a fst : Nat), a + n = 40 → fst < 40 → fl_M_sideFacing u X Y w dx dy n a fst < 40 := by
  intro n
  induction n with
  | zero =>
    intro a fst _ h
    show fx_M_sideFacing u X Y w dx dy a fst < 40
    unfold fx_M_sideFacing
    exact tw_lt h
  | succ n ih =>
    intro a fst ha h
    show fb_M_sideFacing u X Y w dx dy (fl_M_sideFacing u X Y w dx dy n) a fst < 40
    unfold fb_M_sideFacing
    repeat' split
    all_goals (apply ih <;> omega)
theorem sideFacing_lt (u : Nat → Bool) (X Y : Nat → Int32) (w : Nat) (dx dy : Int32) (hw : w < 40) : f_M_sideFacing u X Y w dx dy < 40 := by
  unfold f_M_sideFacing
  exact sf_fl u X Y w dx dy 40 0 w (by omega) hw
def okN (n : Nat) (r : Int32) : Prop := r = -1 ∨ ∃ j : Nat, j < n ∧ r = nI j
theorem struck_fl (u : Nat → Bool) (X Y : Nat → Int32) (x y : Int32) : ∀ (n k : Nat) (best br bn : Int32), k + n = 20 → okN 20 best → okN 20 (fl_M_struckAbove u X Y x y n k best br bn) := by
  intro n
  induction n with
  | zero =>
    intro k best br bn _ h
    exact h
  | succ n ih =>
    intro k best br bn hk h
    show okN 20 (fb_M_struckAbove u X Y x y (fl_M_struckAbove u X Y x y n) k best br bn)
    unfold fb_M_struckAbove
    repeat' split
    all_goals first
      | exact ih _ _ _ _ (by omega) h
      | exact ih _ _ _ _ (by omega) (Or.inr ⟨k, by omega, rfl⟩)
theorem struck_ok (u : Nat → Bool) (X Y : Nat → Int32) (x y : Int32) : okN 20 (f_M_struckAbove u X Y x y) := by
  unfold f_M_struckAbove
  exact struck_fl u X Y x y 20 0 (-1) 0 1 (by omega) (Or.inl rfl)
theorem okN_nat {n : Nat} {r : Int32} (h : okN n r) (h1 : ¬ r = -1) (hn : n < 2 ^ 31) : r = nI r.toNatClampNeg ∧ r.toNatClampNeg < n := by
  rcases h with h | ⟨j, hj, rfl⟩
  · exact absurd h h1
  · rw [nI_clamp (Nat.lt_trans hj hn)]
    exact ⟨rfl, hj⟩
theorem struck_nat (u : Nat → Bool) (X Y : Nat → Int32) (x y : Int32) (h : ¬ f_M_struckAbove u X Y x y = -1) : f_M_struckAbove u X Y x y = nI (f_M_struckAbove u X Y x y).toNatClampNeg := (okN_nat (struck_ok u X Y x y) h (by decide)).1
theorem struck_lt (u : Nat → Bool) (X Y : Nat → Int32) (x y : Int32) (h : ¬ f_M_struckAbove u X Y x y = -1) : (f_M_struckAbove u X Y x y).toNatClampNeg < 20 := (okN_nat (struck_ok u X Y x y) h (by decide)).2
def f_M_sideAbove (u : Nat → Bool) (X : Nat → Int32) (Y : Nat → Int32) (x : Int32) (y : Int32) : Nat := if (f_M_struckAbove u X Y x y) = (-1) then 40 else (if x ≤ X (2 * ((f_M_struckAbove u X Y x y).toNatClampNeg)) then (if x = X (2 * ((f_M_struckAbove u X Y x y).toNatClampNeg)) then (f_M_sideFacing u X Y (2 * ((f_M_struckAbove u X Y x y).toNatClampNeg)) 0 (-1)) else (f_M_sideFacing u X Y ((2 * ((f_M_struckAbove u X Y x y).toNatClampNeg)) + 1) 0 (-1))) else (if X ((2 * ((f_M_struckAbove u X Y x y).toNatClampNeg)) + 1) ≤ x then (if x = X (2 * ((f_M_struckAbove u X Y x y).toNatClampNeg)) then (f_M_sideFacing u X Y (2 * ((f_M_struckAbove u X Y x y).toNatClampNeg)) 0 (-1)) else (f_M_sideFacing u X Y ((2 * ((f_M_struckAbove u X Y x y).toNatClampNeg)) + 1) 0 (-1))) else ((2 * ((f_M_struckAbove u X Y x y).toNatClampNeg)) + 1)))
theorem i_M_sideAbove : inV y_M_sideAbove b_M_sideAbove 6 (some .int) 2 := ⟨kM_y_M_sideAbove, kV_y_M_sideAbove, kI_M, kY_y_M_sideAbove, by decide +kernel⟩
set_option maxHeartbeats 4000000 in
set_option maxRecDepth 100000 in
theorem c_M_sideAbove (l : Launch) (D : va_G) (hm hu hxs hys : Nat) (cZ cI : ClassId) (u : Nat → Bool) (X Y : Nat → Int32) (x : Int32) (y : Int32)   : PM l y_M_sideAbove b_M_sideAbove 6 (some .int) 3 75 D (mapW hm hu hxs hys cZ cI u X Y) [(cZ, .boolean), (cI, .int)] [.ref hm, .int x, .int y] (nI (f_M_sideAbove u X Y x y)) := by
  refine pMet rfl (fun p e s m below meth c S hr hlk hP hK ls hl => ?_) (Nat.le_of_ble_eq_true rfl)
  have hx := S.1
  have hb := S.2.1
  have hl : lv_has ls 6 [(0, .ref hm), (1, .int x), (2, .int y)] := hl
  refine lv_aload_n hx hb d_M_sideAbove_0 rfl (lv_at hl 0 rfl) ?_
  refine lv_iload_n hx hb d_M_sideAbove_1 rfl (lv_at hl 1 rfl) ?_
  refine lv_iload_n hx hb d_M_sideAbove_2 rfl (lv_at hl 2 rfl) ?_
  refine rcallV (rest := []) (v := (f_M_struckAbove u X Y x y)) S [.int x, .int y] hK hP [0, 1, 2, 3] rfl [0, 1] rfl (c_M_struckAbove l D hm hu hxs hys cZ cI u X Y x y ) i_M_struckAbove kL_M_63 ⟨Nat.le_of_ble_eq_true rfl, Nat.le_of_ble_eq_true rfl⟩ (by exact ⟨Nat.zero_le _, Nat.zero_le _⟩) (q0 := 0) (ci := 1) rfl rfl rfl hl.1 rfl (Nat.le_of_ble_eq_true rfl) d_M_sideAbove_3 ?_
  refine lv_istore_n (lv' := [(3, .int ((f_M_struckAbove u X Y x y))), (0, .ref hm), (1, .int x), (2, .int y)]) hx hb d_M_sideAbove_6 rfl hl (by decide) rfl (fun ls hl => ?_)
  refine lv_iload_n hx hb d_M_sideAbove_7 rfl (lv_at hl 0 rfl) ?_
  refine lv_iconst (v := (-1)) hx hb d_M_sideAbove_8 (by decide) ?_
  refine lv_icmp_ne (tgt := 15) hx hb d_M_sideAbove_9 (by decide) (fun c1 => ?_) (fun c1 => ?_)
  · have c1a : ¬ ((f_M_struckAbove u X Y x y) = (-1)) := c1
    have ek2 : (f_M_struckAbove u X Y x y) = nI ((f_M_struckAbove u X Y x y).toNatClampNeg) := struck_nat u X Y x y c1a
    have hk2 : (f_M_struckAbove u X Y x y).toNatClampNeg < 20 := struck_lt u X Y x y c1a
    rw [ek2] at hl
    refine lv_iconst (v := 2) hx hb d_M_sideAbove_15 (by decide) ?_
    refine lv_iload_n hx hb d_M_sideAbove_16 rfl (lv_at hl 0 rfl) ?_
    refine lv_imul hx hb d_M_sideAbove_17 ?_
    refine rtop (y := nI (2 * ((f_M_struckAbove u X Y x y).toNatClampNeg))) (pk_mul (2) ((f_M_struckAbove u X Y x y).toNatClampNeg)) ?_
    refine lv_istore (lv' := [(4, .int (nI (2 * ((f_M_struckAbove u X Y x y).toNatClampNeg)))), (3, .int (nI ((f_M_struckAbove u X Y x y).toNatClampNeg))), (0, .ref hm), (1, .int x), (2, .int y)]) hx hb d_M_sideAbove_18 hl (by decide) rfl (fun ls hl => ?_)
    refine lv_iconst (v := 2) hx hb d_M_sideAbove_20 (by decide) ?_
    refine lv_iload_n hx hb d_M_sideAbove_21 rfl (lv_at hl 1 rfl) ?_
    refine lv_imul hx hb d_M_sideAbove_22 ?_
    refine rtop (y := nI (2 * ((f_M_struckAbove u X Y x y).toNatClampNeg))) (pk_mul (2) ((f_M_struckAbove u X Y x y).toNatClampNeg)) ?_
    refine lv_iconst (v := 1) hx hb d_M_sideAbove_23 (by decide) ?_
    refine lv_iadd hx hb d_M_sideAbove_24 ?_
    refine rtop (y := nI ((2 * ((f_M_struckAbove u X Y x y).toNatClampNeg)) + 1)) (nI_add (2 * ((f_M_struckAbove u X Y x y).toNatClampNeg)) (1)) ?_
    refine lv_istore (lv' := [(5, .int (nI ((2 * ((f_M_struckAbove u X Y x y).toNatClampNeg)) + 1))), (4, .int (nI (2 * ((f_M_struckAbove u X Y x y).toNatClampNeg)))), (3, .int (nI ((f_M_struckAbove u X Y x y).toNatClampNeg))), (0, .ref hm), (1, .int x), (2, .int y)]) hx hb d_M_sideAbove_25 hl (by decide) rfl (fun ls hl => ?_)
    refine lv_iload_n hx hb d_M_sideAbove_27 rfl (lv_at hl 4 rfl) ?_
    refine lv_aload_n hx hb d_M_sideAbove_28 rfl (lv_at hl 3 rfl) ?_
    refine rget S hK hP 0 rfl rfl in_M 1 (by decide) kF_M_15 rfl d_M_sideAbove_29 ?_
    refine lv_iload hx hb d_M_sideAbove_32 (lv_at hl 1 rfl) ?_
    refine riald (j := 2 * ((f_M_struckAbove u X Y x y).toNatClampNeg)) S hK hP 2 1 rfl rfl (by omega) (by first | decide | omega) d_M_sideAbove_34 ?_
    refine lv_icmp_le (tgt := 52) hx hb d_M_sideAbove_35 (by decide) (fun c2 => ?_) (fun c2 => ?_)
    · have c2a : x ≤ X (2 * ((f_M_struckAbove u X Y x y).toNatClampNeg)) := c2
      refine lv_aload_n hx hb d_M_sideAbove_52 rfl (lv_at hl 3 rfl) ?_
      refine lv_iload_n hx hb d_M_sideAbove_53 rfl (lv_at hl 4 rfl) ?_
      refine lv_aload_n hx hb d_M_sideAbove_54 rfl (lv_at hl 3 rfl) ?_
      refine rget S hK hP 0 rfl rfl in_M 1 (by decide) kF_M_15 rfl d_M_sideAbove_55 ?_
      refine lv_iload hx hb d_M_sideAbove_58 (lv_at hl 1 rfl) ?_
      refine riald (j := 2 * ((f_M_struckAbove u X Y x y).toNatClampNeg)) S hK hP 2 1 rfl rfl (by omega) (by first | decide | omega) d_M_sideAbove_60 ?_
      refine lv_icmp_ne (tgt := 69) hx hb d_M_sideAbove_61 (by decide) (fun c3 => ?_) (fun c3 => ?_)
      · have c3a : ¬ (x = X (2 * ((f_M_struckAbove u X Y x y).toNatClampNeg))) := c3
        refine lv_iload hx hb d_M_sideAbove_69 (lv_at hl 0 rfl) ?_
        refine lv_iconst (v := 0) hx hb d_M_sideAbove_71 (by decide) ?_
        refine lv_iconst (v := (-1)) hx hb d_M_sideAbove_72 (by decide) ?_
        refine rcallV (rest := []) (v := nI (f_M_sideFacing u X Y ((2 * ((f_M_struckAbove u X Y x y).toNatClampNeg)) + 1) 0 (-1))) S [.int (nI ((2 * ((f_M_struckAbove u X Y x y).toNatClampNeg)) + 1)), .int 0, .int ((-1))] hK hP [0, 1, 2, 3] rfl [0, 1] rfl (c_M_sideFacing l D hm hu hxs hys cZ cI u X Y ((2 * ((f_M_struckAbove u X Y x y).toNatClampNeg)) + 1) 0 (-1) (by omega)) i_M_sideFacing kL_M_66 ⟨Nat.le_of_ble_eq_true rfl, Nat.le_of_ble_eq_true rfl⟩ (by exact ⟨Nat.zero_le _, Nat.zero_le _⟩) (q0 := 0) (ci := 1) rfl rfl rfl hl.1 rfl (Nat.le_of_ble_eq_true rfl) d_M_sideAbove_73 ?_
        have hsf := sideFacing_lt u X Y ((2 * ((f_M_struckAbove u X Y x y).toNatClampNeg)) + 1) 0 (-1) (by first | omega | exact tw_lt (by omega))
        exact rret S hr hlk (v := nI (f_M_sideFacing u X Y ((2 * ((f_M_struckAbove u X Y x y).toNatClampNeg)) + 1) 0 (-1))) (congrArg nI (show f_M_sideAbove u X Y x y = (f_M_sideFacing u X Y ((2 * ((f_M_struckAbove u X Y x y).toNatClampNeg)) + 1) 0 (-1)) from by unfold f_M_sideAbove; rw [if_neg c1a, if_pos c2a, if_neg c3a]).symm) d_M_sideAbove_76
      · have c3a : x = X (2 * ((f_M_struckAbove u X Y x y).toNatClampNeg)) := c3
        refine lv_iload hx hb d_M_sideAbove_64 (lv_at hl 1 rfl) ?_
        refine lv_goto (tgt := 71) hx hb d_M_sideAbove_66 (by decide) ?_
        refine lv_iconst (v := 0) hx hb d_M_sideAbove_71 (by decide) ?_
        refine lv_iconst (v := (-1)) hx hb d_M_sideAbove_72 (by decide) ?_
        refine rcallV (rest := []) (v := nI (f_M_sideFacing u X Y (2 * ((f_M_struckAbove u X Y x y).toNatClampNeg)) 0 (-1))) S [.int (nI (2 * ((f_M_struckAbove u X Y x y).toNatClampNeg))), .int 0, .int ((-1))] hK hP [0, 1, 2, 3] rfl [0, 1] rfl (c_M_sideFacing l D hm hu hxs hys cZ cI u X Y (2 * ((f_M_struckAbove u X Y x y).toNatClampNeg)) 0 (-1) (by omega)) i_M_sideFacing kL_M_66 ⟨Nat.le_of_ble_eq_true rfl, Nat.le_of_ble_eq_true rfl⟩ (by exact ⟨Nat.zero_le _, Nat.zero_le _⟩) (q0 := 0) (ci := 1) rfl rfl rfl hl.1 rfl (Nat.le_of_ble_eq_true rfl) d_M_sideAbove_73 ?_
        have hsf := sideFacing_lt u X Y (2 * ((f_M_struckAbove u X Y x y).toNatClampNeg)) 0 (-1) (by first | omega | exact tw_lt (by omega))
        exact rret S hr hlk (v := nI (f_M_sideFacing u X Y (2 * ((f_M_struckAbove u X Y x y).toNatClampNeg)) 0 (-1))) (congrArg nI (show f_M_sideAbove u X Y x y = (f_M_sideFacing u X Y (2 * ((f_M_struckAbove u X Y x y).toNatClampNeg)) 0 (-1)) from by unfold f_M_sideAbove; rw [if_neg c1a, if_pos c2a, if_pos c3a]).symm) d_M_sideAbove_76
    · have c2a : ¬ (x ≤ X (2 * ((f_M_struckAbove u X Y x y).toNatClampNeg))) := c2
      refine lv_iload_n hx hb d_M_sideAbove_38 rfl (lv_at hl 4 rfl) ?_
      refine lv_aload_n hx hb d_M_sideAbove_39 rfl (lv_at hl 3 rfl) ?_
      refine rget S hK hP 0 rfl rfl in_M 1 (by decide) kF_M_15 rfl d_M_sideAbove_40 ?_
      refine lv_iload hx hb d_M_sideAbove_43 (lv_at hl 0 rfl) ?_
      refine riald (j := (2 * ((f_M_struckAbove u X Y x y).toNatClampNeg)) + 1) S hK hP 2 1 rfl rfl (by omega) (by first | decide | omega) d_M_sideAbove_45 ?_
      refine lv_icmp_ge (tgt := 52) hx hb d_M_sideAbove_46 (by decide) (fun c4 => ?_) (fun c4 => ?_)
      · have c4a : X ((2 * ((f_M_struckAbove u X Y x y).toNatClampNeg)) + 1) ≤ x := c4
        refine lv_aload_n hx hb d_M_sideAbove_52 rfl (lv_at hl 3 rfl) ?_
        refine lv_iload_n hx hb d_M_sideAbove_53 rfl (lv_at hl 4 rfl) ?_
        refine lv_aload_n hx hb d_M_sideAbove_54 rfl (lv_at hl 3 rfl) ?_
        refine rget S hK hP 0 rfl rfl in_M 1 (by decide) kF_M_15 rfl d_M_sideAbove_55 ?_
        refine lv_iload hx hb d_M_sideAbove_58 (lv_at hl 1 rfl) ?_
        refine riald (j := 2 * ((f_M_struckAbove u X Y x y).toNatClampNeg)) S hK hP 2 1 rfl rfl (by omega) (by first | decide | omega) d_M_sideAbove_60 ?_
        refine lv_icmp_ne (tgt := 69) hx hb d_M_sideAbove_61 (by decide) (fun c5 => ?_) (fun c5 => ?_)
        · have c5a : ¬ (x = X (2 * ((f_M_struckAbove u X Y x y).toNatClampNeg))) := c5
          refine lv_iload hx hb d_M_sideAbove_69 (lv_at hl 0 rfl) ?_
          refine lv_iconst (v := 0) hx hb d_M_sideAbove_71 (by decide) ?_
          refine lv_iconst (v := (-1)) hx hb d_M_sideAbove_72 (by decide) ?_
          refine rcallV (rest := []) (v := nI (f_M_sideFacing u X Y ((2 * ((f_M_struckAbove u X Y x y).toNatClampNeg)) + 1) 0 (-1))) S [.int (nI ((2 * ((f_M_struckAbove u X Y x y).toNatClampNeg)) + 1)), .int 0, .int ((-1))] hK hP [0, 1, 2, 3] rfl [0, 1] rfl (c_M_sideFacing l D hm hu hxs hys cZ cI u X Y ((2 * ((f_M_struckAbove u X Y x y).toNatClampNeg)) + 1) 0 (-1) (by omega)) i_M_sideFacing kL_M_66 ⟨Nat.le_of_ble_eq_true rfl, Nat.le_of_ble_eq_true rfl⟩ (by exact ⟨Nat.zero_le _, Nat.zero_le _⟩) (q0 := 0) (ci := 1) rfl rfl rfl hl.1 rfl (Nat.le_of_ble_eq_true rfl) d_M_sideAbove_73 ?_
          have hsf := sideFacing_lt u X Y ((2 * ((f_M_struckAbove u X Y x y).toNatClampNeg)) + 1) 0 (-1) (by first | omega | exact tw_lt (by omega))
          exact rret S hr hlk (v := nI (f_M_sideFacing u X Y ((2 * ((f_M_struckAbove u X Y x y).toNatClampNeg)) + 1) 0 (-1))) (congrArg nI (show f_M_sideAbove u X Y x y = (f_M_sideFacing u X Y ((2 * ((f_M_struckAbove u X Y x y).toNatClampNeg)) + 1) 0 (-1)) from by unfold f_M_sideAbove; rw [if_neg c1a, if_neg c2a, if_pos c4a, if_neg c5a]).symm) d_M_sideAbove_76
        · have c5a : x = X (2 * ((f_M_struckAbove u X Y x y).toNatClampNeg)) := c5
          refine lv_iload hx hb d_M_sideAbove_64 (lv_at hl 1 rfl) ?_
          refine lv_goto (tgt := 71) hx hb d_M_sideAbove_66 (by decide) ?_
          refine lv_iconst (v := 0) hx hb d_M_sideAbove_71 (by decide) ?_
          refine lv_iconst (v := (-1)) hx hb d_M_sideAbove_72 (by decide) ?_
          refine rcallV (rest := []) (v := nI (f_M_sideFacing u X Y (2 * ((f_M_struckAbove u X Y x y).toNatClampNeg)) 0 (-1))) S [.int (nI (2 * ((f_M_struckAbove u X Y x y).toNatClampNeg))), .int 0, .int ((-1))] hK hP [0, 1, 2, 3] rfl [0, 1] rfl (c_M_sideFacing l D hm hu hxs hys cZ cI u X Y (2 * ((f_M_struckAbove u X Y x y).toNatClampNeg)) 0 (-1) (by omega)) i_M_sideFacing kL_M_66 ⟨Nat.le_of_ble_eq_true rfl, Nat.le_of_ble_eq_true rfl⟩ (by exact ⟨Nat.zero_le _, Nat.zero_le _⟩) (q0 := 0) (ci := 1) rfl rfl rfl hl.1 rfl (Nat.le_of_ble_eq_true rfl) d_M_sideAbove_73 ?_
          have hsf := sideFacing_lt u X Y (2 * ((f_M_struckAbove u X Y x y).toNatClampNeg)) 0 (-1) (by first | omega | exact tw_lt (by omega))
          exact rret S hr hlk (v := nI (f_M_sideFacing u X Y (2 * ((f_M_struckAbove u X Y x y).toNatClampNeg)) 0 (-1))) (congrArg nI (show f_M_sideAbove u X Y x y = (f_M_sideFacing u X Y (2 * ((f_M_struckAbove u X Y x y).toNatClampNeg)) 0 (-1)) from by unfold f_M_sideAbove; rw [if_neg c1a, if_neg c2a, if_pos c4a, if_pos c5a]).symm) d_M_sideAbove_76
      · have c4a : ¬ (X ((2 * ((f_M_struckAbove u X Y x y).toNatClampNeg)) + 1) ≤ x) := c4
        refine lv_iload hx hb d_M_sideAbove_49 (lv_at hl 0 rfl) ?_
        exact rret S hr hlk (v := nI ((2 * ((f_M_struckAbove u X Y x y).toNatClampNeg)) + 1)) (congrArg nI (show f_M_sideAbove u X Y x y = ((2 * ((f_M_struckAbove u X Y x y).toNatClampNeg)) + 1) from by unfold f_M_sideAbove; rw [if_neg c1a, if_neg c2a, if_neg c4a]).symm) d_M_sideAbove_51
  · have c1a : (f_M_struckAbove u X Y x y) = (-1) := c1
    refine lv_bipush (v := 40) hx hb d_M_sideAbove_12 (by decide) ?_
    exact rret S hr hlk (v := nI (40)) (congrArg nI (show f_M_sideAbove u X Y x y = 40 from by unfold f_M_sideAbove; rw [if_pos c1a]).symm) d_M_sideAbove_14
