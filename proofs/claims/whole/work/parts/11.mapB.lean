def f_M_partsTheEndsOf (u : Nat → Bool) (X : Nat → Int32) (Y : Nat → Int32) (k : Nat) (j : Nat) : Bool := if 0 ≤ (f_M_leftness u X Y k (X (2 * j)) (Y (2 * j))) then (if (f_M_leftness u X Y k (X (2 * j)) (Y (2 * j))) ≤ 0 then false else (if 0 ≤ (f_M_leftness u X Y k (X ((2 * j) + 1)) (Y ((2 * j) + 1))) then false else true)) else (if 0 < (f_M_leftness u X Y k (X ((2 * j) + 1)) (Y ((2 * j) + 1))) then true else (if (f_M_leftness u X Y k (X (2 * j)) (Y (2 * j))) ≤ 0 then false else (if 0 ≤ (f_M_leftness u X Y k (X ((2 * j) + 1)) (Y ((2 * j) + 1))) then false else true)))
theorem i_M_partsTheEndsOf : inV y_M_partsTheEndsOf b_M_partsTheEndsOf 5 (some .boolean) 2 := ⟨kM_y_M_partsTheEndsOf, kV_y_M_partsTheEndsOf, kI_M, kY_y_M_partsTheEndsOf, by decide +kernel⟩
set_option maxHeartbeats 4000000 in
set_option maxRecDepth 100000 in
theorem c_M_partsTheEndsOf (l : Launch) (D : va_G) (hm hu hxs hys : Nat) (cZ cI : ClassId) (u : Nat → Bool) (X Y : Nat → Int32) (k : Nat) (j : Nat) (hk : k < 20) (hj : j < 20)  : PM l y_M_partsTheEndsOf b_M_partsTheEndsOf 5 (some .boolean) 2 47 D (mapW hm hu hxs hys cZ cI u X Y) [(cZ, .boolean), (cI, .int)] [.ref hm, .int (nI (k)), .int (nI (j))] (b2i (f_M_partsTheEndsOf u X Y k j)) := by
  refine pMet rfl (fun p e s m below meth c S hr hlk hP hK ls hl => ?_) (Nat.le_of_ble_eq_true rfl)
  have hx := S.1
  have hb := S.2.1
  have hl : lv_has ls 5 [(0, .ref hm), (1, .int (nI (k))), (2, .int (nI (j)))] := hl
  refine lv_aload_n hx hb d_M_partsTheEndsOf_0 rfl (lv_at hl 0 rfl) ?_
  refine lv_iload_n hx hb d_M_partsTheEndsOf_1 rfl (lv_at hl 1 rfl) ?_
  refine lv_aload_n hx hb d_M_partsTheEndsOf_2 rfl (lv_at hl 0 rfl) ?_
  refine rget S hK hP 0 rfl rfl in_M 1 (by decide) kF_M_15 rfl d_M_partsTheEndsOf_3 ?_
  refine lv_iconst (v := 2) hx hb d_M_partsTheEndsOf_6 (by decide) ?_
  refine lv_iload_n hx hb d_M_partsTheEndsOf_7 rfl (lv_at hl 2 rfl) ?_
  refine lv_imul hx hb d_M_partsTheEndsOf_8 ?_
  refine rtop (y := nI (2 * j)) (pk_mul (2) (j)) ?_
  refine riald (j := 2 * j) S hK hP 2 1 rfl rfl (by omega) (by first | decide | omega) d_M_partsTheEndsOf_9 ?_
  refine lv_aload_n hx hb d_M_partsTheEndsOf_10 rfl (lv_at hl 0 rfl) ?_
  refine rget S hK hP 0 rfl rfl in_M 2 (by decide) kF_M_19 rfl d_M_partsTheEndsOf_11 ?_
  refine lv_iconst (v := 2) hx hb d_M_partsTheEndsOf_14 (by decide) ?_
  refine lv_iload_n hx hb d_M_partsTheEndsOf_15 rfl (lv_at hl 2 rfl) ?_
  refine lv_imul hx hb d_M_partsTheEndsOf_16 ?_
  refine rtop (y := nI (2 * j)) (pk_mul (2) (j)) ?_
  refine riald (j := 2 * j) S hK hP 3 1 rfl rfl (by omega) (by first | decide | omega) d_M_partsTheEndsOf_17 ?_
  refine rcallV (rest := []) (v := (f_M_leftness u X Y k (X (2 * j)) (Y (2 * j)))) S [.int (nI (k)), .int (X (2 * j)), .int (Y (2 * j))] hK hP [0, 1, 2, 3] rfl [0, 1] rfl (c_M_leftness l D hm hu hxs hys cZ cI u X Y k (X (2 * j)) (Y (2 * j)) (by omega)) i_M_leftness kL_M_42 ⟨Nat.le_of_ble_eq_true rfl, Nat.le_of_ble_eq_true rfl⟩ (by exact ⟨Nat.zero_le _, Nat.zero_le _⟩) (q0 := 0) (ci := 1) rfl rfl rfl hl.1 rfl (Nat.le_of_ble_eq_true rfl) d_M_partsTheEndsOf_18 ?_
  refine lv_istore_n (lv' := [(3, .int ((f_M_leftness u X Y k (X (2 * j)) (Y (2 * j))))), (0, .ref hm), (1, .int (nI (k))), (2, .int (nI (j)))]) hx hb d_M_partsTheEndsOf_21 rfl hl (by decide) rfl (fun ls hl => ?_)
  refine lv_aload_n hx hb d_M_partsTheEndsOf_22 rfl (lv_at hl 1 rfl) ?_
  refine lv_iload_n hx hb d_M_partsTheEndsOf_23 rfl (lv_at hl 2 rfl) ?_
  refine lv_aload_n hx hb d_M_partsTheEndsOf_24 rfl (lv_at hl 1 rfl) ?_
  refine rget S hK hP 0 rfl rfl in_M 1 (by decide) kF_M_15 rfl d_M_partsTheEndsOf_25 ?_
  refine lv_iconst (v := 2) hx hb d_M_partsTheEndsOf_28 (by decide) ?_
  refine lv_iload_n hx hb d_M_partsTheEndsOf_29 rfl (lv_at hl 3 rfl) ?_
  refine lv_imul hx hb d_M_partsTheEndsOf_30 ?_
  refine rtop (y := nI (2 * j)) (pk_mul (2) (j)) ?_
  refine lv_iconst (v := 1) hx hb d_M_partsTheEndsOf_31 (by decide) ?_
  refine lv_iadd hx hb d_M_partsTheEndsOf_32 ?_
  refine rtop (y := nI ((2 * j) + 1)) (nI_add (2 * j) (1)) ?_
  refine riald (j := (2 * j) + 1) S hK hP 2 1 rfl rfl (by omega) (by first | decide | omega) d_M_partsTheEndsOf_33 ?_
  refine lv_aload_n hx hb d_M_partsTheEndsOf_34 rfl (lv_at hl 1 rfl) ?_
  refine rget S hK hP 0 rfl rfl in_M 2 (by decide) kF_M_19 rfl d_M_partsTheEndsOf_35 ?_
  refine lv_iconst (v := 2) hx hb d_M_partsTheEndsOf_38 (by decide) ?_
  refine lv_iload_n hx hb d_M_partsTheEndsOf_39 rfl (lv_at hl 3 rfl) ?_
  refine lv_imul hx hb d_M_partsTheEndsOf_40 ?_
  refine rtop (y := nI (2 * j)) (pk_mul (2) (j)) ?_
  refine lv_iconst (v := 1) hx hb d_M_partsTheEndsOf_41 (by decide) ?_
  refine lv_iadd hx hb d_M_partsTheEndsOf_42 ?_
  refine rtop (y := nI ((2 * j) + 1)) (nI_add (2 * j) (1)) ?_
  refine riald (j := (2 * j) + 1) S hK hP 3 1 rfl rfl (by omega) (by first | decide | omega) d_M_partsTheEndsOf_43 ?_
  refine rcallV (rest := []) (v := (f_M_leftness u X Y k (X ((2 * j) + 1)) (Y ((2 * j) + 1)))) S [.int (nI (k)), .int (X ((2 * j) + 1)), .int (Y ((2 * j) + 1))] hK hP [0, 1, 2, 3] rfl [0, 1] rfl (c_M_leftness l D hm hu hxs hys cZ cI u X Y k (X ((2 * j) + 1)) (Y ((2 * j) + 1)) (by omega)) i_M_leftness kL_M_42 ⟨Nat.le_of_ble_eq_true rfl, Nat.le_of_ble_eq_true rfl⟩ (by exact ⟨Nat.zero_le _, Nat.zero_le _⟩) (q0 := 0) (ci := 1) rfl rfl rfl hl.1 rfl (Nat.le_of_ble_eq_true rfl) d_M_partsTheEndsOf_44 ?_
  refine lv_istore (lv' := [(4, .int ((f_M_leftness u X Y k (X ((2 * j) + 1)) (Y ((2 * j) + 1))))), (3, .int ((f_M_leftness u X Y k (X (2 * j)) (Y (2 * j))))), (0, .ref hm), (1, .int (nI (k))), (2, .int (nI (j)))]) hx hb d_M_partsTheEndsOf_47 hl (by decide) rfl (fun ls hl => ?_)
  refine lv_iload_n hx hb d_M_partsTheEndsOf_49 rfl (lv_at hl 1 rfl) ?_
  refine lv_if_ge (tgt := 58) hx hb d_M_partsTheEndsOf_50 (by decide) (fun c1 => ?_) (fun c1 => ?_)
  · have c1a : 0 ≤ (f_M_leftness u X Y k (X (2 * j)) (Y (2 * j))) := c1
    refine lv_iload_n hx hb d_M_partsTheEndsOf_58 rfl (lv_at hl 1 rfl) ?_
    refine lv_if_le (tgt := 71) hx hb d_M_partsTheEndsOf_59 (by decide) (fun c2 => ?_) (fun c2 => ?_)
    · have c2a : (f_M_leftness u X Y k (X (2 * j)) (Y (2 * j))) ≤ 0 := c2
      refine lv_iconst (v := 0) hx hb d_M_partsTheEndsOf_71 (by decide) ?_
      exact rretZ S hr hlk (v := false) (show f_M_partsTheEndsOf u X Y k j = false from by unfold f_M_partsTheEndsOf; rw [if_pos c1a, if_pos c2a]).symm d_M_partsTheEndsOf_72
    · have c2a : ¬ ((f_M_leftness u X Y k (X (2 * j)) (Y (2 * j))) ≤ 0) := c2
      refine lv_iload hx hb d_M_partsTheEndsOf_62 (lv_at hl 0 rfl) ?_
      refine lv_if_ge (tgt := 71) hx hb d_M_partsTheEndsOf_64 (by decide) (fun c3 => ?_) (fun c3 => ?_)
      · have c3a : 0 ≤ (f_M_leftness u X Y k (X ((2 * j) + 1)) (Y ((2 * j) + 1))) := c3
        refine lv_iconst (v := 0) hx hb d_M_partsTheEndsOf_71 (by decide) ?_
        exact rretZ S hr hlk (v := false) (show f_M_partsTheEndsOf u X Y k j = false from by unfold f_M_partsTheEndsOf; rw [if_pos c1a, if_neg c2a, if_pos c3a]).symm d_M_partsTheEndsOf_72
      · have c3a : ¬ (0 ≤ (f_M_leftness u X Y k (X ((2 * j) + 1)) (Y ((2 * j) + 1)))) := c3
        refine lv_iconst (v := 1) hx hb d_M_partsTheEndsOf_67 (by decide) ?_
        refine lv_goto (tgt := 72) hx hb d_M_partsTheEndsOf_68 (by decide) ?_
        exact rretZ S hr hlk (v := true) (show f_M_partsTheEndsOf u X Y k j = true from by unfold f_M_partsTheEndsOf; rw [if_pos c1a, if_neg c2a, if_neg c3a]).symm d_M_partsTheEndsOf_72
  · have c1a : ¬ (0 ≤ (f_M_leftness u X Y k (X (2 * j)) (Y (2 * j)))) := c1
    refine lv_iload hx hb d_M_partsTheEndsOf_53 (lv_at hl 0 rfl) ?_
    refine lv_if_gt (tgt := 67) hx hb d_M_partsTheEndsOf_55 (by decide) (fun c4 => ?_) (fun c4 => ?_)
    · have c4a : 0 < (f_M_leftness u X Y k (X ((2 * j) + 1)) (Y ((2 * j) + 1))) := c4
      refine lv_iconst (v := 1) hx hb d_M_partsTheEndsOf_67 (by decide) ?_
      refine lv_goto (tgt := 72) hx hb d_M_partsTheEndsOf_68 (by decide) ?_
      exact rretZ S hr hlk (v := true) (show f_M_partsTheEndsOf u X Y k j = true from by unfold f_M_partsTheEndsOf; rw [if_neg c1a, if_pos c4a]).symm d_M_partsTheEndsOf_72
    · have c4a : ¬ (0 < (f_M_leftness u X Y k (X ((2 * j) + 1)) (Y ((2 * j) + 1)))) := c4
      refine lv_iload_n hx hb d_M_partsTheEndsOf_58 rfl (lv_at hl 1 rfl) ?_
      refine lv_if_le (tgt := 71) hx hb d_M_partsTheEndsOf_59 (by decide) (fun c5 => ?_) (fun c5 => ?_)
      · have c5a : (f_M_leftness u X Y k (X (2 * j)) (Y (2 * j))) ≤ 0 := c5
        refine lv_iconst (v := 0) hx hb d_M_partsTheEndsOf_71 (by decide) ?_
        exact rretZ S hr hlk (v := false) (show f_M_partsTheEndsOf u X Y k j = false from by unfold f_M_partsTheEndsOf; rw [if_neg c1a, if_neg c4a, if_pos c5a]).symm d_M_partsTheEndsOf_72
      · have c5a : ¬ ((f_M_leftness u X Y k (X (2 * j)) (Y (2 * j))) ≤ 0) := c5
        refine lv_iload hx hb d_M_partsTheEndsOf_62 (lv_at hl 0 rfl) ?_
        refine lv_if_ge (tgt := 71) hx hb d_M_partsTheEndsOf_64 (by decide) (fun c6 => ?_) (fun c6 => ?_)
        · have c6a : 0 ≤ (f_M_leftness u X Y k (X ((2 * j) + 1)) (Y ((2 * j) + 1))) := c6
          refine lv_iconst (v := 0) hx hb d_M_partsTheEndsOf_71 (by decide) ?_
          exact rretZ S hr hlk (v := false) (show f_M_partsTheEndsOf u X Y k j = false from by unfold f_M_partsTheEndsOf; rw [if_neg c1a, if_neg c4a, if_neg c5a, if_pos c6a]).symm d_M_partsTheEndsOf_72
        · have c6a : ¬ (0 ≤ (f_M_leftness u X Y k (X ((2 * j) + 1)) (Y ((2 * j) + 1)))) := c6
          refine lv_iconst (v := 1) hx hb d_M_partsTheEndsOf_67 (by decide) ?_
          refine lv_goto (tgt := 72) hx hb d_M_partsTheEndsOf_68 (by decide) ?_
          exact rretZ S hr hlk (v := true) (show f_M_partsTheEndsOf u X Y k j = true from by unfold f_M_partsTheEndsOf; rw [if_neg c1a, if_neg c4a, if_neg c5a, if_neg c6a]).symm d_M_partsTheEndsOf_72
def f_M_holdsAnEndOf (u : Nat → Bool) (X : Nat → Int32) (Y : Nat → Int32) (k : Nat) (j : Nat) : Bool := if f_M_isInside u X Y k (X (2 * j)) (Y (2 * j)) = true then true else (if f_M_isInside u X Y k (X ((2 * j) + 1)) (Y ((2 * j) + 1)) = true then true else false)
theorem i_M_holdsAnEndOf : inV y_M_holdsAnEndOf b_M_holdsAnEndOf 3 (some .boolean) 2 := ⟨kM_y_M_holdsAnEndOf, kV_y_M_holdsAnEndOf, kI_M, kY_y_M_holdsAnEndOf, by decide +kernel⟩
set_option maxHeartbeats 4000000 in
set_option maxRecDepth 100000 in
theorem c_M_holdsAnEndOf (l : Launch) (D : va_G) (hm hu hxs hys : Nat) (cZ cI : ClassId) (u : Nat → Bool) (X Y : Nat → Int32) (k : Nat) (j : Nat) (hk : k < 20) (hj : j < 20)  : PM l y_M_holdsAnEndOf b_M_holdsAnEndOf 3 (some .boolean) 3 72 D (mapW hm hu hxs hys cZ cI u X Y) [(cZ, .boolean), (cI, .int)] [.ref hm, .int (nI (k)), .int (nI (j))] (b2i (f_M_holdsAnEndOf u X Y k j)) := by
  refine pMet rfl (fun p e s m below meth c S hr hlk hP hK ls hl => ?_) (Nat.le_of_ble_eq_true rfl)
  have hx := S.1
  have hb := S.2.1
  have hl : lv_has ls 3 [(0, .ref hm), (1, .int (nI (k))), (2, .int (nI (j)))] := hl
  refine lv_aload_n hx hb d_M_holdsAnEndOf_0 rfl (lv_at hl 0 rfl) ?_
  refine lv_iload_n hx hb d_M_holdsAnEndOf_1 rfl (lv_at hl 1 rfl) ?_
  refine lv_aload_n hx hb d_M_holdsAnEndOf_2 rfl (lv_at hl 0 rfl) ?_
  refine rget S hK hP 0 rfl rfl in_M 1 (by decide) kF_M_15 rfl d_M_holdsAnEndOf_3 ?_
  refine lv_iconst (v := 2) hx hb d_M_holdsAnEndOf_6 (by decide) ?_
  refine lv_iload_n hx hb d_M_holdsAnEndOf_7 rfl (lv_at hl 2 rfl) ?_
  refine lv_imul hx hb d_M_holdsAnEndOf_8 ?_
  refine rtop (y := nI (2 * j)) (pk_mul (2) (j)) ?_
  refine riald (j := 2 * j) S hK hP 2 1 rfl rfl (by omega) (by first | decide | omega) d_M_holdsAnEndOf_9 ?_
  refine lv_aload_n hx hb d_M_holdsAnEndOf_10 rfl (lv_at hl 0 rfl) ?_
  refine rget S hK hP 0 rfl rfl in_M 2 (by decide) kF_M_19 rfl d_M_holdsAnEndOf_11 ?_
  refine lv_iconst (v := 2) hx hb d_M_holdsAnEndOf_14 (by decide) ?_
  refine lv_iload_n hx hb d_M_holdsAnEndOf_15 rfl (lv_at hl 2 rfl) ?_
  refine lv_imul hx hb d_M_holdsAnEndOf_16 ?_
  refine rtop (y := nI (2 * j)) (pk_mul (2) (j)) ?_
  refine riald (j := 2 * j) S hK hP 3 1 rfl rfl (by omega) (by first | decide | omega) d_M_holdsAnEndOf_17 ?_
  refine rcallV (rest := []) (v := b2i (f_M_isInside u X Y k (X (2 * j)) (Y (2 * j)))) S [.int (nI (k)), .int (X (2 * j)), .int (Y (2 * j))] hK hP [0, 1, 2, 3] rfl [0, 1] rfl (c_M_isInside l D hm hu hxs hys cZ cI u X Y k (X (2 * j)) (Y (2 * j)) (by omega)) i_M_isInside kL_M_38 ⟨Nat.le_of_ble_eq_true rfl, Nat.le_of_ble_eq_true rfl⟩ (by exact ⟨Nat.zero_le _, Nat.zero_le _⟩) (q0 := 0) (ci := 1) rfl rfl rfl hl.1 rfl (Nat.le_of_ble_eq_true rfl) d_M_holdsAnEndOf_18 ?_
  refine lv_if_ne (tgt := 52) hx hb d_M_holdsAnEndOf_21 (by decide) (fun c1 => ?_) (fun c1 => ?_)
  · have c1a : f_M_isInside u X Y k (X (2 * j)) (Y (2 * j)) = true := b2i_ne0.mp c1
    refine lv_iconst (v := 1) hx hb d_M_holdsAnEndOf_52 (by decide) ?_
    refine lv_goto (tgt := 57) hx hb d_M_holdsAnEndOf_53 (by decide) ?_
    exact rretZ S hr hlk (v := true) (show f_M_holdsAnEndOf u X Y k j = true from by unfold f_M_holdsAnEndOf; rw [if_pos c1a]).symm d_M_holdsAnEndOf_57
  · have c1a : ¬ (f_M_isInside u X Y k (X (2 * j)) (Y (2 * j)) = true) := b2n (b2i_eq0.mp c1)
    refine lv_aload_n hx hb d_M_holdsAnEndOf_24 rfl (lv_at hl 0 rfl) ?_
    refine lv_iload_n hx hb d_M_holdsAnEndOf_25 rfl (lv_at hl 1 rfl) ?_
    refine lv_aload_n hx hb d_M_holdsAnEndOf_26 rfl (lv_at hl 0 rfl) ?_
    refine rget S hK hP 0 rfl rfl in_M 1 (by decide) kF_M_15 rfl d_M_holdsAnEndOf_27 ?_
    refine lv_iconst (v := 2) hx hb d_M_holdsAnEndOf_30 (by decide) ?_
    refine lv_iload_n hx hb d_M_holdsAnEndOf_31 rfl (lv_at hl 2 rfl) ?_
    refine lv_imul hx hb d_M_holdsAnEndOf_32 ?_
    refine rtop (y := nI (2 * j)) (pk_mul (2) (j)) ?_
    refine lv_iconst (v := 1) hx hb d_M_holdsAnEndOf_33 (by decide) ?_
    refine lv_iadd hx hb d_M_holdsAnEndOf_34 ?_
    refine rtop (y := nI ((2 * j) + 1)) (nI_add (2 * j) (1)) ?_
    refine riald (j := (2 * j) + 1) S hK hP 2 1 rfl rfl (by omega) (by first | decide | omega) d_M_holdsAnEndOf_35 ?_
    refine lv_aload_n hx hb d_M_holdsAnEndOf_36 rfl (lv_at hl 0 rfl) ?_
    refine rget S hK hP 0 rfl rfl in_M 2 (by decide) kF_M_19 rfl d_M_holdsAnEndOf_37 ?_
    refine lv_iconst (v := 2) hx hb d_M_holdsAnEndOf_40 (by decide) ?_
    refine lv_iload_n hx hb d_M_holdsAnEndOf_41 rfl (lv_at hl 2 rfl) ?_
    refine lv_imul hx hb d_M_holdsAnEndOf_42 ?_
    refine rtop (y := nI (2 * j)) (pk_mul (2) (j)) ?_
    refine lv_iconst (v := 1) hx hb d_M_holdsAnEndOf_43 (by decide) ?_
    refine lv_iadd hx hb d_M_holdsAnEndOf_44 ?_
    refine rtop (y := nI ((2 * j) + 1)) (nI_add (2 * j) (1)) ?_
    refine riald (j := (2 * j) + 1) S hK hP 3 1 rfl rfl (by omega) (by first | decide | omega) d_M_holdsAnEndOf_45 ?_
    refine rcallV (rest := []) (v := b2i (f_M_isInside u X Y k (X ((2 * j) + 1)) (Y ((2 * j) + 1)))) S [.int (nI (k)), .int (X ((2 * j) + 1)), .int (Y ((2 * j) + 1))] hK hP [0, 1, 2, 3] rfl [0, 1] rfl (c_M_isInside l D hm hu hxs hys cZ cI u X Y k (X ((2 * j) + 1)) (Y ((2 * j) + 1)) (by omega)) i_M_isInside kL_M_38 ⟨Nat.le_of_ble_eq_true rfl, Nat.le_of_ble_eq_true rfl⟩ (by exact ⟨Nat.zero_le _, Nat.zero_le _⟩) (q0 := 0) (ci := 1) rfl rfl rfl hl.1 rfl (Nat.le_of_ble_eq_true rfl) d_M_holdsAnEndOf_46 ?_
    refine lv_if_eq (tgt := 56) hx hb d_M_holdsAnEndOf_49 (by decide) (fun c2 => ?_) (fun c2 => ?_)
    · have c2a : ¬ (f_M_isInside u X Y k (X ((2 * j) + 1)) (Y ((2 * j) + 1)) = true) := b2n (b2i_eq0.mp c2)
      refine lv_iconst (v := 0) hx hb d_M_holdsAnEndOf_56 (by decide) ?_
      exact rretZ S hr hlk (v := false) (show f_M_holdsAnEndOf u X Y k j = false from by unfold f_M_holdsAnEndOf; rw [if_neg c1a, if_neg c2a]).symm d_M_holdsAnEndOf_57
    · have c2a : f_M_isInside u X Y k (X ((2 * j) + 1)) (Y ((2 * j) + 1)) = true := b2i_ne0.mp c2
      refine lv_iconst (v := 1) hx hb d_M_holdsAnEndOf_52 (by decide) ?_
      refine lv_goto (tgt := 57) hx hb d_M_holdsAnEndOf_53 (by decide) ?_
      exact rretZ S hr hlk (v := true) (show f_M_holdsAnEndOf u X Y k j = true from by unfold f_M_holdsAnEndOf; rw [if_neg c1a, if_pos c2a]).symm d_M_holdsAnEndOf_57
def f_M_haveSameEnds (u : Nat → Bool) (X : Nat → Int32) (Y : Nat → Int32) (k : Nat) (j : Nat) : Bool := if f_M_sameTail u X Y (2 * k) (2 * j) = true then (if f_M_sameTail u X Y ((2 * k) + 1) ((2 * j) + 1) = true then true else false) else false
theorem i_M_haveSameEnds : inV y_M_haveSameEnds b_M_haveSameEnds 3 (some .boolean) 2 := ⟨kM_y_M_haveSameEnds, kV_y_M_haveSameEnds, kI_M, kY_y_M_haveSameEnds, by decide +kernel⟩
set_option maxHeartbeats 4000000 in
set_option maxRecDepth 100000 in
theorem c_M_haveSameEnds (l : Launch) (D : va_G) (hm hu hxs hys : Nat) (cZ cI : ClassId) (u : Nat → Bool) (X Y : Nat → Int32) (k : Nat) (j : Nat) (hk : k < 20) (hj : j < 20)  : PM l y_M_haveSameEnds b_M_haveSameEnds 3 (some .boolean) 1 22 D (mapW hm hu hxs hys cZ cI u X Y) [(cZ, .boolean), (cI, .int)] [.ref hm, .int (nI (k)), .int (nI (j))] (b2i (f_M_haveSameEnds u X Y k j)) := by
  refine pMet rfl (fun p e s m below meth c S hr hlk hP hK ls hl => ?_) (Nat.le_of_ble_eq_true rfl)
  have hx := S.1
  have hb := S.2.1
  have hl : lv_has ls 3 [(0, .ref hm), (1, .int (nI (k))), (2, .int (nI (j)))] := hl
  refine lv_aload_n hx hb d_M_haveSameEnds_0 rfl (lv_at hl 0 rfl) ?_
  refine lv_iconst (v := 2) hx hb d_M_haveSameEnds_1 (by decide) ?_
  refine lv_iload_n hx hb d_M_haveSameEnds_2 rfl (lv_at hl 1 rfl) ?_
  refine lv_imul hx hb d_M_haveSameEnds_3 ?_
  refine rtop (y := nI (2 * k)) (pk_mul (2) (k)) ?_
  refine lv_iconst (v := 2) hx hb d_M_haveSameEnds_4 (by decide) ?_
  refine lv_iload_n hx hb d_M_haveSameEnds_5 rfl (lv_at hl 2 rfl) ?_
  refine lv_imul hx hb d_M_haveSameEnds_6 ?_
  refine rtop (y := nI (2 * j)) (pk_mul (2) (j)) ?_
  refine rcallV (rest := []) (v := b2i (f_M_sameTail u X Y (2 * k) (2 * j))) S [.int (nI (2 * k)), .int (nI (2 * j))] hK hP [0, 1, 2, 3] rfl [0, 1] rfl (c_M_sameTail l D hm hu hxs hys cZ cI u X Y (2 * k) (2 * j) (by omega) (by omega)) i_M_sameTail kL_M_35 ⟨Nat.le_of_ble_eq_true rfl, Nat.le_of_ble_eq_true rfl⟩ (by exact ⟨Nat.zero_le _, Nat.zero_le _⟩) (q0 := 0) (ci := 1) rfl rfl rfl hl.1 rfl (Nat.le_of_ble_eq_true rfl) d_M_haveSameEnds_7 ?_
  refine lv_if_eq (tgt := 34) hx hb d_M_haveSameEnds_10 (by decide) (fun c1 => ?_) (fun c1 => ?_)
  · have c1a : ¬ (f_M_sameTail u X Y (2 * k) (2 * j) = true) := b2n (b2i_eq0.mp c1)
    refine lv_iconst (v := 0) hx hb d_M_haveSameEnds_34 (by decide) ?_
    exact rretZ S hr hlk (v := false) (show f_M_haveSameEnds u X Y k j = false from by unfold f_M_haveSameEnds; rw [if_neg c1a]).symm d_M_haveSameEnds_35
  · have c1a : f_M_sameTail u X Y (2 * k) (2 * j) = true := b2i_ne0.mp c1
    refine lv_aload_n hx hb d_M_haveSameEnds_13 rfl (lv_at hl 0 rfl) ?_
    refine lv_iconst (v := 2) hx hb d_M_haveSameEnds_14 (by decide) ?_
    refine lv_iload_n hx hb d_M_haveSameEnds_15 rfl (lv_at hl 1 rfl) ?_
    refine lv_imul hx hb d_M_haveSameEnds_16 ?_
    refine rtop (y := nI (2 * k)) (pk_mul (2) (k)) ?_
    refine lv_iconst (v := 1) hx hb d_M_haveSameEnds_17 (by decide) ?_
    refine lv_iadd hx hb d_M_haveSameEnds_18 ?_
    refine rtop (y := nI ((2 * k) + 1)) (nI_add (2 * k) (1)) ?_
    refine lv_iconst (v := 2) hx hb d_M_haveSameEnds_19 (by decide) ?_
    refine lv_iload_n hx hb d_M_haveSameEnds_20 rfl (lv_at hl 2 rfl) ?_
    refine lv_imul hx hb d_M_haveSameEnds_21 ?_
    refine rtop (y := nI (2 * j)) (pk_mul (2) (j)) ?_
    refine lv_iconst (v := 1) hx hb d_M_haveSameEnds_22 (by decide) ?_
    refine lv_iadd hx hb d_M_haveSameEnds_23 ?_
    refine rtop (y := nI ((2 * j) + 1)) (nI_add (2 * j) (1)) ?_
    refine rcallV (rest := []) (v := b2i (f_M_sameTail u X Y ((2 * k) + 1) ((2 * j) + 1))) S [.int (nI ((2 * k) + 1)), .int (nI ((2 * j) + 1))] hK hP [0, 1, 2, 3] rfl [0, 1] rfl (c_M_sameTail l D hm hu hxs hys cZ cI u X Y ((2 * k) + 1) ((2 * j) + 1) (by omega) (by omega)) i_M_sameTail kL_M_35 ⟨Nat.le_of_ble_eq_true rfl, Nat.le_of_ble_eq_true rfl⟩ (by exact ⟨Nat.zero_le _, Nat.zero_le _⟩) (q0 := 0) (ci := 1) rfl rfl rfl hl.1 rfl (Nat.le_of_ble_eq_true rfl) d_M_haveSameEnds_24 ?_
    refine lv_if_eq (tgt := 34) hx hb d_M_haveSameEnds_27 (by decide) (fun c2 => ?_) (fun c2 => ?_)
    · have c2a : ¬ (f_M_sameTail u X Y ((2 * k) + 1) ((2 * j) + 1) = true) := b2n (b2i_eq0.mp c2)
      refine lv_iconst (v := 0) hx hb d_M_haveSameEnds_34 (by decide) ?_
      exact rretZ S hr hlk (v := false) (show f_M_haveSameEnds u X Y k j = false from by unfold f_M_haveSameEnds; rw [if_pos c1a, if_neg c2a]).symm d_M_haveSameEnds_35
    · have c2a : f_M_sameTail u X Y ((2 * k) + 1) ((2 * j) + 1) = true := b2i_ne0.mp c2
      refine lv_iconst (v := 1) hx hb d_M_haveSameEnds_30 (by decide) ?_
      refine lv_goto (tgt := 35) hx hb d_M_haveSameEnds_31 (by decide) ?_
      exact rretZ S hr hlk (v := true) (show f_M_haveSameEnds u X Y k j = true from by unfold f_M_haveSameEnds; rw [if_pos c1a, if_pos c2a]).symm d_M_haveSameEnds_35
def f_M_meet (u : Nat → Bool) (X : Nat → Int32) (Y : Nat → Int32) (k : Nat) (j : Nat) : Bool := if f_M_haveSameEnds u X Y k j = true then true else (if f_M_holdsAnEndOf u X Y k j = true then true else (if f_M_holdsAnEndOf u X Y j k = true then true else (if f_M_partsTheEndsOf u X Y k j = true then (if f_M_partsTheEndsOf u X Y j k = true then true else false) else false)))
theorem i_M_meet : inV y_M_meet b_M_meet 3 (some .boolean) 2 := ⟨kM_y_M_meet, kV_y_M_meet, kI_M, kY_y_M_meet, by decide +kernel⟩
set_option maxHeartbeats 4000000 in
set_option maxRecDepth 100000 in
theorem c_M_meet (l : Launch) (D : va_G) (hm hu hxs hys : Nat) (cZ cI : ClassId) (u : Nat → Bool) (X Y : Nat → Int32) (k : Nat) (j : Nat) (hk : k < 20) (hj : j < 20)  : PM l y_M_meet b_M_meet 3 (some .boolean) 4 94 D (mapW hm hu hxs hys cZ cI u X Y) [(cZ, .boolean), (cI, .int)] [.ref hm, .int (nI (k)), .int (nI (j))] (b2i (f_M_meet u X Y k j)) := by
  refine pMet rfl (fun p e s m below meth c S hr hlk hP hK ls hl => ?_) (Nat.le_of_ble_eq_true rfl)
  have hx := S.1
  have hb := S.2.1
  have hl : lv_has ls 3 [(0, .ref hm), (1, .int (nI (k))), (2, .int (nI (j)))] := hl
  refine lv_aload_n hx hb d_M_meet_0 rfl (lv_at hl 0 rfl) ?_
  refine lv_iload_n hx hb d_M_meet_1 rfl (lv_at hl 1 rfl) ?_
  refine lv_iload_n hx hb d_M_meet_2 rfl (lv_at hl 2 rfl) ?_
  refine rcallV (rest := []) (v := b2i (f_M_haveSameEnds u X Y k j)) S [.int (nI (k)), .int (nI (j))] hK hP [0, 1, 2, 3] rfl [0, 1] rfl (c_M_haveSameEnds l D hm hu hxs hys cZ cI u X Y k j (by omega) (by omega)) i_M_haveSameEnds kL_M_26 ⟨Nat.le_of_ble_eq_true rfl, Nat.le_of_ble_eq_true rfl⟩ (by exact ⟨Nat.zero_le _, Nat.zero_le _⟩) (q0 := 0) (ci := 1) rfl rfl rfl hl.1 rfl (Nat.le_of_ble_eq_true rfl) d_M_meet_3 ?_
  refine lv_if_ne (tgt := 45) hx hb d_M_meet_6 (by decide) (fun c1 => ?_) (fun c1 => ?_)
  · have c1a : f_M_haveSameEnds u X Y k j = true := b2i_ne0.mp c1
    refine lv_iconst (v := 1) hx hb d_M_meet_45 (by decide) ?_
    refine lv_goto (tgt := 50) hx hb d_M_meet_46 (by decide) ?_
    exact rretZ S hr hlk (v := true) (show f_M_meet u X Y k j = true from by unfold f_M_meet; rw [if_pos c1a]).symm d_M_meet_50
  · have c1a : ¬ (f_M_haveSameEnds u X Y k j = true) := b2n (b2i_eq0.mp c1)
    refine lv_aload_n hx hb d_M_meet_9 rfl (lv_at hl 0 rfl) ?_
    refine lv_iload_n hx hb d_M_meet_10 rfl (lv_at hl 1 rfl) ?_
    refine lv_iload_n hx hb d_M_meet_11 rfl (lv_at hl 2 rfl) ?_
    refine rcallV (rest := []) (v := b2i (f_M_holdsAnEndOf u X Y k j)) S [.int (nI (k)), .int (nI (j))] hK hP [0, 1, 2, 3] rfl [0, 1] rfl (c_M_holdsAnEndOf l D hm hu hxs hys cZ cI u X Y k j (by omega) (by omega)) i_M_holdsAnEndOf kL_M_29 ⟨Nat.le_of_ble_eq_true rfl, Nat.le_of_ble_eq_true rfl⟩ (by exact ⟨Nat.zero_le _, Nat.zero_le _⟩) (q0 := 0) (ci := 1) rfl rfl rfl hl.1 rfl (Nat.le_of_ble_eq_true rfl) d_M_meet_12 ?_
    refine lv_if_ne (tgt := 45) hx hb d_M_meet_15 (by decide) (fun c2 => ?_) (fun c2 => ?_)
    · have c2a : f_M_holdsAnEndOf u X Y k j = true := b2i_ne0.mp c2
      refine lv_iconst (v := 1) hx hb d_M_meet_45 (by decide) ?_
      refine lv_goto (tgt := 50) hx hb d_M_meet_46 (by decide) ?_
      exact rretZ S hr hlk (v := true) (show f_M_meet u X Y k j = true from by unfold f_M_meet; rw [if_neg c1a, if_pos c2a]).symm d_M_meet_50
    · have c2a : ¬ (f_M_holdsAnEndOf u X Y k j = true) := b2n (b2i_eq0.mp c2)
      refine lv_aload_n hx hb d_M_meet_18 rfl (lv_at hl 0 rfl) ?_
      refine lv_iload_n hx hb d_M_meet_19 rfl (lv_at hl 2 rfl) ?_
      refine lv_iload_n hx hb d_M_meet_20 rfl (lv_at hl 1 rfl) ?_
      refine rcallV (rest := []) (v := b2i (f_M_holdsAnEndOf u X Y j k)) S [.int (nI (j)), .int (nI (k))] hK hP [0, 1, 2, 3] rfl [0, 1] rfl (c_M_holdsAnEndOf l D hm hu hxs hys cZ cI u X Y j k (by omega) (by omega)) i_M_holdsAnEndOf kL_M_29 ⟨Nat.le_of_ble_eq_true rfl, Nat.le_of_ble_eq_true rfl⟩ (by exact ⟨Nat.zero_le _, Nat.zero_le _⟩) (q0 := 0) (ci := 1) rfl rfl rfl hl.1 rfl (Nat.le_of_ble_eq_true rfl) d_M_meet_21 ?_
      refine lv_if_ne (tgt := 45) hx hb d_M_meet_24 (by decide) (fun c3 => ?_) (fun c3 => ?_)
      · have c3a : f_M_holdsAnEndOf u X Y j k = true := b2i_ne0.mp c3
        refine lv_iconst (v := 1) hx hb d_M_meet_45 (by decide) ?_
        refine lv_goto (tgt := 50) hx hb d_M_meet_46 (by decide) ?_
        exact rretZ S hr hlk (v := true) (show f_M_meet u X Y k j = true from by unfold f_M_meet; rw [if_neg c1a, if_neg c2a, if_pos c3a]).symm d_M_meet_50
      · have c3a : ¬ (f_M_holdsAnEndOf u X Y j k = true) := b2n (b2i_eq0.mp c3)
        refine lv_aload_n hx hb d_M_meet_27 rfl (lv_at hl 0 rfl) ?_
        refine lv_iload_n hx hb d_M_meet_28 rfl (lv_at hl 1 rfl) ?_
        refine lv_iload_n hx hb d_M_meet_29 rfl (lv_at hl 2 rfl) ?_
        refine rcallV (rest := []) (v := b2i (f_M_partsTheEndsOf u X Y k j)) S [.int (nI (k)), .int (nI (j))] hK hP [0, 1, 2, 3] rfl [0, 1] rfl (c_M_partsTheEndsOf l D hm hu hxs hys cZ cI u X Y k j (by omega) (by omega)) i_M_partsTheEndsOf kL_M_32 ⟨Nat.le_of_ble_eq_true rfl, Nat.le_of_ble_eq_true rfl⟩ (by exact ⟨Nat.zero_le _, Nat.zero_le _⟩) (q0 := 0) (ci := 1) rfl rfl rfl hl.1 rfl (Nat.le_of_ble_eq_true rfl) d_M_meet_30 ?_
        refine lv_if_eq (tgt := 49) hx hb d_M_meet_33 (by decide) (fun c4 => ?_) (fun c4 => ?_)
        · have c4a : ¬ (f_M_partsTheEndsOf u X Y k j = true) := b2n (b2i_eq0.mp c4)
          refine lv_iconst (v := 0) hx hb d_M_meet_49 (by decide) ?_
          exact rretZ S hr hlk (v := false) (show f_M_meet u X Y k j = false from by unfold f_M_meet; rw [if_neg c1a, if_neg c2a, if_neg c3a, if_neg c4a]).symm d_M_meet_50
        · have c4a : f_M_partsTheEndsOf u X Y k j = true := b2i_ne0.mp c4
          refine lv_aload_n hx hb d_M_meet_36 rfl (lv_at hl 0 rfl) ?_
          refine lv_iload_n hx hb d_M_meet_37 rfl (lv_at hl 2 rfl) ?_
          refine lv_iload_n hx hb d_M_meet_38 rfl (lv_at hl 1 rfl) ?_
          refine rcallV (rest := []) (v := b2i (f_M_partsTheEndsOf u X Y j k)) S [.int (nI (j)), .int (nI (k))] hK hP [0, 1, 2, 3] rfl [0, 1] rfl (c_M_partsTheEndsOf l D hm hu hxs hys cZ cI u X Y j k (by omega) (by omega)) i_M_partsTheEndsOf kL_M_32 ⟨Nat.le_of_ble_eq_true rfl, Nat.le_of_ble_eq_true rfl⟩ (by exact ⟨Nat.zero_le _, Nat.zero_le _⟩) (q0 := 0) (ci := 1) rfl rfl rfl hl.1 rfl (Nat.le_of_ble_eq_true rfl) d_M_meet_39 ?_
          refine lv_if_eq (tgt := 49) hx hb d_M_meet_42 (by decide) (fun c5 => ?_) (fun c5 => ?_)
          · have c5a : ¬ (f_M_partsTheEndsOf u X Y j k = true) := b2n (b2i_eq0.mp c5)
            refine lv_iconst (v := 0) hx hb d_M_meet_49 (by decide) ?_
            exact rretZ S hr hlk (v := false) (show f_M_meet u X Y k j = false from by unfold f_M_meet; rw [if_neg c1a, if_neg c2a, if_neg c3a, if_pos c4a, if_neg c5a]).symm d_M_meet_50
          · have c5a : f_M_partsTheEndsOf u X Y j k = true := b2i_ne0.mp c5
            refine lv_iconst (v := 1) hx hb d_M_meet_45 (by decide) ?_
            refine lv_goto (tgt := 50) hx hb d_M_meet_46 (by decide) ?_
            exact rretZ S hr hlk (v := true) (show f_M_meet u X Y k j = true from by unfold f_M_meet; rw [if_neg c1a, if_neg c2a, if_neg c3a, if_pos c4a, if_pos c5a]).symm d_M_meet_50
def fx_M_leastMeeting (u : Nat → Bool) (X : Nat → Int32) (Y : Nat → Int32) (j : Nat) (k : Nat)  : Int32 := (-1)
def fb_M_leastMeeting (u : Nat → Bool) (X : Nat → Int32) (Y : Nat → Int32) (j : Nat) (rec : Nat → Int32) (k : Nat)  : Int32 := if u k = true then (if f_M_meet u X Y k j = true then (nI (k)) else (rec (k + 1))) else (rec (k + 1))
def fl_M_leastMeeting (u : Nat → Bool) (X : Nat → Int32) (Y : Nat → Int32) (j : Nat) : Nat → Nat → Int32
  | 0, k => fx_M_leastMeeting u X Y j k
  | n + 1, k => fb_M_leastMeeting u X Y j (fl_M_leastMeeting u X Y j n) k
def f_M_leastMeeting (u : Nat → Bool) (X : Nat → Int32) (Y : Nat → Int32) (j : Nat) : Int32 := fl_M_leastMeeting u X Y j 20 0
theorem i_M_leastMeeting : inV y_M_leastMeeting b_M_leastMeeting 3 (some .int) 1 := ⟨kM_y_M_leastMeeting, kV_y_M_leastMeeting, kI_M, kY_y_M_leastMeeting, by decide +kernel⟩
set_option maxHeartbeats 4000000 in
set_option maxRecDepth 100000 in
theorem c_M_leastMeeting (l : Launch) (D : va_G) (hm hu hxs hys : Nat) (cZ cI : ClassId) (u : Nat → Bool) (X Y : Nat → Int32) (j : Nat) (hj : j < 20)  : PM l y_M_leastMeeting b_M_leastMeeting 3 (some .int) 5 116 D (mapW hm hu hxs hys cZ cI u X Y) [(cZ, .boolean), (cI, .int)] [.ref hm, .int (nI (j))] (f_M_leastMeeting u X Y j) := by
  refine pMet rfl (fun p e s m below meth c S hr hlk hP hK ls hl => ?_) (Nat.le_of_ble_eq_true rfl)
  have hx := S.1
  have hb := S.2.1
  have hl : lv_has ls 3 [(0, .ref hm), (1, .int (nI (j)))] := hl
  have key : ∀ (n : Nat) (k : Nat)  (hk : k + n = 20)  (ls : Array Slot) (hl : lv_has ls 3 [(0, .ref hm), (1, .int (nI (j))), (2, .int (nI (k)))]) (hf : f_M_leastMeeting u X Y j = fl_M_leastMeeting u X Y j n k ), W p l e { frames := 5, cells := 0, slots := 0, locals := 116 } s m [.ref hm, .int (nI (j))].toArray below meth c s.heap [] 0 0 (MQ below (pQ ((f_M_leastMeeting u X Y j))) [.ref hm, .int (nI (j))].toArray s 0 0 (fun _ => False)) (F0 m 2 ls []) := by
    intro n
    induction n with
    | zero =>
      intro k  hk  ls hl hf
      refine lv_iload_n hx hb d_M_leastMeeting_2 rfl (lv_at hl 2 rfl) ?_
      refine lv_bipush (v := 20) hx hb d_M_leastMeeting_3 (by decide) ?_
      refine lv_icmp_ge (tgt := 34) hx hb d_M_leastMeeting_5 (by decide) (fun c1 => ?_) (fun c1 => ?_)
      · have c1a : 20 ≤ k := (nI_leI (a := 20) (b := k) (by decide) (by omega)).mp c1
        refine lv_iconst (v := (-1)) hx hb d_M_leastMeeting_34 (by decide) ?_
        exact rret S hr hlk (v := (-1)) (hf.trans (show fx_M_leastMeeting u X Y j k = (-1) from rfl)).symm d_M_leastMeeting_35
      · have c1a : ¬ (20 ≤ k) := fun h => c1 ((nI_leI (a := 20) (b := k) (by decide) (by omega)).mpr h)
        omega
    | succ n ih =>
      intro k  hk  ls hl hf
      refine lv_iload_n hx hb d_M_leastMeeting_2 rfl (lv_at hl 2 rfl) ?_
      refine lv_bipush (v := 20) hx hb d_M_leastMeeting_3 (by decide) ?_
      refine lv_icmp_ge (tgt := 34) hx hb d_M_leastMeeting_5 (by decide) (fun c2 => ?_) (fun c2 => ?_)
      · have c2a : 20 ≤ k := (nI_leI (a := 20) (b := k) (by decide) (by omega)).mp c2
        omega
      · have c2a : ¬ (20 ≤ k) := fun h => c2 ((nI_leI (a := 20) (b := k) (by decide) (by omega)).mpr h)
        refine lv_aload_n hx hb d_M_leastMeeting_8 rfl (lv_at hl 0 rfl) ?_
        refine rget S hK hP 0 rfl rfl in_M 0 (by decide) kF_M_9 rfl d_M_leastMeeting_9 ?_
        refine lv_iload_n hx hb d_M_leastMeeting_12 rfl (lv_at hl 2 rfl) ?_
        refine rzald (j := k) S hK hP 1 0 rfl rfl (by omega) (by first | decide | omega) d_M_leastMeeting_13 ?_
        refine lv_if_eq (tgt := 28) hx hb d_M_leastMeeting_14 (by decide) (fun c3 => ?_) (fun c3 => ?_)
        · have c3a : ¬ (u k = true) := b2n (b2i_eq0.mp c3)
          refine lv_iinc (v := nI (k + 1)) (lv' := [(2, .int (nI (k + 1))), (0, .ref hm), (1, .int (nI (j)))]) hx hb d_M_leastMeeting_28 hl (k := 2) rfl (nI_1 (k)) (by decide) rfl (fun ls hl => ?_)
          refine lv_goto (tgt := 2) hx hb d_M_leastMeeting_31 (by decide) ?_
          exact ih (k + 1) (by omega)  ls (lv_sub hl [1, 2, 0] rfl) (hf.trans (show fb_M_leastMeeting u X Y j (fl_M_leastMeeting u X Y j n) k = (fl_M_leastMeeting u X Y j n (k + 1)) from by unfold fb_M_leastMeeting; rw [if_neg c3a]))
        · have c3a : u k = true := b2i_ne0.mp c3
          refine lv_aload_n hx hb d_M_leastMeeting_17 rfl (lv_at hl 0 rfl) ?_
          refine lv_iload_n hx hb d_M_leastMeeting_18 rfl (lv_at hl 2 rfl) ?_
          refine lv_iload_n hx hb d_M_leastMeeting_19 rfl (lv_at hl 1 rfl) ?_
          refine rcallV (rest := []) (v := b2i (f_M_meet u X Y k j)) S [.int (nI (k)), .int (nI (j))] hK hP [0, 1, 2, 3] rfl [0, 1] rfl (c_M_meet l D hm hu hxs hys cZ cI u X Y k j (by omega) (by omega)) i_M_meet kL_M_22 ⟨Nat.le_of_ble_eq_true rfl, Nat.le_of_ble_eq_true rfl⟩ (by exact ⟨Nat.zero_le _, Nat.zero_le _⟩) (q0 := 0) (ci := 1) rfl rfl rfl hl.1 rfl (Nat.le_of_ble_eq_true rfl) d_M_leastMeeting_20 ?_
          refine lv_if_eq (tgt := 28) hx hb d_M_leastMeeting_23 (by decide) (fun c4 => ?_) (fun c4 => ?_)
          · have c4a : ¬ (f_M_meet u X Y k j = true) := b2n (b2i_eq0.mp c4)
            refine lv_iinc (v := nI (k + 1)) (lv' := [(2, .int (nI (k + 1))), (0, .ref hm), (1, .int (nI (j)))]) hx hb d_M_leastMeeting_28 hl (k := 2) rfl (nI_1 (k)) (by decide) rfl (fun ls hl => ?_)
            refine lv_goto (tgt := 2) hx hb d_M_leastMeeting_31 (by decide) ?_
            exact ih (k + 1) (by omega)  ls (lv_sub hl [1, 2, 0] rfl) (hf.trans (show fb_M_leastMeeting u X Y j (fl_M_leastMeeting u X Y j n) k = (fl_M_leastMeeting u X Y j n (k + 1)) from by unfold fb_M_leastMeeting; rw [if_pos c3a, if_neg c4a]))
          · have c4a : f_M_meet u X Y k j = true := b2i_ne0.mp c4
            refine lv_iload_n hx hb d_M_leastMeeting_26 rfl (lv_at hl 2 rfl) ?_
            exact rret S hr hlk (v := nI (k)) (hf.trans (show fb_M_leastMeeting u X Y j (fl_M_leastMeeting u X Y j n) k = (nI (k)) from by unfold fb_M_leastMeeting; rw [if_pos c3a, if_pos c4a])).symm d_M_leastMeeting_27
  refine lv_iconst (v := 0) hx hb d_M_leastMeeting_0 (by decide) ?_
  refine lv_istore_n (lv' := [(2, .int 0), (0, .ref hm), (1, .int (nI (j)))]) hx hb d_M_leastMeeting_1 rfl hl (by decide) rfl (fun ls hl => ?_)
  exact key 20 0 (by omega)  ls (lv_sub hl [1, 2, 0] rfl) (show f_M_leastMeeting u X Y j = (fl_M_leastMeeting u X Y j 20 0) from rfl)
def fx_M_isFirstOfItsVertex (u : Nat → Bool) (X : Nat → Int32) (Y : Nat → Int32) (a : Nat) (b : Nat)  : Bool := true
def fb_M_isFirstOfItsVertex (u : Nat → Bool) (X : Nat → Int32) (Y : Nat → Int32) (a : Nat) (rec : Nat → Bool) (b : Nat)  : Bool := if u (b / 2) = true then (if f_M_sameTail u X Y a b = true then false else (rec (b + 1))) else (rec (b + 1))
def fl_M_isFirstOfItsVertex (u : Nat → Bool) (X : Nat → Int32) (Y : Nat → Int32) (a : Nat) : Nat → Nat → Bool
  | 0, b => fx_M_isFirstOfItsVertex u X Y a b
  | n + 1, b => fb_M_isFirstOfItsVertex u X Y a (fl_M_isFirstOfItsVertex u X Y a n) b
def f_M_isFirstOfItsVertex (u : Nat → Bool) (X : Nat → Int32) (Y : Nat → Int32) (a : Nat) : Bool := fl_M_isFirstOfItsVertex u X Y a a 0
theorem i_M_isFirstOfItsVertex : inV y_M_isFirstOfItsVertex b_M_isFirstOfItsVertex 3 (some .boolean) 1 := ⟨kM_y_M_isFirstOfItsVertex, kV_y_M_isFirstOfItsVertex, kI_M, kY_y_M_isFirstOfItsVertex, by decide +kernel⟩
set_option maxHeartbeats 4000000 in
set_option maxRecDepth 100000 in
theorem c_M_isFirstOfItsVertex (l : Launch) (D : va_G) (hm hu hxs hys : Nat) (cZ cI : ClassId) (u : Nat → Bool) (X Y : Nat → Int32) (a : Nat) (ha : a < 40)  : PM l y_M_isFirstOfItsVertex b_M_isFirstOfItsVertex 3 (some .boolean) 1 22 D (mapW hm hu hxs hys cZ cI u X Y) [(cZ, .boolean), (cI, .int)] [.ref hm, .int (nI (a))] (b2i (f_M_isFirstOfItsVertex u X Y a)) := by
  refine pMet rfl (fun p e s m below meth c S hr hlk hP hK ls hl => ?_) (Nat.le_of_ble_eq_true rfl)
  have hx := S.1
  have hb := S.2.1
  have hl : lv_has ls 3 [(0, .ref hm), (1, .int (nI (a)))] := hl
  have key : ∀ (n : Nat) (b : Nat)  (hk : b + n = a)  (ls : Array Slot) (hl : lv_has ls 3 [(0, .ref hm), (1, .int (nI (a))), (2, .int (nI (b)))]) (hf : f_M_isFirstOfItsVertex u X Y a = fl_M_isFirstOfItsVertex u X Y a n b ), W p l e { frames := 1, cells := 0, slots := 0, locals := 22 } s m [.ref hm, .int (nI (a))].toArray below meth c s.heap [] 0 0 (MQ below (pQ (b2i (f_M_isFirstOfItsVertex u X Y a))) [.ref hm, .int (nI (a))].toArray s 0 0 (fun _ => False)) (F0 m 2 ls []) := by
    intro n
    induction n with
    | zero =>
      intro b  hk  ls hl hf
      refine lv_iload_n hx hb d_M_isFirstOfItsVertex_2 rfl (lv_at hl 2 rfl) ?_
      refine lv_iload_n hx hb d_M_isFirstOfItsVertex_3 rfl (lv_at hl 1 rfl) ?_
      refine lv_icmp_ge (tgt := 35) hx hb d_M_isFirstOfItsVertex_4 (by decide) (fun c1 => ?_) (fun c1 => ?_)
      · have c1a : a ≤ b := (nI_leI (a := a) (b := b) (by omega) (by omega)).mp c1
        refine lv_iconst (v := 1) hx hb d_M_isFirstOfItsVertex_35 (by decide) ?_
        exact rretZ S hr hlk (v := true) (hf.trans (show fx_M_isFirstOfItsVertex u X Y a b = true from rfl)).symm d_M_isFirstOfItsVertex_36
      · have c1a : ¬ (a ≤ b) := fun h => c1 ((nI_leI (a := a) (b := b) (by omega) (by omega)).mpr h)
        omega
    | succ n ih =>
      intro b  hk  ls hl hf
      refine lv_iload_n hx hb d_M_isFirstOfItsVertex_2 rfl (lv_at hl 2 rfl) ?_
      refine lv_iload_n hx hb d_M_isFirstOfItsVertex_3 rfl (lv_at hl 1 rfl) ?_
      refine lv_icmp_ge (tgt := 35) hx hb d_M_isFirstOfItsVertex_4 (by decide) (fun c2 => ?_) (fun c2 => ?_)
      · have c2a : a ≤ b := (nI_leI (a := a) (b := b) (by omega) (by omega)).mp c2
        omega
      · have c2a : ¬ (a ≤ b) := fun h => c2 ((nI_leI (a := a) (b := b) (by omega) (by omega)).mpr h)
        refine lv_aload_n hx hb d_M_isFirstOfItsVertex_7 rfl (lv_at hl 0 rfl) ?_
        refine rget S hK hP 0 rfl rfl in_M 0 (by decide) kF_M_9 rfl d_M_isFirstOfItsVertex_8 ?_
        refine lv_iload_n hx hb d_M_isFirstOfItsVertex_11 rfl (lv_at hl 2 rfl) ?_
        refine lv_iconst (v := 2) hx hb d_M_isFirstOfItsVertex_12 (by decide) ?_
        refine lv_idiv hx hb d_M_isFirstOfItsVertex_13 (by decide) ?_
        refine rtop (y := nI (b / 2)) (pk_div (a := b) (d := 2) (by omega) (by decide) (by decide)) ?_
        refine rzald (j := b / 2) S hK hP 1 0 rfl rfl (by omega) (by first | decide | omega) d_M_isFirstOfItsVertex_14 ?_
        refine lv_if_eq (tgt := 29) hx hb d_M_isFirstOfItsVertex_15 (by decide) (fun c3 => ?_) (fun c3 => ?_)
        · have c3a : ¬ (u (b / 2) = true) := b2n (b2i_eq0.mp c3)
          refine lv_iinc (v := nI (b + 1)) (lv' := [(2, .int (nI (b + 1))), (0, .ref hm), (1, .int (nI (a)))]) hx hb d_M_isFirstOfItsVertex_29 hl (k := 2) rfl (nI_1 (b)) (by decide) rfl (fun ls hl => ?_)
          refine lv_goto (tgt := 2) hx hb d_M_isFirstOfItsVertex_32 (by decide) ?_
          exact ih (b + 1) (by omega)  ls (lv_sub hl [1, 2, 0] rfl) (hf.trans (show fb_M_isFirstOfItsVertex u X Y a (fl_M_isFirstOfItsVertex u X Y a n) b = (fl_M_isFirstOfItsVertex u X Y a n (b + 1)) from by unfold fb_M_isFirstOfItsVertex; rw [if_neg c3a]))
        · have c3a : u (b / 2) = true := b2i_ne0.mp c3
          refine lv_aload_n hx hb d_M_isFirstOfItsVertex_18 rfl (lv_at hl 0 rfl) ?_
          refine lv_iload_n hx hb d_M_isFirstOfItsVertex_19 rfl (lv_at hl 1 rfl) ?_
          refine lv_iload_n hx hb d_M_isFirstOfItsVertex_20 rfl (lv_at hl 2 rfl) ?_
          refine rcallV (rest := []) (v := b2i (f_M_sameTail u X Y a b)) S [.int (nI (a)), .int (nI (b))] hK hP [0, 1, 2, 3] rfl [0, 1] rfl (c_M_sameTail l D hm hu hxs hys cZ cI u X Y a b (by omega) (by omega)) i_M_sameTail kL_M_35 ⟨Nat.le_of_ble_eq_true rfl, Nat.le_of_ble_eq_true rfl⟩ (by exact ⟨Nat.zero_le _, Nat.zero_le _⟩) (q0 := 0) (ci := 1) rfl rfl rfl hl.1 rfl (Nat.le_of_ble_eq_true rfl) d_M_isFirstOfItsVertex_21 ?_
          refine lv_if_eq (tgt := 29) hx hb d_M_isFirstOfItsVertex_24 (by decide) (fun c4 => ?_) (fun c4 => ?_)
          · have c4a : ¬ (f_M_sameTail u X Y a b = true) := b2n (b2i_eq0.mp c4)
            refine lv_iinc (v := nI (b + 1)) (lv' := [(2, .int (nI (b + 1))), (0, .ref hm), (1, .int (nI (a)))]) hx hb d_M_isFirstOfItsVertex_29 hl (k := 2) rfl (nI_1 (b)) (by decide) rfl (fun ls hl => ?_)
            refine lv_goto (tgt := 2) hx hb d_M_isFirstOfItsVertex_32 (by decide) ?_
            exact ih (b + 1) (by omega)  ls (lv_sub hl [1, 2, 0] rfl) (hf.trans (show fb_M_isFirstOfItsVertex u X Y a (fl_M_isFirstOfItsVertex u X Y a n) b = (fl_M_isFirstOfItsVertex u X Y a n (b + 1)) from by unfold fb_M_isFirstOfItsVertex; rw [if_pos c3a, if_neg c4a]))
          · have c4a : f_M_sameTail u X Y a b = true := b2i_ne0.mp c4
            refine lv_iconst (v := 0) hx hb d_M_isFirstOfItsVertex_27 (by decide) ?_
            exact rretZ S hr hlk (v := false) (hf.trans (show fb_M_isFirstOfItsVertex u X Y a (fl_M_isFirstOfItsVertex u X Y a n) b = false from by unfold fb_M_isFirstOfItsVertex; rw [if_pos c3a, if_pos c4a])).symm d_M_isFirstOfItsVertex_28
  refine lv_iconst (v := 0) hx hb d_M_isFirstOfItsVertex_0 (by decide) ?_
  refine lv_istore_n (lv' := [(2, .int 0), (0, .ref hm), (1, .int (nI (a)))]) hx hb d_M_isFirstOfItsVertex_1 rfl hl (by decide) rfl (fun ls hl => ?_)
  exact key a 0 (by omega)  ls (lv_sub hl [1, 2, 0] rfl) (show f_M_isFirstOfItsVertex u X Y a = (fl_M_isFirstOfItsVertex u X Y a a 0) from rfl)
def fx_M_startsAtPeak (u : Nat → Bool) (X : Nat → Int32) (Y : Nat → Int32) (a : Nat) (b : Nat)  : Bool := true
def fb_M_startsAtPeak (u : Nat → Bool) (X : Nat → Int32) (Y : Nat → Int32) (a : Nat) (rec : Nat → Bool) (b : Nat)  : Bool := if u (b / 2) = true then (if f_M_sameTail u X Y a b = true then (if (f_M_stepY u X Y b) ≤ 0 then (rec (b + 1)) else false) else (rec (b + 1))) else (rec (b + 1))
def fl_M_startsAtPeak (u : Nat → Bool) (X : Nat → Int32) (Y : Nat → Int32) (a : Nat) : Nat → Nat → Bool
  | 0, b => fx_M_startsAtPeak u X Y a b
  | n + 1, b => fb_M_startsAtPeak u X Y a (fl_M_startsAtPeak u X Y a n) b
def f_M_startsAtPeak (u : Nat → Bool) (X : Nat → Int32) (Y : Nat → Int32) (a : Nat) : Bool := fl_M_startsAtPeak u X Y a 40 0
theorem i_M_startsAtPeak : inV y_M_startsAtPeak b_M_startsAtPeak 3 (some .boolean) 1 := ⟨kM_y_M_startsAtPeak, kV_y_M_startsAtPeak, kI_M, kY_y_M_startsAtPeak, by decide +kernel⟩
set_option maxHeartbeats 4000000 in
set_option maxRecDepth 100000 in
theorem c_M_startsAtPeak (l : Launch) (D : va_G) (hm hu hxs hys : Nat) (cZ cI : ClassId) (u : Nat → Bool) (X Y : Nat → Int32) (a : Nat) (ha : a < 40)  : PM l y_M_startsAtPeak b_M_startsAtPeak 3 (some .boolean) 1 22 D (mapW hm hu hxs hys cZ cI u X Y) [(cZ, .boolean), (cI, .int)] [.ref hm, .int (nI (a))] (b2i (f_M_startsAtPeak u X Y a)) := by
  refine pMet rfl (fun p e s m below meth c S hr hlk hP hK ls hl => ?_) (Nat.le_of_ble_eq_true rfl)
  have hx := S.1
  have hb := S.2.1
  have hl : lv_has ls 3 [(0, .ref hm), (1, .int (nI (a)))] := hl
  have key : ∀ (n : Nat) (b : Nat)  (hk : b + n = 40)  (ls : Array Slot) (hl : lv_has ls 3 [(0, .ref hm), (1, .int (nI (a))), (2, .int (nI (b)))]) (hf : f_M_startsAtPeak u X Y a = fl_M_startsAtPeak u X Y a n b ), W p l e { frames := 1, cells := 0, slots := 0, locals := 22 } s m [.ref hm, .int (nI (a))].toArray below meth c s.heap [] 0 0 (MQ below (pQ (b2i (f_M_startsAtPeak u X Y a))) [.ref hm, .int (nI (a))].toArray s 0 0 (fun _ => False)) (F0 m 2 ls []) := by
    intro n
    induction n with
    | zero =>
      intro b  hk  ls hl hf
      refine lv_iload_n hx hb d_M_startsAtPeak_2 rfl (lv_at hl 2 rfl) ?_
      refine lv_bipush (v := 40) hx hb d_M_startsAtPeak_3 (by decide) ?_
      refine lv_icmp_ge (tgt := 44) hx hb d_M_startsAtPeak_5 (by decide) (fun c1 => ?_) (fun c1 => ?_)
      · have c1a : 40 ≤ b := (nI_leI (a := 40) (b := b) (by decide) (by omega)).mp c1
        refine lv_iconst (v := 1) hx hb d_M_startsAtPeak_44 (by decide) ?_
        exact rretZ S hr hlk (v := true) (hf.trans (show fx_M_startsAtPeak u X Y a b = true from rfl)).symm d_M_startsAtPeak_45
      · have c1a : ¬ (40 ≤ b) := fun h => c1 ((nI_leI (a := 40) (b := b) (by decide) (by omega)).mpr h)
        omega
    | succ n ih =>
      intro b  hk  ls hl hf
      refine lv_iload_n hx hb d_M_startsAtPeak_2 rfl (lv_at hl 2 rfl) ?_
      refine lv_bipush (v := 40) hx hb d_M_startsAtPeak_3 (by decide) ?_
      refine lv_icmp_ge (tgt := 44) hx hb d_M_startsAtPeak_5 (by decide) (fun c2 => ?_) (fun c2 => ?_)
      · have c2a : 40 ≤ b := (nI_leI (a := 40) (b := b) (by decide) (by omega)).mp c2
        omega
      · have c2a : ¬ (40 ≤ b) := fun h => c2 ((nI_leI (a := 40) (b := b) (by decide) (by omega)).mpr h)
        refine lv_aload_n hx hb d_M_startsAtPeak_8 rfl (lv_at hl 0 rfl) ?_
        refine rget S hK hP 0 rfl rfl in_M 0 (by decide) kF_M_9 rfl d_M_startsAtPeak_9 ?_
        refine lv_iload_n hx hb d_M_startsAtPeak_12 rfl (lv_at hl 2 rfl) ?_
        refine lv_iconst (v := 2) hx hb d_M_startsAtPeak_13 (by decide) ?_
        refine lv_idiv hx hb d_M_startsAtPeak_14 (by decide) ?_
        refine rtop (y := nI (b / 2)) (pk_div (a := b) (d := 2) (by omega) (by decide) (by decide)) ?_
        refine rzald (j := b / 2) S hK hP 1 0 rfl rfl (by omega) (by first | decide | omega) d_M_startsAtPeak_15 ?_
        refine lv_if_eq (tgt := 38) hx hb d_M_startsAtPeak_16 (by decide) (fun c3 => ?_) (fun c3 => ?_)
        · have c3a : ¬ (u (b / 2) = true) := b2n (b2i_eq0.mp c3)
          refine lv_iinc (v := nI (b + 1)) (lv' := [(2, .int (nI (b + 1))), (0, .ref hm), (1, .int (nI (a)))]) hx hb d_M_startsAtPeak_38 hl (k := 2) rfl (nI_1 (b)) (by decide) rfl (fun ls hl => ?_)
          refine lv_goto (tgt := 2) hx hb d_M_startsAtPeak_41 (by decide) ?_
          exact ih (b + 1) (by omega)  ls (lv_sub hl [1, 2, 0] rfl) (hf.trans (show fb_M_startsAtPeak u X Y a (fl_M_startsAtPeak u X Y a n) b = (fl_M_startsAtPeak u X Y a n (b + 1)) from by unfold fb_M_startsAtPeak; rw [if_neg c3a]))
        · have c3a : u (b / 2) = true := b2i_ne0.mp c3
          refine lv_aload_n hx hb d_M_startsAtPeak_19 rfl (lv_at hl 0 rfl) ?_
          refine lv_iload_n hx hb d_M_startsAtPeak_20 rfl (lv_at hl 1 rfl) ?_
          refine lv_iload_n hx hb d_M_startsAtPeak_21 rfl (lv_at hl 2 rfl) ?_
          refine rcallV (rest := []) (v := b2i (f_M_sameTail u X Y a b)) S [.int (nI (a)), .int (nI (b))] hK hP [0, 1, 2, 3] rfl [0, 1] rfl (c_M_sameTail l D hm hu hxs hys cZ cI u X Y a b (by omega) (by omega)) i_M_sameTail kL_M_35 ⟨Nat.le_of_ble_eq_true rfl, Nat.le_of_ble_eq_true rfl⟩ (by exact ⟨Nat.zero_le _, Nat.zero_le _⟩) (q0 := 0) (ci := 1) rfl rfl rfl hl.1 rfl (Nat.le_of_ble_eq_true rfl) d_M_startsAtPeak_22 ?_
          refine lv_if_eq (tgt := 38) hx hb d_M_startsAtPeak_25 (by decide) (fun c4 => ?_) (fun c4 => ?_)
          · have c4a : ¬ (f_M_sameTail u X Y a b = true) := b2n (b2i_eq0.mp c4)
            refine lv_iinc (v := nI (b + 1)) (lv' := [(2, .int (nI (b + 1))), (0, .ref hm), (1, .int (nI (a)))]) hx hb d_M_startsAtPeak_38 hl (k := 2) rfl (nI_1 (b)) (by decide) rfl (fun ls hl => ?_)
            refine lv_goto (tgt := 2) hx hb d_M_startsAtPeak_41 (by decide) ?_
            exact ih (b + 1) (by omega)  ls (lv_sub hl [1, 2, 0] rfl) (hf.trans (show fb_M_startsAtPeak u X Y a (fl_M_startsAtPeak u X Y a n) b = (fl_M_startsAtPeak u X Y a n (b + 1)) from by unfold fb_M_startsAtPeak; rw [if_pos c3a, if_neg c4a]))
          · have c4a : f_M_sameTail u X Y a b = true := b2i_ne0.mp c4
            refine lv_aload_n hx hb d_M_startsAtPeak_28 rfl (lv_at hl 0 rfl) ?_
            refine lv_iload_n hx hb d_M_startsAtPeak_29 rfl (lv_at hl 2 rfl) ?_
            refine rcallV (rest := []) (v := (f_M_stepY u X Y b)) S [.int (nI (b))] hK hP [0, 1, 2, 3] rfl [0, 1] rfl (c_M_stepY l D hm hu hxs hys cZ cI u X Y b (by omega)) i_M_stepY kL_M_50 ⟨Nat.le_of_ble_eq_true rfl, Nat.le_of_ble_eq_true rfl⟩ (by exact ⟨Nat.zero_le _, Nat.zero_le _⟩) (q0 := 0) (ci := 1) rfl rfl rfl hl.1 rfl (Nat.le_of_ble_eq_true rfl) d_M_startsAtPeak_30 ?_
            refine lv_if_le (tgt := 38) hx hb d_M_startsAtPeak_33 (by decide) (fun c5 => ?_) (fun c5 => ?_)
            · have c5a : (f_M_stepY u X Y b) ≤ 0 := c5
              refine lv_iinc (v := nI (b + 1)) (lv' := [(2, .int (nI (b + 1))), (0, .ref hm), (1, .int (nI (a)))]) hx hb d_M_startsAtPeak_38 hl (k := 2) rfl (nI_1 (b)) (by decide) rfl (fun ls hl => ?_)
              refine lv_goto (tgt := 2) hx hb d_M_startsAtPeak_41 (by decide) ?_
              exact ih (b + 1) (by omega)  ls (lv_sub hl [1, 2, 0] rfl) (hf.trans (show fb_M_startsAtPeak u X Y a (fl_M_startsAtPeak u X Y a n) b = (fl_M_startsAtPeak u X Y a n (b + 1)) from by unfold fb_M_startsAtPeak; rw [if_pos c3a, if_pos c4a, if_pos c5a]))
            · have c5a : ¬ ((f_M_stepY u X Y b) ≤ 0) := c5
              refine lv_iconst (v := 0) hx hb d_M_startsAtPeak_36 (by decide) ?_
              exact rretZ S hr hlk (v := false) (hf.trans (show fb_M_startsAtPeak u X Y a (fl_M_startsAtPeak u X Y a n) b = false from by unfold fb_M_startsAtPeak; rw [if_pos c3a, if_pos c4a, if_neg c5a])).symm d_M_startsAtPeak_37
  refine lv_iconst (v := 0) hx hb d_M_startsAtPeak_0 (by decide) ?_
  refine lv_istore_n (lv' := [(2, .int 0), (0, .ref hm), (1, .int (nI (a)))]) hx hb d_M_startsAtPeak_1 rfl hl (by decide) rfl (fun ls hl => ?_)
  exact key 40 0 (by omega)  ls (lv_sub hl [1, 2, 0] rfl) (show f_M_startsAtPeak u X Y a = (fl_M_startsAtPeak u X Y a 40 0) from rfl)
def fx_M_endsAt (u : Nat → Bool) (X : Nat → Int32) (Y : Nat → Int32) (x : Int32) (y : Int32) (a : Nat) (cnt : Nat) : Nat := cnt
def fb_M_endsAt (u : Nat → Bool) (X : Nat → Int32) (Y : Nat → Int32) (x : Int32) (y : Int32) (rec : Nat → Nat → Nat) (a : Nat) (cnt : Nat) : Nat := if u (a / 2) = true then (if X a = x then (if Y a = y then (rec (a + 1) (cnt + 1)) else (rec (a + 1) cnt)) else (rec (a + 1) cnt)) else (rec (a + 1) cnt)
def fl_M_endsAt (u : Nat → Bool) (X : Nat → Int32) (Y : Nat → Int32) (x : Int32) (y : Int32) : Nat → Nat → Nat → Nat
  | 0, a, cnt => fx_M_endsAt u X Y x y a cnt
  | n + 1, a, cnt => fb_M_endsAt u X Y x y (fl_M_endsAt u X Y x y n) a cnt
def f_M_endsAt (u : Nat → Bool) (X : Nat → Int32) (Y : Nat → Int32) (x : Int32) (y : Int32) : Nat := fl_M_endsAt u X Y x y 40 0 0
theorem i_M_endsAt : inV y_M_endsAt b_M_endsAt 5 (some .int) 2 := ⟨kM_y_M_endsAt, kV_y_M_endsAt, kI_M, kY_y_M_endsAt, by decide +kernel⟩
set_option maxHeartbeats 4000000 in
set_option maxRecDepth 100000 in
theorem c_M_endsAt (l : Launch) (D : va_G) (hm hu hxs hys : Nat) (cZ cI : ClassId) (u : Nat → Bool) (X Y : Nat → Int32) (x : Int32) (y : Int32)   : PM l y_M_endsAt b_M_endsAt 5 (some .int) 0 0 D (mapW hm hu hxs hys cZ cI u X Y) [(cZ, .boolean), (cI, .int)] [.ref hm, .int x, .int y] (nI (f_M_endsAt u X Y x y)) := by
  refine pMet rfl (fun p e s m below meth c S hr hlk hP hK ls hl => ?_) (Nat.le_of_ble_eq_true rfl)
  have hx := S.1
  have hb := S.2.1
  have hl : lv_has ls 5 [(0, .ref hm), (1, .int x), (2, .int y)] := hl
  have key : ∀ (n : Nat) (a : Nat) (cnt : Nat) (hk : a + n = 40)  (ls : Array Slot) (hl : lv_has ls 5 [(0, .ref hm), (1, .int x), (2, .int y), (3, .int (nI (cnt))), (4, .int (nI (a)))]) (hf : f_M_endsAt u X Y x y = fl_M_endsAt u X Y x y n a cnt), W p l e { frames := 0, cells := 0, slots := 0, locals := 0 } s m [.ref hm, .int x, .int y].toArray below meth c s.heap [] 0 0 (MQ below (pQ (nI (f_M_endsAt u X Y x y))) [.ref hm, .int x, .int y].toArray s 0 0 (fun _ => False)) (F0 m 5 ls []) := by
    intro n
    induction n with
    | zero =>
      intro a cnt hk  ls hl hf
      refine lv_iload hx hb d_M_endsAt_5 (lv_at hl 4 rfl) ?_
      refine lv_bipush (v := 40) hx hb d_M_endsAt_7 (by decide) ?_
      refine lv_icmp_ge (tgt := 55) hx hb d_M_endsAt_9 (by decide) (fun c1 => ?_) (fun c1 => ?_)
      · have c1a : 40 ≤ a := (nI_leI (a := 40) (b := a) (by decide) (by omega)).mp c1
        refine lv_iload_n hx hb d_M_endsAt_55 rfl (lv_at hl 3 rfl) ?_
        exact rret S hr hlk (v := nI (cnt)) (congrArg nI (hf.trans (show fx_M_endsAt u X Y x y a cnt = cnt from rfl)).symm) d_M_endsAt_56
      · have c1a : ¬ (40 ≤ a) := fun h => c1 ((nI_leI (a := 40) (b := a) (by decide) (by omega)).mpr h)
        omega
    | succ n ih =>
      intro a cnt hk  ls hl hf
      refine lv_iload hx hb d_M_endsAt_5 (lv_at hl 4 rfl) ?_
      refine lv_bipush (v := 40) hx hb d_M_endsAt_7 (by decide) ?_
      refine lv_icmp_ge (tgt := 55) hx hb d_M_endsAt_9 (by decide) (fun c2 => ?_) (fun c2 => ?_)
      · have c2a : 40 ≤ a := (nI_leI (a := 40) (b := a) (by decide) (by omega)).mp c2
        omega
      · have c2a : ¬ (40 ≤ a) := fun h => c2 ((nI_leI (a := 40) (b := a) (by decide) (by omega)).mpr h)
        refine lv_aload_n hx hb d_M_endsAt_12 rfl (lv_at hl 0 rfl) ?_
        refine rget S hK hP 0 rfl rfl in_M 0 (by decide) kF_M_9 rfl d_M_endsAt_13 ?_
        refine lv_iload hx hb d_M_endsAt_16 (lv_at hl 4 rfl) ?_
        refine lv_iconst (v := 2) hx hb d_M_endsAt_18 (by decide) ?_
        refine lv_idiv hx hb d_M_endsAt_19 (by decide) ?_
        refine rtop (y := nI (a / 2)) (pk_div (a := a) (d := 2) (by omega) (by decide) (by decide)) ?_
        refine rzald (j := a / 2) S hK hP 1 0 rfl rfl (by omega) (by first | decide | omega) d_M_endsAt_20 ?_
        refine lv_if_eq (tgt := 49) hx hb d_M_endsAt_21 (by decide) (fun c3 => ?_) (fun c3 => ?_)
        · have c3a : ¬ (u (a / 2) = true) := b2n (b2i_eq0.mp c3)
          refine lv_iinc (v := nI (a + 1)) (lv' := [(4, .int (nI (a + 1))), (0, .ref hm), (1, .int x), (2, .int y), (3, .int (nI (cnt)))]) hx hb d_M_endsAt_49 hl (k := 4) rfl (nI_1 (a)) (by decide) rfl (fun ls hl => ?_)
          refine lv_goto (tgt := 5) hx hb d_M_endsAt_52 (by decide) ?_
          exact ih (a + 1) cnt (by omega)  ls (lv_sub hl [1, 2, 3, 4, 0] rfl) (hf.trans (show fb_M_endsAt u X Y x y (fl_M_endsAt u X Y x y n) a cnt = (fl_M_endsAt u X Y x y n (a + 1) cnt) from by unfold fb_M_endsAt; rw [if_neg c3a]))
        · have c3a : u (a / 2) = true := b2i_ne0.mp c3
          refine lv_aload_n hx hb d_M_endsAt_24 rfl (lv_at hl 0 rfl) ?_
          refine rget S hK hP 0 rfl rfl in_M 1 (by decide) kF_M_15 rfl d_M_endsAt_25 ?_
          refine lv_iload hx hb d_M_endsAt_28 (lv_at hl 4 rfl) ?_
          refine riald (j := a) S hK hP 2 1 rfl rfl (by omega) (by first | decide | omega) d_M_endsAt_30 ?_
          refine lv_iload_n hx hb d_M_endsAt_31 rfl (lv_at hl 1 rfl) ?_
          refine lv_icmp_ne (tgt := 49) hx hb d_M_endsAt_32 (by decide) (fun c4 => ?_) (fun c4 => ?_)
          · have c4a : ¬ (X a = x) := c4
            refine lv_iinc (v := nI (a + 1)) (lv' := [(4, .int (nI (a + 1))), (0, .ref hm), (1, .int x), (2, .int y), (3, .int (nI (cnt)))]) hx hb d_M_endsAt_49 hl (k := 4) rfl (nI_1 (a)) (by decide) rfl (fun ls hl => ?_)
            refine lv_goto (tgt := 5) hx hb d_M_endsAt_52 (by decide) ?_
            exact ih (a + 1) cnt (by omega)  ls (lv_sub hl [1, 2, 3, 4, 0] rfl) (hf.trans (show fb_M_endsAt u X Y x y (fl_M_endsAt u X Y x y n) a cnt = (fl_M_endsAt u X Y x y n (a + 1) cnt) from by unfold fb_M_endsAt; rw [if_pos c3a, if_neg c4a]))
          · have c4a : X a = x := c4
            refine lv_aload_n hx hb d_M_endsAt_35 rfl (lv_at hl 0 rfl) ?_
            refine rget S hK hP 0 rfl rfl in_M 2 (by decide) kF_M_19 rfl d_M_endsAt_36 ?_
            refine lv_iload hx hb d_M_endsAt_39 (lv_at hl 4 rfl) ?_
            refine riald (j := a) S hK hP 3 1 rfl rfl (by omega) (by first | decide | omega) d_M_endsAt_41 ?_
            refine lv_iload_n hx hb d_M_endsAt_42 rfl (lv_at hl 2 rfl) ?_
            refine lv_icmp_ne (tgt := 49) hx hb d_M_endsAt_43 (by decide) (fun c5 => ?_) (fun c5 => ?_)
            · have c5a : ¬ (Y a = y) := c5
              refine lv_iinc (v := nI (a + 1)) (lv' := [(4, .int (nI (a + 1))), (0, .ref hm), (1, .int x), (2, .int y), (3, .int (nI (cnt)))]) hx hb d_M_endsAt_49 hl (k := 4) rfl (nI_1 (a)) (by decide) rfl (fun ls hl => ?_)
              refine lv_goto (tgt := 5) hx hb d_M_endsAt_52 (by decide) ?_
              exact ih (a + 1) cnt (by omega)  ls (lv_sub hl [1, 2, 3, 4, 0] rfl) (hf.trans (show fb_M_endsAt u X Y x y (fl_M_endsAt u X Y x y n) a cnt = (fl_M_endsAt u X Y x y n (a + 1) cnt) from by unfold fb_M_endsAt; rw [if_pos c3a, if_pos c4a, if_neg c5a]))
            · have c5a : Y a = y := c5
              refine lv_iinc (v := nI (cnt + 1)) (lv' := [(3, .int (nI (cnt + 1))), (0, .ref hm), (1, .int x), (2, .int y), (4, .int (nI (a)))]) hx hb d_M_endsAt_46 hl (k := 3) rfl (nI_1 (cnt)) (by decide) rfl (fun ls hl => ?_)
              refine lv_iinc (v := nI (a + 1)) (lv' := [(4, .int (nI (a + 1))), (3, .int (nI (cnt + 1))), (0, .ref hm), (1, .int x), (2, .int y)]) hx hb d_M_endsAt_49 hl (k := 4) rfl (nI_1 (a)) (by decide) rfl (fun ls hl => ?_)
              refine lv_goto (tgt := 5) hx hb d_M_endsAt_52 (by decide) ?_
              exact ih (a + 1) (cnt + 1) (by omega)  ls (lv_sub hl [2, 3, 4, 1, 0] rfl) (hf.trans (show fb_M_endsAt u X Y x y (fl_M_endsAt u X Y x y n) a cnt = (fl_M_endsAt u X Y x y n (a + 1) (cnt + 1)) from by unfold fb_M_endsAt; rw [if_pos c3a, if_pos c4a, if_pos c5a]))
  refine lv_iconst (v := 0) hx hb d_M_endsAt_0 (by decide) ?_
  refine lv_istore_n (lv' := [(3, .int 0), (0, .ref hm), (1, .int x), (2, .int y)]) hx hb d_M_endsAt_1 rfl hl (by decide) rfl (fun ls hl => ?_)
  refine lv_iconst (v := 0) hx hb d_M_endsAt_2 (by decide) ?_
  refine lv_istore (lv' := [(4, .int 0), (3, .int 0), (0, .ref hm), (1, .int x), (2, .int y)]) hx hb d_M_endsAt_3 hl (by decide) rfl (fun ls hl => ?_)
  exact key 40 0 0 (by omega)  ls (lv_sub hl [2, 3, 4, 1, 0] rfl) (show f_M_endsAt u X Y x y = (fl_M_endsAt u X Y x y 40 0 0) from rfl)
def fx_M_segmentAround (u : Nat → Bool) (X : Nat → Int32) (Y : Nat → Int32) (x : Int32) (y : Int32) (k : Nat)  : Int32 := (-1)
def fb_M_segmentAround (u : Nat → Bool) (X : Nat → Int32) (Y : Nat → Int32) (x : Int32) (y : Int32) (rec : Nat → Int32) (k : Nat)  : Int32 := if u k = true then (if f_M_isInside u X Y k x y = true then (nI (k)) else (rec (k + 1))) else (rec (k + 1))
def fl_M_segmentAround (u : Nat → Bool) (X : Nat → Int32) (Y : Nat → Int32) (x : Int32) (y : Int32) : Nat → Nat → Int32
  | 0, k => fx_M_segmentAround u X Y x y k
  | n + 1, k => fb_M_segmentAround u X Y x y (fl_M_segmentAround u X Y x y n) k
def f_M_segmentAround (u : Nat → Bool) (X : Nat → Int32) (Y : Nat → Int32) (x : Int32) (y : Int32) : Int32 := fl_M_segmentAround u X Y x y 20 0
theorem i_M_segmentAround : inV y_M_segmentAround b_M_segmentAround 4 (some .int) 2 := ⟨kM_y_M_segmentAround, kV_y_M_segmentAround, kI_M, kY_y_M_segmentAround, by decide +kernel⟩
set_option maxHeartbeats 4000000 in
set_option maxRecDepth 100000 in
theorem c_M_segmentAround (l : Launch) (D : va_G) (hm hu hxs hys : Nat) (cZ cI : ClassId) (u : Nat → Bool) (X Y : Nat → Int32) (x : Int32) (y : Int32)   : PM l y_M_segmentAround b_M_segmentAround 4 (some .int) 3 72 D (mapW hm hu hxs hys cZ cI u X Y) [(cZ, .boolean), (cI, .int)] [.ref hm, .int x, .int y] (f_M_segmentAround u X Y x y) := by
  refine pMet rfl (fun p e s m below meth c S hr hlk hP hK ls hl => ?_) (Nat.le_of_ble_eq_true rfl)
  have hx := S.1
  have hb := S.2.1
  have hl : lv_has ls 4 [(0, .ref hm), (1, .int x), (2, .int y)] := hl
  have key : ∀ (n : Nat) (k : Nat)  (hk : k + n = 20)  (ls : Array Slot) (hl : lv_has ls 4 [(0, .ref hm), (1, .int x), (2, .int y), (3, .int (nI (k)))]) (hf : f_M_segmentAround u X Y x y = fl_M_segmentAround u X Y x y n k ), W p l e { frames := 3, cells := 0, slots := 0, locals := 72 } s m [.ref hm, .int x, .int y].toArray below meth c s.heap [] 0 0 (MQ below (pQ ((f_M_segmentAround u X Y x y))) [.ref hm, .int x, .int y].toArray s 0 0 (fun _ => False)) (F0 m 2 ls []) := by
    intro n
    induction n with
    | zero =>
      intro k  hk  ls hl hf
      refine lv_iload_n hx hb d_M_segmentAround_2 rfl (lv_at hl 3 rfl) ?_
      refine lv_bipush (v := 20) hx hb d_M_segmentAround_3 (by decide) ?_
      refine lv_icmp_ge (tgt := 35) hx hb d_M_segmentAround_5 (by decide) (fun c1 => ?_) (fun c1 => ?_)
      · have c1a : 20 ≤ k := (nI_leI (a := 20) (b := k) (by decide) (by omega)).mp c1
        refine lv_iconst (v := (-1)) hx hb d_M_segmentAround_35 (by decide) ?_
        exact rret S hr hlk (v := (-1)) (hf.trans (show fx_M_segmentAround u X Y x y k = (-1) from rfl)).symm d_M_segmentAround_36
      · have c1a : ¬ (20 ≤ k) := fun h => c1 ((nI_leI (a := 20) (b := k) (by decide) (by omega)).mpr h)
        omega
    | succ n ih =>
      intro k  hk  ls hl hf
      refine lv_iload_n hx hb d_M_segmentAround_2 rfl (lv_at hl 3 rfl) ?_
      refine lv_bipush (v := 20) hx hb d_M_segmentAround_3 (by decide) ?_
      refine lv_icmp_ge (tgt := 35) hx hb d_M_segmentAround_5 (by decide) (fun c2 => ?_) (fun c2 => ?_)
      · have c2a : 20 ≤ k := (nI_leI (a := 20) (b := k) (by decide) (by omega)).mp c2
        omega
      · have c2a : ¬ (20 ≤ k) := fun h => c2 ((nI_leI (a := 20) (b := k) (by decide) (by omega)).mpr h)
        refine lv_aload_n hx hb d_M_segmentAround_8 rfl (lv_at hl 0 rfl) ?_
        refine rget S hK hP 0 rfl rfl in_M 0 (by decide) kF_M_9 rfl d_M_segmentAround_9 ?_
        refine lv_iload_n hx hb d_M_segmentAround_12 rfl (lv_at hl 3 rfl) ?_
        refine rzald (j := k) S hK hP 1 0 rfl rfl (by omega) (by first | decide | omega) d_M_segmentAround_13 ?_
        refine lv_if_eq (tgt := 29) hx hb d_M_segmentAround_14 (by decide) (fun c3 => ?_) (fun c3 => ?_)
        · have c3a : ¬ (u k = true) := b2n (b2i_eq0.mp c3)
          refine lv_iinc (v := nI (k + 1)) (lv' := [(3, .int (nI (k + 1))), (0, .ref hm), (1, .int x), (2, .int y)]) hx hb d_M_segmentAround_29 hl (k := 3) rfl (nI_1 (k)) (by decide) rfl (fun ls hl => ?_)
          refine lv_goto (tgt := 2) hx hb d_M_segmentAround_32 (by decide) ?_
          exact ih (k + 1) (by omega)  ls (lv_sub hl [1, 2, 3, 0] rfl) (hf.trans (show fb_M_segmentAround u X Y x y (fl_M_segmentAround u X Y x y n) k = (fl_M_segmentAround u X Y x y n (k + 1)) from by unfold fb_M_segmentAround; rw [if_neg c3a]))
        · have c3a : u k = true := b2i_ne0.mp c3
          refine lv_aload_n hx hb d_M_segmentAround_17 rfl (lv_at hl 0 rfl) ?_
          refine lv_iload_n hx hb d_M_segmentAround_18 rfl (lv_at hl 3 rfl) ?_
          refine lv_iload_n hx hb d_M_segmentAround_19 rfl (lv_at hl 1 rfl) ?_
          refine lv_iload_n hx hb d_M_segmentAround_20 rfl (lv_at hl 2 rfl) ?_
          refine rcallV (rest := []) (v := b2i (f_M_isInside u X Y k x y)) S [.int (nI (k)), .int x, .int y] hK hP [0, 1, 2, 3] rfl [0, 1] rfl (c_M_isInside l D hm hu hxs hys cZ cI u X Y k x y (by omega)) i_M_isInside kL_M_38 ⟨Nat.le_of_ble_eq_true rfl, Nat.le_of_ble_eq_true rfl⟩ (by exact ⟨Nat.zero_le _, Nat.zero_le _⟩) (q0 := 0) (ci := 1) rfl rfl rfl hl.1 rfl (Nat.le_of_ble_eq_true rfl) d_M_segmentAround_21 ?_
          refine lv_if_eq (tgt := 29) hx hb d_M_segmentAround_24 (by decide) (fun c4 => ?_) (fun c4 => ?_)
          · have c4a : ¬ (f_M_isInside u X Y k x y = true) := b2n (b2i_eq0.mp c4)
            refine lv_iinc (v := nI (k + 1)) (lv' := [(3, .int (nI (k + 1))), (0, .ref hm), (1, .int x), (2, .int y)]) hx hb d_M_segmentAround_29 hl (k := 3) rfl (nI_1 (k)) (by decide) rfl (fun ls hl => ?_)
            refine lv_goto (tgt := 2) hx hb d_M_segmentAround_32 (by decide) ?_
            exact ih (k + 1) (by omega)  ls (lv_sub hl [1, 2, 3, 0] rfl) (hf.trans (show fb_M_segmentAround u X Y x y (fl_M_segmentAround u X Y x y n) k = (fl_M_segmentAround u X Y x y n (k + 1)) from by unfold fb_M_segmentAround; rw [if_pos c3a, if_neg c4a]))
          · have c4a : f_M_isInside u X Y k x y = true := b2i_ne0.mp c4
            refine lv_iload_n hx hb d_M_segmentAround_27 rfl (lv_at hl 3 rfl) ?_
            exact rret S hr hlk (v := nI (k)) (hf.trans (show fb_M_segmentAround u X Y x y (fl_M_segmentAround u X Y x y n) k = (nI (k)) from by unfold fb_M_segmentAround; rw [if_pos c3a, if_pos c4a])).symm d_M_segmentAround_28
  refine lv_iconst (v := 0) hx hb d_M_segmentAround_0 (by decide) ?_
  refine lv_istore_n (lv' := [(3, .int 0), (0, .ref hm), (1, .int x), (2, .int y)]) hx hb d_M_segmentAround_1 rfl hl (by decide) rfl (fun ls hl => ?_)
  exact key 20 0 (by omega)  ls (lv_sub hl [1, 2, 3, 0] rfl) (show f_M_segmentAround u X Y x y = (fl_M_segmentAround u X Y x y 20 0) from rfl)
