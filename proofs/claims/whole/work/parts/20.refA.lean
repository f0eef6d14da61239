abbrev refW (q0 qu qa qb qc qd qe qf qg qh : Nat) (cZ cI : ClassId) (u : Nat → Bool) (aX aY bX bY : Nat → Int32) (kn : Bool) (lns : Nat) (ln : Nat → Int32) (ac mn sm : Nat → Nat) : va_W := [(q0, .inr (3, [.ref qu, .ref qa, .ref qb, .ref qc, .ref qd, .int (b2i kn), .int (nI lns), .ref qe, .ref qf, .ref qg, .ref qh])), (qu, .inl (cZ, 20, .inl (fun z9 => b2i (u z9)))), (qa, .inl (cI, 20, .inl aX)), (qb, .inl (cI, 20, .inl aY)), (qc, .inl (cI, 20, .inl bX)), (qd, .inl (cI, 20, .inl bY)), (qe, .inl (cI, 40, .inl ln)), (qf, .inl (cI, 820, .inl (fun z9 => nI (ac z9)))), (qg, .inl (cI, 41, .inl (fun z9 => nI (mn z9)))), (qh, .inl (cI, 861, .inl (fun z9 => nI (sm z9))))]
def dn (n : Nat) : Int32 := nI n + (-1)
theorem dn_0 : dn 0 = -1 := by decide
theorem dn_s {n : Nat} : dn (n + 1) = nI n := pk_m1 n
def PF : Nat := 1048576
theorem or_ge {a b : Int32} (h : a.toBitVec.toNat ≤ b.toBitVec.toNat) (c : Int32) : a.toBitVec.toNat ≤ (b ||| c).toBitVec.toNat := by
  refine Nat.le_trans h ?_
  rw [Int32.toBitVec_or, BitVec.toNat_or]
  exact Nat.left_le_or
theorem bit_lt : ∀ k, k < 20 → ((1 : Int32) <<< (nI k &&& 31)).toBitVec.toNat < 2 ^ 20 := by decide +kernel
theorem or_lt {a : Int32} (h : a.toBitVec.toNat < 2 ^ 20) (k : Nat) (hk : k < 20) : (a ||| ((1 : Int32) <<< (nI k &&& 31))).toBitVec.toNat < 2 ^ 20 := by
  rw [Int32.toBitVec_or, BitVec.toNat_or]
  exact Nat.or_lt_two_pow h (bit_lt k hk)
theorem grow {a b : Int32} {n : Nat} (h : a.toBitVec.toNat ≤ b.toBitVec.toNat) (hn : 2 ^ 20 ≤ a.toBitVec.toNat + (n + 1)) : b = a ∨ 2 ^ 20 ≤ b.toBitVec.toNat + n := by
  rcases Nat.lt_or_ge a.toBitVec.toNat b.toBitVec.toNat with q | q
  · exact Or.inr (by omega)
  · refine Or.inl ?_
    have e : b.toBitVec = a.toBitVec := BitVec.eq_of_toNat_eq (by omega)
    exact Int32.toBitVec_inj.mp e
def f_R_near (c0 : Int32) : Bool := if c0 < (-100) then false else (if 100 < c0 then false else true)
theorem i_R_near : inS y_R_near b_R_near 1 (some .boolean) 1 := ⟨kS_y_R_near, kI_R, kY_y_R_near, by decide +kernel⟩
set_option maxHeartbeats 4000000 in
set_option maxRecDepth 100000 in
theorem c_R_near (l : Launch) (D : va_G) (c0 : Int32) : PM l y_R_near b_R_near 1 (some .boolean) 0 0 D [] [] [.int c0] (b2i (f_R_near c0)) := by
  refine pMet rfl (fun p e s m below meth c S hr hlk hP hK ls hl => ?_) (Nat.le_of_ble_eq_true rfl)
  have hx := S.1
  have hb := S.2.1
  have hl : lv_has ls 1 [(0, .int c0)] := hl
  refine lv_iload_n hx hb d_R_near_0 rfl (lv_at hl 0 rfl) ?_
  refine lv_bipush (v := (-100)) hx hb d_R_near_1 (by decide) ?_
  refine lv_icmp_lt (tgt := 16) hx hb d_R_near_3 (by decide) (fun c1 => ?_) (fun c1 => ?_)
  · have c1a : c0 < (-100) := c1
    refine lv_iconst (v := 0) hx hb d_R_near_16 (by decide) ?_
    exact rretZ S hr hlk (v := false) (show f_R_near c0 = false from by unfold f_R_near; rw [if_pos c1a]).symm d_R_near_17
  · have c1a : ¬ (c0 < (-100)) := c1
    refine lv_iload_n hx hb d_R_near_6 rfl (lv_at hl 0 rfl) ?_
    refine lv_bipush (v := 100) hx hb d_R_near_7 (by decide) ?_
    refine lv_icmp_gt (tgt := 16) hx hb d_R_near_9 (by decide) (fun c2 => ?_) (fun c2 => ?_)
    · have c2a : 100 < c0 := c2
      refine lv_iconst (v := 0) hx hb d_R_near_16 (by decide) ?_
      exact rretZ S hr hlk (v := false) (show f_R_near c0 = false from by unfold f_R_near; rw [if_neg c1a, if_pos c2a]).symm d_R_near_17
    · have c2a : ¬ (100 < c0) := c2
      refine lv_iconst (v := 1) hx hb d_R_near_12 (by decide) ?_
      refine lv_goto (tgt := 17) hx hb d_R_near_13 (by decide) ?_
      exact rretZ S hr hlk (v := true) (show f_R_near c0 = true from by unfold f_R_near; rw [if_neg c1a, if_neg c2a]).symm d_R_near_17
def f_R_sign (v : Int32) : Int32 := if 0 ≤ v then (if v ≤ 0 then 0 else 1) else (-1)
theorem i_R_sign : inS y_R_sign b_R_sign 1 (some .int) 1 := ⟨kS_y_R_sign, kI_R, kY_y_R_sign, by decide +kernel⟩
set_option maxHeartbeats 4000000 in
set_option maxRecDepth 100000 in
theorem c_R_sign (l : Launch) (D : va_G) (v : Int32) : PM l y_R_sign b_R_sign 1 (some .int) 0 0 D [] [] [.int v] (f_R_sign v) := by
  refine pMet rfl (fun p e s m below meth c S hr hlk hP hK ls hl => ?_) (Nat.le_of_ble_eq_true rfl)
  have hx := S.1
  have hb := S.2.1
  have hl : lv_has ls 1 [(0, .int v)] := hl
  refine lv_iload_n hx hb d_R_sign_0 rfl (lv_at hl 0 rfl) ?_
  refine lv_if_ge (tgt := 8) hx hb d_R_sign_1 (by decide) (fun c1 => ?_) (fun c1 => ?_)
  · have c1a : 0 ≤ v := c1
    refine lv_iload_n hx hb d_R_sign_8 rfl (lv_at hl 0 rfl) ?_
    refine lv_if_le (tgt := 16) hx hb d_R_sign_9 (by decide) (fun c2 => ?_) (fun c2 => ?_)
    · have c2a : v ≤ 0 := c2
      refine lv_iconst (v := 0) hx hb d_R_sign_16 (by decide) ?_
      exact rret S hr hlk (v := 0) (show f_R_sign v = 0 from by unfold f_R_sign; rw [if_pos c1a, if_pos c2a]).symm d_R_sign_17
    · have c2a : ¬ (v ≤ 0) := c2
      refine lv_iconst (v := 1) hx hb d_R_sign_12 (by decide) ?_
      refine lv_goto (tgt := 17) hx hb d_R_sign_13 (by decide) ?_
      exact rret S hr hlk (v := 1) (show f_R_sign v = 1 from by unfold f_R_sign; rw [if_pos c1a, if_neg c2a]).symm d_R_sign_17
  · have c1a : ¬ (0 ≤ v) := c1
    refine lv_iconst (v := (-1)) hx hb d_R_sign_4 (by decide) ?_
    refine lv_goto (tgt := 17) hx hb d_R_sign_5 (by decide) ?_
    exact rret S hr hlk (v := (-1)) (show f_R_sign v = (-1) from by unfold f_R_sign; rw [if_neg c1a]).symm d_R_sign_17
def f_R_less (a : Int32) (b : Int32) (c0 : Int32) (d : Int32) : Bool := if (c0 * b) ≤ (a * d) then false else true
theorem i_R_less : inS y_R_less b_R_less 4 (some .boolean) 4 := ⟨kS_y_R_less, kI_R, kY_y_R_less, by decide +kernel⟩
set_option maxHeartbeats 4000000 in
set_option maxRecDepth 100000 in
theorem c_R_less (l : Launch) (D : va_G) (a : Int32) (b : Int32) (c0 : Int32) (d : Int32) : PM l y_R_less b_R_less 4 (some .boolean) 0 0 D [] [] [.int a, .int b, .int c0, .int d] (b2i (f_R_less a b c0 d)) := by
  refine pMet rfl (fun p e s m below meth c S hr hlk hP hK ls hl => ?_) (Nat.le_of_ble_eq_true rfl)
  have hx := S.1
  have hb := S.2.1
  have hl : lv_has ls 4 [(0, .int a), (1, .int b), (2, .int c0), (3, .int d)] := hl
  refine lv_iload_n hx hb d_R_less_0 rfl (lv_at hl 0 rfl) ?_
  refine lv_iload_n hx hb d_R_less_1 rfl (lv_at hl 3 rfl) ?_
  refine lv_imul hx hb d_R_less_2 ?_
  refine lv_iload_n hx hb d_R_less_3 rfl (lv_at hl 2 rfl) ?_
  refine lv_iload_n hx hb d_R_less_4 rfl (lv_at hl 1 rfl) ?_
  refine lv_imul hx hb d_R_less_5 ?_
  refine lv_icmp_ge (tgt := 13) hx hb d_R_less_6 (by decide) (fun c1 => ?_) (fun c1 => ?_)
  · have c1a : (c0 * b) ≤ (a * d) := c1
    refine lv_iconst (v := 0) hx hb d_R_less_13 (by decide) ?_
    exact rretZ S hr hlk (v := false) (show f_R_less a b c0 d = false from by unfold f_R_less; rw [if_pos c1a]).symm d_R_less_14
  · have c1a : ¬ ((c0 * b) ≤ (a * d)) := c1
    refine lv_iconst (v := 1) hx hb d_R_less_9 (by decide) ?_
    refine lv_goto (tgt := 14) hx hb d_R_less_10 (by decide) ?_
    exact rretZ S hr hlk (v := true) (show f_R_less a b c0 d = true from by unfold f_R_less; rw [if_neg c1a]).symm d_R_less_14
def f_R_side (u : Nat → Bool) (aX : Nat → Int32) (aY : Nat → Int32) (bX : Nat → Int32) (bY : Nat → Int32) (k : Nat) (x : Int32) (y : Int32) : Int32 := (f_R_sign (((bX k - aX k) * (y - aY k)) - ((bY k - aY k) * (x - aX k))))
theorem i_R_side : inV y_R_side b_R_side 4 (some .int) 3 := ⟨kM_y_R_side, kV_y_R_side, kI_R, kY_y_R_side, by decide +kernel⟩
set_option maxHeartbeats 4000000 in
set_option maxRecDepth 100000 in
theorem c_R_side (l : Launch) (D : va_G) (q0 qu qa qb qc qd qe qf qg qh : Nat) (cZ cI : ClassId) (u : Nat → Bool) (aX aY bX bY : Nat → Int32) (kn : Bool) (lns : Nat) (ln : Nat → Int32) (ac mn sm : Nat → Nat) (k : Nat) (x : Int32) (y : Int32) (hk : k < 20) : PM l y_R_side b_R_side 4 (some .int) 1 20 D (refW q0 qu qa qb qc qd qe qf qg qh cZ cI u aX aY bX bY kn lns ln ac mn sm) [(cZ, .boolean), (cI, .int)] [.ref q0, .int (nI (k)), .int x, .int y] (f_R_side u aX aY bX bY k x y) := by
  refine pMet rfl (fun p e s m below meth c S hr hlk hP hK ls hl => ?_) (Nat.le_of_ble_eq_true rfl)
  have hx := S.1
  have hb := S.2.1
  have hl : lv_has ls 4 [(0, .ref q0), (1, .int (nI (k))), (2, .int x), (3, .int y)] := hl
  refine lv_aload_n hx hb d_R_side_0 rfl (lv_at hl 0 rfl) ?_
  refine rget S hK hP 0 rfl rfl in_R 3 (by decide) kF_R_20 rfl d_R_side_1 ?_
  refine lv_iload_n hx hb d_R_side_4 rfl (lv_at hl 1 rfl) ?_
  refine riald (j := k) S hK hP 4 1 rfl rfl (by omega) (by first | decide | omega) d_R_side_5 ?_
  refine lv_aload_n hx hb d_R_side_6 rfl (lv_at hl 0 rfl) ?_
  refine rget S hK hP 0 rfl rfl in_R 1 (by decide) kF_R_13 rfl d_R_side_7 ?_
  refine lv_iload_n hx hb d_R_side_10 rfl (lv_at hl 1 rfl) ?_
  refine riald (j := k) S hK hP 2 1 rfl rfl (by omega) (by first | decide | omega) d_R_side_11 ?_
  refine lv_isub hx hb d_R_side_12 ?_
  refine lv_iload_n hx hb d_R_side_13 rfl (lv_at hl 3 rfl) ?_
  refine lv_aload_n hx hb d_R_side_14 rfl (lv_at hl 0 rfl) ?_
  refine rget S hK hP 0 rfl rfl in_R 2 (by decide) kF_R_17 rfl d_R_side_15 ?_
  refine lv_iload_n hx hb d_R_side_18 rfl (lv_at hl 1 rfl) ?_
  refine riald (j := k) S hK hP 3 1 rfl rfl (by omega) (by first | decide | omega) d_R_side_19 ?_
  refine lv_isub hx hb d_R_side_20 ?_
  refine lv_imul hx hb d_R_side_21 ?_
  refine lv_aload_n hx hb d_R_side_22 rfl (lv_at hl 0 rfl) ?_
  refine rget S hK hP 0 rfl rfl in_R 4 (by decide) kF_R_23 rfl d_R_side_23 ?_
  refine lv_iload_n hx hb d_R_side_26 rfl (lv_at hl 1 rfl) ?_
  refine riald (j := k) S hK hP 5 1 rfl rfl (by omega) (by first | decide | omega) d_R_side_27 ?_
  refine lv_aload_n hx hb d_R_side_28 rfl (lv_at hl 0 rfl) ?_
  refine rget S hK hP 0 rfl rfl in_R 2 (by decide) kF_R_17 rfl d_R_side_29 ?_
  refine lv_iload_n hx hb d_R_side_32 rfl (lv_at hl 1 rfl) ?_
  refine riald (j := k) S hK hP 3 1 rfl rfl (by omega) (by first | decide | omega) d_R_side_33 ?_
  refine lv_isub hx hb d_R_side_34 ?_
  refine lv_iload_n hx hb d_R_side_35 rfl (lv_at hl 2 rfl) ?_
  refine lv_aload_n hx hb d_R_side_36 rfl (lv_at hl 0 rfl) ?_
  refine rget S hK hP 0 rfl rfl in_R 1 (by decide) kF_R_13 rfl d_R_side_37 ?_
  refine lv_iload_n hx hb d_R_side_40 rfl (lv_at hl 1 rfl) ?_
  refine riald (j := k) S hK hP 2 1 rfl rfl (by omega) (by first | decide | omega) d_R_side_41 ?_
  refine lv_isub hx hb d_R_side_42 ?_
  refine lv_imul hx hb d_R_side_43 ?_
  refine lv_isub hx hb d_R_side_44 ?_
  refine rcallS (rest := []) (v := (f_R_sign (((bX k - aX k) * (y - aY k)) - ((bY k - aY k) * (x - aX k))))) S [.int ((((bX k - aX k) * (y - aY k)) - ((bY k - aY k) * (x - aX k))))] hK hP [] rfl [] rfl (c_R_sign l D (((bX k - aX k) * (y - aY k)) - ((bY k - aY k) * (x - aX k))) ) i_R_sign rfl kL_R_38 ⟨Nat.le_of_ble_eq_true rfl, Nat.le_of_ble_eq_true rfl⟩ (by exact ⟨Nat.zero_le _, Nat.zero_le _⟩) hl.1 rfl (Nat.le_of_ble_eq_true rfl) d_R_side_45 ?_
  exact rret S hr hlk (v := (f_R_sign (((bX k - aX k) * (y - aY k)) - ((bY k - aY k) * (x - aX k))))) (show f_R_side u aX aY bX bY k x y = (f_R_sign (((bX k - aX k) * (y - aY k)) - ((bY k - aY k) * (x - aX k)))) from rfl).symm d_R_side_48
def f_R_isEnd (u : Nat → Bool) (aX : Nat → Int32) (aY : Nat → Int32) (bX : Nat → Int32) (bY : Nat → Int32) (k : Nat) (x : Int32) (y : Int32) : Bool := if x = aX k then (if y = aY k then true else (if x = bX k then (if y = bY k then true else false) else false)) else (if x = bX k then (if y = bY k then true else false) else false)
theorem i_R_isEnd : inV y_R_isEnd b_R_isEnd 4 (some .boolean) 3 := ⟨kM_y_R_isEnd, kV_y_R_isEnd, kI_R, kY_y_R_isEnd, by decide +kernel⟩
set_option maxHeartbeats 4000000 in
set_option maxRecDepth 100000 in
theorem c_R_isEnd (l : Launch) (D : va_G) (q0 qu qa qb qc qd qe qf qg qh : Nat) (cZ cI : ClassId) (u : Nat → Bool) (aX aY bX bY : Nat → Int32) (kn : Bool) (lns : Nat) (ln : Nat → Int32) (ac mn sm : Nat → Nat) (k : Nat) (x : Int32) (y : Int32) (hk : k < 20) : PM l y_R_isEnd b_R_isEnd 4 (some .boolean) 0 0 D (refW q0 qu qa qb qc qd qe qf qg qh cZ cI u aX aY bX bY kn lns ln ac mn sm) [(cZ, .boolean), (cI, .int)] [.ref q0, .int (nI (k)), .int x, .int y] (b2i (f_R_isEnd u aX aY bX bY k x y)) := by
  refine pMet rfl (fun p e s m below meth c S hr hlk hP hK ls hl => ?_) (Nat.le_of_ble_eq_true rfl)
  have hx := S.1
  have hb := S.2.1
  have hl : lv_has ls 4 [(0, .ref q0), (1, .int (nI (k))), (2, .int x), (3, .int y)] := hl
  refine lv_iload_n hx hb d_R_isEnd_0 rfl (lv_at hl 2 rfl) ?_
  refine lv_aload_n hx hb d_R_isEnd_1 rfl (lv_at hl 0 rfl) ?_
  refine rget S hK hP 0 rfl rfl in_R 1 (by decide) kF_R_13 rfl d_R_isEnd_2 ?_
  refine lv_iload_n hx hb d_R_isEnd_5 rfl (lv_at hl 1 rfl) ?_
  refine riald (j := k) S hK hP 2 1 rfl rfl (by omega) (by first | decide | omega) d_R_isEnd_6 ?_
  refine lv_icmp_ne (tgt := 20) hx hb d_R_isEnd_7 (by decide) (fun c1 => ?_) (fun c1 => ?_)
  · have c1a : ¬ (x = aX k) := c1
    refine lv_iload_n hx hb d_R_isEnd_20 rfl (lv_at hl 2 rfl) ?_
    refine lv_aload_n hx hb d_R_isEnd_21 rfl (lv_at hl 0 rfl) ?_
    refine rget S hK hP 0 rfl rfl in_R 3 (by decide) kF_R_20 rfl d_R_isEnd_22 ?_
    refine lv_iload_n hx hb d_R_isEnd_25 rfl (lv_at hl 1 rfl) ?_
    refine riald (j := k) S hK hP 4 1 rfl rfl (by omega) (by first | decide | omega) d_R_isEnd_26 ?_
    refine lv_icmp_ne (tgt := 44) hx hb d_R_isEnd_27 (by decide) (fun c2 => ?_) (fun c2 => ?_)
    · have c2a : ¬ (x = bX k) := c2
      refine lv_iconst (v := 0) hx hb d_R_isEnd_44 (by decide) ?_
      exact rretZ S hr hlk (v := false) (show f_R_isEnd u aX aY bX bY k x y = false from by unfold f_R_isEnd; rw [if_neg c1a, if_neg c2a]).symm d_R_isEnd_45
    · have c2a : x = bX k := c2
      refine lv_iload_n hx hb d_R_isEnd_30 rfl (lv_at hl 3 rfl) ?_
      refine lv_aload_n hx hb d_R_isEnd_31 rfl (lv_at hl 0 rfl) ?_
      refine rget S hK hP 0 rfl rfl in_R 4 (by decide) kF_R_23 rfl d_R_isEnd_32 ?_
      refine lv_iload_n hx hb d_R_isEnd_35 rfl (lv_at hl 1 rfl) ?_
      refine riald (j := k) S hK hP 5 1 rfl rfl (by omega) (by first | decide | omega) d_R_isEnd_36 ?_
      refine lv_icmp_ne (tgt := 44) hx hb d_R_isEnd_37 (by decide) (fun c3 => ?_) (fun c3 => ?_)
      · have c3a : ¬ (y = bY k) := c3
        refine lv_iconst (v := 0) hx hb d_R_isEnd_44 (by decide) ?_
        exact rretZ S hr hlk (v := false) (show f_R_isEnd u aX aY bX bY k x y = false from by unfold f_R_isEnd; rw [if_neg c1a, if_pos c2a, if_neg c3a]).symm d_R_isEnd_45
      · have c3a : y = bY k := c3
        refine lv_iconst (v := 1) hx hb d_R_isEnd_40 (by decide) ?_
        refine lv_goto (tgt := 45) hx hb d_R_isEnd_41 (by decide) ?_
        exact rretZ S hr hlk (v := true) (show f_R_isEnd u aX aY bX bY k x y = true from by unfold f_R_isEnd; rw [if_neg c1a, if_pos c2a, if_pos c3a]).symm d_R_isEnd_45
  · have c1a : x = aX k := c1
    refine lv_iload_n hx hb d_R_isEnd_10 rfl (lv_at hl 3 rfl) ?_
    refine lv_aload_n hx hb d_R_isEnd_11 rfl (lv_at hl 0 rfl) ?_
    refine rget S hK hP 0 rfl rfl in_R 2 (by decide) kF_R_17 rfl d_R_isEnd_12 ?_
    refine lv_iload_n hx hb d_R_isEnd_15 rfl (lv_at hl 1 rfl) ?_
    refine riald (j := k) S hK hP 3 1 rfl rfl (by omega) (by first | decide | omega) d_R_isEnd_16 ?_
    refine lv_icmp_eq (tgt := 40) hx hb d_R_isEnd_17 (by decide) (fun c4 => ?_) (fun c4 => ?_)
    · have c4a : y = aY k := c4
      refine lv_iconst (v := 1) hx hb d_R_isEnd_40 (by decide) ?_
      refine lv_goto (tgt := 45) hx hb d_R_isEnd_41 (by decide) ?_
      exact rretZ S hr hlk (v := true) (show f_R_isEnd u aX aY bX bY k x y = true from by unfold f_R_isEnd; rw [if_pos c1a, if_pos c4a]).symm d_R_isEnd_45
    · have c4a : ¬ (y = aY k) := c4
      refine lv_iload_n hx hb d_R_isEnd_20 rfl (lv_at hl 2 rfl) ?_
      refine lv_aload_n hx hb d_R_isEnd_21 rfl (lv_at hl 0 rfl) ?_
      refine rget S hK hP 0 rfl rfl in_R 3 (by decide) kF_R_20 rfl d_R_isEnd_22 ?_
      refine lv_iload_n hx hb d_R_isEnd_25 rfl (lv_at hl 1 rfl) ?_
      refine riald (j := k) S hK hP 4 1 rfl rfl (by omega) (by first | decide | omega) d_R_isEnd_26 ?_
      refine lv_icmp_ne (tgt := 44) hx hb d_R_isEnd_27 (by decide) (fun c5 => ?_) (fun c5 => ?_)
      · have c5a : ¬ (x = bX k) := c5
        refine lv_iconst (v := 0) hx hb d_R_isEnd_44 (by decide) ?_
        exact rretZ S hr hlk (v := false) (show f_R_isEnd u aX aY bX bY k x y = false from by unfold f_R_isEnd; rw [if_pos c1a, if_neg c4a, if_neg c5a]).symm d_R_isEnd_45
      · have c5a : x = bX k := c5
        refine lv_iload_n hx hb d_R_isEnd_30 rfl (lv_at hl 3 rfl) ?_
        refine lv_aload_n hx hb d_R_isEnd_31 rfl (lv_at hl 0 rfl) ?_
        refine rget S hK hP 0 rfl rfl in_R 4 (by decide) kF_R_23 rfl d_R_isEnd_32 ?_
        refine lv_iload_n hx hb d_R_isEnd_35 rfl (lv_at hl 1 rfl) ?_
        refine riald (j := k) S hK hP 5 1 rfl rfl (by omega) (by first | decide | omega) d_R_isEnd_36 ?_
        refine lv_icmp_ne (tgt := 44) hx hb d_R_isEnd_37 (by decide) (fun c6 => ?_) (fun c6 => ?_)
        · have c6a : ¬ (y = bY k) := c6
          refine lv_iconst (v := 0) hx hb d_R_isEnd_44 (by decide) ?_
          exact rretZ S hr hlk (v := false) (show f_R_isEnd u aX aY bX bY k x y = false from by unfold f_R_isEnd; rw [if_pos c1a, if_neg c4a, if_pos c5a, if_neg c6a]).symm d_R_isEnd_45
        · have c6a : y = bY k := c6
          refine lv_iconst (v := 1) hx hb d_R_isEnd_40 (by decide) ?_
          refine lv_goto (tgt := 45) hx hb d_R_isEnd_41 (by decide) ?_
          exact rretZ S hr hlk (v := true) (show f_R_isEnd u aX aY bX bY k x y = true from by unfold f_R_isEnd; rw [if_pos c1a, if_neg c4a, if_pos c5a, if_pos c6a]).symm d_R_isEnd_45
def f_R_isInside (u : Nat → Bool) (aX : Nat → Int32) (aY : Nat → Int32) (bX : Nat → Int32) (bY : Nat → Int32) (k : Nat) (x : Int32) (y : Int32) : Bool := if (f_R_side u aX aY bX bY k x y) = 0 then (if f_R_isEnd u aX aY bX bY k x y = true then false else (if bY k ≤ aY k then (if bY k ≤ aY k then (if x < aX k then false else (if bX k < x then false else (if y < bY k then false else (if aY k < y then false else true)))) else (if x < aX k then false else (if bX k < x then false else (if y < bY k then false else (if bY k < y then false else true))))) else (if bY k ≤ aY k then (if x < aX k then false else (if bX k < x then false else (if y < aY k then false else (if aY k < y then false else true)))) else (if x < aX k then false else (if bX k < x then false else (if y < aY k then false else (if bY k < y then false else true))))))) else false
theorem i_R_isInside : inV y_R_isInside b_R_isInside 6 (some .boolean) 3 := ⟨kM_y_R_isInside, kV_y_R_isInside, kI_R, kY_y_R_isInside, by decide +kernel⟩
set_option maxHeartbeats 4000000 in
set_option maxRecDepth 100000 in
theorem c_R_isInside (l : Launch) (D : va_G) (q0 qu qa qb qc qd qe qf qg qh : Nat) (cZ cI : ClassId) (u : Nat → Bool) (aX aY bX bY : Nat → Int32) (kn : Bool) (lns : Nat) (ln : Nat → Int32) (ac mn sm : Nat → Nat) (k : Nat) (x : Int32) (y : Int32) (hk : k < 20) : PM l y_R_isInside b_R_isInside 6 (some .boolean) 2 43 D (refW q0 qu qa qb qc qd qe qf qg qh cZ cI u aX aY bX bY kn lns ln ac mn sm) [(cZ, .boolean), (cI, .int)] [.ref q0, .int (nI (k)), .int x, .int y] (b2i (f_R_isInside u aX aY bX bY k x y)) := by
  refine pMet rfl (fun p e s m below meth c S hr hlk hP hK ls hl => ?_) (Nat.le_of_ble_eq_true rfl)
  have hx := S.1
  have hb := S.2.1
  have hl : lv_has ls 6 [(0, .ref q0), (1, .int (nI (k))), (2, .int x), (3, .int y)] := hl
  refine lv_aload_n hx hb d_R_isInside_0 rfl (lv_at hl 0 rfl) ?_
  refine lv_iload_n hx hb d_R_isInside_1 rfl (lv_at hl 1 rfl) ?_
  refine lv_iload_n hx hb d_R_isInside_2 rfl (lv_at hl 2 rfl) ?_
  refine lv_iload_n hx hb d_R_isInside_3 rfl (lv_at hl 3 rfl) ?_
  refine rcallV (rest := []) (v := (f_R_side u aX aY bX bY k x y)) S [.int (nI (k)), .int x, .int y] hK hP [0, 1, 2, 3, 4, 5, 6, 7, 8, 9] rfl [0, 1] rfl (c_R_side l D q0 qu qa qb qc qd qe qf qg qh cZ cI u aX aY bX bY kn lns ln ac mn sm k x y (by omega)) i_R_side kL_R_42 ⟨Nat.le_of_ble_eq_true rfl, Nat.le_of_ble_eq_true rfl⟩ (by exact ⟨Nat.zero_le _, Nat.zero_le _⟩) (q0 := 0) (ci := 3) rfl rfl rfl hl.1 rfl (Nat.le_of_ble_eq_true rfl) d_R_isInside_4 ?_
  refine lv_if_ne (tgt := 20) hx hb d_R_isInside_7 (by decide) (fun c1 => ?_) (fun c1 => ?_)
  · have c1a : ¬ ((f_R_side u aX aY bX bY k x y) = 0) := c1
    refine lv_iconst (v := 0) hx hb d_R_isInside_20 (by decide) ?_
    exact rretZ S hr hlk (v := false) (show f_R_isInside u aX aY bX bY k x y = false from by unfold f_R_isInside; rw [if_neg c1a]).symm d_R_isInside_21
  · have c1a : (f_R_side u aX aY bX bY k x y) = 0 := c1
    refine lv_aload_n hx hb d_R_isInside_10 rfl (lv_at hl 0 rfl) ?_
    refine lv_iload_n hx hb d_R_isInside_11 rfl (lv_at hl 1 rfl) ?_
    refine lv_iload_n hx hb d_R_isInside_12 rfl (lv_at hl 2 rfl) ?_
    refine lv_iload_n hx hb d_R_isInside_13 rfl (lv_at hl 3 rfl) ?_
    refine rcallV (rest := []) (v := b2i (f_R_isEnd u aX aY bX bY k x y)) S [.int (nI (k)), .int x, .int y] hK hP [0, 1, 2, 3, 4, 5, 6, 7, 8, 9] rfl [0, 1] rfl (c_R_isEnd l D q0 qu qa qb qc qd qe qf qg qh cZ cI u aX aY bX bY kn lns ln ac mn sm k x y (by omega)) i_R_isEnd kL_R_46 ⟨Nat.le_of_ble_eq_true rfl, Nat.le_of_ble_eq_true rfl⟩ (by exact ⟨Nat.zero_le _, Nat.zero_le _⟩) (q0 := 0) (ci := 3) rfl rfl rfl hl.1 rfl (Nat.le_of_ble_eq_true rfl) d_R_isInside_14 ?_
    refine lv_if_eq (tgt := 22) hx hb d_R_isInside_17 (by decide) (fun c2 => ?_) (fun c2 => ?_)
    · have c2a : ¬ (f_R_isEnd u aX aY bX bY k x y = true) := b2n (b2i_eq0.mp c2)
      refine lv_aload_n hx hb d_R_isInside_22 rfl (lv_at hl 0 rfl) ?_
      refine rget S hK hP 0 rfl rfl in_R 2 (by decide) kF_R_17 rfl d_R_isInside_23 ?_
      refine lv_iload_n hx hb d_R_isInside_26 rfl (lv_at hl 1 rfl) ?_
      refine riald (j := k) S hK hP 3 1 rfl rfl (by omega) (by first | decide | omega) d_R_isInside_27 ?_
      refine lv_aload_n hx hb d_R_isInside_28 rfl (lv_at hl 0 rfl) ?_
      refine rget S hK hP 0 rfl rfl in_R 4 (by decide) kF_R_23 rfl d_R_isInside_29 ?_
      refine lv_iload_n hx hb d_R_isInside_32 rfl (lv_at hl 1 rfl) ?_
      refine riald (j := k) S hK hP 5 1 rfl rfl (by omega) (by first | decide | omega) d_R_isInside_33 ?_
      refine lv_icmp_ge (tgt := 46) hx hb d_R_isInside_34 (by decide) (fun c3 => ?_) (fun c3 => ?_)
      · have c3a : bY k ≤ aY k := c3
        refine lv_aload_n hx hb d_R_isInside_46 rfl (lv_at hl 0 rfl) ?_
        refine rget S hK hP 0 rfl rfl in_R 4 (by decide) kF_R_23 rfl d_R_isInside_47 ?_
        refine lv_iload_n hx hb d_R_isInside_50 rfl (lv_at hl 1 rfl) ?_
        refine riald (j := k) S hK hP 5 1 rfl rfl (by omega) (by first | decide | omega) d_R_isInside_51 ?_
        refine lv_istore (lv' := [(4, .int (bY k)), (0, .ref q0), (1, .int (nI (k))), (2, .int x), (3, .int y)]) hx hb d_R_isInside_52 hl (by decide) rfl (fun ls hl => ?_)
        refine lv_aload_n hx hb d_R_isInside_54 rfl (lv_at hl 1 rfl) ?_
        refine rget S hK hP 0 rfl rfl in_R 2 (by decide) kF_R_17 rfl d_R_isInside_55 ?_
        refine lv_iload_n hx hb d_R_isInside_58 rfl (lv_at hl 2 rfl) ?_
        refine riald (j := k) S hK hP 3 1 rfl rfl (by omega) (by first | decide | omega) d_R_isInside_59 ?_
        refine lv_aload_n hx hb d_R_isInside_60 rfl (lv_at hl 1 rfl) ?_
        refine rget S hK hP 0 rfl rfl in_R 4 (by decide) kF_R_23 rfl d_R_isInside_61 ?_
        refine lv_iload_n hx hb d_R_isInside_64 rfl (lv_at hl 2 rfl) ?_
        refine riald (j := k) S hK hP 5 1 rfl rfl (by omega) (by first | decide | omega) d_R_isInside_65 ?_
        refine lv_icmp_ge (tgt := 78) hx hb d_R_isInside_66 (by decide) (fun c4 => ?_) (fun c4 => ?_)
        · have c4a : bY k ≤ aY k := c4
          refine lv_aload_n hx hb d_R_isInside_78 rfl (lv_at hl 1 rfl) ?_
          refine rget S hK hP 0 rfl rfl in_R 2 (by decide) kF_R_17 rfl d_R_isInside_79 ?_
          refine lv_iload_n hx hb d_R_isInside_82 rfl (lv_at hl 2 rfl) ?_
          refine riald (j := k) S hK hP 3 1 rfl rfl (by omega) (by first | decide | omega) d_R_isInside_83 ?_
          refine lv_istore (lv' := [(5, .int (aY k)), (4, .int (bY k)), (0, .ref q0), (1, .int (nI (k))), (2, .int x), (3, .int y)]) hx hb d_R_isInside_84 hl (by decide) rfl (fun ls hl => ?_)
          refine lv_iload_n hx hb d_R_isInside_86 rfl (lv_at hl 4 rfl) ?_
          refine lv_aload_n hx hb d_R_isInside_87 rfl (lv_at hl 2 rfl) ?_
          refine rget S hK hP 0 rfl rfl in_R 1 (by decide) kF_R_13 rfl d_R_isInside_88 ?_
          refine lv_iload_n hx hb d_R_isInside_91 rfl (lv_at hl 3 rfl) ?_
          refine riald (j := k) S hK hP 2 1 rfl rfl (by omega) (by first | decide | omega) d_R_isInside_92 ?_
          refine lv_icmp_lt (tgt := 122) hx hb d_R_isInside_93 (by decide) (fun c5 => ?_) (fun c5 => ?_)
          · have c5a : x < aX k := c5
            refine lv_iconst (v := 0) hx hb d_R_isInside_122 (by decide) ?_
            exact rretZ S hr hlk (v := false) (show f_R_isInside u aX aY bX bY k x y = false from by unfold f_R_isInside; rw [if_pos c1a, if_neg c2a, if_pos c3a, if_pos c4a, if_pos c5a]).symm d_R_isInside_123
          · have c5a : ¬ (x < aX k) := c5
            refine lv_iload_n hx hb d_R_isInside_96 rfl (lv_at hl 4 rfl) ?_
            refine lv_aload_n hx hb d_R_isInside_97 rfl (lv_at hl 2 rfl) ?_
            refine rget S hK hP 0 rfl rfl in_R 3 (by decide) kF_R_20 rfl d_R_isInside_98 ?_
            refine lv_iload_n hx hb d_R_isInside_101 rfl (lv_at hl 3 rfl) ?_
            refine riald (j := k) S hK hP 4 1 rfl rfl (by omega) (by first | decide | omega) d_R_isInside_102 ?_
            refine lv_icmp_gt (tgt := 122) hx hb d_R_isInside_103 (by decide) (fun c6 => ?_) (fun c6 => ?_)
            · have c6a : bX k < x := c6
              refine lv_iconst (v := 0) hx hb d_R_isInside_122 (by decide) ?_
              exact rretZ S hr hlk (v := false) (show f_R_isInside u aX aY bX bY k x y = false from by unfold f_R_isInside; rw [if_pos c1a, if_neg c2a, if_pos c3a, if_pos c4a, if_neg c5a, if_pos c6a]).symm d_R_isInside_123
            · have c6a : ¬ (bX k < x) := c6
              refine lv_iload_n hx hb d_R_isInside_106 rfl (lv_at hl 5 rfl) ?_
              refine lv_iload hx hb d_R_isInside_107 (lv_at hl 1 rfl) ?_
              refine lv_icmp_lt (tgt := 122) hx hb d_R_isInside_109 (by decide) (fun c7 => ?_) (fun c7 => ?_)
              · have c7a : y < bY k := c7
                refine lv_iconst (v := 0) hx hb d_R_isInside_122 (by decide) ?_
                exact rretZ S hr hlk (v := false) (show f_R_isInside u aX aY bX bY k x y = false from by unfold f_R_isInside; rw [if_pos c1a, if_neg c2a, if_pos c3a, if_pos c4a, if_neg c5a, if_neg c6a, if_pos c7a]).symm d_R_isInside_123
              · have c7a : ¬ (y < bY k) := c7
                refine lv_iload_n hx hb d_R_isInside_112 rfl (lv_at hl 5 rfl) ?_
                refine lv_iload hx hb d_R_isInside_113 (lv_at hl 0 rfl) ?_
                refine lv_icmp_gt (tgt := 122) hx hb d_R_isInside_115 (by decide) (fun c8 => ?_) (fun c8 => ?_)
                · have c8a : aY k < y := c8
                  refine lv_iconst (v := 0) hx hb d_R_isInside_122 (by decide) ?_
                  exact rretZ S hr hlk (v := false) (show f_R_isInside u aX aY bX bY k x y = false from by unfold f_R_isInside; rw [if_pos c1a, if_neg c2a, if_pos c3a, if_pos c4a, if_neg c5a, if_neg c6a, if_neg c7a, if_pos c8a]).symm d_R_isInside_123
                · have c8a : ¬ (aY k < y) := c8
                  refine lv_iconst (v := 1) hx hb d_R_isInside_118 (by decide) ?_
                  refine lv_goto (tgt := 123) hx hb d_R_isInside_119 (by decide) ?_
                  exact rretZ S hr hlk (v := true) (show f_R_isInside u aX aY bX bY k x y = true from by unfold f_R_isInside; rw [if_pos c1a, if_neg c2a, if_pos c3a, if_pos c4a, if_neg c5a, if_neg c6a, if_neg c7a, if_neg c8a]).symm d_R_isInside_123
        · have c4a : ¬ (bY k ≤ aY k) := c4
          refine lv_aload_n hx hb d_R_isInside_69 rfl (lv_at hl 1 rfl) ?_
          refine rget S hK hP 0 rfl rfl in_R 4 (by decide) kF_R_23 rfl d_R_isInside_70 ?_
          refine lv_iload_n hx hb d_R_isInside_73 rfl (lv_at hl 2 rfl) ?_
          refine riald (j := k) S hK hP 5 1 rfl rfl (by omega) (by first | decide | omega) d_R_isInside_74 ?_
          refine lv_goto (tgt := 84) hx hb d_R_isInside_75 (by decide) ?_
          refine lv_istore (lv' := [(5, .int (bY k)), (4, .int (bY k)), (0, .ref q0), (1, .int (nI (k))), (2, .int x), (3, .int y)]) hx hb d_R_isInside_84 hl (by decide) rfl (fun ls hl => ?_)
          refine lv_iload_n hx hb d_R_isInside_86 rfl (lv_at hl 4 rfl) ?_
          refine lv_aload_n hx hb d_R_isInside_87 rfl (lv_at hl 2 rfl) ?_
          refine rget S hK hP 0 rfl rfl in_R 1 (by decide) kF_R_13 rfl d_R_isInside_88 ?_
          refine lv_iload_n hx hb d_R_isInside_91 rfl (lv_at hl 3 rfl) ?_
          refine riald (j := k) S hK hP 2 1 rfl rfl (by omega) (by first | decide | omega) d_R_isInside_92 ?_
          refine lv_icmp_lt (tgt := 122) hx hb d_R_isInside_93 (by decide) (fun c9 => ?_) (fun c9 => ?_)
          · have c9a : x < aX k := c9
            refine lv_iconst (v := 0) hx hb d_R_isInside_122 (by decide) ?_
            exact rretZ S hr hlk (v := false) (show f_R_isInside u aX aY bX bY k x y = false from by unfold f_R_isInside; rw [if_pos c1a, if_neg c2a, if_pos c3a, if_neg c4a, if_pos c9a]).symm d_R_isInside_123
          · have c9a : ¬ (x < aX k) := c9
            refine lv_iload_n hx hb d_R_isInside_96 rfl (lv_at hl 4 rfl) ?_
            refine lv_aload_n hx hb d_R_isInside_97 rfl (lv_at hl 2 rfl) ?_
            refine rget S hK hP 0 rfl rfl in_R 3 (by decide) kF_R_20 rfl d_R_isInside_98 ?_
            refine lv_iload_n hx hb d_R_isInside_101 rfl (lv_at hl 3 rfl) ?_
            refine riald (j := k) S hK hP 4 1 rfl rfl (by omega) (by first | decide | omega) d_R_isInside_102 ?_
            refine lv_icmp_gt (tgt := 122) hx hb d_R_isInside_103 (by decide) (fun c10 => ?_) (fun c10 => ?_)
            · have c10a : bX k < x := c10
              refine lv_iconst (v := 0) hx hb d_R_isInside_122 (by decide) ?_
              exact rretZ S hr hlk (v := false) (show f_R_isInside u aX aY bX bY k x y = false from by unfold f_R_isInside; rw [if_pos c1a, if_neg c2a, if_pos c3a, if_neg c4a, if_neg c9a, if_pos c10a]).symm d_R_isInside_123
            · have c10a : ¬ (bX k < x) := c10
              refine lv_iload_n hx hb d_R_isInside_106 rfl (lv_at hl 5 rfl) ?_
              refine lv_iload hx hb d_R_isInside_107 (lv_at hl 1 rfl) ?_
              refine lv_icmp_lt (tgt := 122) hx hb d_R_isInside_109 (by decide) (fun c11 => ?_) (fun c11 => ?_)
              · have c11a : y < bY k := c11
                refine lv_iconst (v := 0) hx hb d_R_isInside_122 (by decide) ?_
                exact rretZ S hr hlk (v := false) (show f_R_isInside u aX aY bX bY k x y = false from by unfold f_R_isInside; rw [if_pos c1a, if_neg c2a, if_pos c3a, if_neg c4a, if_neg c9a, if_neg c10a, if_pos c11a]).symm d_R_isInside_123
              · have c11a : ¬ (y < bY k) := c11
                refine lv_iload_n hx hb d_R_isInside_112 rfl (lv_at hl 5 rfl) ?_
                refine lv_iload hx hb d_R_isInside_113 (lv_at hl 0 rfl) ?_
                refine lv_icmp_gt (tgt := 122) hx hb d_R_isInside_115 (by decide) (fun c12 => ?_) (fun c12 => ?_)
                · have c12a : bY k < y := c12
                  refine lv_iconst (v := 0) hx hb d_R_isInside_122 (by decide) ?_
                  exact rretZ S hr hlk (v := false) (show f_R_isInside u aX aY bX bY k x y = false from by unfold f_R_isInside; rw [if_pos c1a, if_neg c2a, if_pos c3a, if_neg c4a, if_neg c9a, if_neg c10a, if_neg c11a, if_pos c12a]).symm d_R_isInside_123
                · have c12a : ¬ (bY k < y) := c12
                  refine lv_iconst (v := 1) hx hb d_R_isInside_118 (by decide) ?_
                  refine lv_goto (tgt := 123) hx hb d_R_isInside_119 (by decide) ?_
                  exact rretZ S hr hlk (v := true) (show f_R_isInside u aX aY bX bY k x y = true from by unfold f_R_isInside; rw [if_pos c1a, if_neg c2a, if_pos c3a, if_neg c4a, if_neg c9a, if_neg c10a, if_neg c11a, if_neg c12a]).symm d_R_isInside_123
      · have c3a : ¬ (bY k ≤ aY k) := c3
        refine lv_aload_n hx hb d_R_isInside_37 rfl (lv_at hl 0 rfl) ?_
        refine rget S hK hP 0 rfl rfl in_R 2 (by decide) kF_R_17 rfl d_R_isInside_38 ?_
        refine lv_iload_n hx hb d_R_isInside_41 rfl (lv_at hl 1 rfl) ?_
        refine riald (j := k) S hK hP 3 1 rfl rfl (by omega) (by first | decide | omega) d_R_isInside_42 ?_
        refine lv_goto (tgt := 52) hx hb d_R_isInside_43 (by decide) ?_
        refine lv_istore (lv' := [(4, .int (aY k)), (0, .ref q0), (1, .int (nI (k))), (2, .int x), (3, .int y)]) hx hb d_R_isInside_52 hl (by decide) rfl (fun ls hl => ?_)
        refine lv_aload_n hx hb d_R_isInside_54 rfl (lv_at hl 1 rfl) ?_
        refine rget S hK hP 0 rfl rfl in_R 2 (by decide) kF_R_17 rfl d_R_isInside_55 ?_
        refine lv_iload_n hx hb d_R_isInside_58 rfl (lv_at hl 2 rfl) ?_
        refine riald (j := k) S hK hP 3 1 rfl rfl (by omega) (by first | decide | omega) d_R_isInside_59 ?_
        refine lv_aload_n hx hb d_R_isInside_60 rfl (lv_at hl 1 rfl) ?_
        refine rget S hK hP 0 rfl rfl in_R 4 (by decide) kF_R_23 rfl d_R_isInside_61 ?_
        refine lv_iload_n hx hb d_R_isInside_64 rfl (lv_at hl 2 rfl) ?_
        refine riald (j := k) S hK hP 5 1 rfl rfl (by omega) (by first | decide | omega) d_R_isInside_65 ?_
        refine lv_icmp_ge (tgt := 78) hx hb d_R_isInside_66 (by decide) (fun c13 => ?_) (fun c13 => ?_)
        · have c13a : bY k ≤ aY k := c13
          refine lv_aload_n hx hb d_R_isInside_78 rfl (lv_at hl 1 rfl) ?_
          refine rget S hK hP 0 rfl rfl in_R 2 (by decide) kF_R_17 rfl d_R_isInside_79 ?_
          refine lv_iload_n hx hb d_R_isInside_82 rfl (lv_at hl 2 rfl) ?_
          refine riald (j := k) S hK hP 3 1 rfl rfl (by omega) (by first | decide | omega) d_R_isInside_83 ?_
          refine lv_istore (lv' := [(5, .int (aY k)), (4, .int (aY k)), (0, .ref q0), (1, .int (nI (k))), (2, .int x), (3, .int y)]) hx hb d_R_isInside_84 hl (by decide) rfl (fun ls hl => ?_)
          refine lv_iload_n hx hb d_R_isInside_86 rfl (lv_at hl 4 rfl) ?_
          refine lv_aload_n hx hb d_R_isInside_87 rfl (lv_at hl 2 rfl) ?_
          refine rget S hK hP 0 rfl rfl in_R 1 (by decide) kF_R_13 rfl d_R_isInside_88 ?_
          refine lv_iload_n hx hb d_R_isInside_91 rfl (lv_at hl 3 rfl) ?_
          refine riald (j := k) S hK hP 2 1 rfl rfl (by omega) (by first | decide | omega) d_R_isInside_92 ?_
          refine lv_icmp_lt (tgt := 122) hx hb d_R_isInside_93 (by decide) (fun c14 => ?_) (fun c14 => ?_)
          · have c14a : x < aX k := c14
            refine lv_iconst (v := 0) hx hb d_R_isInside_122 (by decide) ?_
            exact rretZ S hr hlk (v := false) (show f_R_isInside u aX aY bX bY k x y = false from by unfold f_R_isInside; rw [if_pos c1a, if_neg c2a, if_neg c3a, if_pos c13a, if_pos c14a]).symm d_R_isInside_123
          · have c14a : ¬ (x < aX k) := c14
            refine lv_iload_n hx hb d_R_isInside_96 rfl (lv_at hl 4 rfl) ?_
            refine lv_aload_n hx hb d_R_isInside_97 rfl (lv_at hl 2 rfl) ?_
            refine rget S hK hP 0 rfl rfl in_R 3 (by decide) kF_R_20 rfl d_R_isInside_98 ?_
            refine lv_iload_n hx hb d_R_isInside_101 rfl (lv_at hl 3 rfl) ?_
            refine riald (j := k) S hK hP 4 1 rfl rfl (by omega) (by first | decide | omega) d_R_isInside_102 ?_
            refine lv_icmp_gt (tgt := 122) hx hb d_R_isInside_103 (by decide) (fun c15 => ?_) (fun c15 => ?_)
            · have c15a : bX k < x := c15
              refine lv_iconst (v := 0) hx hb d_R_isInside_122 (by decide) ?_
              exact rretZ S hr hlk (v := false) (show f_R_isInside u aX aY bX bY k x y = false from by unfold f_R_isInside; rw [if_pos c1a, if_neg c2a, if_neg c3a, if_pos c13a, if_neg c14a, if_pos c15a]).symm d_R_isInside_123
            · have c15a : ¬ (bX k < x) := c15
              refine lv_iload_n hx hb d_R_isInside_106 rfl (lv_at hl 5 rfl) ?_
              refine lv_iload hx hb d_R_isInside_107 (lv_at hl 1 rfl) ?_
              refine lv_icmp_lt (tgt := 122) hx hb d_R_isInside_109 (by decide) (fun c16 => ?_) (fun c16 => ?_)
              · have c16a : y < aY k := c16
                refine lv_iconst (v := 0) hx hb d_R_isInside_122 (by decide) ?_
                exact rretZ S hr hlk (v := false) (show f_R_isInside u aX aY bX bY k x y = false from by unfold f_R_isInside; rw [if_pos c1a, if_neg c2a, if_neg c3a, if_pos c13a, if_neg c14a, if_neg c15a, if_pos c16a]).symm d_R_isInside_123
              · have c16a : ¬ (y < aY k) := c16
                refine lv_iload_n hx hb d_R_isInside_112 rfl (lv_at hl 5 rfl) ?_
                refine lv_iload hx hb d_R_isInside_113 (lv_at hl 0 rfl) ?_
                refine lv_icmp_gt (tgt := 122) hx hb d_R_isInside_115 (by decide) (fun c17 => ?_) (fun c17 => ?_)
                · have c17a : aY k < y := c17
                  refine lv_iconst (v := 0) hx hb d_R_isInside_122 (by decide) ?_
                  exact rretZ S hr hlk (v := false) (show f_R_isInside u aX aY bX bY k x y = false from by unfold f_R_isInside; rw [if_pos c1a, if_neg c2a, if_neg c3a, if_pos c13a, if_neg c14a, if_neg c15a, if_neg c16a, if_pos c17a]).symm d_R_isInside_123
                · have c17a : ¬ (aY k < y) := c17
                  refine lv_iconst (v := 1) hx hb d_R_isInside_118 (by decide) ?_
                  refine lv_goto (tgt := 123) hx hb d_R_isInside_119 (by decide) ?_
                  exact rretZ S hr hlk (v := true) (show f_R_isInside u aX aY bX bY k x y = true from by unfold f_R_isInside; rw [if_pos c1a, if_neg c2a, if_neg c3a, if_pos c13a, if_neg c14a, if_neg c15a, if_neg c16a, if_neg c17a]).symm d_R_isInside_123
        · have c13a : ¬ (bY k ≤ aY k) := c13
          refine lv_aload_n hx hb d_R_isInside_69 rfl (lv_at hl 1 rfl) ?_
          refine rget S hK hP 0 rfl rfl in_R 4 (by decide) kF_R_23 rfl d_R_isInside_70 ?_
          refine lv_iload_n hx hb d_R_isInside_73 rfl (lv_at hl 2 rfl) ?_
          refine riald (j := k) S hK hP 5 1 rfl rfl (by omega) (by first | decide | omega) d_R_isInside_74 ?_
          refine lv_goto (tgt := 84) hx hb d_R_isInside_75 (by decide) ?_
          refine lv_istore (lv' := [(5, .int (bY k)), (4, .int (aY k)), (0, .ref q0), (1, .int (nI (k))), (2, .int x), (3, .int y)]) hx hb d_R_isInside_84 hl (by decide) rfl (fun ls hl => ?_)
          refine lv_iload_n hx hb d_R_isInside_86 rfl (lv_at hl 4 rfl) ?_
          refine lv_aload_n hx hb d_R_isInside_87 rfl (lv_at hl 2 rfl) ?_
          refine rget S hK hP 0 rfl rfl in_R 1 (by decide) kF_R_13 rfl d_R_isInside_88 ?_
          refine lv_iload_n hx hb d_R_isInside_91 rfl (lv_at hl 3 rfl) ?_
          refine riald (j := k) S hK hP 2 1 rfl rfl (by omega) (by first | decide | omega) d_R_isInside_92 ?_
          refine lv_icmp_lt (tgt := 122) hx hb d_R_isInside_93 (by decide) (fun c18 => ?_) (fun c18 => ?_)
          · have c18a : x < aX k := c18
            refine lv_iconst (v := 0) hx hb d_R_isInside_122 (by decide) ?_
            exact rretZ S hr hlk (v := false) (show f_R_isInside u aX aY bX bY k x y = false from by unfold f_R_isInside; rw [if_pos c1a, if_neg c2a, if_neg c3a, if_neg c13a, if_pos c18a]).symm d_R_isInside_123
          · have c18a : ¬ (x < aX k) := c18
            refine lv_iload_n hx hb d_R_isInside_96 rfl (lv_at hl 4 rfl) ?_
            refine lv_aload_n hx hb d_R_isInside_97 rfl (lv_at hl 2 rfl) ?_
            refine rget S hK hP 0 rfl rfl in_R 3 (by decide) kF_R_20 rfl d_R_isInside_98 ?_
            refine lv_iload_n hx hb d_R_isInside_101 rfl (lv_at hl 3 rfl) ?_
            refine riald (j := k) S hK hP 4 1 rfl rfl (by omega) (by first | decide | omega) d_R_isInside_102 ?_
            refine lv_icmp_gt (tgt := 122) hx hb d_R_isInside_103 (by decide) (fun c19 => ?_) (fun c19 => ?_)
            · have c19a : bX k < x := c19
              refine lv_iconst (v := 0) hx hb d_R_isInside_122 (by decide) ?_
              exact rretZ S hr hlk (v := false) (show f_R_isInside u aX aY bX bY k x y = false from by unfold f_R_isInside; rw [if_pos c1a, if_neg c2a, if_neg c3a, if_neg c13a, if_neg c18a, if_pos c19a]).symm d_R_isInside_123
            · have c19a : ¬ (bX k < x) := c19
              refine lv_iload_n hx hb d_R_isInside_106 rfl (lv_at hl 5 rfl) ?_
              refine lv_iload hx hb d_R_isInside_107 (lv_at hl 1 rfl) ?_
              refine lv_icmp_lt (tgt := 122) hx hb d_R_isInside_109 (by decide) (fun c20 => ?_) (fun c20 => ?_)
              · have c20a : y < aY k := c20
                refine lv_iconst (v := 0) hx hb d_R_isInside_122 (by decide) ?_
                exact rretZ S hr hlk (v := false) (show f_R_isInside u aX aY bX bY k x y = false from by unfold f_R_isInside; rw [if_pos c1a, if_neg c2a, if_neg c3a, if_neg c13a, if_neg c18a, if_neg c19a, if_pos c20a]).symm d_R_isInside_123
              · have c20a : ¬ (y < aY k) := c20
                refine lv_iload_n hx hb d_R_isInside_112 rfl (lv_at hl 5 rfl) ?_
                refine lv_iload hx hb d_R_isInside_113 (lv_at hl 0 rfl) ?_
                refine lv_icmp_gt (tgt := 122) hx hb d_R_isInside_115 (by decide) (fun c21 => ?_) (fun c21 => ?_)
                · have c21a : bY k < y := c21
                  refine lv_iconst (v := 0) hx hb d_R_isInside_122 (by decide) ?_
                  exact rretZ S hr hlk (v := false) (show f_R_isInside u aX aY bX bY k x y = false from by unfold f_R_isInside; rw [if_pos c1a, if_neg c2a, if_neg c3a, if_neg c13a, if_neg c18a, if_neg c19a, if_neg c20a, if_pos c21a]).symm d_R_isInside_123
                · have c21a : ¬ (bY k < y) := c21
                  refine lv_iconst (v := 1) hx hb d_R_isInside_118 (by decide) ?_
                  refine lv_goto (tgt := 123) hx hb d_R_isInside_119 (by decide) ?_
                  exact rretZ S hr hlk (v := true) (show f_R_isInside u aX aY bX bY k x y = true from by unfold f_R_isInside; rw [if_pos c1a, if_neg c2a, if_neg c3a, if_neg c13a, if_neg c18a, if_neg c19a, if_neg c20a, if_neg c21a]).symm d_R_isInside_123
    · have c2a : f_R_isEnd u aX aY bX bY k x y = true := b2i_ne0.mp c2
      refine lv_iconst (v := 0) hx hb d_R_isInside_20 (by decide) ?_
      exact rretZ S hr hlk (v := false) (show f_R_isInside u aX aY bX bY k x y = false from by unfold f_R_isInside; rw [if_pos c1a, if_pos c2a]).symm d_R_isInside_21
def f_R_meet (u : Nat → Bool) (aX : Nat → Int32) (aY : Nat → Int32) (bX : Nat → Int32) (bY : Nat → Int32) (k : Nat) (j : Nat) : Bool := if f_R_isInside u aX aY bX bY k (aX j) (aY j) = true then true else (if f_R_isInside u aX aY bX bY k (bX j) (bY j) = true then true else (if f_R_isInside u aX aY bX bY j (aX k) (aY k) = true then true else (if f_R_isInside u aX aY bX bY j (bX k) (bY k) = true then true else (if f_R_isEnd u aX aY bX bY k (aX j) (aY j) = true then (if f_R_isEnd u aX aY bX bY k (bX j) (bY j) = true then true else (if 0 ≤ ((f_R_side u aX aY bX bY k (aX j) (aY j)) * (f_R_side u aX aY bX bY k (bX j) (bY j))) then false else (if 0 ≤ ((f_R_side u aX aY bX bY j (aX k) (aY k)) * (f_R_side u aX aY bX bY j (bX k) (bY k))) then false else true))) else (if 0 ≤ ((f_R_side u aX aY bX bY k (aX j) (aY j)) * (f_R_side u aX aY bX bY k (bX j) (bY j))) then false else (if 0 ≤ ((f_R_side u aX aY bX bY j (aX k) (aY k)) * (f_R_side u aX aY bX bY j (bX k) (bY k))) then false else true))))))
theorem i_R_meet : inV y_R_meet b_R_meet 3 (some .boolean) 2 := ⟨kM_y_R_meet, kV_y_R_meet, kI_R, kY_y_R_meet, by decide +kernel⟩
set_option maxHeartbeats 4000000 in
set_option maxRecDepth 100000 in
theorem c_R_meet (l : Launch) (D : va_G) (q0 qu qa qb qc qd qe qf qg qh : Nat) (cZ cI : ClassId) (u : Nat → Bool) (aX aY bX bY : Nat → Int32) (kn : Bool) (lns : Nat) (ln : Nat → Int32) (ac mn sm : Nat → Nat) (k : Nat) (j : Nat) (hk : k < 20) (hj : j < 20) : PM l y_R_meet b_R_meet 3 (some .boolean) 3 68 D (refW q0 qu qa qb qc qd qe qf qg qh cZ cI u aX aY bX bY kn lns ln ac mn sm) [(cZ, .boolean), (cI, .int)] [.ref q0, .int (nI (k)), .int (nI (j))] (b2i (f_R_meet u aX aY bX bY k j)) := by
  refine pMet rfl (fun p e s m below meth c S hr hlk hP hK ls hl => ?_) (Nat.le_of_ble_eq_true rfl)
  have hx := S.1
  have hb := S.2.1
  have hl : lv_has ls 3 [(0, .ref q0), (1, .int (nI (k))), (2, .int (nI (j)))] := hl
  refine lv_aload_n hx hb d_R_meet_0 rfl (lv_at hl 0 rfl) ?_
  refine lv_iload_n hx hb d_R_meet_1 rfl (lv_at hl 1 rfl) ?_
  refine lv_aload_n hx hb d_R_meet_2 rfl (lv_at hl 0 rfl) ?_
  refine rget S hK hP 0 rfl rfl in_R 1 (by decide) kF_R_13 rfl d_R_meet_3 ?_
  refine lv_iload_n hx hb d_R_meet_6 rfl (lv_at hl 2 rfl) ?_
  refine riald (j := j) S hK hP 2 1 rfl rfl (by omega) (by first | decide | omega) d_R_meet_7 ?_
  refine lv_aload_n hx hb d_R_meet_8 rfl (lv_at hl 0 rfl) ?_
  refine rget S hK hP 0 rfl rfl in_R 2 (by decide) kF_R_17 rfl d_R_meet_9 ?_
  refine lv_iload_n hx hb d_R_meet_12 rfl (lv_at hl 2 rfl) ?_
  refine riald (j := j) S hK hP 3 1 rfl rfl (by omega) (by first | decide | omega) d_R_meet_13 ?_
  refine rcallV (rest := []) (v := b2i (f_R_isInside u aX aY bX bY k (aX j) (aY j))) S [.int (nI (k)), .int (aX j), .int (aY j)] hK hP [0, 1, 2, 3, 4, 5, 6, 7, 8, 9] rfl [0, 1] rfl (c_R_isInside l D q0 qu qa qb qc qd qe qf qg qh cZ cI u aX aY bX bY kn lns ln ac mn sm k (aX j) (aY j) (by omega)) i_R_isInside kL_R_50 ⟨Nat.le_of_ble_eq_true rfl, Nat.le_of_ble_eq_true rfl⟩ (by exact ⟨Nat.zero_le _, Nat.zero_le _⟩) (q0 := 0) (ci := 3) rfl rfl rfl hl.1 rfl (Nat.le_of_ble_eq_true rfl) d_R_meet_14 ?_
  refine lv_if_ne (tgt := 80) hx hb d_R_meet_17 (by decide) (fun c1 => ?_) (fun c1 => ?_)
  · have c1a : f_R_isInside u aX aY bX bY k (aX j) (aY j) = true := b2i_ne0.mp c1
    refine lv_iconst (v := 1) hx hb d_R_meet_80 (by decide) ?_
    exact rretZ S hr hlk (v := true) (show f_R_meet u aX aY bX bY k j = true from by unfold f_R_meet; rw [if_pos c1a]).symm d_R_meet_81
  · have c1a : ¬ (f_R_isInside u aX aY bX bY k (aX j) (aY j) = true) := b2n (b2i_eq0.mp c1)
    refine lv_aload_n hx hb d_R_meet_20 rfl (lv_at hl 0 rfl) ?_
    refine lv_iload_n hx hb d_R_meet_21 rfl (lv_at hl 1 rfl) ?_
    refine lv_aload_n hx hb d_R_meet_22 rfl (lv_at hl 0 rfl) ?_
    refine rget S hK hP 0 rfl rfl in_R 3 (by decide) kF_R_20 rfl d_R_meet_23 ?_
    refine lv_iload_n hx hb d_R_meet_26 rfl (lv_at hl 2 rfl) ?_
    refine riald (j := j) S hK hP 4 1 rfl rfl (by omega) (by first | decide | omega) d_R_meet_27 ?_
    refine lv_aload_n hx hb d_R_meet_28 rfl (lv_at hl 0 rfl) ?_
    refine rget S hK hP 0 rfl rfl in_R 4 (by decide) kF_R_23 rfl d_R_meet_29 ?_
    refine lv_iload_n hx hb d_R_meet_32 rfl (lv_at hl 2 rfl) ?_
    refine riald (j := j) S hK hP 5 1 rfl rfl (by omega) (by first | decide | omega) d_R_meet_33 ?_
    refine rcallV (rest := []) (v := b2i (f_R_isInside u aX aY bX bY k (bX j) (bY j))) S [.int (nI (k)), .int (bX j), .int (bY j)] hK hP [0, 1, 2, 3, 4, 5, 6, 7, 8, 9] rfl [0, 1] rfl (c_R_isInside l D q0 qu qa qb qc qd qe qf qg qh cZ cI u aX aY bX bY kn lns ln ac mn sm k (bX j) (bY j) (by omega)) i_R_isInside kL_R_50 ⟨Nat.le_of_ble_eq_true rfl, Nat.le_of_ble_eq_true rfl⟩ (by exact ⟨Nat.zero_le _, Nat.zero_le _⟩) (q0 := 0) (ci := 3) rfl rfl rfl hl.1 rfl (Nat.le_of_ble_eq_true rfl) d_R_meet_34 ?_
    refine lv_if_ne (tgt := 80) hx hb d_R_meet_37 (by decide) (fun c2 => ?_) (fun c2 => ?_)
    · have c2a : f_R_isInside u aX aY bX bY k (bX j) (bY j) = true := b2i_ne0.mp c2
      refine lv_iconst (v := 1) hx hb d_R_meet_80 (by decide) ?_
      exact rretZ S hr hlk (v := true) (show f_R_meet u aX aY bX bY k j = true from by unfold f_R_meet; rw [if_neg c1a, if_pos c2a]).symm d_R_meet_81
    · have c2a : ¬ (f_R_isInside u aX aY bX bY k (bX j) (bY j) = true) := b2n (b2i_eq0.mp c2)
      refine lv_aload_n hx hb d_R_meet_40 rfl (lv_at hl 0 rfl) ?_
      refine lv_iload_n hx hb d_R_meet_41 rfl (lv_at hl 2 rfl) ?_
      refine lv_aload_n hx hb d_R_meet_42 rfl (lv_at hl 0 rfl) ?_
      refine rget S hK hP 0 rfl rfl in_R 1 (by decide) kF_R_13 rfl d_R_meet_43 ?_
      refine lv_iload_n hx hb d_R_meet_46 rfl (lv_at hl 1 rfl) ?_
      refine riald (j := k) S hK hP 2 1 rfl rfl (by omega) (by first | decide | omega) d_R_meet_47 ?_
      refine lv_aload_n hx hb d_R_meet_48 rfl (lv_at hl 0 rfl) ?_
      refine rget S hK hP 0 rfl rfl in_R 2 (by decide) kF_R_17 rfl d_R_meet_49 ?_
      refine lv_iload_n hx hb d_R_meet_52 rfl (lv_at hl 1 rfl) ?_
      refine riald (j := k) S hK hP 3 1 rfl rfl (by omega) (by first | decide | omega) d_R_meet_53 ?_
      refine rcallV (rest := []) (v := b2i (f_R_isInside u aX aY bX bY j (aX k) (aY k))) S [.int (nI (j)), .int (aX k), .int (aY k)] hK hP [0, 1, 2, 3, 4, 5, 6, 7, 8, 9] rfl [0, 1] rfl (c_R_isInside l D q0 qu qa qb qc qd qe qf qg qh cZ cI u aX aY bX bY kn lns ln ac mn sm j (aX k) (aY k) (by omega)) i_R_isInside kL_R_50 ⟨Nat.le_of_ble_eq_true rfl, Nat.le_of_ble_eq_true rfl⟩ (by exact ⟨Nat.zero_le _, Nat.zero_le _⟩) (q0 := 0) (ci := 3) rfl rfl rfl hl.1 rfl (Nat.le_of_ble_eq_true rfl) d_R_meet_54 ?_
      refine lv_if_ne (tgt := 80) hx hb d_R_meet_57 (by decide) (fun c3 => ?_) (fun c3 => ?_)
      · have c3a : f_R_isInside u aX aY bX bY j (aX k) (aY k) = true := b2i_ne0.mp c3
        refine lv_iconst (v := 1) hx hb d_R_meet_80 (by decide) ?_
        exact rretZ S hr hlk (v := true) (show f_R_meet u aX aY bX bY k j = true from by unfold f_R_meet; rw [if_neg c1a, if_neg c2a, if_pos c3a]).symm d_R_meet_81
      · have c3a : ¬ (f_R_isInside u aX aY bX bY j (aX k) (aY k) = true) := b2n (b2i_eq0.mp c3)
        refine lv_aload_n hx hb d_R_meet_60 rfl (lv_at hl 0 rfl) ?_
        refine lv_iload_n hx hb d_R_meet_61 rfl (lv_at hl 2 rfl) ?_
        refine lv_aload_n hx hb d_R_meet_62 rfl (lv_at hl 0 rfl) ?_
        refine rget S hK hP 0 rfl rfl in_R 3 (by decide) kF_R_20 rfl d_R_meet_63 ?_
        refine lv_iload_n hx hb d_R_meet_66 rfl (lv_at hl 1 rfl) ?_
        refine riald (j := k) S hK hP 4 1 rfl rfl (by omega) (by first | decide | omega) d_R_meet_67 ?_
        refine lv_aload_n hx hb d_R_meet_68 rfl (lv_at hl 0 rfl) ?_
        refine rget S hK hP 0 rfl rfl in_R 4 (by decide) kF_R_23 rfl d_R_meet_69 ?_
        refine lv_iload_n hx hb d_R_meet_72 rfl (lv_at hl 1 rfl) ?_
        refine riald (j := k) S hK hP 5 1 rfl rfl (by omega) (by first | decide | omega) d_R_meet_73 ?_
        refine rcallV (rest := []) (v := b2i (f_R_isInside u aX aY bX bY j (bX k) (bY k))) S [.int (nI (j)), .int (bX k), .int (bY k)] hK hP [0, 1, 2, 3, 4, 5, 6, 7, 8, 9] rfl [0, 1] rfl (c_R_isInside l D q0 qu qa qb qc qd qe qf qg qh cZ cI u aX aY bX bY kn lns ln ac mn sm j (bX k) (bY k) (by omega)) i_R_isInside kL_R_50 ⟨Nat.le_of_ble_eq_true rfl, Nat.le_of_ble_eq_true rfl⟩ (by exact ⟨Nat.zero_le _, Nat.zero_le _⟩) (q0 := 0) (ci := 3) rfl rfl rfl hl.1 rfl (Nat.le_of_ble_eq_true rfl) d_R_meet_74 ?_
        refine lv_if_eq (tgt := 82) hx hb d_R_meet_77 (by decide) (fun c4 => ?_) (fun c4 => ?_)
        · have c4a : ¬ (f_R_isInside u aX aY bX bY j (bX k) (bY k) = true) := b2n (b2i_eq0.mp c4)
          refine lv_aload_n hx hb d_R_meet_82 rfl (lv_at hl 0 rfl) ?_
          refine lv_iload_n hx hb d_R_meet_83 rfl (lv_at hl 1 rfl) ?_
          refine lv_aload_n hx hb d_R_meet_84 rfl (lv_at hl 0 rfl) ?_
          refine rget S hK hP 0 rfl rfl in_R 1 (by decide) kF_R_13 rfl d_R_meet_85 ?_
          refine lv_iload_n hx hb d_R_meet_88 rfl (lv_at hl 2 rfl) ?_
          refine riald (j := j) S hK hP 2 1 rfl rfl (by omega) (by first | decide | omega) d_R_meet_89 ?_
          refine lv_aload_n hx hb d_R_meet_90 rfl (lv_at hl 0 rfl) ?_
          refine rget S hK hP 0 rfl rfl in_R 2 (by decide) kF_R_17 rfl d_R_meet_91 ?_
          refine lv_iload_n hx hb d_R_meet_94 rfl (lv_at hl 2 rfl) ?_
          refine riald (j := j) S hK hP 3 1 rfl rfl (by omega) (by first | decide | omega) d_R_meet_95 ?_
          refine rcallV (rest := []) (v := b2i (f_R_isEnd u aX aY bX bY k (aX j) (aY j))) S [.int (nI (k)), .int (aX j), .int (aY j)] hK hP [0, 1, 2, 3, 4, 5, 6, 7, 8, 9] rfl [0, 1] rfl (c_R_isEnd l D q0 qu qa qb qc qd qe qf qg qh cZ cI u aX aY bX bY kn lns ln ac mn sm k (aX j) (aY j) (by omega)) i_R_isEnd kL_R_46 ⟨Nat.le_of_ble_eq_true rfl, Nat.le_of_ble_eq_true rfl⟩ (by exact ⟨Nat.zero_le _, Nat.zero_le _⟩) (q0 := 0) (ci := 3) rfl rfl rfl hl.1 rfl (Nat.le_of_ble_eq_true rfl) d_R_meet_96 ?_
          refine lv_if_eq (tgt := 124) hx hb d_R_meet_99 (by decide) (fun c5 => ?_) (fun c5 => ?_)
          · have c5a : ¬ (f_R_isEnd u aX aY bX bY k (aX j) (aY j) = true) := b2n (b2i_eq0.mp c5)
            refine lv_aload_n hx hb d_R_meet_124 rfl (lv_at hl 0 rfl) ?_
            refine lv_iload_n hx hb d_R_meet_125 rfl (lv_at hl 1 rfl) ?_
            refine lv_aload_n hx hb d_R_meet_126 rfl (lv_at hl 0 rfl) ?_
            refine rget S hK hP 0 rfl rfl in_R 1 (by decide) kF_R_13 rfl d_R_meet_127 ?_
            refine lv_iload_n hx hb d_R_meet_130 rfl (lv_at hl 2 rfl) ?_
            refine riald (j := j) S hK hP 2 1 rfl rfl (by omega) (by first | decide | omega) d_R_meet_131 ?_
            refine lv_aload_n hx hb d_R_meet_132 rfl (lv_at hl 0 rfl) ?_
            refine rget S hK hP 0 rfl rfl in_R 2 (by decide) kF_R_17 rfl d_R_meet_133 ?_
            refine lv_iload_n hx hb d_R_meet_136 rfl (lv_at hl 2 rfl) ?_
            refine riald (j := j) S hK hP 3 1 rfl rfl (by omega) (by first | decide | omega) d_R_meet_137 ?_
            refine rcallV (rest := []) (v := (f_R_side u aX aY bX bY k (aX j) (aY j))) S [.int (nI (k)), .int (aX j), .int (aY j)] hK hP [0, 1, 2, 3, 4, 5, 6, 7, 8, 9] rfl [0, 1] rfl (c_R_side l D q0 qu qa qb qc qd qe qf qg qh cZ cI u aX aY bX bY kn lns ln ac mn sm k (aX j) (aY j) (by omega)) i_R_side kL_R_42 ⟨Nat.le_of_ble_eq_true rfl, Nat.le_of_ble_eq_true rfl⟩ (by exact ⟨Nat.zero_le _, Nat.zero_le _⟩) (q0 := 0) (ci := 3) rfl rfl rfl hl.1 rfl (Nat.le_of_ble_eq_true rfl) d_R_meet_138 ?_
            refine lv_aload_n hx hb d_R_meet_141 rfl (lv_at hl 0 rfl) ?_
            refine lv_iload_n hx hb d_R_meet_142 rfl (lv_at hl 1 rfl) ?_
            refine lv_aload_n hx hb d_R_meet_143 rfl (lv_at hl 0 rfl) ?_
            refine rget S hK hP 0 rfl rfl in_R 3 (by decide) kF_R_20 rfl d_R_meet_144 ?_
            refine lv_iload_n hx hb d_R_meet_147 rfl (lv_at hl 2 rfl) ?_
            refine riald (j := j) S hK hP 4 1 rfl rfl (by omega) (by first | decide | omega) d_R_meet_148 ?_
            refine lv_aload_n hx hb d_R_meet_149 rfl (lv_at hl 0 rfl) ?_
            refine rget S hK hP 0 rfl rfl in_R 4 (by decide) kF_R_23 rfl d_R_meet_150 ?_
            refine lv_iload_n hx hb d_R_meet_153 rfl (lv_at hl 2 rfl) ?_
            refine riald (j := j) S hK hP 5 1 rfl rfl (by omega) (by first | decide | omega) d_R_meet_154 ?_
            refine rcallV (rest := [.int ((f_R_side u aX aY bX bY k (aX j) (aY j)))]) (v := (f_R_side u aX aY bX bY k (bX j) (bY j))) S [.int (nI (k)), .int (bX j), .int (bY j)] hK hP [0, 1, 2, 3, 4, 5, 6, 7, 8, 9] rfl [0, 1] rfl (c_R_side l D q0 qu qa qb qc qd qe qf qg qh cZ cI u aX aY bX bY kn lns ln ac mn sm k (bX j) (bY j) (by omega)) i_R_side kL_R_42 ⟨Nat.le_of_ble_eq_true rfl, Nat.le_of_ble_eq_true rfl⟩ (by exact ⟨Nat.zero_le _, Nat.zero_le _⟩) (q0 := 0) (ci := 3) rfl rfl rfl hl.1 rfl (Nat.le_of_ble_eq_true rfl) d_R_meet_155 ?_
            refine lv_imul hx hb d_R_meet_158 ?_
            refine lv_if_ge (tgt := 204) hx hb d_R_meet_159 (by decide) (fun c6 => ?_) (fun c6 => ?_)
            · have c6a : 0 ≤ ((f_R_side u aX aY bX bY k (aX j) (aY j)) * (f_R_side u aX aY bX bY k (bX j) (bY j))) := c6
              refine lv_iconst (v := 0) hx hb d_R_meet_204 (by decide) ?_
              exact rretZ S hr hlk (v := false) (show f_R_meet u aX aY bX bY k j = false from by unfold f_R_meet; rw [if_neg c1a, if_neg c2a, if_neg c3a, if_neg c4a, if_neg c5a, if_pos c6a]).symm d_R_meet_205
            · have c6a : ¬ (0 ≤ ((f_R_side u aX aY bX bY k (aX j) (aY j)) * (f_R_side u aX aY bX bY k (bX j) (bY j)))) := c6
              refine lv_aload_n hx hb d_R_meet_162 rfl (lv_at hl 0 rfl) ?_
              refine lv_iload_n hx hb d_R_meet_163 rfl (lv_at hl 2 rfl) ?_
              refine lv_aload_n hx hb d_R_meet_164 rfl (lv_at hl 0 rfl) ?_
              refine rget S hK hP 0 rfl rfl in_R 1 (by decide) kF_R_13 rfl d_R_meet_165 ?_
              refine lv_iload_n hx hb d_R_meet_168 rfl (lv_at hl 1 rfl) ?_
              refine riald (j := k) S hK hP 2 1 rfl rfl (by omega) (by first | decide | omega) d_R_meet_169 ?_
              refine lv_aload_n hx hb d_R_meet_170 rfl (lv_at hl 0 rfl) ?_
              refine rget S hK hP 0 rfl rfl in_R 2 (by decide) kF_R_17 rfl d_R_meet_171 ?_
              refine lv_iload_n hx hb d_R_meet_174 rfl (lv_at hl 1 rfl) ?_
              refine riald (j := k) S hK hP 3 1 rfl rfl (by omega) (by first | decide | omega) d_R_meet_175 ?_
              refine rcallV (rest := []) (v := (f_R_side u aX aY bX bY j (aX k) (aY k))) S [.int (nI (j)), .int (aX k), .int (aY k)] hK hP [0, 1, 2, 3, 4, 5, 6, 7, 8, 9] rfl [0, 1] rfl (c_R_side l D q0 qu qa qb qc qd qe qf qg qh cZ cI u aX aY bX bY kn lns ln ac mn sm j (aX k) (aY k) (by omega)) i_R_side kL_R_42 ⟨Nat.le_of_ble_eq_true rfl, Nat.le_of_ble_eq_true rfl⟩ (by exact ⟨Nat.zero_le _, Nat.zero_le _⟩) (q0 := 0) (ci := 3) rfl rfl rfl hl.1 rfl (Nat.le_of_ble_eq_true rfl) d_R_meet_176 ?_
              refine lv_aload_n hx hb d_R_meet_179 rfl (lv_at hl 0 rfl) ?_
              refine lv_iload_n hx hb d_R_meet_180 rfl (lv_at hl 2 rfl) ?_
              refine lv_aload_n hx hb d_R_meet_181 rfl (lv_at hl 0 rfl) ?_
              refine rget S hK hP 0 rfl rfl in_R 3 (by decide) kF_R_20 rfl d_R_meet_182 ?_
              refine lv_iload_n hx hb d_R_meet_185 rfl (lv_at hl 1 rfl) ?_
              refine riald (j := k) S hK hP 4 1 rfl rfl (by omega) (by first | decide | omega) d_R_meet_186 ?_
              refine lv_aload_n hx hb d_R_meet_187 rfl (lv_at hl 0 rfl) ?_
              refine rget S hK hP 0 rfl rfl in_R 4 (by decide) kF_R_23 rfl d_R_meet_188 ?_
              refine lv_iload_n hx hb d_R_meet_191 rfl (lv_at hl 1 rfl) ?_
              refine riald (j := k) S hK hP 5 1 rfl rfl (by omega) (by first | decide | omega) d_R_meet_192 ?_
              refine rcallV (rest := [.int ((f_R_side u aX aY bX bY j (aX k) (aY k)))]) (v := (f_R_side u aX aY bX bY j (bX k) (bY k))) S [.int (nI (j)), .int (bX k), .int (bY k)] hK hP [0, 1, 2, 3, 4, 5, 6, 7, 8, 9] rfl [0, 1] rfl (c_R_side l D q0 qu qa qb qc qd qe qf qg qh cZ cI u aX aY bX bY kn lns ln ac mn sm j (bX k) (bY k) (by omega)) i_R_side kL_R_42 ⟨Nat.le_of_ble_eq_true rfl, Nat.le_of_ble_eq_true rfl⟩ (by exact ⟨Nat.zero_le _, Nat.zero_le _⟩) (q0 := 0) (ci := 3) rfl rfl rfl hl.1 rfl (Nat.le_of_ble_eq_true rfl) d_R_meet_193 ?_
              refine lv_imul hx hb d_R_meet_196 ?_
              refine lv_if_ge (tgt := 204) hx hb d_R_meet_197 (by decide) (fun c7 => ?_) (fun c7 => ?_)
              · have c7a : 0 ≤ ((f_R_side u aX aY bX bY j (aX k) (aY k)) * (f_R_side u aX aY bX bY j (bX k) (bY k))) := c7
                refine lv_iconst (v := 0) hx hb d_R_meet_204 (by decide) ?_
                exact rretZ S hr hlk (v := false) (show f_R_meet u aX aY bX bY k j = false from by unfold f_R_meet; rw [if_neg c1a, if_neg c2a, if_neg c3a, if_neg c4a, if_neg c5a, if_neg c6a, if_pos c7a]).symm d_R_meet_205
              · have c7a : ¬ (0 ≤ ((f_R_side u aX aY bX bY j (aX k) (aY k)) * (f_R_side u aX aY bX bY j (bX k) (bY k)))) := c7
                refine lv_iconst (v := 1) hx hb d_R_meet_200 (by decide) ?_
                refine lv_goto (tgt := 205) hx hb d_R_meet_201 (by decide) ?_
                exact rretZ S hr hlk (v := true) (show f_R_meet u aX aY bX bY k j = true from by unfold f_R_meet; rw [if_neg c1a, if_neg c2a, if_neg c3a, if_neg c4a, if_neg c5a, if_neg c6a, if_neg c7a]).symm d_R_meet_205
          · have c5a : f_R_isEnd u aX aY bX bY k (aX j) (aY j) = true := b2i_ne0.mp c5
            refine lv_aload_n hx hb d_R_meet_102 rfl (lv_at hl 0 rfl) ?_
            refine lv_iload_n hx hb d_R_meet_103 rfl (lv_at hl 1 rfl) ?_
            refine lv_aload_n hx hb d_R_meet_104 rfl (lv_at hl 0 rfl) ?_
            refine rget S hK hP 0 rfl rfl in_R 3 (by decide) kF_R_20 rfl d_R_meet_105 ?_
            refine lv_iload_n hx hb d_R_meet_108 rfl (lv_at hl 2 rfl) ?_
            refine riald (j := j) S hK hP 4 1 rfl rfl (by omega) (by first | decide | omega) d_R_meet_109 ?_
            refine lv_aload_n hx hb d_R_meet_110 rfl (lv_at hl 0 rfl) ?_
            refine rget S hK hP 0 rfl rfl in_R 4 (by decide) kF_R_23 rfl d_R_meet_111 ?_
            refine lv_iload_n hx hb d_R_meet_114 rfl (lv_at hl 2 rfl) ?_
            refine riald (j := j) S hK hP 5 1 rfl rfl (by omega) (by first | decide | omega) d_R_meet_115 ?_
            refine rcallV (rest := []) (v := b2i (f_R_isEnd u aX aY bX bY k (bX j) (bY j))) S [.int (nI (k)), .int (bX j), .int (bY j)] hK hP [0, 1, 2, 3, 4, 5, 6, 7, 8, 9] rfl [0, 1] rfl (c_R_isEnd l D q0 qu qa qb qc qd qe qf qg qh cZ cI u aX aY bX bY kn lns ln ac mn sm k (bX j) (bY j) (by omega)) i_R_isEnd kL_R_46 ⟨Nat.le_of_ble_eq_true rfl, Nat.le_of_ble_eq_true rfl⟩ (by exact ⟨Nat.zero_le _, Nat.zero_le _⟩) (q0 := 0) (ci := 3) rfl rfl rfl hl.1 rfl (Nat.le_of_ble_eq_true rfl) d_R_meet_116 ?_
            refine lv_if_eq (tgt := 124) hx hb d_R_meet_119 (by decide) (fun c8 => ?_) (fun c8 => ?_)
            · have c8a : ¬ (f_R_isEnd u aX aY bX bY k (bX j) (bY j) = true) := b2n (b2i_eq0.mp c8)
              refine lv_aload_n hx hb d_R_meet_124 rfl (lv_at hl 0 rfl) ?_
              refine lv_iload_n hx hb d_R_meet_125 rfl (lv_at hl 1 rfl) ?_
              refine lv_aload_n hx hb d_R_meet_126 rfl (lv_at hl 0 rfl) ?_
              refine rget S hK hP 0 rfl rfl in_R 1 (by decide) kF_R_13 rfl d_R_meet_127 ?_
              refine lv_iload_n hx hb d_R_meet_130 rfl (lv_at hl 2 rfl) ?_
              refine riald (j := j) S hK hP 2 1 rfl rfl (by omega) (by first | decide | omega) d_R_meet_131 ?_
              refine lv_aload_n hx hb d_R_meet_132 rfl (lv_at hl 0 rfl) ?_
              refine rget S hK hP 0 rfl rfl in_R 2 (by decide) kF_R_17 rfl d_R_meet_133 ?_
              refine lv_iload_n hx hb d_R_meet_136 rfl (lv_at hl 2 rfl) ?_
              refine riald (j := j) S hK hP 3 1 rfl rfl (by omega) (by first | decide | omega) d_R_meet_137 ?_
              refine rcallV (rest := []) (v := (f_R_side u aX aY bX bY k (aX j) (aY j))) S [.int (nI (k)), .int (aX j), .int (aY j)] hK hP [0, 1, 2, 3, 4, 5, 6, 7, 8, 9] rfl [0, 1] rfl (c_R_side l D q0 qu qa qb qc qd qe qf qg qh cZ cI u aX aY bX bY kn lns ln ac mn sm k (aX j) (aY j) (by omega)) i_R_side kL_R_42 ⟨Nat.le_of_ble_eq_true rfl, Nat.le_of_ble_eq_true rfl⟩ (by exact ⟨Nat.zero_le _, Nat.zero_le _⟩) (q0 := 0) (ci := 3) rfl rfl rfl hl.1 rfl (Nat.le_of_ble_eq_true rfl) d_R_meet_138 ?_
              refine lv_aload_n hx hb d_R_meet_141 rfl (lv_at hl 0 rfl) ?_
              refine lv_iload_n hx hb d_R_meet_142 rfl (lv_at hl 1 rfl) ?_
              refine lv_aload_n hx hb d_R_meet_143 rfl (lv_at hl 0 rfl) ?_
              refine rget S hK hP 0 rfl rfl in_R 3 (by decide) kF_R_20 rfl d_R_meet_144 ?_
              refine lv_iload_n hx hb d_R_meet_147 rfl (lv_at hl 2 rfl) ?_
              refine riald (j := j) S hK hP 4 1 rfl rfl (by omega) (by first | decide | omega) d_R_meet_148 ?_
              refine lv_aload_n hx hb d_R_meet_149 rfl (lv_at hl 0 rfl) ?_
              refine rget S hK hP 0 rfl rfl in_R 4 (by decide) kF_R_23 rfl d_R_meet_150 ?_
              refine lv_iload_n hx hb d_R_meet_153 rfl (lv_at hl 2 rfl) ?_
              refine riald (j := j) S hK hP 5 1 rfl rfl (by omega) (by first | decide | omega) d_R_meet_154 ?_
              refine rcallV (rest := [.int ((f_R_side u aX aY bX bY k (aX j) (aY j)))]) (v := (f_R_side u aX aY bX bY k (bX j) (bY j))) S [.int (nI (k)), .int (bX j), .int (bY j)] hK hP [0, 1, 2, 3, 4, 5, 6, 7, 8, 9] rfl [0, 1] rfl (c_R_side l D q0 qu qa qb qc qd qe qf qg qh cZ cI u aX aY bX bY kn lns ln ac mn sm k (bX j) (bY j) (by omega)) i_R_side kL_R_42 ⟨Nat.le_of_ble_eq_true rfl, Nat.le_of_ble_eq_true rfl⟩ (by exact ⟨Nat.zero_le _, Nat.zero_le _⟩) (q0 := 0) (ci := 3) rfl rfl rfl hl.1 rfl (Nat.le_of_ble_eq_true rfl) d_R_meet_155 ?_
              refine lv_imul hx hb d_R_meet_158 ?_
              refine lv_if_ge (tgt := 204) hx hb d_R_meet_159 (by decide) (fun c9 => ?_) (fun c9 => ?_)
              · have c9a : 0 ≤ ((f_R_side u aX aY bX bY k (aX j) (aY j)) * (f_R_side u aX aY bX bY k (bX j) (bY j))) := c9
                refine lv_iconst (v := 0) hx hb d_R_meet_204 (by decide) ?_
                exact rretZ S hr hlk (v := false) (show f_R_meet u aX aY bX bY k j = false from by unfold f_R_meet; rw [if_neg c1a, if_neg c2a, if_neg c3a, if_neg c4a, if_pos c5a, if_neg c8a, if_pos c9a]).symm d_R_meet_205
              · have c9a : ¬ (0 ≤ ((f_R_side u aX aY bX bY k (aX j) (aY j)) * (f_R_side u aX aY bX bY k (bX j) (bY j)))) := c9
                refine lv_aload_n hx hb d_R_meet_162 rfl (lv_at hl 0 rfl) ?_
                refine lv_iload_n hx hb d_R_meet_163 rfl (lv_at hl 2 rfl) ?_
                refine lv_aload_n hx hb d_R_meet_164 rfl (lv_at hl 0 rfl) ?_
                refine rget S hK hP 0 rfl rfl in_R 1 (by decide) kF_R_13 rfl d_R_meet_165 ?_
                refine lv_iload_n hx hb d_R_meet_168 rfl (lv_at hl 1 rfl) ?_
                refine riald (j := k) S hK hP 2 1 rfl rfl (by omega) (by first | decide | omega) d_R_meet_169 ?_
                refine lv_aload_n hx hb d_R_meet_170 rfl (lv_at hl 0 rfl) ?_
                refine rget S hK hP 0 rfl rfl in_R 2 (by decide) kF_R_17 rfl d_R_meet_171 ?_
                refine lv_iload_n hx hb d_R_meet_174 rfl (lv_at hl 1 rfl) ?_
                refine riald (j := k) S hK hP 3 1 rfl rfl (by omega) (by first | decide | omega) d_R_meet_175 ?_
                refine rcallV (rest := []) (v := (f_R_side u aX aY bX bY j (aX k) (aY k))) S [.int (nI (j)), .int (aX k), .int (aY k)] hK hP [0, 1, 2, 3, 4, 5, 6, 7, 8, 9] rfl [0, 1] rfl (c_R_side l D q0 qu qa qb qc qd qe qf qg qh cZ cI u aX aY bX bY kn lns ln ac mn sm j (aX k) (aY k) (by omega)) i_R_side kL_R_42 ⟨Nat.le_of_ble_eq_true rfl, Nat.le_of_ble_eq_true rfl⟩ (by exact ⟨Nat.zero_le _, Nat.zero_le _⟩) (q0 := 0) (ci := 3) rfl rfl rfl hl.1 rfl (Nat.le_of_ble_eq_true rfl) d_R_meet_176 ?_
                refine lv_aload_n hx hb d_R_meet_179 rfl (lv_at hl 0 rfl) ?_
                refine lv_iload_n hx hb d_R_meet_180 rfl (lv_at hl 2 rfl) ?_
                refine lv_aload_n hx hb d_R_meet_181 rfl (lv_at hl 0 rfl) ?_
                refine rget S hK hP 0 rfl rfl in_R 3 (by decide) kF_R_20 rfl d_R_meet_182 ?_
                refine lv_iload_n hx hb d_R_meet_185 rfl (lv_at hl 1 rfl) ?_
                refine riald (j := k) S hK hP 4 1 rfl rfl (by omega) (by first | decide | omega) d_R_meet_186 ?_
                refine lv_aload_n hx hb d_R_meet_187 rfl (lv_at hl 0 rfl) ?_
                refine rget S hK hP 0 rfl rfl in_R 4 (by decide) kF_R_23 rfl d_R_meet_188 ?_
                refine lv_iload_n hx hb d_R_meet_191 rfl (lv_at hl 1 rfl) ?_
                refine riald (j := k) S hK hP 5 1 rfl rfl (by omega) (by first | decide | omega) d_R_meet_192 ?_
                refine rcallV (rest := [.int ((f_R_side u aX aY bX bY j (aX k) (aY k)))]) (v := (f_R_side u aX aY bX bY j (bX k) (bY k))) S [.int (nI (j)), .int (bX k), .int (bY k)] hK hP [0, 1, 2, 3, 4, 5, 6, 7, 8, 9] rfl [0, 1] rfl (c_R_side l D q0 qu qa qb qc qd qe qf qg qh cZ cI u aX aY bX bY kn lns ln ac mn sm j (bX k) (bY k) (by omega)) i_R_side kL_R_42 ⟨Nat.le_of_ble_eq_true rfl, Nat.le_of_ble_eq_true rfl⟩ (by exact ⟨Nat.zero_le _, Nat.zero_le _⟩) (q0 := 0) (ci := 3) rfl rfl rfl hl.1 rfl (Nat.le_of_ble_eq_true rfl) d_R_meet_193 ?_
                refine lv_imul hx hb d_R_meet_196 ?_
                refine lv_if_ge (tgt := 204) hx hb d_R_meet_197 (by decide) (fun c10 => ?_) (fun c10 => ?_)
                · have c10a : 0 ≤ ((f_R_side u aX aY bX bY j (aX k) (aY k)) * (f_R_side u aX aY bX bY j (bX k) (bY k))) := c10
                  refine lv_iconst (v := 0) hx hb d_R_meet_204 (by decide) ?_
                  exact rretZ S hr hlk (v := false) (show f_R_meet u aX aY bX bY k j = false from by unfold f_R_meet; rw [if_neg c1a, if_neg c2a, if_neg c3a, if_neg c4a, if_pos c5a, if_neg c8a, if_neg c9a, if_pos c10a]).symm d_R_meet_205
                · have c10a : ¬ (0 ≤ ((f_R_side u aX aY bX bY j (aX k) (aY k)) * (f_R_side u aX aY bX bY j (bX k) (bY k)))) := c10
                  refine lv_iconst (v := 1) hx hb d_R_meet_200 (by decide) ?_
                  refine lv_goto (tgt := 205) hx hb d_R_meet_201 (by decide) ?_
                  exact rretZ S hr hlk (v := true) (show f_R_meet u aX aY bX bY k j = true from by unfold f_R_meet; rw [if_neg c1a, if_neg c2a, if_neg c3a, if_neg c4a, if_pos c5a, if_neg c8a, if_neg c9a, if_neg c10a]).symm d_R_meet_205
            · have c8a : f_R_isEnd u aX aY bX bY k (bX j) (bY j) = true := b2i_ne0.mp c8
              refine lv_iconst (v := 1) hx hb d_R_meet_122 (by decide) ?_
              exact rretZ S hr hlk (v := true) (show f_R_meet u aX aY bX bY k j = true from by unfold f_R_meet; rw [if_neg c1a, if_neg c2a, if_neg c3a, if_neg c4a, if_pos c5a, if_pos c8a]).symm d_R_meet_123
        · have c4a : f_R_isInside u aX aY bX bY j (bX k) (bY k) = true := b2i_ne0.mp c4
          refine lv_iconst (v := 1) hx hb d_R_meet_80 (by decide) ?_
          exact rretZ S hr hlk (v := true) (show f_R_meet u aX aY bX bY k j = true from by unfold f_R_meet; rw [if_neg c1a, if_neg c2a, if_neg c3a, if_pos c4a]).symm d_R_meet_81
def f_R_isSegment (u : Nat → Bool) (aX : Nat → Int32) (aY : Nat → Int32) (bX : Nat → Int32) (bY : Nat → Int32) (k : Int32) : Bool := if k < 0 then false else (if 20 ≤ k then false else (if u k.toNatClampNeg = true then true else false))
theorem i_R_isSegment : inV y_R_isSegment b_R_isSegment 2 (some .boolean) 1 := ⟨kM_y_R_isSegment, kV_y_R_isSegment, kI_R, kY_y_R_isSegment, by decide +kernel⟩
set_option maxHeartbeats 4000000 in
set_option maxRecDepth 100000 in
theorem c_R_isSegment (l : Launch) (D : va_G) (q0 qu qa qb qc qd qe qf qg qh : Nat) (cZ cI : ClassId) (u : Nat → Bool) (aX aY bX bY : Nat → Int32) (kn : Bool) (lns : Nat) (ln : Nat → Int32) (ac mn sm : Nat → Nat) (k : Int32) : PM l y_R_isSegment b_R_isSegment 2 (some .boolean) 0 0 D (refW q0 qu qa qb qc qd qe qf qg qh cZ cI u aX aY bX bY kn lns ln ac mn sm) [(cZ, .boolean), (cI, .int)] [.ref q0, .int k] (b2i (f_R_isSegment u aX aY bX bY k)) := by
  refine pMet rfl (fun p e s m below meth c S hr hlk hP hK ls hl => ?_) (Nat.le_of_ble_eq_true rfl)
  have hx := S.1
  have hb := S.2.1
  have hl : lv_has ls 2 [(0, .ref q0), (1, .int k)] := hl
  refine lv_iload_n hx hb d_R_isSegment_0 rfl (lv_at hl 1 rfl) ?_
  refine lv_if_lt (tgt := 23) hx hb d_R_isSegment_1 (by decide) (fun c1 => ?_) (fun c1 => ?_)
  · have c1a : k < 0 := c1
    refine lv_iconst (v := 0) hx hb d_R_isSegment_23 (by decide) ?_
    exact rretZ S hr hlk (v := false) (show f_R_isSegment u aX aY bX bY k = false from by unfold f_R_isSegment; rw [if_pos c1a]).symm d_R_isSegment_24
  · have c1a : ¬ (k < 0) := c1
    refine lv_iload_n hx hb d_R_isSegment_4 rfl (lv_at hl 1 rfl) ?_
    refine lv_bipush (v := 20) hx hb d_R_isSegment_5 (by decide) ?_
    refine lv_icmp_ge (tgt := 23) hx hb d_R_isSegment_7 (by decide) (fun c2 => ?_) (fun c2 => ?_)
    · have c2a : 20 ≤ k := c2
      refine lv_iconst (v := 0) hx hb d_R_isSegment_23 (by decide) ?_
      exact rretZ S hr hlk (v := false) (show f_R_isSegment u aX aY bX bY k = false from by unfold f_R_isSegment; rw [if_neg c1a, if_pos c2a]).symm d_R_isSegment_24
    · have c2a : ¬ (20 ≤ k) := c2
      have ek2 : k = nI (k.toNatClampNeg) := raw_nat c1a
      have hk2 : k.toNatClampNeg < 20 := raw_lt c1a c2a
      rw [ek2] at hl
      refine lv_aload_n hx hb d_R_isSegment_10 rfl (lv_at hl 0 rfl) ?_
      refine rget S hK hP 0 rfl rfl in_R 0 (by decide) kF_R_7 rfl d_R_isSegment_11 ?_
      refine lv_iload_n hx hb d_R_isSegment_14 rfl (lv_at hl 1 rfl) ?_
      refine rzald (j := k.toNatClampNeg) S hK hP 1 0 rfl rfl (by omega) (by first | decide | omega) d_R_isSegment_15 ?_
      refine lv_if_eq (tgt := 23) hx hb d_R_isSegment_16 (by decide) (fun c3 => ?_) (fun c3 => ?_)
      · have c3a : ¬ (u k.toNatClampNeg = true) := b2n (b2i_eq0.mp c3)
        refine lv_iconst (v := 0) hx hb d_R_isSegment_23 (by decide) ?_
        exact rretZ S hr hlk (v := false) (show f_R_isSegment u aX aY bX bY k = false from by unfold f_R_isSegment; rw [if_neg c1a, if_neg c2a, if_neg c3a]).symm d_R_isSegment_24
      · have c3a : u k.toNatClampNeg = true := b2i_ne0.mp c3
        refine lv_iconst (v := 1) hx hb d_R_isSegment_19 (by decide) ?_
        refine lv_goto (tgt := 24) hx hb d_R_isSegment_20 (by decide) ?_
        exact rretZ S hr hlk (v := true) (show f_R_isSegment u aX aY bX bY k = true from by unfold f_R_isSegment; rw [if_neg c1a, if_neg c2a, if_pos c3a]).symm d_R_isSegment_24
def fx_R_segments_1 (u : Nat → Bool) (k : Nat) (cnt : Nat) : Nat := cnt
def fb_R_segments_1 (u : Nat → Bool) (rec : (Nat) → (Nat) → Nat) (k : Nat) (cnt : Nat) : Nat := if u k = true then (rec (k + 1) (cnt + 1)) else (rec (k + 1) cnt)
def fl_R_segments_1 (u : Nat → Bool) : Nat → (Nat) → (Nat) → Nat
  | 0, k, cnt => fx_R_segments_1 u k cnt
  | n1 + 1, k, cnt => fb_R_segments_1 u (fl_R_segments_1 u n1) k cnt
def f_R_segments (u : Nat → Bool) (aX : Nat → Int32) (aY : Nat → Int32) (bX : Nat → Int32) (bY : Nat → Int32) : Nat := fl_R_segments_1 u 20 0 0
theorem i_R_segments : inV y_R_segments b_R_segments 3 (some .int) 0 := ⟨kM_y_R_segments, kV_y_R_segments, kI_R, kY_y_R_segments, by decide +kernel⟩
set_option maxHeartbeats 4000000 in
set_option maxRecDepth 100000 in
theorem c_R_segments (l : Launch) (D : va_G) (q0 qu qa qb qc qd qe qf qg qh : Nat) (cZ cI : ClassId) (u : Nat → Bool) (aX aY bX bY : Nat → Int32) (kn : Bool) (lns : Nat) (ln : Nat → Int32) (ac mn sm : Nat → Nat) : PM l y_R_segments b_R_segments 3 (some .int) 0 0 D (refW q0 qu qa qb qc qd qe qf qg qh cZ cI u aX aY bX bY kn lns ln ac mn sm) [(cZ, .boolean), (cI, .int)] [.ref q0] (nI (f_R_segments u aX aY bX bY)) := by
  refine pMet rfl (fun p e s m below meth c S hr hlk hP hK ls hl => ?_) (Nat.le_of_ble_eq_true rfl)
  have hx := S.1
  have hb := S.2.1
  have hl : lv_has ls 3 [(0, .ref q0)] := hl
  refine lv_iconst (v := 0) hx hb d_R_segments_0 (by decide) ?_
  refine lv_istore_n (lv' := [(1, .int 0), (0, .ref q0)]) hx hb d_R_segments_1 rfl hl (by decide) rfl (fun ls hl => ?_)
  refine lv_iconst (v := 0) hx hb d_R_segments_2 (by decide) ?_
  refine lv_istore_n (lv' := [(2, .int 0), (1, .int 0), (0, .ref q0)]) hx hb d_R_segments_3 rfl hl (by decide) rfl (fun ls hl => ?_)
  have key1 : ∀ (n1 : Nat) (k : Nat) (cnt : Nat) (hk1 : k + n1 = 20) (ls : Array Slot) (hl : lv_has ls 3 [(0, .ref q0), (1, .int (nI (cnt))), (2, .int (nI (k)))]) (hf : f_R_segments u aX aY bX bY = fl_R_segments_1 u n1 k cnt), W p l e { frames := 0, cells := 0, slots := 0, locals := 0 } s m [.ref q0].toArray below meth c s.heap [] 0 0 (MQ below (pQ (nI (f_R_segments u aX aY bX bY))) [.ref q0].toArray s 0 0 (fun _ => False)) (F0 m 4 ls []) := by
    clear hl
    intro n1
    induction n1 with
    | zero =>
      intro k cnt hk1 ls hl hf
      refine lv_iload_n hx hb d_R_segments_4 rfl (lv_at hl 2 rfl) ?_
      refine lv_bipush (v := 20) hx hb d_R_segments_5 (by decide) ?_
      refine lv_icmp_ge (tgt := 33) hx hb d_R_segments_7 (by decide) (fun c1 => ?_) (fun c1 => ?_)
      · have c1a : 20 ≤ k := (nI_leI (a := 20) (b := k) (by decide) (by omega)).mp c1
        refine lv_iload_n hx hb d_R_segments_33 rfl (lv_at hl 1 rfl) ?_
        exact rret S hr hlk (v := nI (cnt)) (congrArg nI (hf.trans (show fx_R_segments_1 u k cnt = cnt from rfl)).symm) d_R_segments_34
      · have c1a : ¬ (20 ≤ k) := fun h => c1 ((nI_leI (a := 20) (b := k) (by decide) (by omega)).mpr h)
        omega
    | succ n1 ih1 =>
      intro k cnt hk1 ls hl hf
      refine lv_iload_n hx hb d_R_segments_4 rfl (lv_at hl 2 rfl) ?_
      refine lv_bipush (v := 20) hx hb d_R_segments_5 (by decide) ?_
      refine lv_icmp_ge (tgt := 33) hx hb d_R_segments_7 (by decide) (fun c2 => ?_) (fun c2 => ?_)
      · have c2a : 20 ≤ k := (nI_leI (a := 20) (b := k) (by decide) (by omega)).mp c2
        omega
      · have c2a : ¬ (20 ≤ k) := fun h => c2 ((nI_leI (a := 20) (b := k) (by decide) (by omega)).mpr h)
        refine lv_aload_n hx hb d_R_segments_10 rfl (lv_at hl 0 rfl) ?_
        refine rget S hK hP 0 rfl rfl in_R 0 (by decide) kF_R_7 rfl d_R_segments_11 ?_
        refine lv_iload_n hx hb d_R_segments_14 rfl (lv_at hl 2 rfl) ?_
        refine rzald (j := k) S hK hP 1 0 rfl rfl (by omega) (by first | decide | omega) d_R_segments_15 ?_
        refine lv_if_eq (tgt := 25) hx hb d_R_segments_16 (by decide) (fun c3 => ?_) (fun c3 => ?_)
        · have c3a : ¬ (u k = true) := b2n (b2i_eq0.mp c3)
          refine lv_iload_n hx hb d_R_segments_25 rfl (lv_at hl 1 rfl) ?_
          refine lv_istore_n (lv' := [(1, .int (nI (cnt))), (0, .ref q0), (2, .int (nI (k)))]) hx hb d_R_segments_26 rfl hl (by decide) rfl (fun ls hl => ?_)
          refine lv_iinc (v := nI (k + 1)) (lv' := [(2, .int (nI (k + 1))), (1, .int (nI (cnt))), (0, .ref q0)]) hx hb d_R_segments_27 hl (k := 2) rfl (nI_1 (k)) (by decide) rfl (fun ls hl => ?_)
          refine lv_goto (tgt := 4) hx hb d_R_segments_30 (by decide) ?_
          exact ih1 (k + 1) cnt (by omega) ls (lv_sub hl [2, 1, 0] rfl) (hf.trans (show fb_R_segments_1 u (fl_R_segments_1 u n1) k cnt = (fl_R_segments_1 u n1 (k + 1) cnt) from by unfold fb_R_segments_1; rw [if_neg c3a]))
        · have c3a : u k = true := b2i_ne0.mp c3
          refine lv_iload_n hx hb d_R_segments_19 rfl (lv_at hl 1 rfl) ?_
          refine lv_iconst (v := 1) hx hb d_R_segments_20 (by decide) ?_
          refine lv_iadd hx hb d_R_segments_21 ?_
          refine rtop (y := nI (cnt + 1)) (nI_add (cnt) (1)) ?_
          refine lv_goto (tgt := 26) hx hb d_R_segments_22 (by decide) ?_
          refine lv_istore_n (lv' := [(1, .int (nI (cnt + 1))), (0, .ref q0), (2, .int (nI (k)))]) hx hb d_R_segments_26 rfl hl (by decide) rfl (fun ls hl => ?_)
          refine lv_iinc (v := nI (k + 1)) (lv' := [(2, .int (nI (k + 1))), (1, .int (nI (cnt + 1))), (0, .ref q0)]) hx hb d_R_segments_27 hl (k := 2) rfl (nI_1 (k)) (by decide) rfl (fun ls hl => ?_)
          refine lv_goto (tgt := 4) hx hb d_R_segments_30 (by decide) ?_
          exact ih1 (k + 1) (cnt + 1) (by omega) ls (lv_sub hl [2, 1, 0] rfl) (hf.trans (show fb_R_segments_1 u (fl_R_segments_1 u n1) k cnt = (fl_R_segments_1 u n1 (k + 1) (cnt + 1)) from by unfold fb_R_segments_1; rw [if_pos c3a]))
  exact key1 20 0 0 (by omega) ls (lv_sub hl [2, 1, 0] rfl) (show f_R_segments u aX aY bX bY = (fl_R_segments_1 u 20 0 0) from rfl)
def fx_R_endings_1 (u : Nat → Bool) (aX : Nat → Int32) (aY : Nat → Int32) (bX : Nat → Int32) (bY : Nat → Int32) (x : Int32) (y : Int32) (k : Nat) (cnt : Nat) : Nat := cnt
def fb_R_endings_1 (u : Nat → Bool) (aX : Nat → Int32) (aY : Nat → Int32) (bX : Nat → Int32) (bY : Nat → Int32) (x : Int32) (y : Int32) (rec : (Nat) → (Nat) → Nat) (k : Nat) (cnt : Nat) : Nat := if u k = true then (if f_R_isEnd u aX aY bX bY k x y = true then (rec (k + 1) (cnt + 1)) else (rec (k + 1) cnt)) else (rec (k + 1) cnt)
def fl_R_endings_1 (u : Nat → Bool) (aX : Nat → Int32) (aY : Nat → Int32) (bX : Nat → Int32) (bY : Nat → Int32) (x : Int32) (y : Int32) : Nat → (Nat) → (Nat) → Nat
  | 0, k, cnt => fx_R_endings_1 u aX aY bX bY x y k cnt
  | n1 + 1, k, cnt => fb_R_endings_1 u aX aY bX bY x y (fl_R_endings_1 u aX aY bX bY x y n1) k cnt
def f_R_endings (u : Nat → Bool) (aX : Nat → Int32) (aY : Nat → Int32) (bX : Nat → Int32) (bY : Nat → Int32) (x : Int32) (y : Int32) : Nat := fl_R_endings_1 u aX aY bX bY x y 20 0 0
theorem i_R_endings : inV y_R_endings b_R_endings 5 (some .int) 2 := ⟨kM_y_R_endings, kV_y_R_endings, kI_R, kY_y_R_endings, by decide +kernel⟩
set_option maxHeartbeats 4000000 in
set_option maxRecDepth 100000 in
theorem c_R_endings (l : Launch) (D : va_G) (q0 qu qa qb qc qd qe qf qg qh : Nat) (cZ cI : ClassId) (u : Nat → Bool) (aX aY bX bY : Nat → Int32) (kn : Bool) (lns : Nat) (ln : Nat → Int32) (ac mn sm : Nat → Nat) (x : Int32) (y : Int32) : PM l y_R_endings b_R_endings 5 (some .int) 1 23 D (refW q0 qu qa qb qc qd qe qf qg qh cZ cI u aX aY bX bY kn lns ln ac mn sm) [(cZ, .boolean), (cI, .int)] [.ref q0, .int x, .int y] (nI (f_R_endings u aX aY bX bY x y)) := by
  refine pMet rfl (fun p e s m below meth c S hr hlk hP hK ls hl => ?_) (Nat.le_of_ble_eq_true rfl)
  have hx := S.1
  have hb := S.2.1
  have hl : lv_has ls 5 [(0, .ref q0), (1, .int x), (2, .int y)] := hl
  refine lv_iconst (v := 0) hx hb d_R_endings_0 (by decide) ?_
  refine lv_istore_n (lv' := [(3, .int 0), (0, .ref q0), (1, .int x), (2, .int y)]) hx hb d_R_endings_1 rfl hl (by decide) rfl (fun ls hl => ?_)
  refine lv_iconst (v := 0) hx hb d_R_endings_2 (by decide) ?_
  refine lv_istore (lv' := [(4, .int 0), (3, .int 0), (0, .ref q0), (1, .int x), (2, .int y)]) hx hb d_R_endings_3 hl (by decide) rfl (fun ls hl => ?_)
  have key1 : ∀ (n1 : Nat) (k : Nat) (cnt : Nat) (hk1 : k + n1 = 20) (ls : Array Slot) (hl : lv_has ls 5 [(0, .ref q0), (1, .int x), (2, .int y), (3, .int (nI (cnt))), (4, .int (nI (k)))]) (hf : f_R_endings u aX aY bX bY x y = fl_R_endings_1 u aX aY bX bY x y n1 k cnt), W p l e { frames := 1, cells := 0, slots := 0, locals := 23 } s m [.ref q0, .int x, .int y].toArray below meth c s.heap [] 0 0 (MQ below (pQ (nI (f_R_endings u aX aY bX bY x y))) [.ref q0, .int x, .int y].toArray s 0 0 (fun _ => False)) (F0 m 5 ls []) := by
    clear hl
    intro n1
    induction n1 with
    | zero =>
      intro k cnt hk1 ls hl hf
      refine lv_iload hx hb d_R_endings_5 (lv_at hl 4 rfl) ?_
      refine lv_bipush (v := 20) hx hb d_R_endings_7 (by decide) ?_
      refine lv_icmp_ge (tgt := 47) hx hb d_R_endings_9 (by decide) (fun c1 => ?_) (fun c1 => ?_)
      · have c1a : 20 ≤ k := (nI_leI (a := 20) (b := k) (by decide) (by omega)).mp c1
        refine lv_iload_n hx hb d_R_endings_47 rfl (lv_at hl 3 rfl) ?_
        exact rret S hr hlk (v := nI (cnt)) (congrArg nI (hf.trans (show fx_R_endings_1 u aX aY bX bY x y k cnt = cnt from rfl)).symm) d_R_endings_48
      · have c1a : ¬ (20 ≤ k) := fun h => c1 ((nI_leI (a := 20) (b := k) (by decide) (by omega)).mpr h)
        omega
    | succ n1 ih1 =>
      intro k cnt hk1 ls hl hf
      refine lv_iload hx hb d_R_endings_5 (lv_at hl 4 rfl) ?_
      refine lv_bipush (v := 20) hx hb d_R_endings_7 (by decide) ?_
      refine lv_icmp_ge (tgt := 47) hx hb d_R_endings_9 (by decide) (fun c2 => ?_) (fun c2 => ?_)
      · have c2a : 20 ≤ k := (nI_leI (a := 20) (b := k) (by decide) (by omega)).mp c2
        omega
      · have c2a : ¬ (20 ≤ k) := fun h => c2 ((nI_leI (a := 20) (b := k) (by decide) (by omega)).mpr h)
        refine lv_aload_n hx hb d_R_endings_12 rfl (lv_at hl 0 rfl) ?_
        refine rget S hK hP 0 rfl rfl in_R 0 (by decide) kF_R_7 rfl d_R_endings_13 ?_
        refine lv_iload hx hb d_R_endings_16 (lv_at hl 4 rfl) ?_
        refine rzald (j := k) S hK hP 1 0 rfl rfl (by omega) (by first | decide | omega) d_R_endings_18 ?_
        refine lv_if_eq (tgt := 39) hx hb d_R_endings_19 (by decide) (fun c3 => ?_) (fun c3 => ?_)
        · have c3a : ¬ (u k = true) := b2n (b2i_eq0.mp c3)
          refine lv_iload_n hx hb d_R_endings_39 rfl (lv_at hl 3 rfl) ?_
          refine lv_istore_n (lv' := [(3, .int (nI (cnt))), (0, .ref q0), (1, .int x), (2, .int y), (4, .int (nI (k)))]) hx hb d_R_endings_40 rfl hl (by decide) rfl (fun ls hl => ?_)
          refine lv_iinc (v := nI (k + 1)) (lv' := [(4, .int (nI (k + 1))), (3, .int (nI (cnt))), (0, .ref q0), (1, .int x), (2, .int y)]) hx hb d_R_endings_41 hl (k := 4) rfl (nI_1 (k)) (by decide) rfl (fun ls hl => ?_)
          refine lv_goto (tgt := 5) hx hb d_R_endings_44 (by decide) ?_
          exact ih1 (k + 1) cnt (by omega) ls (lv_sub hl [2, 3, 4, 1, 0] rfl) (hf.trans (show fb_R_endings_1 u aX aY bX bY x y (fl_R_endings_1 u aX aY bX bY x y n1) k cnt = (fl_R_endings_1 u aX aY bX bY x y n1 (k + 1) cnt) from by unfold fb_R_endings_1; rw [if_neg c3a]))
        · have c3a : u k = true := b2i_ne0.mp c3
          refine lv_aload_n hx hb d_R_endings_22 rfl (lv_at hl 0 rfl) ?_
          refine lv_iload hx hb d_R_endings_23 (lv_at hl 4 rfl) ?_
          refine lv_iload_n hx hb d_R_endings_25 rfl (lv_at hl 1 rfl) ?_
          refine lv_iload_n hx hb d_R_endings_26 rfl (lv_at hl 2 rfl) ?_
          refine rcallV (rest := []) (v := b2i (f_R_isEnd u aX aY bX bY k x y)) S [.int (nI (k)), .int x, .int y] hK hP [0, 1, 2, 3, 4, 5, 6, 7, 8, 9] rfl [0, 1] rfl (c_R_isEnd l D q0 qu qa qb qc qd qe qf qg qh cZ cI u aX aY bX bY kn lns ln ac mn sm k x y (by omega)) i_R_isEnd kL_R_46 ⟨Nat.le_of_ble_eq_true rfl, Nat.le_of_ble_eq_true rfl⟩ (by exact ⟨Nat.zero_le _, Nat.zero_le _⟩) (q0 := 0) (ci := 3) rfl rfl rfl hl.1 rfl (Nat.le_of_ble_eq_true rfl) d_R_endings_27 ?_
          refine lv_if_eq (tgt := 39) hx hb d_R_endings_30 (by decide) (fun c4 => ?_) (fun c4 => ?_)
          · have c4a : ¬ (f_R_isEnd u aX aY bX bY k x y = true) := b2n (b2i_eq0.mp c4)
            refine lv_iload_n hx hb d_R_endings_39 rfl (lv_at hl 3 rfl) ?_
            refine lv_istore_n (lv' := [(3, .int (nI (cnt))), (0, .ref q0), (1, .int x), (2, .int y), (4, .int (nI (k)))]) hx hb d_R_endings_40 rfl hl (by decide) rfl (fun ls hl => ?_)
            refine lv_iinc (v := nI (k + 1)) (lv' := [(4, .int (nI (k + 1))), (3, .int (nI (cnt))), (0, .ref q0), (1, .int x), (2, .int y)]) hx hb d_R_endings_41 hl (k := 4) rfl (nI_1 (k)) (by decide) rfl (fun ls hl => ?_)
            refine lv_goto (tgt := 5) hx hb d_R_endings_44 (by decide) ?_
            exact ih1 (k + 1) cnt (by omega) ls (lv_sub hl [2, 3, 4, 1, 0] rfl) (hf.trans (show fb_R_endings_1 u aX aY bX bY x y (fl_R_endings_1 u aX aY bX bY x y n1) k cnt = (fl_R_endings_1 u aX aY bX bY x y n1 (k + 1) cnt) from by unfold fb_R_endings_1; rw [if_pos c3a, if_neg c4a]))
          · have c4a : f_R_isEnd u aX aY bX bY k x y = true := b2i_ne0.mp c4
            refine lv_iload_n hx hb d_R_endings_33 rfl (lv_at hl 3 rfl) ?_
            refine lv_iconst (v := 1) hx hb d_R_endings_34 (by decide) ?_
            refine lv_iadd hx hb d_R_endings_35 ?_
            refine rtop (y := nI (cnt + 1)) (nI_add (cnt) (1)) ?_
            refine lv_goto (tgt := 40) hx hb d_R_endings_36 (by decide) ?_
            refine lv_istore_n (lv' := [(3, .int (nI (cnt + 1))), (0, .ref q0), (1, .int x), (2, .int y), (4, .int (nI (k)))]) hx hb d_R_endings_40 rfl hl (by decide) rfl (fun ls hl => ?_)
            refine lv_iinc (v := nI (k + 1)) (lv' := [(4, .int (nI (k + 1))), (3, .int (nI (cnt + 1))), (0, .ref q0), (1, .int x), (2, .int y)]) hx hb d_R_endings_41 hl (k := 4) rfl (nI_1 (k)) (by decide) rfl (fun ls hl => ?_)
            refine lv_goto (tgt := 5) hx hb d_R_endings_44 (by decide) ?_
            exact ih1 (k + 1) (cnt + 1) (by omega) ls (lv_sub hl [2, 3, 4, 1, 0] rfl) (hf.trans (show fb_R_endings_1 u aX aY bX bY x y (fl_R_endings_1 u aX aY bX bY x y n1) k cnt = (fl_R_endings_1 u aX aY bX bY x y n1 (k + 1) (cnt + 1)) from by unfold fb_R_endings_1; rw [if_pos c3a, if_pos c4a]))
  exact key1 20 0 0 (by omega) ls (lv_sub hl [2, 3, 4, 1, 0] rfl) (show f_R_endings u aX aY bX bY x y = (fl_R_endings_1 u aX aY bX bY x y 20 0 0) from rfl)
def fx_R_firstAt_1 (u : Nat → Bool) (aX : Nat → Int32) (aY : Nat → Int32) (bX : Nat → Int32) (bY : Nat → Int32) (x : Int32) (y : Int32) (fo : Nat) : Nat := fo
def fb_R_firstAt_1 (u : Nat → Bool) (aX : Nat → Int32) (aY : Nat → Int32) (bX : Nat → Int32) (bY : Nat → Int32) (x : Int32) (y : Int32) (rec : (Nat) → Nat) (n1 : Nat) (fo : Nat) : Nat := if u n1 = true then (if f_R_isEnd u aX aY bX bY n1 x y = true then (rec n1) else (rec fo)) else (rec fo)
def fl_R_firstAt_1 (u : Nat → Bool) (aX : Nat → Int32) (aY : Nat → Int32) (bX : Nat → Int32) (bY : Nat → Int32) (x : Int32) (y : Int32) : Nat → (Nat) → Nat
  | 0, fo => fx_R_firstAt_1 u aX aY bX bY x y fo
  | n1 + 1, fo => fb_R_firstAt_1 u aX aY bX bY x y (fl_R_firstAt_1 u aX aY bX bY x y n1) n1 fo
def f_R_firstAt (u : Nat → Bool) (aX : Nat → Int32) (aY : Nat → Int32) (bX : Nat → Int32) (bY : Nat → Int32) (x : Int32) (y : Int32) : Nat := fl_R_firstAt_1 u aX aY bX bY x y 20 20
theorem i_R_firstAt : inV y_R_firstAt b_R_firstAt 5 (some .int) 2 := ⟨kM_y_R_firstAt, kV_y_R_firstAt, kI_R, kY_y_R_firstAt, by decide +kernel⟩
set_option maxHeartbeats 4000000 in
set_option maxRecDepth 100000 in
theorem c_R_firstAt (l : Launch) (D : va_G) (q0 qu qa qb qc qd qe qf qg qh : Nat) (cZ cI : ClassId) (u : Nat → Bool) (aX aY bX bY : Nat → Int32) (kn : Bool) (lns : Nat) (ln : Nat → Int32) (ac mn sm : Nat → Nat) (x : Int32) (y : Int32) : PM l y_R_firstAt b_R_firstAt 5 (some .int) 1 23 D (refW q0 qu qa qb qc qd qe qf qg qh cZ cI u aX aY bX bY kn lns ln ac mn sm) [(cZ, .boolean), (cI, .int)] [.ref q0, .int x, .int y] (nI (f_R_firstAt u aX aY bX bY x y)) := by
  refine pMet rfl (fun p e s m below meth c S hr hlk hP hK ls hl => ?_) (Nat.le_of_ble_eq_true rfl)
  have hx := S.1
  have hb := S.2.1
  have hl : lv_has ls 5 [(0, .ref q0), (1, .int x), (2, .int y)] := hl
  refine lv_bipush (v := 20) hx hb d_R_firstAt_0 (by decide) ?_
  refine lv_istore_n (lv' := [(3, .int 20), (0, .ref q0), (1, .int x), (2, .int y)]) hx hb d_R_firstAt_2 rfl hl (by decide) rfl (fun ls hl => ?_)
  refine lv_bipush (v := 19) hx hb d_R_firstAt_3 (by decide) ?_
  refine lv_istore (lv' := [(4, .int 19), (3, .int 20), (0, .ref q0), (1, .int x), (2, .int y)]) hx hb d_R_firstAt_5 hl (by decide) rfl (fun ls hl => ?_)
  have key1 : ∀ (n1 : Nat) (fo : Nat) (hk1 : n1 ≤ 20) (ls : Array Slot) (hl : lv_has ls 5 [(0, .ref q0), (1, .int x), (2, .int y), (3, .int (nI (fo))), (4, .int ((dn n1)))]) (hf : f_R_firstAt u aX aY bX bY x y = fl_R_firstAt_1 u aX aY bX bY x y n1 fo), W p l e { frames := 1, cells := 0, slots := 0, locals := 23 } s m [.ref q0, .int x, .int y].toArray below meth c s.heap [] 0 0 (MQ below (pQ (nI (f_R_firstAt u aX aY bX bY x y))) [.ref q0, .int x, .int y].toArray s 0 0 (fun _ => False)) (F0 m 7 ls []) := by
    clear hl
    intro n1
    induction n1 with
    | zero =>
      intro fo hk1 ls hl hf
      rw [dn_0] at hl
      refine lv_iload hx hb d_R_firstAt_7 (lv_at hl 4 rfl) ?_
      refine lv_if_lt (tgt := 46) hx hb d_R_firstAt_9 (by decide) (fun _ => ?_) (fun h => absurd (by decide) h)
      refine lv_iload_n hx hb d_R_firstAt_46 rfl (lv_at hl 3 rfl) ?_
      exact rret S hr hlk (v := nI (fo)) (congrArg nI (hf.trans (show fx_R_firstAt_1 u aX aY bX bY x y fo = fo from rfl)).symm) d_R_firstAt_47
    | succ n1 ih1 =>
      intro fo hk1 ls hl hf
      rw [dn_s] at hl
      refine lv_iload hx hb d_R_firstAt_7 (lv_at hl 4 rfl) ?_
      refine lv_if_lt (tgt := 46) hx hb d_R_firstAt_9 (by decide) (fun c2 => ?_) (fun c2 => ?_)
      · have c2a : n1 < 0 := (nI_ltI (a := n1) (b := 0) (by omega) (by decide)).mp c2
        omega
      · have c2a : ¬ (n1 < 0) := fun h => c2 ((nI_ltI (a := n1) (b := 0) (by omega) (by decide)).mpr h)
        refine lv_aload_n hx hb d_R_firstAt_12 rfl (lv_at hl 0 rfl) ?_
        refine rget S hK hP 0 rfl rfl in_R 0 (by decide) kF_R_7 rfl d_R_firstAt_13 ?_
        refine lv_iload hx hb d_R_firstAt_16 (lv_at hl 4 rfl) ?_
        refine rzald (j := n1) S hK hP 1 0 rfl rfl (by omega) (by first | decide | omega) d_R_firstAt_18 ?_
        refine lv_if_eq (tgt := 38) hx hb d_R_firstAt_19 (by decide) (fun c3 => ?_) (fun c3 => ?_)
        · have c3a : ¬ (u n1 = true) := b2n (b2i_eq0.mp c3)
          refine lv_iload_n hx hb d_R_firstAt_38 rfl (lv_at hl 3 rfl) ?_
          refine lv_istore_n (lv' := [(3, .int (nI (fo))), (0, .ref q0), (1, .int x), (2, .int y), (4, .int (nI (n1)))]) hx hb d_R_firstAt_39 rfl hl (by decide) rfl (fun ls hl => ?_)
          refine lv_iinc (v := (dn n1)) (lv' := [(4, .int ((dn n1))), (3, .int (nI (fo))), (0, .ref q0), (1, .int x), (2, .int y)]) hx hb d_R_firstAt_40 hl (k := 4) rfl rfl (by decide) rfl (fun ls hl => ?_)
          refine lv_goto (tgt := 7) hx hb d_R_firstAt_43 (by decide) ?_
          exact ih1 fo (by omega) ls (lv_sub hl [2, 3, 4, 1, 0] rfl) (hf.trans (show fb_R_firstAt_1 u aX aY bX bY x y (fl_R_firstAt_1 u aX aY bX bY x y n1) n1 fo = (fl_R_firstAt_1 u aX aY bX bY x y n1 fo) from by unfold fb_R_firstAt_1; rw [if_neg c3a]))
        · have c3a : u n1 = true := b2i_ne0.mp c3
          refine lv_aload_n hx hb d_R_firstAt_22 rfl (lv_at hl 0 rfl) ?_
          refine lv_iload hx hb d_R_firstAt_23 (lv_at hl 4 rfl) ?_
          refine lv_iload_n hx hb d_R_firstAt_25 rfl (lv_at hl 1 rfl) ?_
          refine lv_iload_n hx hb d_R_firstAt_26 rfl (lv_at hl 2 rfl) ?_
          refine rcallV (rest := []) (v := b2i (f_R_isEnd u aX aY bX bY n1 x y)) S [.int (nI (n1)), .int x, .int y] hK hP [0, 1, 2, 3, 4, 5, 6, 7, 8, 9] rfl [0, 1] rfl (c_R_isEnd l D q0 qu qa qb qc qd qe qf qg qh cZ cI u aX aY bX bY kn lns ln ac mn sm n1 x y (by omega)) i_R_isEnd kL_R_46 ⟨Nat.le_of_ble_eq_true rfl, Nat.le_of_ble_eq_true rfl⟩ (by exact ⟨Nat.zero_le _, Nat.zero_le _⟩) (q0 := 0) (ci := 3) rfl rfl rfl hl.1 rfl (Nat.le_of_ble_eq_true rfl) d_R_firstAt_27 ?_
          refine lv_if_eq (tgt := 38) hx hb d_R_firstAt_30 (by decide) (fun c4 => ?_) (fun c4 => ?_)
          · have c4a : ¬ (f_R_isEnd u aX aY bX bY n1 x y = true) := b2n (b2i_eq0.mp c4)
            refine lv_iload_n hx hb d_R_firstAt_38 rfl (lv_at hl 3 rfl) ?_
            refine lv_istore_n (lv' := [(3, .int (nI (fo))), (0, .ref q0), (1, .int x), (2, .int y), (4, .int (nI (n1)))]) hx hb d_R_firstAt_39 rfl hl (by decide) rfl (fun ls hl => ?_)
            refine lv_iinc (v := (dn n1)) (lv' := [(4, .int ((dn n1))), (3, .int (nI (fo))), (0, .ref q0), (1, .int x), (2, .int y)]) hx hb d_R_firstAt_40 hl (k := 4) rfl rfl (by decide) rfl (fun ls hl => ?_)
            refine lv_goto (tgt := 7) hx hb d_R_firstAt_43 (by decide) ?_
            exact ih1 fo (by omega) ls (lv_sub hl [2, 3, 4, 1, 0] rfl) (hf.trans (show fb_R_firstAt_1 u aX aY bX bY x y (fl_R_firstAt_1 u aX aY bX bY x y n1) n1 fo = (fl_R_firstAt_1 u aX aY bX bY x y n1 fo) from by unfold fb_R_firstAt_1; rw [if_pos c3a, if_neg c4a]))
          · have c4a : f_R_isEnd u aX aY bX bY n1 x y = true := b2i_ne0.mp c4
            refine lv_iload hx hb d_R_firstAt_33 (lv_at hl 4 rfl) ?_
            refine lv_goto (tgt := 39) hx hb d_R_firstAt_35 (by decide) ?_
            refine lv_istore_n (lv' := [(3, .int (nI (n1))), (0, .ref q0), (1, .int x), (2, .int y), (4, .int (nI (n1)))]) hx hb d_R_firstAt_39 rfl hl (by decide) rfl (fun ls hl => ?_)
            refine lv_iinc (v := (dn n1)) (lv' := [(4, .int ((dn n1))), (3, .int (nI (n1))), (0, .ref q0), (1, .int x), (2, .int y)]) hx hb d_R_firstAt_40 hl (k := 4) rfl rfl (by decide) rfl (fun ls hl => ?_)
            refine lv_goto (tgt := 7) hx hb d_R_firstAt_43 (by decide) ?_
            exact ih1 n1 (by omega) ls (lv_sub hl [2, 3, 4, 1, 0] rfl) (hf.trans (show fb_R_firstAt_1 u aX aY bX bY x y (fl_R_firstAt_1 u aX aY bX bY x y n1) n1 fo = (fl_R_firstAt_1 u aX aY bX bY x y n1 n1) from by unfold fb_R_firstAt_1; rw [if_pos c3a, if_pos c4a]))
  exact key1 20 20 (by omega) ls (lv_sub hl [2, 3, 4, 1, 0] rfl) (show f_R_firstAt u aX aY bX bY x y = (fl_R_firstAt_1 u aX aY bX bY x y 20 20) from rfl)
theorem endings_fl (u : Nat → Bool) (aX aY bX bY : Nat → Int32) (x y : Int32) : ∀ (n k cnt : Nat), fl_R_endings_1 u aX aY bX bY x y n k cnt ≤ cnt + n := by
  intro n
  induction n with
  | zero => intro k cnt; exact Nat.le_refl _
  | succ n ih =>
    intro k cnt
    show fb_R_endings_1 u aX aY bX bY x y (fl_R_endings_1 u aX aY bX bY x y n) k cnt ≤ _
    unfold fb_R_endings_1
    have h1 := ih (k + 1) (cnt + 1)
    have h2 := ih (k + 1) cnt
    repeat' split
    all_goals omega
theorem endings_le (u : Nat → Bool) (aX aY bX bY : Nat → Int32) (x y : Int32) : f_R_endings u aX aY bX bY x y ≤ 20 := by
  have h := endings_fl u aX aY bX bY x y 20 0 0
  unfold f_R_endings
  omega
theorem firstAt_fl (u : Nat → Bool) (aX aY bX bY : Nat → Int32) (x y : Int32) : ∀ (n fo : Nat), n ≤ 20 → fo ≤ 20 → fl_R_firstAt_1 u aX aY bX bY x y n fo ≤ 20 := by
  intro n
  induction n with
  | zero => intro fo _ h; exact h
  | succ n ih =>
    intro fo hn h
    show fb_R_firstAt_1 u aX aY bX bY x y (fl_R_firstAt_1 u aX aY bX bY x y n) n fo ≤ _
    unfold fb_R_firstAt_1
    repeat' split
    all_goals (apply ih <;> omega)
theorem firstAt_le (u : Nat → Bool) (aX aY bX bY : Nat → Int32) (x y : Int32) : f_R_firstAt u aX aY bX bY x y ≤ 20 := by
  unfold f_R_firstAt
  exact firstAt_fl u aX aY bX bY x y 20 20 (by omega) (by omega)
