abbrev mapW (hm hu hxs hys : Nat) (cZ cI : ClassId) (u : Nat → Bool) (X Y : Nat → Int32) : va_W := [(hm, .inr (1, [.ref hu, .ref hxs, .ref hys])), (hu, .inl (cZ, 20, .inl (fun i => b2i (u i)))), (hxs, .inl (cI, 40, .inl X)), (hys, .inl (cI, 40, .inl Y))]
theorem b2n {b : Bool} (h : b = false) : ¬ b = true := by rw [h]; decide
theorem raw_nat {k : Int32} (h : ¬ k < 0) : k = nI k.toNatClampNeg := by
  obtain ⟨j, hj, rfl⟩ := nI_of h
  rw [nI_clamp hj]
theorem raw_lt {k : Int32} {n : Nat} (h : ¬ k < 0) (h2 : ¬ nI n ≤ k) (hn : n < 2 ^ 31 := by decide) : k.toNatClampNeg < n := by
  obtain ⟨j, hj, rfl⟩ := nI_of h
  rw [nI_clamp hj]
  rcases Nat.lt_or_ge j n with q | q
  · exact q
  · exact absurd (nI_le q hj) h2
def f_M_has (u : Nat → Bool) (X : Nat → Int32) (Y : Nat → Int32) (k : Int32) : Bool := if k < 0 then false else (if 20 ≤ k then false else (if u k.toNatClampNeg = true then true else false))
theorem i_M_has : inV y_M_has b_M_has 2 (some .boolean) 1 := ⟨kM_y_M_has, kV_y_M_has, kI_M, kY_y_M_has, by decide +kernel⟩
set_option maxHeartbeats 4000000 in
set_option maxRecDepth 100000 in
theorem c_M_has (l : Launch) (D : va_G) (hm hu hxs hys : Nat) (cZ cI : ClassId) (u : Nat → Bool) (X Y : Nat → Int32) (k : Int32)   : PM l y_M_has b_M_has 2 (some .boolean) 0 0 D (mapW hm hu hxs hys cZ cI u X Y) [(cZ, .boolean), (cI, .int)] [.ref hm, .int k] (b2i (f_M_has u X Y k)) := by
  refine pMet rfl (fun p e s m below meth c S hr hlk hP hK ls hl => ?_) (Nat.le_of_ble_eq_true rfl)
  have hx := S.1
  have hb := S.2.1
  have hl : lv_has ls 2 [(0, .ref hm), (1, .int k)] := hl
  refine lv_iload_n hx hb d_M_has_0 rfl (lv_at hl 1 rfl) ?_
  refine lv_if_lt (tgt := 23) hx hb d_M_has_1 (by decide) (fun c1 => ?_) (fun c1 => ?_)
  · have c1a : k < 0 := c1
    refine lv_iconst (v := 0) hx hb d_M_has_23 (by decide) ?_
    exact rretZ S hr hlk (v := false) (show f_M_has u X Y k = false from by unfold f_M_has; rw [if_pos c1a]).symm d_M_has_24
  · have c1a : ¬ (k < 0) := c1
    refine lv_iload_n hx hb d_M_has_4 rfl (lv_at hl 1 rfl) ?_
    refine lv_bipush (v := 20) hx hb d_M_has_5 (by decide) ?_
    refine lv_icmp_ge (tgt := 23) hx hb d_M_has_7 (by decide) (fun c2 => ?_) (fun c2 => ?_)
    · have c2a : 20 ≤ k := c2
      refine lv_iconst (v := 0) hx hb d_M_has_23 (by decide) ?_
      exact rretZ S hr hlk (v := false) (show f_M_has u X Y k = false from by unfold f_M_has; rw [if_neg c1a, if_pos c2a]).symm d_M_has_24
    · have c2a : ¬ (20 ≤ k) := c2
      have ek2 : k = nI (k.toNatClampNeg) := raw_nat c1a
      have hk2 : k.toNatClampNeg < 20 := raw_lt c1a c2a
      rw [ek2] at hl
      refine lv_aload_n hx hb d_M_has_10 rfl (lv_at hl 0 rfl) ?_
      refine rget S hK hP 0 rfl rfl in_M 0 (by decide) kF_M_9 rfl d_M_has_11 ?_
      refine lv_iload_n hx hb d_M_has_14 rfl (lv_at hl 1 rfl) ?_
      refine rzald (j := k.toNatClampNeg) S hK hP 1 0 rfl rfl (by omega) (by first | decide | omega) d_M_has_15 ?_
      refine lv_if_eq (tgt := 23) hx hb d_M_has_16 (by decide) (fun c3 => ?_) (fun c3 => ?_)
      · have c3a : ¬ (u k.toNatClampNeg = true) := b2n (b2i_eq0.mp c3)
        refine lv_iconst (v := 0) hx hb d_M_has_23 (by decide) ?_
        exact rretZ S hr hlk (v := false) (show f_M_has u X Y k = false from by unfold f_M_has; rw [if_neg c1a, if_neg c2a, if_neg c3a]).symm d_M_has_24
      · have c3a : u k.toNatClampNeg = true := b2i_ne0.mp c3
        refine lv_iconst (v := 1) hx hb d_M_has_19 (by decide) ?_
        refine lv_goto (tgt := 24) hx hb d_M_has_20 (by decide) ?_
        exact rretZ S hr hlk (v := true) (show f_M_has u X Y k = true from by unfold f_M_has; rw [if_neg c1a, if_neg c2a, if_pos c3a]).symm d_M_has_24
def f_M_hasArrow (u : Nat → Bool) (X : Nat → Int32) (Y : Nat → Int32) (a : Nat) : Bool := u (a / 2)
theorem i_M_hasArrow : inV y_M_hasArrow b_M_hasArrow 2 (some .boolean) 1 := ⟨kM_y_M_hasArrow, kV_y_M_hasArrow, kI_M, kY_y_M_hasArrow, by decide +kernel⟩
set_option maxHeartbeats 4000000 in
set_option maxRecDepth 100000 in
theorem c_M_hasArrow (l : Launch) (D : va_G) (hm hu hxs hys : Nat) (cZ cI : ClassId) (u : Nat → Bool) (X Y : Nat → Int32) (a : Nat) (ha : a < 40)  : PM l y_M_hasArrow b_M_hasArrow 2 (some .boolean) 0 0 D (mapW hm hu hxs hys cZ cI u X Y) [(cZ, .boolean), (cI, .int)] [.ref hm, .int (nI (a))] (b2i (f_M_hasArrow u X Y a)) := by
  refine pMet rfl (fun p e s m below meth c S hr hlk hP hK ls hl => ?_) (Nat.le_of_ble_eq_true rfl)
  have hx := S.1
  have hb := S.2.1
  have hl : lv_has ls 2 [(0, .ref hm), (1, .int (nI (a)))] := hl
  refine lv_aload_n hx hb d_M_hasArrow_0 rfl (lv_at hl 0 rfl) ?_
  refine rget S hK hP 0 rfl rfl in_M 0 (by decide) kF_M_9 rfl d_M_hasArrow_1 ?_
  refine lv_iload_n hx hb d_M_hasArrow_4 rfl (lv_at hl 1 rfl) ?_
  refine lv_iconst (v := 2) hx hb d_M_hasArrow_5 (by decide) ?_
  refine lv_idiv hx hb d_M_hasArrow_6 (by decide) ?_
  refine rtop (y := nI (a / 2)) (pk_div (a := a) (d := 2) (by omega) (by decide) (by decide)) ?_
  refine rzald (j := a / 2) S hK hP 1 0 rfl rfl (by omega) (by first | decide | omega) d_M_hasArrow_7 ?_
  exact rretZ S hr hlk (v := u (a / 2)) (show f_M_hasArrow u X Y a = (u (a / 2)) from rfl).symm d_M_hasArrow_8
def f_M_tailX (u : Nat → Bool) (X : Nat → Int32) (Y : Nat → Int32) (a : Nat) : Int32 := X a
theorem i_M_tailX : inV y_M_tailX b_M_tailX 2 (some .int) 1 := ⟨kM_y_M_tailX, kV_y_M_tailX, kI_M, kY_y_M_tailX, by decide +kernel⟩
set_option maxHeartbeats 4000000 in
set_option maxRecDepth 100000 in
theorem c_M_tailX (l : Launch) (D : va_G) (hm hu hxs hys : Nat) (cZ cI : ClassId) (u : Nat → Bool) (X Y : Nat → Int32) (a : Nat) (ha : a < 40)  : PM l y_M_tailX b_M_tailX 2 (some .int) 0 0 D (mapW hm hu hxs hys cZ cI u X Y) [(cZ, .boolean), (cI, .int)] [.ref hm, .int (nI (a))] (f_M_tailX u X Y a) := by
  refine pMet rfl (fun p e s m below meth c S hr hlk hP hK ls hl => ?_) (Nat.le_of_ble_eq_true rfl)
  have hx := S.1
  have hb := S.2.1
  have hl : lv_has ls 2 [(0, .ref hm), (1, .int (nI (a)))] := hl
  refine lv_aload_n hx hb d_M_tailX_0 rfl (lv_at hl 0 rfl) ?_
  refine rget S hK hP 0 rfl rfl in_M 1 (by decide) kF_M_15 rfl d_M_tailX_1 ?_
  refine lv_iload_n hx hb d_M_tailX_4 rfl (lv_at hl 1 rfl) ?_
  refine riald (j := a) S hK hP 2 1 rfl rfl (by omega) (by first | decide | omega) d_M_tailX_5 ?_
  exact rret S hr hlk (v := X a) (show f_M_tailX u X Y a = (X a) from rfl).symm d_M_tailX_6
def f_M_tailY (u : Nat → Bool) (X : Nat → Int32) (Y : Nat → Int32) (a : Nat) : Int32 := Y a
theorem i_M_tailY : inV y_M_tailY b_M_tailY 2 (some .int) 1 := ⟨kM_y_M_tailY, kV_y_M_tailY, kI_M, kY_y_M_tailY, by decide +kernel⟩
set_option maxHeartbeats 4000000 in
set_option maxRecDepth 100000 in
theorem c_M_tailY (l : Launch) (D : va_G) (hm hu hxs hys : Nat) (cZ cI : ClassId) (u : Nat → Bool) (X Y : Nat → Int32) (a : Nat) (ha : a < 40)  : PM l y_M_tailY b_M_tailY 2 (some .int) 0 0 D (mapW hm hu hxs hys cZ cI u X Y) [(cZ, .boolean), (cI, .int)] [.ref hm, .int (nI (a))] (f_M_tailY u X Y a) := by
  refine pMet rfl (fun p e s m below meth c S hr hlk hP hK ls hl => ?_) (Nat.le_of_ble_eq_true rfl)
  have hx := S.1
  have hb := S.2.1
  have hl : lv_has ls 2 [(0, .ref hm), (1, .int (nI (a)))] := hl
  refine lv_aload_n hx hb d_M_tailY_0 rfl (lv_at hl 0 rfl) ?_
  refine rget S hK hP 0 rfl rfl in_M 2 (by decide) kF_M_19 rfl d_M_tailY_1 ?_
  refine lv_iload_n hx hb d_M_tailY_4 rfl (lv_at hl 1 rfl) ?_
  refine riald (j := a) S hK hP 3 1 rfl rfl (by omega) (by first | decide | omega) d_M_tailY_5 ?_
  exact rret S hr hlk (v := Y a) (show f_M_tailY u X Y a = (Y a) from rfl).symm d_M_tailY_6
def f_M_stepX (u : Nat → Bool) (X : Nat → Int32) (Y : Nat → Int32) (a : Nat) : Int32 := (X (tw a) - X a)
theorem i_M_stepX : inV y_M_stepX b_M_stepX 2 (some .int) 1 := ⟨kM_y_M_stepX, kV_y_M_stepX, kI_M, kY_y_M_stepX, by decide +kernel⟩
set_option maxHeartbeats 4000000 in
set_option maxRecDepth 100000 in
theorem c_M_stepX (l : Launch) (D : va_G) (hm hu hxs hys : Nat) (cZ cI : ClassId) (u : Nat → Bool) (X Y : Nat → Int32) (a : Nat) (ha : a < 40)  : PM l y_M_stepX b_M_stepX 2 (some .int) 0 0 D (mapW hm hu hxs hys cZ cI u X Y) [(cZ, .boolean), (cI, .int)] [.ref hm, .int (nI (a))] (f_M_stepX u X Y a) := by
  refine pMet rfl (fun p e s m below meth c S hr hlk hP hK ls hl => ?_) (Nat.le_of_ble_eq_true rfl)
  have hx := S.1
  have hb := S.2.1
  have hl : lv_has ls 2 [(0, .ref hm), (1, .int (nI (a)))] := hl
  refine lv_aload_n hx hb d_M_stepX_0 rfl (lv_at hl 0 rfl) ?_
  refine rget S hK hP 0 rfl rfl in_M 1 (by decide) kF_M_15 rfl d_M_stepX_1 ?_
  refine lv_iload_n hx hb d_M_stepX_4 rfl (lv_at hl 1 rfl) ?_
  refine lv_iconst (v := 1) hx hb d_M_stepX_5 (by decide) ?_
  refine lv_ixor hx hb d_M_stepX_6 ?_
  refine rtop (y := nI (tw a)) (nI_xor1 (a) (by omega)) ?_
  refine riald (j := tw a) S hK hP 2 1 rfl rfl (tw_lt (by omega)) (by first | decide | omega) d_M_stepX_7 ?_
  refine lv_aload_n hx hb d_M_stepX_8 rfl (lv_at hl 0 rfl) ?_
  refine rget S hK hP 0 rfl rfl in_M 1 (by decide) kF_M_15 rfl d_M_stepX_9 ?_
  refine lv_iload_n hx hb d_M_stepX_12 rfl (lv_at hl 1 rfl) ?_
  refine riald (j := a) S hK hP 2 1 rfl rfl (by omega) (by first | decide | omega) d_M_stepX_13 ?_
  refine lv_isub hx hb d_M_stepX_14 ?_
  exact rret S hr hlk (v := (X (tw a) - X a)) (show f_M_stepX u X Y a = (X (tw a) - X a) from rfl).symm d_M_stepX_15
def f_M_stepY (u : Nat → Bool) (X : Nat → Int32) (Y : Nat → Int32) (a : Nat) : Int32 := (Y (tw a) - Y a)
theorem i_M_stepY : inV y_M_stepY b_M_stepY 2 (some .int) 1 := ⟨kM_y_M_stepY, kV_y_M_stepY, kI_M, kY_y_M_stepY, by decide +kernel⟩
set_option maxHeartbeats 4000000 in
set_option maxRecDepth 100000 in
theorem c_M_stepY (l : Launch) (D : va_G) (hm hu hxs hys : Nat) (cZ cI : ClassId) (u : Nat → Bool) (X Y : Nat → Int32) (a : Nat) (ha : a < 40)  : PM l y_M_stepY b_M_stepY 2 (some .int) 0 0 D (mapW hm hu hxs hys cZ cI u X Y) [(cZ, .boolean), (cI, .int)] [.ref hm, .int (nI (a))] (f_M_stepY u X Y a) := by
  refine pMet rfl (fun p e s m below meth c S hr hlk hP hK ls hl => ?_) (Nat.le_of_ble_eq_true rfl)
  have hx := S.1
  have hb := S.2.1
  have hl : lv_has ls 2 [(0, .ref hm), (1, .int (nI (a)))] := hl
  refine lv_aload_n hx hb d_M_stepY_0 rfl (lv_at hl 0 rfl) ?_
  refine rget S hK hP 0 rfl rfl in_M 2 (by decide) kF_M_19 rfl d_M_stepY_1 ?_
  refine lv_iload_n hx hb d_M_stepY_4 rfl (lv_at hl 1 rfl) ?_
  refine lv_iconst (v := 1) hx hb d_M_stepY_5 (by decide) ?_
  refine lv_ixor hx hb d_M_stepY_6 ?_
  refine rtop (y := nI (tw a)) (nI_xor1 (a) (by omega)) ?_
  refine riald (j := tw a) S hK hP 3 1 rfl rfl (tw_lt (by omega)) (by first | decide | omega) d_M_stepY_7 ?_
  refine lv_aload_n hx hb d_M_stepY_8 rfl (lv_at hl 0 rfl) ?_
  refine rget S hK hP 0 rfl rfl in_M 2 (by decide) kF_M_19 rfl d_M_stepY_9 ?_
  refine lv_iload_n hx hb d_M_stepY_12 rfl (lv_at hl 1 rfl) ?_
  refine riald (j := a) S hK hP 3 1 rfl rfl (by omega) (by first | decide | omega) d_M_stepY_13 ?_
  refine lv_isub hx hb d_M_stepY_14 ?_
  exact rret S hr hlk (v := (Y (tw a) - Y a)) (show f_M_stepY u X Y a = (Y (tw a) - Y a) from rfl).symm d_M_stepY_15
def fx_M_leastUnusedNumber (u : Nat → Bool) (X : Nat → Int32) (Y : Nat → Int32) (k : Nat)  : Int32 := (-1)
def fb_M_leastUnusedNumber (u : Nat → Bool) (X : Nat → Int32) (Y : Nat → Int32) (rec : Nat → Int32) (k : Nat)  : Int32 := if u k = true then (rec (k + 1)) else (nI (k))
def fl_M_leastUnusedNumber (u : Nat → Bool) (X : Nat → Int32) (Y : Nat → Int32) : Nat → Nat → Int32
  | 0, k => fx_M_leastUnusedNumber u X Y k
  | n + 1, k => fb_M_leastUnusedNumber u X Y (fl_M_leastUnusedNumber u X Y n) k
def f_M_leastUnusedNumber (u : Nat → Bool) (X : Nat → Int32) (Y : Nat → Int32) : Int32 := fl_M_leastUnusedNumber u X Y 20 0
theorem i_M_leastUnusedNumber : inV y_M_leastUnusedNumber b_M_leastUnusedNumber 2 (some .int) 0 := ⟨kM_y_M_leastUnusedNumber, kV_y_M_leastUnusedNumber, kI_M, kY_y_M_leastUnusedNumber, by decide +kernel⟩
set_option maxHeartbeats 4000000 in
set_option maxRecDepth 100000 in
theorem c_M_leastUnusedNumber (l : Launch) (D : va_G) (hm hu hxs hys : Nat) (cZ cI : ClassId) (u : Nat → Bool) (X Y : Nat → Int32)    : PM l y_M_leastUnusedNumber b_M_leastUnusedNumber 2 (some .int) 0 0 D (mapW hm hu hxs hys cZ cI u X Y) [(cZ, .boolean), (cI, .int)] [.ref hm] (f_M_leastUnusedNumber u X Y) := by
  refine pMet rfl (fun p e s m below meth c S hr hlk hP hK ls hl => ?_) (Nat.le_of_ble_eq_true rfl)
  have hx := S.1
  have hb := S.2.1
  have hl : lv_has ls 2 [(0, .ref hm)] := hl
  have key : ∀ (n : Nat) (k : Nat)  (hk : k + n = 20)  (ls : Array Slot) (hl : lv_has ls 2 [(0, .ref hm), (1, .int (nI (k)))]) (hf : f_M_leastUnusedNumber u X Y = fl_M_leastUnusedNumber u X Y n k ), W p l e { frames := 0, cells := 0, slots := 0, locals := 0 } s m [.ref hm].toArray below meth c s.heap [] 0 0 (MQ below (pQ ((f_M_leastUnusedNumber u X Y))) [.ref hm].toArray s 0 0 (fun _ => False)) (F0 m 2 ls []) := by
    intro n
    induction n with
    | zero =>
      intro k  hk  ls hl hf
      refine lv_iload_n hx hb d_M_leastUnusedNumber_2 rfl (lv_at hl 1 rfl) ?_
      refine lv_bipush (v := 20) hx hb d_M_leastUnusedNumber_3 (by decide) ?_
      refine lv_icmp_ge (tgt := 25) hx hb d_M_leastUnusedNumber_5 (by decide) (fun c1 => ?_) (fun c1 => ?_)
      · have c1a : 20 ≤ k := (nI_leI (a := 20) (b := k) (by decide) (by omega)).mp c1
        refine lv_iconst (v := (-1)) hx hb d_M_leastUnusedNumber_25 (by decide) ?_
        exact rret S hr hlk (v := (-1)) (hf.trans (show fx_M_leastUnusedNumber u X Y k = (-1) from rfl)).symm d_M_leastUnusedNumber_26
      · have c1a : ¬ (20 ≤ k) := fun h => c1 ((nI_leI (a := 20) (b := k) (by decide) (by omega)).mpr h)
        omega
    | succ n ih =>
      intro k  hk  ls hl hf
      refine lv_iload_n hx hb d_M_leastUnusedNumber_2 rfl (lv_at hl 1 rfl) ?_
      refine lv_bipush (v := 20) hx hb d_M_leastUnusedNumber_3 (by decide) ?_
      refine lv_icmp_ge (tgt := 25) hx hb d_M_leastUnusedNumber_5 (by decide) (fun c2 => ?_) (fun c2 => ?_)
      · have c2a : 20 ≤ k := (nI_leI (a := 20) (b := k) (by decide) (by omega)).mp c2
        omega
      · have c2a : ¬ (20 ≤ k) := fun h => c2 ((nI_leI (a := 20) (b := k) (by decide) (by omega)).mpr h)
        refine lv_aload_n hx hb d_M_leastUnusedNumber_8 rfl (lv_at hl 0 rfl) ?_
        refine rget S hK hP 0 rfl rfl in_M 0 (by decide) kF_M_9 rfl d_M_leastUnusedNumber_9 ?_
        refine lv_iload_n hx hb d_M_leastUnusedNumber_12 rfl (lv_at hl 1 rfl) ?_
        refine rzald (j := k) S hK hP 1 0 rfl rfl (by omega) (by first | decide | omega) d_M_leastUnusedNumber_13 ?_
        refine lv_if_ne (tgt := 19) hx hb d_M_leastUnusedNumber_14 (by decide) (fun c3 => ?_) (fun c3 => ?_)
        · have c3a : u k = true := b2i_ne0.mp c3
          refine lv_iinc (v := nI (k + 1)) (lv' := [(1, .int (nI (k + 1))), (0, .ref hm)]) hx hb d_M_leastUnusedNumber_19 hl (k := 1) rfl (nI_1 (k)) (by decide) rfl (fun ls hl => ?_)
          refine lv_goto (tgt := 2) hx hb d_M_leastUnusedNumber_22 (by decide) ?_
          exact ih (k + 1) (by omega)  ls (lv_sub hl [1, 0] rfl) (hf.trans (show fb_M_leastUnusedNumber u X Y (fl_M_leastUnusedNumber u X Y n) k = (fl_M_leastUnusedNumber u X Y n (k + 1)) from by unfold fb_M_leastUnusedNumber; rw [if_pos c3a]))
        · have c3a : ¬ (u k = true) := b2n (b2i_eq0.mp c3)
          refine lv_iload_n hx hb d_M_leastUnusedNumber_17 rfl (lv_at hl 1 rfl) ?_
          exact rret S hr hlk (v := nI (k)) (hf.trans (show fb_M_leastUnusedNumber u X Y (fl_M_leastUnusedNumber u X Y n) k = (nI (k)) from by unfold fb_M_leastUnusedNumber; rw [if_neg c3a])).symm d_M_leastUnusedNumber_18
  refine lv_iconst (v := 0) hx hb d_M_leastUnusedNumber_0 (by decide) ?_
  refine lv_istore_n (lv' := [(1, .int 0), (0, .ref hm)]) hx hb d_M_leastUnusedNumber_1 rfl hl (by decide) rfl (fun ls hl => ?_)
  exact key 20 0 (by omega)  ls (lv_sub hl [1, 0] rfl) (show f_M_leastUnusedNumber u X Y = (fl_M_leastUnusedNumber u X Y 20 0) from rfl)
def f_M_cross (px : Int32) (py : Int32) (qx : Int32) (qy : Int32) : Int32 := ((px * qy) - (py * qx))
theorem i_M_cross : inS y_M_cross b_M_cross 4 (some .int) 4 := ⟨kS_y_M_cross, kI_M, kY_y_M_cross, by decide +kernel⟩
set_option maxHeartbeats 4000000 in
set_option maxRecDepth 100000 in
theorem c_M_cross (l : Launch) (D : va_G)  (px : Int32) (py : Int32) (qx : Int32) (qy : Int32)   : PM l y_M_cross b_M_cross 4 (some .int) 0 0 D ([]) [] [.int px, .int py, .int qx, .int qy] (f_M_cross px py qx qy) := by
  refine pMet rfl (fun p e s m below meth c S hr hlk hP hK ls hl => ?_) (Nat.le_of_ble_eq_true rfl)
  have hx := S.1
  have hb := S.2.1
  have hl : lv_has ls 4 [(0, .int px), (1, .int py), (2, .int qx), (3, .int qy)] := hl
  refine lv_iload_n hx hb d_M_cross_0 rfl (lv_at hl 0 rfl) ?_
  refine lv_iload_n hx hb d_M_cross_1 rfl (lv_at hl 3 rfl) ?_
  refine lv_imul hx hb d_M_cross_2 ?_
  refine lv_iload_n hx hb d_M_cross_3 rfl (lv_at hl 1 rfl) ?_
  refine lv_iload_n hx hb d_M_cross_4 rfl (lv_at hl 2 rfl) ?_
  refine lv_imul hx hb d_M_cross_5 ?_
  refine lv_isub hx hb d_M_cross_6 ?_
  exact rret S hr hlk (v := ((px * qy) - (py * qx))) (show f_M_cross px py qx qy = ((px * qy) - (py * qx)) from rfl).symm d_M_cross_7
def f_M_turnRank (dx : Int32) (dy : Int32) (px : Int32) (py : Int32) : Int32 := if ((dx * py) - (dy * px)) = 0 then (if 0 ≤ ((dx * px) + (dy * py)) then 4 else 2) else (if ((dx * py) - (dy * px)) ≤ 0 then 3 else 1)
theorem i_M_turnRank : inS y_M_turnRank b_M_turnRank 5 (some .int) 4 := ⟨kS_y_M_turnRank, kI_M, kY_y_M_turnRank, by decide +kernel⟩
set_option maxHeartbeats 4000000 in
set_option maxRecDepth 100000 in
theorem c_M_turnRank (l : Launch) (D : va_G)  (dx : Int32) (dy : Int32) (px : Int32) (py : Int32)   : PM l y_M_turnRank b_M_turnRank 5 (some .int) 0 0 D ([]) [] [.int dx, .int dy, .int px, .int py] (f_M_turnRank dx dy px py) := by
  refine pMet rfl (fun p e s m below meth c S hr hlk hP hK ls hl => ?_) (Nat.le_of_ble_eq_true rfl)
  have hx := S.1
  have hb := S.2.1
  have hl : lv_has ls 5 [(0, .int dx), (1, .int dy), (2, .int px), (3, .int py)] := hl
  refine lv_iload_n hx hb d_M_turnRank_0 rfl (lv_at hl 0 rfl) ?_
  refine lv_iload_n hx hb d_M_turnRank_1 rfl (lv_at hl 3 rfl) ?_
  refine lv_imul hx hb d_M_turnRank_2 ?_
  refine lv_iload_n hx hb d_M_turnRank_3 rfl (lv_at hl 1 rfl) ?_
  refine lv_iload_n hx hb d_M_turnRank_4 rfl (lv_at hl 2 rfl) ?_
  refine lv_imul hx hb d_M_turnRank_5 ?_
  refine lv_isub hx hb d_M_turnRank_6 ?_
  refine lv_istore (lv' := [(4, .int (((dx * py) - (dy * px)))), (0, .int dx), (1, .int dy), (2, .int px), (3, .int py)]) hx hb d_M_turnRank_7 hl (by decide) rfl (fun ls hl => ?_)
  refine lv_iload hx hb d_M_turnRank_9 (lv_at hl 0 rfl) ?_
  refine lv_if_eq (tgt := 25) hx hb d_M_turnRank_11 (by decide) (fun c1 => ?_) (fun c1 => ?_)
  · have c1a : ((dx * py) - (dy * px)) = 0 := c1
    refine lv_iload_n hx hb d_M_turnRank_25 rfl (lv_at hl 1 rfl) ?_
    refine lv_iload_n hx hb d_M_turnRank_26 rfl (lv_at hl 3 rfl) ?_
    refine lv_imul hx hb d_M_turnRank_27 ?_
    refine lv_iload_n hx hb d_M_turnRank_28 rfl (lv_at hl 2 rfl) ?_
    refine lv_iload_n hx hb d_M_turnRank_29 rfl (lv_at hl 4 rfl) ?_
    refine lv_imul hx hb d_M_turnRank_30 ?_
    refine lv_iadd hx hb d_M_turnRank_31 ?_
    refine lv_if_ge (tgt := 39) hx hb d_M_turnRank_32 (by decide) (fun c2 => ?_) (fun c2 => ?_)
    · have c2a : 0 ≤ ((dx * px) + (dy * py)) := c2
      refine lv_iconst (v := 4) hx hb d_M_turnRank_39 (by decide) ?_
      exact rret S hr hlk (v := 4) (show f_M_turnRank dx dy px py = 4 from by unfold f_M_turnRank; rw [if_pos c1a, if_pos c2a]).symm d_M_turnRank_40
    · have c2a : ¬ (0 ≤ ((dx * px) + (dy * py))) := c2
      refine lv_iconst (v := 2) hx hb d_M_turnRank_35 (by decide) ?_
      refine lv_goto (tgt := 40) hx hb d_M_turnRank_36 (by decide) ?_
      exact rret S hr hlk (v := 2) (show f_M_turnRank dx dy px py = 2 from by unfold f_M_turnRank; rw [if_pos c1a, if_neg c2a]).symm d_M_turnRank_40
  · have c1a : ¬ (((dx * py) - (dy * px)) = 0) := c1
    refine lv_iload hx hb d_M_turnRank_14 (lv_at hl 0 rfl) ?_
    refine lv_if_le (tgt := 23) hx hb d_M_turnRank_16 (by decide) (fun c3 => ?_) (fun c3 => ?_)
    · have c3a : ((dx * py) - (dy * px)) ≤ 0 := c3
      refine lv_iconst (v := 3) hx hb d_M_turnRank_23 (by decide) ?_
      exact rret S hr hlk (v := 3) (show f_M_turnRank dx dy px py = 3 from by unfold f_M_turnRank; rw [if_neg c1a, if_pos c3a]).symm d_M_turnRank_24
    · have c3a : ¬ (((dx * py) - (dy * px)) ≤ 0) := c3
      refine lv_iconst (v := 1) hx hb d_M_turnRank_19 (by decide) ?_
      refine lv_goto (tgt := 24) hx hb d_M_turnRank_20 (by decide) ?_
      exact rret S hr hlk (v := 1) (show f_M_turnRank dx dy px py = 1 from by unfold f_M_turnRank; rw [if_neg c1a, if_neg c3a]).symm d_M_turnRank_24
def f_M_sameTail (u : Nat → Bool) (X : Nat → Int32) (Y : Nat → Int32) (a : Nat) (b : Nat) : Bool := if X a = X b then (if Y a = Y b then true else false) else false
theorem i_M_sameTail : inV y_M_sameTail b_M_sameTail 3 (some .boolean) 2 := ⟨kM_y_M_sameTail, kV_y_M_sameTail, kI_M, kY_y_M_sameTail, by decide +kernel⟩
set_option maxHeartbeats 4000000 in
set_option maxRecDepth 100000 in
theorem c_M_sameTail (l : Launch) (D : va_G) (hm hu hxs hys : Nat) (cZ cI : ClassId) (u : Nat → Bool) (X Y : Nat → Int32) (a : Nat) (b : Nat) (ha : a < 40) (hb : b < 40)  : PM l y_M_sameTail b_M_sameTail 3 (some .boolean) 0 0 D (mapW hm hu hxs hys cZ cI u X Y) [(cZ, .boolean), (cI, .int)] [.ref hm, .int (nI (a)), .int (nI (b))] (b2i (f_M_sameTail u X Y a b)) := by
  refine pMet rfl (fun p e s m below meth c S hr hlk hP hK ls hl => ?_) (Nat.le_of_ble_eq_true rfl)
  have hx := S.1
  have hb := S.2.1
  have hl : lv_has ls 3 [(0, .ref hm), (1, .int (nI (a))), (2, .int (nI (b)))] := hl
  refine lv_aload_n hx hb d_M_sameTail_0 rfl (lv_at hl 0 rfl) ?_
  refine rget S hK hP 0 rfl rfl in_M 1 (by decide) kF_M_15 rfl d_M_sameTail_1 ?_
  refine lv_iload_n hx hb d_M_sameTail_4 rfl (lv_at hl 1 rfl) ?_
  refine riald (j := a) S hK hP 2 1 rfl rfl (by omega) (by first | decide | omega) d_M_sameTail_5 ?_
  refine lv_aload_n hx hb d_M_sameTail_6 rfl (lv_at hl 0 rfl) ?_
  refine rget S hK hP 0 rfl rfl in_M 1 (by decide) kF_M_15 rfl d_M_sameTail_7 ?_
  refine lv_iload_n hx hb d_M_sameTail_10 rfl (lv_at hl 2 rfl) ?_
  refine riald (j := b) S hK hP 2 1 rfl rfl (by omega) (by first | decide | omega) d_M_sameTail_11 ?_
  refine lv_icmp_ne (tgt := 34) hx hb d_M_sameTail_12 (by decide) (fun c1 => ?_) (fun c1 => ?_)
  · have c1a : ¬ (X a = X b) := c1
    refine lv_iconst (v := 0) hx hb d_M_sameTail_34 (by decide) ?_
    exact rretZ S hr hlk (v := false) (show f_M_sameTail u X Y a b = false from by unfold f_M_sameTail; rw [if_neg c1a]).symm d_M_sameTail_35
  · have c1a : X a = X b := c1
    refine lv_aload_n hx hb d_M_sameTail_15 rfl (lv_at hl 0 rfl) ?_
    refine rget S hK hP 0 rfl rfl in_M 2 (by decide) kF_M_19 rfl d_M_sameTail_16 ?_
    refine lv_iload_n hx hb d_M_sameTail_19 rfl (lv_at hl 1 rfl) ?_
    refine riald (j := a) S hK hP 3 1 rfl rfl (by omega) (by first | decide | omega) d_M_sameTail_20 ?_
    refine lv_aload_n hx hb d_M_sameTail_21 rfl (lv_at hl 0 rfl) ?_
    refine rget S hK hP 0 rfl rfl in_M 2 (by decide) kF_M_19 rfl d_M_sameTail_22 ?_
    refine lv_iload_n hx hb d_M_sameTail_25 rfl (lv_at hl 2 rfl) ?_
    refine riald (j := b) S hK hP 3 1 rfl rfl (by omega) (by first | decide | omega) d_M_sameTail_26 ?_
    refine lv_icmp_ne (tgt := 34) hx hb d_M_sameTail_27 (by decide) (fun c2 => ?_) (fun c2 => ?_)
    · have c2a : ¬ (Y a = Y b) := c2
      refine lv_iconst (v := 0) hx hb d_M_sameTail_34 (by decide) ?_
      exact rretZ S hr hlk (v := false) (show f_M_sameTail u X Y a b = false from by unfold f_M_sameTail; rw [if_pos c1a, if_neg c2a]).symm d_M_sameTail_35
    · have c2a : Y a = Y b := c2
      refine lv_iconst (v := 1) hx hb d_M_sameTail_30 (by decide) ?_
      refine lv_goto (tgt := 35) hx hb d_M_sameTail_31 (by decide) ?_
      exact rretZ S hr hlk (v := true) (show f_M_sameTail u X Y a b = true from by unfold f_M_sameTail; rw [if_pos c1a, if_pos c2a]).symm d_M_sameTail_35
def f_M_leftness (u : Nat → Bool) (X : Nat → Int32) (Y : Nat → Int32) (k : Nat) (x : Int32) (y : Int32) : Int32 := (f_M_cross (f_M_stepX u X Y (2 * k)) (f_M_stepY u X Y (2 * k)) (x - X (2 * k)) (y - Y (2 * k)))
theorem i_M_leftness : inV y_M_leftness b_M_leftness 5 (some .int) 3 := ⟨kM_y_M_leftness, kV_y_M_leftness, kI_M, kY_y_M_leftness, by decide +kernel⟩
set_option maxHeartbeats 4000000 in
set_option maxRecDepth 100000 in
theorem c_M_leftness (l : Launch) (D : va_G) (hm hu hxs hys : Nat) (cZ cI : ClassId) (u : Nat → Bool) (X Y : Nat → Int32) (k : Nat) (x : Int32) (y : Int32) (hk : k < 20)  : PM l y_M_leftness b_M_leftness 5 (some .int) 1 23 D (mapW hm hu hxs hys cZ cI u X Y) [(cZ, .boolean), (cI, .int)] [.ref hm, .int (nI (k)), .int x, .int y] (f_M_leftness u X Y k x y) := by
  refine pMet rfl (fun p e s m below meth c S hr hlk hP hK ls hl => ?_) (Nat.le_of_ble_eq_true rfl)
  have hx := S.1
  have hb := S.2.1
  have hl : lv_has ls 5 [(0, .ref hm), (1, .int (nI (k))), (2, .int x), (3, .int y)] := hl
  refine lv_iconst (v := 2) hx hb d_M_leftness_0 (by decide) ?_
  refine lv_iload_n hx hb d_M_leftness_1 rfl (lv_at hl 1 rfl) ?_
  refine lv_imul hx hb d_M_leftness_2 ?_
  refine rtop (y := nI (2 * k)) (pk_mul (2) (k)) ?_
  refine lv_istore (lv' := [(4, .int (nI (2 * k))), (0, .ref hm), (1, .int (nI (k))), (2, .int x), (3, .int y)]) hx hb d_M_leftness_3 hl (by decide) rfl (fun ls hl => ?_)
  refine lv_aload_n hx hb d_M_leftness_5 rfl (lv_at hl 1 rfl) ?_
  refine lv_iload hx hb d_M_leftness_6 (lv_at hl 0 rfl) ?_
  refine rcallV (rest := []) (v := (f_M_stepX u X Y (2 * k))) S [.int (nI (2 * k))] hK hP [0, 1, 2, 3] rfl [0, 1] rfl (c_M_stepX l D hm hu hxs hys cZ cI u X Y (2 * k) (by omega)) i_M_stepX kL_M_46 ⟨Nat.le_of_ble_eq_true rfl, Nat.le_of_ble_eq_true rfl⟩ (by exact ⟨Nat.zero_le _, Nat.zero_le _⟩) (q0 := 0) (ci := 1) rfl rfl rfl hl.1 rfl (Nat.le_of_ble_eq_true rfl) d_M_leftness_8 ?_
  refine lv_aload_n hx hb d_M_leftness_11 rfl (lv_at hl 1 rfl) ?_
  refine lv_iload hx hb d_M_leftness_12 (lv_at hl 0 rfl) ?_
  refine rcallV (rest := [.int ((f_M_stepX u X Y (2 * k)))]) (v := (f_M_stepY u X Y (2 * k))) S [.int (nI (2 * k))] hK hP [0, 1, 2, 3] rfl [0, 1] rfl (c_M_stepY l D hm hu hxs hys cZ cI u X Y (2 * k) (by omega)) i_M_stepY kL_M_50 ⟨Nat.le_of_ble_eq_true rfl, Nat.le_of_ble_eq_true rfl⟩ (by exact ⟨Nat.zero_le _, Nat.zero_le _⟩) (q0 := 0) (ci := 1) rfl rfl rfl hl.1 rfl (Nat.le_of_ble_eq_true rfl) d_M_leftness_14 ?_
  refine lv_iload_n hx hb d_M_leftness_17 rfl (lv_at hl 3 rfl) ?_
  refine lv_aload_n hx hb d_M_leftness_18 rfl (lv_at hl 1 rfl) ?_
  refine rget S hK hP 0 rfl rfl in_M 1 (by decide) kF_M_15 rfl d_M_leftness_19 ?_
  refine lv_iload hx hb d_M_leftness_22 (lv_at hl 0 rfl) ?_
  refine riald (j := 2 * k) S hK hP 2 1 rfl rfl (by omega) (by first | decide | omega) d_M_leftness_24 ?_
  refine lv_isub hx hb d_M_leftness_25 ?_
  refine lv_iload_n hx hb d_M_leftness_26 rfl (lv_at hl 4 rfl) ?_
  refine lv_aload_n hx hb d_M_leftness_27 rfl (lv_at hl 1 rfl) ?_
  refine rget S hK hP 0 rfl rfl in_M 2 (by decide) kF_M_19 rfl d_M_leftness_28 ?_
  refine lv_iload hx hb d_M_leftness_31 (lv_at hl 0 rfl) ?_
  refine riald (j := 2 * k) S hK hP 3 1 rfl rfl (by omega) (by first | decide | omega) d_M_leftness_33 ?_
  refine lv_isub hx hb d_M_leftness_34 ?_
  refine rcallS (rest := []) (v := (f_M_cross (f_M_stepX u X Y (2 * k)) (f_M_stepY u X Y (2 * k)) (x - X (2 * k)) (y - Y (2 * k)))) S [.int ((f_M_stepX u X Y (2 * k))), .int ((f_M_stepY u X Y (2 * k))), .int ((x - X (2 * k))), .int ((y - Y (2 * k)))] hK hP [] rfl [] rfl (c_M_cross l D  (f_M_stepX u X Y (2 * k)) (f_M_stepY u X Y (2 * k)) (x - X (2 * k)) (y - Y (2 * k)) ) i_M_cross rfl kL_M_53 ⟨Nat.le_of_ble_eq_true rfl, Nat.le_of_ble_eq_true rfl⟩ (by exact ⟨Nat.zero_le _, Nat.zero_le _⟩) hl.1 rfl (Nat.le_of_ble_eq_true rfl) d_M_leftness_35 ?_
  exact rret S hr hlk (v := (f_M_cross (f_M_stepX u X Y (2 * k)) (f_M_stepY u X Y (2 * k)) (x - X (2 * k)) (y - Y (2 * k)))) (show f_M_leftness u X Y k x y = (f_M_cross (f_M_stepX u X Y (2 * k)) (f_M_stepY u X Y (2 * k)) (x - X (2 * k)) (y - Y (2 * k))) from rfl).symm d_M_leftness_38
def f_M_isInside (u : Nat → Bool) (X : Nat → Int32) (Y : Nat → Int32) (k : Nat) (x : Int32) (y : Int32) : Bool := if (f_M_leftness u X Y k x y) = 0 then (if 0 ≤ (((X (2 * k) - x) * (X ((2 * k) + 1) - x)) + ((Y (2 * k) - y) * (Y ((2 * k) + 1) - y))) then false else true) else false
theorem i_M_isInside : inV y_M_isInside b_M_isInside 6 (some .boolean) 3 := ⟨kM_y_M_isInside, kV_y_M_isInside, kI_M, kY_y_M_isInside, by decide +kernel⟩
set_option maxHeartbeats 4000000 in
set_option maxRecDepth 100000 in
theorem c_M_isInside (l : Launch) (D : va_G) (hm hu hxs hys : Nat) (cZ cI : ClassId) (u : Nat → Bool) (X Y : Nat → Int32) (k : Nat) (x : Int32) (y : Int32) (hk : k < 20)  : PM l y_M_isInside b_M_isInside 6 (some .boolean) 2 47 D (mapW hm hu hxs hys cZ cI u X Y) [(cZ, .boolean), (cI, .int)] [.ref hm, .int (nI (k)), .int x, .int y] (b2i (f_M_isInside u X Y k x y)) := by
  refine pMet rfl (fun p e s m below meth c S hr hlk hP hK ls hl => ?_) (Nat.le_of_ble_eq_true rfl)
  have hx := S.1
  have hb := S.2.1
  have hl : lv_has ls 6 [(0, .ref hm), (1, .int (nI (k))), (2, .int x), (3, .int y)] := hl
  refine lv_iconst (v := 2) hx hb d_M_isInside_0 (by decide) ?_
  refine lv_iload_n hx hb d_M_isInside_1 rfl (lv_at hl 1 rfl) ?_
  refine lv_imul hx hb d_M_isInside_2 ?_
  refine rtop (y := nI (2 * k)) (pk_mul (2) (k)) ?_
  refine lv_istore (lv' := [(4, .int (nI (2 * k))), (0, .ref hm), (1, .int (nI (k))), (2, .int x), (3, .int y)]) hx hb d_M_isInside_3 hl (by decide) rfl (fun ls hl => ?_)
  refine lv_iconst (v := 2) hx hb d_M_isInside_5 (by decide) ?_
  refine lv_iload_n hx hb d_M_isInside_6 rfl (lv_at hl 2 rfl) ?_
  refine lv_imul hx hb d_M_isInside_7 ?_
  refine rtop (y := nI (2 * k)) (pk_mul (2) (k)) ?_
  refine lv_iconst (v := 1) hx hb d_M_isInside_8 (by decide) ?_
  refine lv_iadd hx hb d_M_isInside_9 ?_
  refine rtop (y := nI ((2 * k) + 1)) (nI_add (2 * k) (1)) ?_
  refine lv_istore (lv' := [(5, .int (nI ((2 * k) + 1))), (4, .int (nI (2 * k))), (0, .ref hm), (1, .int (nI (k))), (2, .int x), (3, .int y)]) hx hb d_M_isInside_10 hl (by decide) rfl (fun ls hl => ?_)
  refine lv_aload_n hx hb d_M_isInside_12 rfl (lv_at hl 2 rfl) ?_
  refine lv_iload_n hx hb d_M_isInside_13 rfl (lv_at hl 3 rfl) ?_
  refine lv_iload_n hx hb d_M_isInside_14 rfl (lv_at hl 4 rfl) ?_
  refine lv_iload_n hx hb d_M_isInside_15 rfl (lv_at hl 5 rfl) ?_
  refine rcallV (rest := []) (v := (f_M_leftness u X Y k x y)) S [.int (nI (k)), .int x, .int y] hK hP [0, 1, 2, 3] rfl [0, 1] rfl (c_M_leftness l D hm hu hxs hys cZ cI u X Y k x y (by omega)) i_M_leftness kL_M_42 ⟨Nat.le_of_ble_eq_true rfl, Nat.le_of_ble_eq_true rfl⟩ (by exact ⟨Nat.zero_le _, Nat.zero_le _⟩) (q0 := 0) (ci := 1) rfl rfl rfl hl.1 rfl (Nat.le_of_ble_eq_true rfl) d_M_isInside_16 ?_
  refine lv_if_ne (tgt := 68) hx hb d_M_isInside_19 (by decide) (fun c1 => ?_) (fun c1 => ?_)
  · have c1a : ¬ ((f_M_leftness u X Y k x y) = 0) := c1
    refine lv_iconst (v := 0) hx hb d_M_isInside_68 (by decide) ?_
    exact rretZ S hr hlk (v := false) (show f_M_isInside u X Y k x y = false from by unfold f_M_isInside; rw [if_neg c1a]).symm d_M_isInside_69
  · have c1a : (f_M_leftness u X Y k x y) = 0 := c1
    refine lv_aload_n hx hb d_M_isInside_22 rfl (lv_at hl 2 rfl) ?_
    refine rget S hK hP 0 rfl rfl in_M 1 (by decide) kF_M_15 rfl d_M_isInside_23 ?_
    refine lv_iload hx hb d_M_isInside_26 (lv_at hl 1 rfl) ?_
    refine riald (j := 2 * k) S hK hP 2 1 rfl rfl (by omega) (by first | decide | omega) d_M_isInside_28 ?_
    refine lv_iload_n hx hb d_M_isInside_29 rfl (lv_at hl 4 rfl) ?_
    refine lv_isub hx hb d_M_isInside_30 ?_
    refine lv_aload_n hx hb d_M_isInside_31 rfl (lv_at hl 2 rfl) ?_
    refine rget S hK hP 0 rfl rfl in_M 1 (by decide) kF_M_15 rfl d_M_isInside_32 ?_
    refine lv_iload hx hb d_M_isInside_35 (lv_at hl 0 rfl) ?_
    refine riald (j := (2 * k) + 1) S hK hP 2 1 rfl rfl (by omega) (by first | decide | omega) d_M_isInside_37 ?_
    refine lv_iload_n hx hb d_M_isInside_38 rfl (lv_at hl 4 rfl) ?_
    refine lv_isub hx hb d_M_isInside_39 ?_
    refine lv_imul hx hb d_M_isInside_40 ?_
    refine lv_aload_n hx hb d_M_isInside_41 rfl (lv_at hl 2 rfl) ?_
    refine rget S hK hP 0 rfl rfl in_M 2 (by decide) kF_M_19 rfl d_M_isInside_42 ?_
    refine lv_iload hx hb d_M_isInside_45 (lv_at hl 1 rfl) ?_
    refine riald (j := 2 * k) S hK hP 3 1 rfl rfl (by omega) (by first | decide | omega) d_M_isInside_47 ?_
    refine lv_iload_n hx hb d_M_isInside_48 rfl (lv_at hl 5 rfl) ?_
    refine lv_isub hx hb d_M_isInside_49 ?_
    refine lv_aload_n hx hb d_M_isInside_50 rfl (lv_at hl 2 rfl) ?_
    refine rget S hK hP 0 rfl rfl in_M 2 (by decide) kF_M_19 rfl d_M_isInside_51 ?_
    refine lv_iload hx hb d_M_isInside_54 (lv_at hl 0 rfl) ?_
    refine riald (j := (2 * k) + 1) S hK hP 3 1 rfl rfl (by omega) (by first | decide | omega) d_M_isInside_56 ?_
    refine lv_iload_n hx hb d_M_isInside_57 rfl (lv_at hl 5 rfl) ?_
    refine lv_isub hx hb d_M_isInside_58 ?_
    refine lv_imul hx hb d_M_isInside_59 ?_
    refine lv_iadd hx hb d_M_isInside_60 ?_
    refine lv_if_ge (tgt := 68) hx hb d_M_isInside_61 (by decide) (fun c2 => ?_) (fun c2 => ?_)
    · have c2a : 0 ≤ (((X (2 * k) - x) * (X ((2 * k) + 1) - x)) + ((Y (2 * k) - y) * (Y ((2 * k) + 1) - y))) := c2
      refine lv_iconst (v := 0) hx hb d_M_isInside_68 (by decide) ?_
      exact rretZ S hr hlk (v := false) (show f_M_isInside u X Y k x y = false from by unfold f_M_isInside; rw [if_pos c1a, if_pos c2a]).symm d_M_isInside_69
    · have c2a : ¬ (0 ≤ (((X (2 * k) - x) * (X ((2 * k) + 1) - x)) + ((Y (2 * k) - y) * (Y ((2 * k) + 1) - y)))) := c2
      refine lv_iconst (v := 1) hx hb d_M_isInside_64 (by decide) ?_
      refine lv_goto (tgt := 69) hx hb d_M_isInside_65 (by decide) ?_
      exact rretZ S hr hlk (v := true) (show f_M_isInside u X Y k x y = true from by unfold f_M_isInside; rw [if_pos c1a, if_neg c2a]).symm d_M_isInside_69
