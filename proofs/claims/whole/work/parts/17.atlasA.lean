abbrev atlW (h0 hm hu hxs hys hg1 hl1 hg2 hl2 : Nat) (cZ cI : ClassId) (u : Nat → Bool) (X Y : Nat → Int32) (L1 L2 : Nat → Nat) : va_W := [(h0, .inr (2, [.ref hm, .ref hg1, .ref hg2])), (hm, .inr (1, [.ref hu, .ref hxs, .ref hys])), (hu, .inl (cZ, 20, .inl (fun z9 => b2i (u z9)))), (hxs, .inl (cI, 40, .inl X)), (hys, .inl (cI, 40, .inl Y)), (hg1, .inr (0, [.ref hl1])), (hl1, .inl (cI, 41, .inl (fun z9 => nI (L1 z9)))), (hg2, .inr (0, [.ref hl2])), (hl2, .inl (cI, 20, .inl (fun z9 => nI (L2 z9))))]
def f_A_isNearby (x : Int32) (y : Int32) : Bool := if x < (-100) then false else (if 100 < x then false else (if y < (-100) then false else (if 100 < y then false else true)))
theorem i_A_isNearby : inS y_A_isNearby b_A_isNearby 2 (some .boolean) 2 := ⟨kS_y_A_isNearby, kI_A, kY_y_A_isNearby, by decide +kernel⟩
set_option maxHeartbeats 4000000 in
set_option maxRecDepth 100000 in
theorem c_A_isNearby (l : Launch) (D : va_G)  (x : Int32) (y : Int32)   : PM l y_A_isNearby b_A_isNearby 2 (some .boolean) 0 0 D ([]) [] [.int x, .int y] (b2i (f_A_isNearby x y)) := by
  refine pMet rfl (fun p e s m below meth c S hr hlk hP hK ls hl => ?_) (Nat.le_of_ble_eq_true rfl)
  have hx := S.1
  have hb := S.2.1
  have hl : lv_has ls 2 [(0, .int x), (1, .int y)] := hl
  refine lv_iload_n hx hb d_A_isNearby_0 rfl (lv_at hl 0 rfl) ?_
  refine lv_bipush (v := (-100)) hx hb d_A_isNearby_1 (by decide) ?_
  refine lv_icmp_lt (tgt := 28) hx hb d_A_isNearby_3 (by decide) (fun c1 => ?_) (fun c1 => ?_)
  · have c1a : x < (-100) := c1
    refine lv_iconst (v := 0) hx hb d_A_isNearby_28 (by decide) ?_
    exact rretZ S hr hlk (v := false) (show f_A_isNearby x y = false from by unfold f_A_isNearby; rw [if_pos c1a]).symm d_A_isNearby_29
  · have c1a : ¬ (x < (-100)) := c1
    refine lv_iload_n hx hb d_A_isNearby_6 rfl (lv_at hl 0 rfl) ?_
    refine lv_bipush (v := 100) hx hb d_A_isNearby_7 (by decide) ?_
    refine lv_icmp_gt (tgt := 28) hx hb d_A_isNearby_9 (by decide) (fun c2 => ?_) (fun c2 => ?_)
    · have c2a : 100 < x := c2
      refine lv_iconst (v := 0) hx hb d_A_isNearby_28 (by decide) ?_
      exact rretZ S hr hlk (v := false) (show f_A_isNearby x y = false from by unfold f_A_isNearby; rw [if_neg c1a, if_pos c2a]).symm d_A_isNearby_29
    · have c2a : ¬ (100 < x) := c2
      refine lv_iload_n hx hb d_A_isNearby_12 rfl (lv_at hl 1 rfl) ?_
      refine lv_bipush (v := (-100)) hx hb d_A_isNearby_13 (by decide) ?_
      refine lv_icmp_lt (tgt := 28) hx hb d_A_isNearby_15 (by decide) (fun c3 => ?_) (fun c3 => ?_)
      · have c3a : y < (-100) := c3
        refine lv_iconst (v := 0) hx hb d_A_isNearby_28 (by decide) ?_
        exact rretZ S hr hlk (v := false) (show f_A_isNearby x y = false from by unfold f_A_isNearby; rw [if_neg c1a, if_neg c2a, if_pos c3a]).symm d_A_isNearby_29
      · have c3a : ¬ (y < (-100)) := c3
        refine lv_iload_n hx hb d_A_isNearby_18 rfl (lv_at hl 1 rfl) ?_
        refine lv_bipush (v := 100) hx hb d_A_isNearby_19 (by decide) ?_
        refine lv_icmp_gt (tgt := 28) hx hb d_A_isNearby_21 (by decide) (fun c4 => ?_) (fun c4 => ?_)
        · have c4a : 100 < y := c4
          refine lv_iconst (v := 0) hx hb d_A_isNearby_28 (by decide) ?_
          exact rretZ S hr hlk (v := false) (show f_A_isNearby x y = false from by unfold f_A_isNearby; rw [if_neg c1a, if_neg c2a, if_neg c3a, if_pos c4a]).symm d_A_isNearby_29
        · have c4a : ¬ (100 < y) := c4
          refine lv_iconst (v := 1) hx hb d_A_isNearby_24 (by decide) ?_
          refine lv_goto (tgt := 29) hx hb d_A_isNearby_25 (by decide) ?_
          exact rretZ S hr hlk (v := true) (show f_A_isNearby x y = true from by unfold f_A_isNearby; rw [if_neg c1a, if_neg c2a, if_neg c3a, if_neg c4a]).symm d_A_isNearby_29
def f_A_sideSeenFrom (u : Nat → Bool) (X : Nat → Int32) (Y : Nat → Int32) (L1 : Nat → Nat) (L2 : Nat → Nat) (x : Int32) (y : Int32) : Int32 := if f_A_isNearby x y = true then (if 0 < (f_M_endsAt u X Y x y) then (-1) else (if (f_M_segmentAround u X Y x y) = (-1) then (nI (f_M_sideAbove u X Y x y)) else (-1))) else (-2)
theorem i_A_sideSeenFrom : inV y_A_sideSeenFrom b_A_sideSeenFrom 3 (some .int) 2 := ⟨kM_y_A_sideSeenFrom, kV_y_A_sideSeenFrom, kI_A, kY_y_A_sideSeenFrom, by decide +kernel⟩
set_option maxHeartbeats 4000000 in
set_option maxRecDepth 100000 in
theorem c_A_sideSeenFrom (l : Launch) (D : va_G) (h0 hm hu hxs hys hg1 hl1 hg2 hl2 : Nat) (cZ cI : ClassId) (u : Nat → Bool) (X Y : Nat → Int32) (L1 L2 : Nat → Nat) (x : Int32) (y : Int32)   : PM l y_A_sideSeenFrom b_A_sideSeenFrom 3 (some .int) 4 100 D (atlW h0 hm hu hxs hys hg1 hl1 hg2 hl2 cZ cI u X Y L1 L2) [(cZ, .boolean), (cI, .int)] [.ref h0, .int x, .int y] (f_A_sideSeenFrom u X Y L1 L2 x y) := by
  refine pMet rfl (fun p e s m below meth c S hr hlk hP hK ls hl => ?_) (Nat.le_of_ble_eq_true rfl)
  have hx := S.1
  have hb := S.2.1
  have hl : lv_has ls 3 [(0, .ref h0), (1, .int x), (2, .int y)] := hl
  refine lv_iload_n hx hb d_A_sideSeenFrom_0 rfl (lv_at hl 1 rfl) ?_
  refine lv_iload_n hx hb d_A_sideSeenFrom_1 rfl (lv_at hl 2 rfl) ?_
  refine rcallS (rest := []) (v := b2i (f_A_isNearby x y)) S [.int x, .int y] hK hP [] rfl [] rfl (c_A_isNearby l D  x y ) i_A_isNearby rfl kL_A_28 ⟨Nat.le_of_ble_eq_true rfl, Nat.le_of_ble_eq_true rfl⟩ (by exact ⟨Nat.zero_le _, Nat.zero_le _⟩) hl.1 rfl (Nat.le_of_ble_eq_true rfl) d_A_sideSeenFrom_2 ?_
  refine lv_if_ne (tgt := 11) hx hb d_A_sideSeenFrom_5 (by decide) (fun c1 => ?_) (fun c1 => ?_)
  · have c1a : f_A_isNearby x y = true := b2i_ne0.mp c1
    refine lv_aload_n hx hb d_A_sideSeenFrom_11 rfl (lv_at hl 0 rfl) ?_
    refine rget S hK hP 0 rfl rfl in_A 0 (by decide) kF_A_12 rfl d_A_sideSeenFrom_12 ?_
    refine lv_iload_n hx hb d_A_sideSeenFrom_15 rfl (lv_at hl 1 rfl) ?_
    refine lv_iload_n hx hb d_A_sideSeenFrom_16 rfl (lv_at hl 2 rfl) ?_
    refine rcallV (rest := []) (v := nI (f_M_endsAt u X Y x y)) S [.int x, .int y] hK hP [1, 2, 3, 4] rfl [0, 1] rfl (c_M_endsAt l D hm hu hxs hys cZ cI u X Y x y ) i_M_endsAt kL_A_64 ⟨Nat.le_of_ble_eq_true rfl, Nat.le_of_ble_eq_true rfl⟩ (by exact ⟨Nat.zero_le _, Nat.zero_le _⟩) (q0 := 0) (ci := 1) rfl rfl rfl hl.1 rfl (Nat.le_of_ble_eq_true rfl) d_A_sideSeenFrom_17 ?_
    have hea := endsAt_le u X Y x y
    refine lv_if_gt (tgt := 36) hx hb d_A_sideSeenFrom_20 (by decide) (fun c2 => ?_) (fun c2 => ?_)
    · have c2a : 0 < (f_M_endsAt u X Y x y) := (nI_ltI (a := 0) (b := f_M_endsAt u X Y x y) (by decide) (by omega)).mp c2
      refine lv_iconst (v := (-1)) hx hb d_A_sideSeenFrom_36 (by decide) ?_
      exact rret S hr hlk (v := (-1)) (show f_A_sideSeenFrom u X Y L1 L2 x y = (-1) from by unfold f_A_sideSeenFrom; rw [if_pos c1a, if_pos c2a]).symm d_A_sideSeenFrom_37
    · have c2a : ¬ (0 < (f_M_endsAt u X Y x y)) := fun h => c2 ((nI_ltI (a := 0) (b := f_M_endsAt u X Y x y) (by decide) (by omega)).mpr h)
      refine lv_aload_n hx hb d_A_sideSeenFrom_23 rfl (lv_at hl 0 rfl) ?_
      refine rget S hK hP 0 rfl rfl in_A 0 (by decide) kF_A_12 rfl d_A_sideSeenFrom_24 ?_
      refine lv_iload_n hx hb d_A_sideSeenFrom_27 rfl (lv_at hl 1 rfl) ?_
      refine lv_iload_n hx hb d_A_sideSeenFrom_28 rfl (lv_at hl 2 rfl) ?_
      refine rcallV (rest := []) (v := (f_M_segmentAround u X Y x y)) S [.int x, .int y] hK hP [1, 2, 3, 4] rfl [0, 1] rfl (c_M_segmentAround l D hm hu hxs hys cZ cI u X Y x y ) i_M_segmentAround kL_A_68 ⟨Nat.le_of_ble_eq_true rfl, Nat.le_of_ble_eq_true rfl⟩ (by exact ⟨Nat.zero_le _, Nat.zero_le _⟩) (q0 := 0) (ci := 1) rfl rfl rfl hl.1 rfl (Nat.le_of_ble_eq_true rfl) d_A_sideSeenFrom_29 ?_
      refine lv_iconst (v := (-1)) hx hb d_A_sideSeenFrom_32 (by decide) ?_
      refine lv_icmp_eq (tgt := 38) hx hb d_A_sideSeenFrom_33 (by decide) (fun c3 => ?_) (fun c3 => ?_)
      · have c3a : (f_M_segmentAround u X Y x y) = (-1) := c3
        refine lv_aload_n hx hb d_A_sideSeenFrom_38 rfl (lv_at hl 0 rfl) ?_
        refine rget S hK hP 0 rfl rfl in_A 0 (by decide) kF_A_12 rfl d_A_sideSeenFrom_39 ?_
        refine lv_iload_n hx hb d_A_sideSeenFrom_42 rfl (lv_at hl 1 rfl) ?_
        refine lv_iload_n hx hb d_A_sideSeenFrom_43 rfl (lv_at hl 2 rfl) ?_
        refine rcallV (rest := []) (v := nI (f_M_sideAbove u X Y x y)) S [.int x, .int y] hK hP [1, 2, 3, 4] rfl [0, 1] rfl (c_M_sideAbove l D hm hu hxs hys cZ cI u X Y x y ) i_M_sideAbove kL_A_83 ⟨Nat.le_of_ble_eq_true rfl, Nat.le_of_ble_eq_true rfl⟩ (by exact ⟨Nat.zero_le _, Nat.zero_le _⟩) (q0 := 0) (ci := 1) rfl rfl rfl hl.1 rfl (Nat.le_of_ble_eq_true rfl) d_A_sideSeenFrom_44 ?_
        have hsa := sideAbove_lt u X Y x y
        exact rret S hr hlk (v := nI (f_M_sideAbove u X Y x y)) (show f_A_sideSeenFrom u X Y L1 L2 x y = (nI (f_M_sideAbove u X Y x y)) from by unfold f_A_sideSeenFrom; rw [if_pos c1a, if_neg c2a, if_pos c3a]).symm d_A_sideSeenFrom_47
      · have c3a : ¬ ((f_M_segmentAround u X Y x y) = (-1)) := c3
        refine lv_iconst (v := (-1)) hx hb d_A_sideSeenFrom_36 (by decide) ?_
        exact rret S hr hlk (v := (-1)) (show f_A_sideSeenFrom u X Y L1 L2 x y = (-1) from by unfold f_A_sideSeenFrom; rw [if_pos c1a, if_neg c2a, if_neg c3a]).symm d_A_sideSeenFrom_37
  · have c1a : ¬ (f_A_isNearby x y = true) := b2n (b2i_eq0.mp c1)
    refine lv_bipush (v := (-2)) hx hb d_A_sideSeenFrom_8 (by decide) ?_
    exact rret S hr hlk (v := (-2)) (show f_A_sideSeenFrom u X Y L1 L2 x y = (-2) from by unfold f_A_sideSeenFrom; rw [if_neg c1a]).symm d_A_sideSeenFrom_10
theorem seen_ok (u : Nat → Bool) (X Y : Nat → Int32) (L1 L2 : Nat → Nat) (x y : Int32) : f_A_sideSeenFrom u X Y L1 L2 x y = -2 ∨ f_A_sideSeenFrom u X Y L1 L2 x y = -1 ∨ ∃ j : Nat, j < 41 ∧ f_A_sideSeenFrom u X Y L1 L2 x y = nI j := by
  unfold f_A_sideSeenFrom
  repeat' split
  all_goals first
    | exact Or.inl rfl
    | exact Or.inr (Or.inl rfl)
    | exact Or.inr (Or.inr ⟨_, sideAbove_lt _ _ _ _ _, rfl⟩)
theorem seen_both {u : Nat → Bool} {X Y : Nat → Int32} {L1 L2 : Nat → Nat} {x y : Int32} (h : ¬ f_A_sideSeenFrom u X Y L1 L2 x y < 0) : f_A_sideSeenFrom u X Y L1 L2 x y = nI (f_A_sideSeenFrom u X Y L1 L2 x y).toNatClampNeg ∧ (f_A_sideSeenFrom u X Y L1 L2 x y).toNatClampNeg < 41 := by
  rcases seen_ok u X Y L1 L2 x y with e | e | ⟨j, hj, e⟩
  · rw [e] at h; exact absurd (by decide) h
  · rw [e] at h; exact absurd (by decide) h
  · rw [e, nI_clamp (by omega)]; exact ⟨rfl, hj⟩
theorem seen_nat2 {u : Nat → Bool} {X Y : Nat → Int32} {L1 L2 : Nat → Nat} {x y : Int32} (h : ¬ f_A_sideSeenFrom u X Y L1 L2 x y < 0) : f_A_sideSeenFrom u X Y L1 L2 x y = nI (f_A_sideSeenFrom u X Y L1 L2 x y).toNatClampNeg := (seen_both h).1
theorem seen_lt2 {u : Nat → Bool} {X Y : Nat → Int32} {L1 L2 : Nat → Nat} {x y : Int32} (h : ¬ f_A_sideSeenFrom u X Y L1 L2 x y < 0) : (f_A_sideSeenFrom u X Y L1 L2 x y).toNatClampNeg < 41 := (seen_both h).2
theorem nlt_of_le {a b : Int32} (h : a ≤ b) : ¬ b < a := by rw [Int32.lt_iff_toInt_lt]; rw [Int32.le_iff_toInt_le] at h; omega
theorem seen_nat {u : Nat → Bool} {X Y : Nat → Int32} {L1 L2 : Nat → Nat} {x y : Int32} (h : 0 ≤ f_A_sideSeenFrom u X Y L1 L2 x y) : f_A_sideSeenFrom u X Y L1 L2 x y = nI (f_A_sideSeenFrom u X Y L1 L2 x y).toNatClampNeg := (seen_both (nlt_of_le h)).1
theorem seen_lt {u : Nat → Bool} {X Y : Nat → Int32} {L1 L2 : Nat → Nat} {x y : Int32} (h : 0 ≤ f_A_sideSeenFrom u X Y L1 L2 x y) : (f_A_sideSeenFrom u X Y L1 L2 x y).toNatClampNeg < 41 := (seen_both (nlt_of_le h)).2
def fx_A_segments (u : Nat → Bool) (X : Nat → Int32) (Y : Nat → Int32) (L1 : Nat → Nat) (L2 : Nat → Nat) (k : Nat) (cnt : Nat) : Nat := cnt
def fb_A_segments (u : Nat → Bool) (X : Nat → Int32) (Y : Nat → Int32) (L1 : Nat → Nat) (L2 : Nat → Nat) (rec : Nat → Nat → Nat) (k : Nat) (cnt : Nat) : Nat := if f_M_has u X Y (nI (k)) = true then (rec (k + 1) (cnt + 1)) else (rec (k + 1) cnt)
def fl_A_segments (u : Nat → Bool) (X : Nat → Int32) (Y : Nat → Int32) (L1 : Nat → Nat) (L2 : Nat → Nat) : Nat → Nat → Nat → Nat
  | 0, k, cnt => fx_A_segments u X Y L1 L2 k cnt
  | n + 1, k, cnt => fb_A_segments u X Y L1 L2 (fl_A_segments u X Y L1 L2 n) k cnt
def f_A_segments (u : Nat → Bool) (X : Nat → Int32) (Y : Nat → Int32) (L1 : Nat → Nat) (L2 : Nat → Nat) : Nat := fl_A_segments u X Y L1 L2 20 0 0
theorem i_A_segments : inV y_A_segments b_A_segments 3 (some .int) 0 := ⟨kM_y_A_segments, kV_y_A_segments, kI_A, kY_y_A_segments, by decide +kernel⟩
set_option maxHeartbeats 4000000 in
set_option maxRecDepth 100000 in
theorem c_A_segments (l : Launch) (D : va_G) (h0 hm hu hxs hys hg1 hl1 hg2 hl2 : Nat) (cZ cI : ClassId) (u : Nat → Bool) (X Y : Nat → Int32) (L1 L2 : Nat → Nat)    : PM l y_A_segments b_A_segments 3 (some .int) 1 21 D (atlW h0 hm hu hxs hys hg1 hl1 hg2 hl2 cZ cI u X Y L1 L2) [(cZ, .boolean), (cI, .int)] [.ref h0] (nI (f_A_segments u X Y L1 L2)) := by
  refine pMet rfl (fun p e s m below meth c S hr hlk hP hK ls hl => ?_) (Nat.le_of_ble_eq_true rfl)
  have hx := S.1
  have hb := S.2.1
  have hl : lv_has ls 3 [(0, .ref h0)] := hl
  have key : ∀ (n : Nat) (k : Nat) (cnt : Nat) (hk : k + n = 20)  (ls : Array Slot) (hl : lv_has ls 3 [(0, .ref h0), (1, .int (nI (cnt))), (2, .int (nI (k)))]) (hf : f_A_segments u X Y L1 L2 = fl_A_segments u X Y L1 L2 n k cnt), W p l e { frames := 1, cells := 0, slots := 0, locals := 21 } s m [.ref h0].toArray below meth c s.heap [] 0 0 (MQ below (pQ (nI (f_A_segments u X Y L1 L2))) [.ref h0].toArray s 0 0 (fun _ => False)) (F0 m 4 ls []) := by
    intro n
    induction n with
    | zero =>
      intro k cnt hk  ls hl hf
      refine lv_iload_n hx hb d_A_segments_4 rfl (lv_at hl 2 rfl) ?_
      refine lv_bipush (v := 20) hx hb d_A_segments_5 (by decide) ?_
      refine lv_icmp_ge (tgt := 30) hx hb d_A_segments_7 (by decide) (fun c1 => ?_) (fun c1 => ?_)
      · have c1a : 20 ≤ k := (nI_leI (a := 20) (b := k) (by decide) (by omega)).mp c1
        refine lv_iload_n hx hb d_A_segments_30 rfl (lv_at hl 1 rfl) ?_
        exact rret S hr hlk (v := nI (cnt)) (congrArg nI (hf.trans (show fx_A_segments u X Y L1 L2 k cnt = cnt from rfl)).symm) d_A_segments_31
      · have c1a : ¬ (20 ≤ k) := fun h => c1 ((nI_leI (a := 20) (b := k) (by decide) (by omega)).mpr h)
        omega
    | succ n ih =>
      intro k cnt hk  ls hl hf
      refine lv_iload_n hx hb d_A_segments_4 rfl (lv_at hl 2 rfl) ?_
      refine lv_bipush (v := 20) hx hb d_A_segments_5 (by decide) ?_
      refine lv_icmp_ge (tgt := 30) hx hb d_A_segments_7 (by decide) (fun c2 => ?_) (fun c2 => ?_)
      · have c2a : 20 ≤ k := (nI_leI (a := 20) (b := k) (by decide) (by omega)).mp c2
        omega
      · have c2a : ¬ (20 ≤ k) := fun h => c2 ((nI_leI (a := 20) (b := k) (by decide) (by omega)).mpr h)
        refine lv_aload_n hx hb d_A_segments_10 rfl (lv_at hl 0 rfl) ?_
        refine rget S hK hP 0 rfl rfl in_A 0 (by decide) kF_A_12 rfl d_A_segments_11 ?_
        refine lv_iload_n hx hb d_A_segments_14 rfl (lv_at hl 2 rfl) ?_
        refine rcallV (rest := []) (v := b2i (f_M_has u X Y (nI (k)))) S [.int (nI (k))] hK hP [1, 2, 3, 4] rfl [0, 1] rfl (c_M_has l D hm hu hxs hys cZ cI u X Y (nI (k)) ) i_M_has kL_A_51 ⟨Nat.le_of_ble_eq_true rfl, Nat.le_of_ble_eq_true rfl⟩ (by exact ⟨Nat.zero_le _, Nat.zero_le _⟩) (q0 := 0) (ci := 1) rfl rfl rfl hl.1 rfl (Nat.le_of_ble_eq_true rfl) d_A_segments_15 ?_
        refine lv_if_eq (tgt := 24) hx hb d_A_segments_18 (by decide) (fun c3 => ?_) (fun c3 => ?_)
        · have c3a : ¬ (f_M_has u X Y (nI (k)) = true) := b2n (b2i_eq0.mp c3)
          refine lv_iinc (v := nI (k + 1)) (lv' := [(2, .int (nI (k + 1))), (0, .ref h0), (1, .int (nI (cnt)))]) hx hb d_A_segments_24 hl (k := 2) rfl (nI_1 (k)) (by decide) rfl (fun ls hl => ?_)
          refine lv_goto (tgt := 4) hx hb d_A_segments_27 (by decide) ?_
          exact ih (k + 1) cnt (by omega)  ls (lv_sub hl [1, 2, 0] rfl) (hf.trans (show fb_A_segments u X Y L1 L2 (fl_A_segments u X Y L1 L2 n) k cnt = (fl_A_segments u X Y L1 L2 n (k + 1) cnt) from by unfold fb_A_segments; rw [if_neg c3a]))
        · have c3a : f_M_has u X Y (nI (k)) = true := b2i_ne0.mp c3
          refine lv_iinc (v := nI (cnt + 1)) (lv' := [(1, .int (nI (cnt + 1))), (0, .ref h0), (2, .int (nI (k)))]) hx hb d_A_segments_21 hl (k := 1) rfl (nI_1 (cnt)) (by decide) rfl (fun ls hl => ?_)
          refine lv_iinc (v := nI (k + 1)) (lv' := [(2, .int (nI (k + 1))), (1, .int (nI (cnt + 1))), (0, .ref h0)]) hx hb d_A_segments_24 hl (k := 2) rfl (nI_1 (k)) (by decide) rfl (fun ls hl => ?_)
          refine lv_goto (tgt := 4) hx hb d_A_segments_27 (by decide) ?_
          exact ih (k + 1) (cnt + 1) (by omega)  ls (lv_sub hl [2, 1, 0] rfl) (hf.trans (show fb_A_segments u X Y L1 L2 (fl_A_segments u X Y L1 L2 n) k cnt = (fl_A_segments u X Y L1 L2 n (k + 1) (cnt + 1)) from by unfold fb_A_segments; rw [if_pos c3a]))
  refine lv_iconst (v := 0) hx hb d_A_segments_0 (by decide) ?_
  refine lv_istore_n (lv' := [(1, .int 0), (0, .ref h0)]) hx hb d_A_segments_1 rfl hl (by decide) rfl (fun ls hl => ?_)
  refine lv_iconst (v := 0) hx hb d_A_segments_2 (by decide) ?_
  refine lv_istore_n (lv' := [(2, .int 0), (1, .int 0), (0, .ref h0)]) hx hb d_A_segments_3 rfl hl (by decide) rfl (fun ls hl => ?_)
  exact key 20 0 0 (by omega)  ls (lv_sub hl [2, 1, 0] rfl) (show f_A_segments u X Y L1 L2 = (fl_A_segments u X Y L1 L2 20 0 0) from rfl)
def fx_A_vertices (u : Nat → Bool) (X : Nat → Int32) (Y : Nat → Int32) (L1 : Nat → Nat) (L2 : Nat → Nat) (a : Nat) (cnt : Nat) : Nat := cnt
def fb_A_vertices (u : Nat → Bool) (X : Nat → Int32) (Y : Nat → Int32) (L1 : Nat → Nat) (L2 : Nat → Nat) (rec : Nat → Nat → Nat) (a : Nat) (cnt : Nat) : Nat := if f_M_hasArrow u X Y a = true then (if f_M_isFirstOfItsVertex u X Y a = true then (rec (a + 1) (cnt + 1)) else (rec (a + 1) cnt)) else (rec (a + 1) cnt)
def fl_A_vertices (u : Nat → Bool) (X : Nat → Int32) (Y : Nat → Int32) (L1 : Nat → Nat) (L2 : Nat → Nat) : Nat → Nat → Nat → Nat
  | 0, a, cnt => fx_A_vertices u X Y L1 L2 a cnt
  | n + 1, a, cnt => fb_A_vertices u X Y L1 L2 (fl_A_vertices u X Y L1 L2 n) a cnt
def f_A_vertices (u : Nat → Bool) (X : Nat → Int32) (Y : Nat → Int32) (L1 : Nat → Nat) (L2 : Nat → Nat) : Nat := fl_A_vertices u X Y L1 L2 40 0 0
theorem i_A_vertices : inV y_A_vertices b_A_vertices 3 (some .int) 0 := ⟨kM_y_A_vertices, kV_y_A_vertices, kI_A, kY_y_A_vertices, by decide +kernel⟩
set_option maxHeartbeats 4000000 in
set_option maxRecDepth 100000 in
theorem c_A_vertices (l : Launch) (D : va_G) (h0 hm hu hxs hys hg1 hl1 hg2 hl2 : Nat) (cZ cI : ClassId) (u : Nat → Bool) (X Y : Nat → Int32) (L1 L2 : Nat → Nat)    : PM l y_A_vertices b_A_vertices 3 (some .int) 2 44 D (atlW h0 hm hu hxs hys hg1 hl1 hg2 hl2 cZ cI u X Y L1 L2) [(cZ, .boolean), (cI, .int)] [.ref h0] (nI (f_A_vertices u X Y L1 L2)) := by
  refine pMet rfl (fun p e s m below meth c S hr hlk hP hK ls hl => ?_) (Nat.le_of_ble_eq_true rfl)
  have hx := S.1
  have hb := S.2.1
  have hl : lv_has ls 3 [(0, .ref h0)] := hl
  have key : ∀ (n : Nat) (a : Nat) (cnt : Nat) (hk : a + n = 40)  (ls : Array Slot) (hl : lv_has ls 3 [(0, .ref h0), (1, .int (nI (cnt))), (2, .int (nI (a)))]) (hf : f_A_vertices u X Y L1 L2 = fl_A_vertices u X Y L1 L2 n a cnt), W p l e { frames := 2, cells := 0, slots := 0, locals := 44 } s m [.ref h0].toArray below meth c s.heap [] 0 0 (MQ below (pQ (nI (f_A_vertices u X Y L1 L2))) [.ref h0].toArray s 0 0 (fun _ => False)) (F0 m 4 ls []) := by
    intro n
    induction n with
    | zero =>
      intro a cnt hk  ls hl hf
      refine lv_iload_n hx hb d_A_vertices_4 rfl (lv_at hl 2 rfl) ?_
      refine lv_bipush (v := 40) hx hb d_A_vertices_5 (by decide) ?_
      refine lv_icmp_ge (tgt := 41) hx hb d_A_vertices_7 (by decide) (fun c1 => ?_) (fun c1 => ?_)
      · have c1a : 40 ≤ a := (nI_leI (a := 40) (b := a) (by decide) (by omega)).mp c1
        refine lv_iload_n hx hb d_A_vertices_41 rfl (lv_at hl 1 rfl) ?_
        exact rret S hr hlk (v := nI (cnt)) (congrArg nI (hf.trans (show fx_A_vertices u X Y L1 L2 a cnt = cnt from rfl)).symm) d_A_vertices_42
      · have c1a : ¬ (40 ≤ a) := fun h => c1 ((nI_leI (a := 40) (b := a) (by decide) (by omega)).mpr h)
        omega
    | succ n ih =>
      intro a cnt hk  ls hl hf
      refine lv_iload_n hx hb d_A_vertices_4 rfl (lv_at hl 2 rfl) ?_
      refine lv_bipush (v := 40) hx hb d_A_vertices_5 (by decide) ?_
      refine lv_icmp_ge (tgt := 41) hx hb d_A_vertices_7 (by decide) (fun c2 => ?_) (fun c2 => ?_)
      · have c2a : 40 ≤ a := (nI_leI (a := 40) (b := a) (by decide) (by omega)).mp c2
        omega
      · have c2a : ¬ (40 ≤ a) := fun h => c2 ((nI_leI (a := 40) (b := a) (by decide) (by omega)).mpr h)
        refine lv_aload_n hx hb d_A_vertices_10 rfl (lv_at hl 0 rfl) ?_
        refine rget S hK hP 0 rfl rfl in_A 0 (by decide) kF_A_12 rfl d_A_vertices_11 ?_
        refine lv_iload_n hx hb d_A_vertices_14 rfl (lv_at hl 2 rfl) ?_
        refine rcallV (rest := []) (v := b2i (f_M_hasArrow u X Y a)) S [.int (nI (a))] hK hP [1, 2, 3, 4] rfl [0, 1] rfl (c_M_hasArrow l D hm hu hxs hys cZ cI u X Y a (by omega)) i_M_hasArrow kL_A_55 ⟨Nat.le_of_ble_eq_true rfl, Nat.le_of_ble_eq_true rfl⟩ (by exact ⟨Nat.zero_le _, Nat.zero_le _⟩) (q0 := 0) (ci := 1) rfl rfl rfl hl.1 rfl (Nat.le_of_ble_eq_true rfl) d_A_vertices_15 ?_
        refine lv_if_eq (tgt := 35) hx hb d_A_vertices_18 (by decide) (fun c3 => ?_) (fun c3 => ?_)
        · have c3a : ¬ (f_M_hasArrow u X Y a = true) := b2n (b2i_eq0.mp c3)
          refine lv_iinc (v := nI (a + 1)) (lv' := [(2, .int (nI (a + 1))), (0, .ref h0), (1, .int (nI (cnt)))]) hx hb d_A_vertices_35 hl (k := 2) rfl (nI_1 (a)) (by decide) rfl (fun ls hl => ?_)
          refine lv_goto (tgt := 4) hx hb d_A_vertices_38 (by decide) ?_
          exact ih (a + 1) cnt (by omega)  ls (lv_sub hl [1, 2, 0] rfl) (hf.trans (show fb_A_vertices u X Y L1 L2 (fl_A_vertices u X Y L1 L2 n) a cnt = (fl_A_vertices u X Y L1 L2 n (a + 1) cnt) from by unfold fb_A_vertices; rw [if_neg c3a]))
        · have c3a : f_M_hasArrow u X Y a = true := b2i_ne0.mp c3
          refine lv_aload_n hx hb d_A_vertices_21 rfl (lv_at hl 0 rfl) ?_
          refine rget S hK hP 0 rfl rfl in_A 0 (by decide) kF_A_12 rfl d_A_vertices_22 ?_
          refine lv_iload_n hx hb d_A_vertices_25 rfl (lv_at hl 2 rfl) ?_
          refine rcallV (rest := []) (v := b2i (f_M_isFirstOfItsVertex u X Y a)) S [.int (nI (a))] hK hP [1, 2, 3, 4] rfl [0, 1] rfl (c_M_isFirstOfItsVertex l D hm hu hxs hys cZ cI u X Y a (by omega)) i_M_isFirstOfItsVertex kL_A_58 ⟨Nat.le_of_ble_eq_true rfl, Nat.le_of_ble_eq_true rfl⟩ (by exact ⟨Nat.zero_le _, Nat.zero_le _⟩) (q0 := 0) (ci := 1) rfl rfl rfl hl.1 rfl (Nat.le_of_ble_eq_true rfl) d_A_vertices_26 ?_
          refine lv_if_eq (tgt := 35) hx hb d_A_vertices_29 (by decide) (fun c4 => ?_) (fun c4 => ?_)
          · have c4a : ¬ (f_M_isFirstOfItsVertex u X Y a = true) := b2n (b2i_eq0.mp c4)
            refine lv_iinc (v := nI (a + 1)) (lv' := [(2, .int (nI (a + 1))), (0, .ref h0), (1, .int (nI (cnt)))]) hx hb d_A_vertices_35 hl (k := 2) rfl (nI_1 (a)) (by decide) rfl (fun ls hl => ?_)
            refine lv_goto (tgt := 4) hx hb d_A_vertices_38 (by decide) ?_
            exact ih (a + 1) cnt (by omega)  ls (lv_sub hl [1, 2, 0] rfl) (hf.trans (show fb_A_vertices u X Y L1 L2 (fl_A_vertices u X Y L1 L2 n) a cnt = (fl_A_vertices u X Y L1 L2 n (a + 1) cnt) from by unfold fb_A_vertices; rw [if_pos c3a, if_neg c4a]))
          · have c4a : f_M_isFirstOfItsVertex u X Y a = true := b2i_ne0.mp c4
            refine lv_iinc (v := nI (cnt + 1)) (lv' := [(1, .int (nI (cnt + 1))), (0, .ref h0), (2, .int (nI (a)))]) hx hb d_A_vertices_32 hl (k := 1) rfl (nI_1 (cnt)) (by decide) rfl (fun ls hl => ?_)
            refine lv_iinc (v := nI (a + 1)) (lv' := [(2, .int (nI (a + 1))), (1, .int (nI (cnt + 1))), (0, .ref h0)]) hx hb d_A_vertices_35 hl (k := 2) rfl (nI_1 (a)) (by decide) rfl (fun ls hl => ?_)
            refine lv_goto (tgt := 4) hx hb d_A_vertices_38 (by decide) ?_
            exact ih (a + 1) (cnt + 1) (by omega)  ls (lv_sub hl [2, 1, 0] rfl) (hf.trans (show fb_A_vertices u X Y L1 L2 (fl_A_vertices u X Y L1 L2 n) a cnt = (fl_A_vertices u X Y L1 L2 n (a + 1) (cnt + 1)) from by unfold fb_A_vertices; rw [if_pos c3a, if_pos c4a]))
  refine lv_iconst (v := 0) hx hb d_A_vertices_0 (by decide) ?_
  refine lv_istore_n (lv' := [(1, .int 0), (0, .ref h0)]) hx hb d_A_vertices_1 rfl hl (by decide) rfl (fun ls hl => ?_)
  refine lv_iconst (v := 0) hx hb d_A_vertices_2 (by decide) ?_
  refine lv_istore_n (lv' := [(2, .int 0), (1, .int 0), (0, .ref h0)]) hx hb d_A_vertices_3 rfl hl (by decide) rfl (fun ls hl => ?_)
  exact key 40 0 0 (by omega)  ls (lv_sub hl [2, 1, 0] rfl) (show f_A_vertices u X Y L1 L2 = (fl_A_vertices u X Y L1 L2 40 0 0) from rfl)
def fx_A_parts (u : Nat → Bool) (X : Nat → Int32) (Y : Nat → Int32) (L1 : Nat → Nat) (L2 : Nat → Nat) (k : Nat) (cnt : Nat) : Nat := cnt
def fb_A_parts (u : Nat → Bool) (X : Nat → Int32) (Y : Nat → Int32) (L1 : Nat → Nat) (L2 : Nat → Nat) (rec : Nat → Nat → Nat) (k : Nat) (cnt : Nat) : Nat := if f_M_has u X Y (nI (k)) = true then (if f_G_isLeader 20 L2 k = true then (rec (k + 1) (cnt + 1)) else (rec (k + 1) cnt)) else (rec (k + 1) cnt)
def fl_A_parts (u : Nat → Bool) (X : Nat → Int32) (Y : Nat → Int32) (L1 : Nat → Nat) (L2 : Nat → Nat) : Nat → Nat → Nat → Nat
  | 0, k, cnt => fx_A_parts u X Y L1 L2 k cnt
  | n + 1, k, cnt => fb_A_parts u X Y L1 L2 (fl_A_parts u X Y L1 L2 n) k cnt
def f_A_parts (u : Nat → Bool) (X : Nat → Int32) (Y : Nat → Int32) (L1 : Nat → Nat) (L2 : Nat → Nat) : Nat := fl_A_parts u X Y L1 L2 20 0 0
theorem i_A_parts : inV y_A_parts b_A_parts 3 (some .int) 0 := ⟨kM_y_A_parts, kV_y_A_parts, kI_A, kY_y_A_parts, by decide +kernel⟩
set_option maxHeartbeats 4000000 in
set_option maxRecDepth 100000 in
theorem c_A_parts (l : Launch) (D : va_G) (h0 hm hu hxs hys hg1 hl1 hg2 hl2 : Nat) (cZ cI : ClassId) (u : Nat → Bool) (X Y : Nat → Int32) (L1 L2 : Nat → Nat)    : PM l y_A_parts b_A_parts 3 (some .int) 1 21 D (atlW h0 hm hu hxs hys hg1 hl1 hg2 hl2 cZ cI u X Y L1 L2) [(cZ, .boolean), (cI, .int)] [.ref h0] (nI (f_A_parts u X Y L1 L2)) := by
  refine pMet rfl (fun p e s m below meth c S hr hlk hP hK ls hl => ?_) (Nat.le_of_ble_eq_true rfl)
  have hx := S.1
  have hb := S.2.1
  have hl : lv_has ls 3 [(0, .ref h0)] := hl
  have key : ∀ (n : Nat) (k : Nat) (cnt : Nat) (hk : k + n = 20)  (ls : Array Slot) (hl : lv_has ls 3 [(0, .ref h0), (1, .int (nI (cnt))), (2, .int (nI (k)))]) (hf : f_A_parts u X Y L1 L2 = fl_A_parts u X Y L1 L2 n k cnt), W p l e { frames := 1, cells := 0, slots := 0, locals := 21 } s m [.ref h0].toArray below meth c s.heap [] 0 0 (MQ below (pQ (nI (f_A_parts u X Y L1 L2))) [.ref h0].toArray s 0 0 (fun _ => False)) (F0 m 4 ls []) := by
    intro n
    induction n with
    | zero =>
      intro k cnt hk  ls hl hf
      refine lv_iload_n hx hb d_A_parts_4 rfl (lv_at hl 2 rfl) ?_
      refine lv_bipush (v := 20) hx hb d_A_parts_5 (by decide) ?_
      refine lv_icmp_ge (tgt := 41) hx hb d_A_parts_7 (by decide) (fun c1 => ?_) (fun c1 => ?_)
      · have c1a : 20 ≤ k := (nI_leI (a := 20) (b := k) (by decide) (by omega)).mp c1
        refine lv_iload_n hx hb d_A_parts_41 rfl (lv_at hl 1 rfl) ?_
        exact rret S hr hlk (v := nI (cnt)) (congrArg nI (hf.trans (show fx_A_parts u X Y L1 L2 k cnt = cnt from rfl)).symm) d_A_parts_42
      · have c1a : ¬ (20 ≤ k) := fun h => c1 ((nI_leI (a := 20) (b := k) (by decide) (by omega)).mpr h)
        omega
    | succ n ih =>
      intro k cnt hk  ls hl hf
      refine lv_iload_n hx hb d_A_parts_4 rfl (lv_at hl 2 rfl) ?_
      refine lv_bipush (v := 20) hx hb d_A_parts_5 (by decide) ?_
      refine lv_icmp_ge (tgt := 41) hx hb d_A_parts_7 (by decide) (fun c2 => ?_) (fun c2 => ?_)
      · have c2a : 20 ≤ k := (nI_leI (a := 20) (b := k) (by decide) (by omega)).mp c2
        omega
      · have c2a : ¬ (20 ≤ k) := fun h => c2 ((nI_leI (a := 20) (b := k) (by decide) (by omega)).mpr h)
        refine lv_aload_n hx hb d_A_parts_10 rfl (lv_at hl 0 rfl) ?_
        refine rget S hK hP 0 rfl rfl in_A 0 (by decide) kF_A_12 rfl d_A_parts_11 ?_
        refine lv_iload_n hx hb d_A_parts_14 rfl (lv_at hl 2 rfl) ?_
        refine rcallV (rest := []) (v := b2i (f_M_has u X Y (nI (k)))) S [.int (nI (k))] hK hP [1, 2, 3, 4] rfl [0, 1] rfl (c_M_has l D hm hu hxs hys cZ cI u X Y (nI (k)) ) i_M_has kL_A_51 ⟨Nat.le_of_ble_eq_true rfl, Nat.le_of_ble_eq_true rfl⟩ (by exact ⟨Nat.zero_le _, Nat.zero_le _⟩) (q0 := 0) (ci := 1) rfl rfl rfl hl.1 rfl (Nat.le_of_ble_eq_true rfl) d_A_parts_15 ?_
        refine lv_if_eq (tgt := 35) hx hb d_A_parts_18 (by decide) (fun c3 => ?_) (fun c3 => ?_)
        · have c3a : ¬ (f_M_has u X Y (nI (k)) = true) := b2n (b2i_eq0.mp c3)
          refine lv_iinc (v := nI (k + 1)) (lv' := [(2, .int (nI (k + 1))), (0, .ref h0), (1, .int (nI (cnt)))]) hx hb d_A_parts_35 hl (k := 2) rfl (nI_1 (k)) (by decide) rfl (fun ls hl => ?_)
          refine lv_goto (tgt := 4) hx hb d_A_parts_38 (by decide) ?_
          exact ih (k + 1) cnt (by omega)  ls (lv_sub hl [1, 2, 0] rfl) (hf.trans (show fb_A_parts u X Y L1 L2 (fl_A_parts u X Y L1 L2 n) k cnt = (fl_A_parts u X Y L1 L2 n (k + 1) cnt) from by unfold fb_A_parts; rw [if_neg c3a]))
        · have c3a : f_M_has u X Y (nI (k)) = true := b2i_ne0.mp c3
          refine lv_aload_n hx hb d_A_parts_21 rfl (lv_at hl 0 rfl) ?_
          refine rget S hK hP 0 rfl rfl in_A 2 (by decide) kF_A_25 rfl d_A_parts_22 ?_
          refine lv_iload_n hx hb d_A_parts_25 rfl (lv_at hl 2 rfl) ?_
          refine rcallV (rest := []) (v := b2i (f_G_isLeader 20 L2 k)) S [.int (nI (k))] hK hP [7, 8] rfl [1] rfl (c_G_isLeader l D hg2 hl2 cI 20 L2 k (by omega) (by first | decide | omega)) i_G_isLeader kL_A_61 ⟨Nat.le_of_ble_eq_true rfl, Nat.le_of_ble_eq_true rfl⟩ (by exact ⟨Nat.zero_le _, Nat.zero_le _⟩) (q0 := 0) (ci := 0) rfl rfl rfl hl.1 rfl (Nat.le_of_ble_eq_true rfl) d_A_parts_26 ?_
          refine lv_if_eq (tgt := 35) hx hb d_A_parts_29 (by decide) (fun c4 => ?_) (fun c4 => ?_)
          · have c4a : ¬ (f_G_isLeader 20 L2 k = true) := b2n (b2i_eq0.mp c4)
            refine lv_iinc (v := nI (k + 1)) (lv' := [(2, .int (nI (k + 1))), (0, .ref h0), (1, .int (nI (cnt)))]) hx hb d_A_parts_35 hl (k := 2) rfl (nI_1 (k)) (by decide) rfl (fun ls hl => ?_)
            refine lv_goto (tgt := 4) hx hb d_A_parts_38 (by decide) ?_
            exact ih (k + 1) cnt (by omega)  ls (lv_sub hl [1, 2, 0] rfl) (hf.trans (show fb_A_parts u X Y L1 L2 (fl_A_parts u X Y L1 L2 n) k cnt = (fl_A_parts u X Y L1 L2 n (k + 1) cnt) from by unfold fb_A_parts; rw [if_pos c3a, if_neg c4a]))
          · have c4a : f_G_isLeader 20 L2 k = true := b2i_ne0.mp c4
            refine lv_iinc (v := nI (cnt + 1)) (lv' := [(1, .int (nI (cnt + 1))), (0, .ref h0), (2, .int (nI (k)))]) hx hb d_A_parts_32 hl (k := 1) rfl (nI_1 (cnt)) (by decide) rfl (fun ls hl => ?_)
            refine lv_iinc (v := nI (k + 1)) (lv' := [(2, .int (nI (k + 1))), (1, .int (nI (cnt + 1))), (0, .ref h0)]) hx hb d_A_parts_35 hl (k := 2) rfl (nI_1 (k)) (by decide) rfl (fun ls hl => ?_)
            refine lv_goto (tgt := 4) hx hb d_A_parts_38 (by decide) ?_
            exact ih (k + 1) (cnt + 1) (by omega)  ls (lv_sub hl [2, 1, 0] rfl) (hf.trans (show fb_A_parts u X Y L1 L2 (fl_A_parts u X Y L1 L2 n) k cnt = (fl_A_parts u X Y L1 L2 n (k + 1) (cnt + 1)) from by unfold fb_A_parts; rw [if_pos c3a, if_pos c4a]))
  refine lv_iconst (v := 0) hx hb d_A_parts_0 (by decide) ?_
  refine lv_istore_n (lv' := [(1, .int 0), (0, .ref h0)]) hx hb d_A_parts_1 rfl hl (by decide) rfl (fun ls hl => ?_)
  refine lv_iconst (v := 0) hx hb d_A_parts_2 (by decide) ?_
  refine lv_istore_n (lv' := [(2, .int 0), (1, .int 0), (0, .ref h0)]) hx hb d_A_parts_3 rfl hl (by decide) rfl (fun ls hl => ?_)
  exact key 20 0 0 (by omega)  ls (lv_sub hl [2, 1, 0] rfl) (show f_A_parts u X Y L1 L2 = (fl_A_parts u X Y L1 L2 20 0 0) from rfl)
def fx_A_faces (u : Nat → Bool) (X : Nat → Int32) (Y : Nat → Int32) (L1 : Nat → Nat) (L2 : Nat → Nat) (a : Nat) (cnt : Nat) : Nat := cnt
def fb_A_faces (u : Nat → Bool) (X : Nat → Int32) (Y : Nat → Int32) (L1 : Nat → Nat) (L2 : Nat → Nat) (rec : Nat → Nat → Nat) (a : Nat) (cnt : Nat) : Nat := if f_M_hasArrow u X Y a = true then (if f_G_isLeader 41 L1 a = true then (rec (a + 1) (cnt + 1)) else (rec (a + 1) cnt)) else (rec (a + 1) cnt)
def fl_A_faces (u : Nat → Bool) (X : Nat → Int32) (Y : Nat → Int32) (L1 : Nat → Nat) (L2 : Nat → Nat) : Nat → Nat → Nat → Nat
  | 0, a, cnt => fx_A_faces u X Y L1 L2 a cnt
  | n + 1, a, cnt => fb_A_faces u X Y L1 L2 (fl_A_faces u X Y L1 L2 n) a cnt
def f_A_faces (u : Nat → Bool) (X : Nat → Int32) (Y : Nat → Int32) (L1 : Nat → Nat) (L2 : Nat → Nat) : Nat := if f_G_isLeader 41 L1 40 = true then (fl_A_faces u X Y L1 L2 40 0 1) else (fl_A_faces u X Y L1 L2 40 0 0)
theorem i_A_faces : inV y_A_faces b_A_faces 3 (some .int) 0 := ⟨kM_y_A_faces, kV_y_A_faces, kI_A, kY_y_A_faces, by decide +kernel⟩
set_option maxHeartbeats 4000000 in
set_option maxRecDepth 100000 in
theorem c_A_faces (l : Launch) (D : va_G) (h0 hm hu hxs hys hg1 hl1 hg2 hl2 : Nat) (cZ cI : ClassId) (u : Nat → Bool) (X Y : Nat → Int32) (L1 L2 : Nat → Nat)    : PM l y_A_faces b_A_faces 3 (some .int) 1 21 D (atlW h0 hm hu hxs hys hg1 hl1 hg2 hl2 cZ cI u X Y L1 L2) [(cZ, .boolean), (cI, .int)] [.ref h0] (nI (f_A_faces u X Y L1 L2)) := by
  refine pMet rfl (fun p e s m below meth c S hr hlk hP hK ls hl => ?_) (Nat.le_of_ble_eq_true rfl)
  have hx := S.1
  have hb := S.2.1
  have hl : lv_has ls 3 [(0, .ref h0)] := hl
  have key : ∀ (n : Nat) (a : Nat) (cnt : Nat) (hk : a + n = 40)  (ls : Array Slot) (hl : lv_has ls 3 [(0, .ref h0), (1, .int (nI (cnt))), (2, .int (nI (a)))]) (hf : f_A_faces u X Y L1 L2 = fl_A_faces u X Y L1 L2 n a cnt), W p l e { frames := 1, cells := 0, slots := 0, locals := 21 } s m [.ref h0].toArray below meth c s.heap [] 0 0 (MQ below (pQ (nI (f_A_faces u X Y L1 L2))) [.ref h0].toArray s 0 0 (fun _ => False)) (F0 m 20 ls []) := by
    intro n
    induction n with
    | zero =>
      intro a cnt hk  ls hl hf
      refine lv_iload_n hx hb d_A_faces_20 rfl (lv_at hl 2 rfl) ?_
      refine lv_bipush (v := 40) hx hb d_A_faces_21 (by decide) ?_
      refine lv_icmp_ge (tgt := 57) hx hb d_A_faces_23 (by decide) (fun c1 => ?_) (fun c1 => ?_)
      · have c1a : 40 ≤ a := (nI_leI (a := 40) (b := a) (by decide) (by omega)).mp c1
        refine lv_iload_n hx hb d_A_faces_57 rfl (lv_at hl 1 rfl) ?_
        exact rret S hr hlk (v := nI (cnt)) (congrArg nI (hf.trans (show fx_A_faces u X Y L1 L2 a cnt = cnt from rfl)).symm) d_A_faces_58
      · have c1a : ¬ (40 ≤ a) := fun h => c1 ((nI_leI (a := 40) (b := a) (by decide) (by omega)).mpr h)
        omega
    | succ n ih =>
      intro a cnt hk  ls hl hf
      refine lv_iload_n hx hb d_A_faces_20 rfl (lv_at hl 2 rfl) ?_
      refine lv_bipush (v := 40) hx hb d_A_faces_21 (by decide) ?_
      refine lv_icmp_ge (tgt := 57) hx hb d_A_faces_23 (by decide) (fun c2 => ?_) (fun c2 => ?_)
      · have c2a : 40 ≤ a := (nI_leI (a := 40) (b := a) (by decide) (by omega)).mp c2
        omega
      · have c2a : ¬ (40 ≤ a) := fun h => c2 ((nI_leI (a := 40) (b := a) (by decide) (by omega)).mpr h)
        refine lv_aload_n hx hb d_A_faces_26 rfl (lv_at hl 0 rfl) ?_
        refine rget S hK hP 0 rfl rfl in_A 0 (by decide) kF_A_12 rfl d_A_faces_27 ?_
        refine lv_iload_n hx hb d_A_faces_30 rfl (lv_at hl 2 rfl) ?_
        refine rcallV (rest := []) (v := b2i (f_M_hasArrow u X Y a)) S [.int (nI (a))] hK hP [1, 2, 3, 4] rfl [0, 1] rfl (c_M_hasArrow l D hm hu hxs hys cZ cI u X Y a (by omega)) i_M_hasArrow kL_A_55 ⟨Nat.le_of_ble_eq_true rfl, Nat.le_of_ble_eq_true rfl⟩ (by exact ⟨Nat.zero_le _, Nat.zero_le _⟩) (q0 := 0) (ci := 1) rfl rfl rfl hl.1 rfl (Nat.le_of_ble_eq_true rfl) d_A_faces_31 ?_
        refine lv_if_eq (tgt := 51) hx hb d_A_faces_34 (by decide) (fun c3 => ?_) (fun c3 => ?_)
        · have c3a : ¬ (f_M_hasArrow u X Y a = true) := b2n (b2i_eq0.mp c3)
          refine lv_iinc (v := nI (a + 1)) (lv' := [(2, .int (nI (a + 1))), (0, .ref h0), (1, .int (nI (cnt)))]) hx hb d_A_faces_51 hl (k := 2) rfl (nI_1 (a)) (by decide) rfl (fun ls hl => ?_)
          refine lv_goto (tgt := 20) hx hb d_A_faces_54 (by decide) ?_
          exact ih (a + 1) cnt (by omega)  ls (lv_sub hl [1, 2, 0] rfl) (hf.trans (show fb_A_faces u X Y L1 L2 (fl_A_faces u X Y L1 L2 n) a cnt = (fl_A_faces u X Y L1 L2 n (a + 1) cnt) from by unfold fb_A_faces; rw [if_neg c3a]))
        · have c3a : f_M_hasArrow u X Y a = true := b2i_ne0.mp c3
          refine lv_aload_n hx hb d_A_faces_37 rfl (lv_at hl 0 rfl) ?_
          refine rget S hK hP 0 rfl rfl in_A 1 (by decide) kF_A_21 rfl d_A_faces_38 ?_
          refine lv_iload_n hx hb d_A_faces_41 rfl (lv_at hl 2 rfl) ?_
          refine rcallV (rest := []) (v := b2i (f_G_isLeader 41 L1 a)) S [.int (nI (a))] hK hP [5, 6] rfl [1] rfl (c_G_isLeader l D hg1 hl1 cI 41 L1 a (by omega) (by first | decide | omega)) i_G_isLeader kL_A_61 ⟨Nat.le_of_ble_eq_true rfl, Nat.le_of_ble_eq_true rfl⟩ (by exact ⟨Nat.zero_le _, Nat.zero_le _⟩) (q0 := 0) (ci := 0) rfl rfl rfl hl.1 rfl (Nat.le_of_ble_eq_true rfl) d_A_faces_42 ?_
          refine lv_if_eq (tgt := 51) hx hb d_A_faces_45 (by decide) (fun c4 => ?_) (fun c4 => ?_)
          · have c4a : ¬ (f_G_isLeader 41 L1 a = true) := b2n (b2i_eq0.mp c4)
            refine lv_iinc (v := nI (a + 1)) (lv' := [(2, .int (nI (a + 1))), (0, .ref h0), (1, .int (nI (cnt)))]) hx hb d_A_faces_51 hl (k := 2) rfl (nI_1 (a)) (by decide) rfl (fun ls hl => ?_)
            refine lv_goto (tgt := 20) hx hb d_A_faces_54 (by decide) ?_
            exact ih (a + 1) cnt (by omega)  ls (lv_sub hl [1, 2, 0] rfl) (hf.trans (show fb_A_faces u X Y L1 L2 (fl_A_faces u X Y L1 L2 n) a cnt = (fl_A_faces u X Y L1 L2 n (a + 1) cnt) from by unfold fb_A_faces; rw [if_pos c3a, if_neg c4a]))
          · have c4a : f_G_isLeader 41 L1 a = true := b2i_ne0.mp c4
            refine lv_iinc (v := nI (cnt + 1)) (lv' := [(1, .int (nI (cnt + 1))), (0, .ref h0), (2, .int (nI (a)))]) hx hb d_A_faces_48 hl (k := 1) rfl (nI_1 (cnt)) (by decide) rfl (fun ls hl => ?_)
            refine lv_iinc (v := nI (a + 1)) (lv' := [(2, .int (nI (a + 1))), (1, .int (nI (cnt + 1))), (0, .ref h0)]) hx hb d_A_faces_51 hl (k := 2) rfl (nI_1 (a)) (by decide) rfl (fun ls hl => ?_)
            refine lv_goto (tgt := 20) hx hb d_A_faces_54 (by decide) ?_
            exact ih (a + 1) (cnt + 1) (by omega)  ls (lv_sub hl [2, 1, 0] rfl) (hf.trans (show fb_A_faces u X Y L1 L2 (fl_A_faces u X Y L1 L2 n) a cnt = (fl_A_faces u X Y L1 L2 n (a + 1) (cnt + 1)) from by unfold fb_A_faces; rw [if_pos c3a, if_pos c4a]))
  refine lv_aload_n hx hb d_A_faces_0 rfl (lv_at hl 0 rfl) ?_
  refine rget S hK hP 0 rfl rfl in_A 1 (by decide) kF_A_21 rfl d_A_faces_1 ?_
  refine lv_bipush (v := 40) hx hb d_A_faces_4 (by decide) ?_
  refine rcallV (rest := []) (v := b2i (f_G_isLeader 41 L1 40)) S [.int 40] hK hP [5, 6] rfl [1] rfl (c_G_isLeader l D hg1 hl1 cI 41 L1 40 (by omega) (by first | decide | omega)) i_G_isLeader kL_A_61 ⟨Nat.le_of_ble_eq_true rfl, Nat.le_of_ble_eq_true rfl⟩ (by exact ⟨Nat.zero_le _, Nat.zero_le _⟩) (q0 := 0) (ci := 0) rfl rfl rfl hl.1 rfl (Nat.le_of_ble_eq_true rfl) d_A_faces_6 ?_
  refine lv_if_eq (tgt := 16) hx hb d_A_faces_9 (by decide) (fun c5 => ?_) (fun c5 => ?_)
  · have c5a : ¬ (f_G_isLeader 41 L1 40 = true) := b2n (b2i_eq0.mp c5)
    refine lv_iconst (v := 0) hx hb d_A_faces_16 (by decide) ?_
    refine lv_istore_n (lv' := [(1, .int 0), (0, .ref h0)]) hx hb d_A_faces_17 rfl hl (by decide) rfl (fun ls hl => ?_)
    refine lv_iconst (v := 0) hx hb d_A_faces_18 (by decide) ?_
    refine lv_istore_n (lv' := [(2, .int 0), (1, .int 0), (0, .ref h0)]) hx hb d_A_faces_19 rfl hl (by decide) rfl (fun ls hl => ?_)
    exact key 40 0 0 (by omega)  ls (lv_sub hl [2, 1, 0] rfl) (show f_A_faces u X Y L1 L2 = (fl_A_faces u X Y L1 L2 40 0 0) from by unfold f_A_faces; rw [if_neg c5a])
  · have c5a : f_G_isLeader 41 L1 40 = true := b2i_ne0.mp c5
    refine lv_iconst (v := 1) hx hb d_A_faces_12 (by decide) ?_
    refine lv_goto (tgt := 17) hx hb d_A_faces_13 (by decide) ?_
    refine lv_istore_n (lv' := [(1, .int 1), (0, .ref h0)]) hx hb d_A_faces_17 rfl hl (by decide) rfl (fun ls hl => ?_)
    refine lv_iconst (v := 0) hx hb d_A_faces_18 (by decide) ?_
    refine lv_istore_n (lv' := [(2, .int 0), (1, .int 1), (0, .ref h0)]) hx hb d_A_faces_19 rfl hl (by decide) rfl (fun ls hl => ?_)
    exact key 40 0 1 (by omega)  ls (lv_sub hl [2, 1, 0] rfl) (show f_A_faces u X Y L1 L2 = (fl_A_faces u X Y L1 L2 40 0 1) from by unfold f_A_faces; rw [if_pos c5a])
def f_A_find (u : Nat → Bool) (X : Nat → Int32) (Y : Nat → Int32) (L1 : Nat → Nat) (L2 : Nat → Nat) (x : Int32) (y : Int32) : Int32 := if f_A_isNearby x y = true then (if (f_M_endsAt u X Y x y) ≤ 0 then (if (f_M_segmentAround u X Y x y) = (-1) then (f_M_struckAbove u X Y x y) else (100 + (f_M_segmentAround u X Y x y))) else (nI (200 + (f_M_endsAt u X Y x y)))) else (-2)
theorem i_A_find : inV y_A_find b_A_find 5 (some .int) 2 := ⟨kM_y_A_find, kV_y_A_find, kI_A, kY_y_A_find, by decide +kernel⟩
set_option maxHeartbeats 4000000 in
set_option maxRecDepth 100000 in
theorem c_A_find (l : Launch) (D : va_G) (h0 hm hu hxs hys hg1 hl1 hg2 hl2 : Nat) (cZ cI : ClassId) (u : Nat → Bool) (X Y : Nat → Int32) (L1 L2 : Nat → Nat) (x : Int32) (y : Int32)   : PM l y_A_find b_A_find 5 (some .int) 4 95 D (atlW h0 hm hu hxs hys hg1 hl1 hg2 hl2 cZ cI u X Y L1 L2) [(cZ, .boolean), (cI, .int)] [.ref h0, .int x, .int y] (f_A_find u X Y L1 L2 x y) := by
  refine pMet rfl (fun p e s m below meth c S hr hlk hP hK ls hl => ?_) (Nat.le_of_ble_eq_true rfl)
  have hx := S.1
  have hb := S.2.1
  have hl : lv_has ls 5 [(0, .ref h0), (1, .int x), (2, .int y)] := hl
  refine lv_iload_n hx hb d_A_find_0 rfl (lv_at hl 1 rfl) ?_
  refine lv_iload_n hx hb d_A_find_1 rfl (lv_at hl 2 rfl) ?_
  refine rcallS (rest := []) (v := b2i (f_A_isNearby x y)) S [.int x, .int y] hK hP [] rfl [] rfl (c_A_isNearby l D  x y ) i_A_isNearby rfl kL_A_28 ⟨Nat.le_of_ble_eq_true rfl, Nat.le_of_ble_eq_true rfl⟩ (by exact ⟨Nat.zero_le _, Nat.zero_le _⟩) hl.1 rfl (Nat.le_of_ble_eq_true rfl) d_A_find_2 ?_
  refine lv_if_ne (tgt := 11) hx hb d_A_find_5 (by decide) (fun c1 => ?_) (fun c1 => ?_)
  · have c1a : f_A_isNearby x y = true := b2i_ne0.mp c1
    refine lv_aload_n hx hb d_A_find_11 rfl (lv_at hl 0 rfl) ?_
    refine rget S hK hP 0 rfl rfl in_A 0 (by decide) kF_A_12 rfl d_A_find_12 ?_
    refine lv_iload_n hx hb d_A_find_15 rfl (lv_at hl 1 rfl) ?_
    refine lv_iload_n hx hb d_A_find_16 rfl (lv_at hl 2 rfl) ?_
    refine rcallV (rest := []) (v := nI (f_M_endsAt u X Y x y)) S [.int x, .int y] hK hP [1, 2, 3, 4] rfl [0, 1] rfl (c_M_endsAt l D hm hu hxs hys cZ cI u X Y x y ) i_M_endsAt kL_A_64 ⟨Nat.le_of_ble_eq_true rfl, Nat.le_of_ble_eq_true rfl⟩ (by exact ⟨Nat.zero_le _, Nat.zero_le _⟩) (q0 := 0) (ci := 1) rfl rfl rfl hl.1 rfl (Nat.le_of_ble_eq_true rfl) d_A_find_17 ?_
    have hea := endsAt_le u X Y x y
    refine lv_istore_n (lv' := [(3, .int (nI (f_M_endsAt u X Y x y))), (0, .ref h0), (1, .int x), (2, .int y)]) hx hb d_A_find_20 rfl hl (by decide) rfl (fun ls hl => ?_)
    refine lv_iload_n hx hb d_A_find_21 rfl (lv_at hl 0 rfl) ?_
    refine lv_if_le (tgt := 31) hx hb d_A_find_22 (by decide) (fun c2 => ?_) (fun c2 => ?_)
    · have c2a : (f_M_endsAt u X Y x y) ≤ 0 := (nI_leI (a := f_M_endsAt u X Y x y) (b := 0) (by omega) (by decide)).mp c2
      refine lv_aload_n hx hb d_A_find_31 rfl (lv_at hl 1 rfl) ?_
      refine rget S hK hP 0 rfl rfl in_A 0 (by decide) kF_A_12 rfl d_A_find_32 ?_
      refine lv_iload_n hx hb d_A_find_35 rfl (lv_at hl 2 rfl) ?_
      refine lv_iload_n hx hb d_A_find_36 rfl (lv_at hl 3 rfl) ?_
      refine rcallV (rest := []) (v := (f_M_segmentAround u X Y x y)) S [.int x, .int y] hK hP [1, 2, 3, 4] rfl [0, 1] rfl (c_M_segmentAround l D hm hu hxs hys cZ cI u X Y x y ) i_M_segmentAround kL_A_68 ⟨Nat.le_of_ble_eq_true rfl, Nat.le_of_ble_eq_true rfl⟩ (by exact ⟨Nat.zero_le _, Nat.zero_le _⟩) (q0 := 0) (ci := 1) rfl rfl rfl hl.1 rfl (Nat.le_of_ble_eq_true rfl) d_A_find_37 ?_
      refine lv_istore (lv' := [(4, .int ((f_M_segmentAround u X Y x y))), (3, .int (nI (f_M_endsAt u X Y x y))), (0, .ref h0), (1, .int x), (2, .int y)]) hx hb d_A_find_40 hl (by decide) rfl (fun ls hl => ?_)
      refine lv_iload hx hb d_A_find_42 (lv_at hl 0 rfl) ?_
      refine lv_iconst (v := (-1)) hx hb d_A_find_44 (by decide) ?_
      refine lv_icmp_eq (tgt := 56) hx hb d_A_find_45 (by decide) (fun c3 => ?_) (fun c3 => ?_)
      · have c3a : (f_M_segmentAround u X Y x y) = (-1) := c3
        refine lv_aload_n hx hb d_A_find_56 rfl (lv_at hl 2 rfl) ?_
        refine rget S hK hP 0 rfl rfl in_A 0 (by decide) kF_A_12 rfl d_A_find_57 ?_
        refine lv_iload_n hx hb d_A_find_60 rfl (lv_at hl 3 rfl) ?_
        refine lv_iload_n hx hb d_A_find_61 rfl (lv_at hl 4 rfl) ?_
        refine rcallV (rest := []) (v := (f_M_struckAbove u X Y x y)) S [.int x, .int y] hK hP [1, 2, 3, 4] rfl [0, 1] rfl (c_M_struckAbove l D hm hu hxs hys cZ cI u X Y x y ) i_M_struckAbove kL_A_71 ⟨Nat.le_of_ble_eq_true rfl, Nat.le_of_ble_eq_true rfl⟩ (by exact ⟨Nat.zero_le _, Nat.zero_le _⟩) (q0 := 0) (ci := 1) rfl rfl rfl hl.1 rfl (Nat.le_of_ble_eq_true rfl) d_A_find_62 ?_
        exact rret S hr hlk (v := (f_M_struckAbove u X Y x y)) (show f_A_find u X Y L1 L2 x y = (f_M_struckAbove u X Y x y) from by unfold f_A_find; rw [if_pos c1a, if_pos c2a, if_pos c3a]).symm d_A_find_65
      · have c3a : ¬ ((f_M_segmentAround u X Y x y) = (-1)) := c3
        refine lv_bipush (v := 100) hx hb d_A_find_48 (by decide) ?_
        refine lv_iload hx hb d_A_find_50 (lv_at hl 0 rfl) ?_
        refine lv_iadd hx hb d_A_find_52 ?_
        refine lv_goto (tgt := 65) hx hb d_A_find_53 (by decide) ?_
        exact rret S hr hlk (v := (100 + (f_M_segmentAround u X Y x y))) (show f_A_find u X Y L1 L2 x y = (100 + (f_M_segmentAround u X Y x y)) from by unfold f_A_find; rw [if_pos c1a, if_pos c2a, if_neg c3a]).symm d_A_find_65
    · have c2a : ¬ ((f_M_endsAt u X Y x y) ≤ 0) := fun h => c2 ((nI_leI (a := f_M_endsAt u X Y x y) (b := 0) (by omega) (by decide)).mpr h)
      refine lv_sipush (v := 200) hx hb d_A_find_25 (by decide) ?_
      refine lv_iload_n hx hb d_A_find_28 rfl (lv_at hl 0 rfl) ?_
      refine lv_iadd hx hb d_A_find_29 ?_
      refine rtop (y := nI (200 + (f_M_endsAt u X Y x y))) (nI_add (200) (f_M_endsAt u X Y x y)) ?_
      exact rret S hr hlk (v := nI (200 + (f_M_endsAt u X Y x y))) (show f_A_find u X Y L1 L2 x y = (nI (200 + (f_M_endsAt u X Y x y))) from by unfold f_A_find; rw [if_pos c1a, if_neg c2a]).symm d_A_find_30
  · have c1a : ¬ (f_A_isNearby x y = true) := b2n (b2i_eq0.mp c1)
    refine lv_bipush (v := (-2)) hx hb d_A_find_8 (by decide) ?_
    exact rret S hr hlk (v := (-2)) (show f_A_find u X Y L1 L2 x y = (-2) from by unfold f_A_find; rw [if_neg c1a]).symm d_A_find_10
def f_A_same (u : Nat → Bool) (X : Nat → Int32) (Y : Nat → Int32) (L1 : Nat → Nat) (L2 : Nat → Nat) (x : Int32) (y : Int32) (z : Int32) (w : Int32) : Bool := if (f_A_sideSeenFrom u X Y L1 L2 x y) < 0 then false else (if (f_A_sideSeenFrom u X Y L1 L2 z w) < 0 then false else (if f_G_together 41 L1 ((f_A_sideSeenFrom u X Y L1 L2 x y).toNatClampNeg) ((f_A_sideSeenFrom u X Y L1 L2 z w).toNatClampNeg) = true then true else false))
theorem i_A_same : inV y_A_same b_A_same 7 (some .boolean) 4 := ⟨kM_y_A_same, kV_y_A_same, kI_A, kY_y_A_same, by decide +kernel⟩
set_option maxHeartbeats 4000000 in
set_option maxRecDepth 100000 in
theorem c_A_same (l : Launch) (D : va_G) (h0 hm hu hxs hys hg1 hl1 hg2 hl2 : Nat) (cZ cI : ClassId) (u : Nat → Bool) (X Y : Nat → Int32) (L1 L2 : Nat → Nat) (x : Int32) (y : Int32) (z : Int32) (w : Int32)   : PM l y_A_same b_A_same 7 (some .boolean) 5 122 D (atlW h0 hm hu hxs hys hg1 hl1 hg2 hl2 cZ cI u X Y L1 L2) [(cZ, .boolean), (cI, .int)] [.ref h0, .int x, .int y, .int z, .int w] (b2i (f_A_same u X Y L1 L2 x y z w)) := by
  refine pMet rfl (fun p e s m below meth c S hr hlk hP hK ls hl => ?_) (Nat.le_of_ble_eq_true rfl)
  have hx := S.1
  have hb := S.2.1
  have hl : lv_has ls 7 [(0, .ref h0), (1, .int x), (2, .int y), (3, .int z), (4, .int w)] := hl
  refine lv_aload_n hx hb d_A_same_0 rfl (lv_at hl 0 rfl) ?_
  refine lv_iload_n hx hb d_A_same_1 rfl (lv_at hl 1 rfl) ?_
  refine lv_iload_n hx hb d_A_same_2 rfl (lv_at hl 2 rfl) ?_
  refine rcallV (rest := []) (v := (f_A_sideSeenFrom u X Y L1 L2 x y)) S [.int x, .int y] hK hP [0, 1, 2, 3, 4, 5, 6, 7, 8] rfl [0, 1] rfl (c_A_sideSeenFrom l D h0 hm hu hxs hys hg1 hl1 hg2 hl2 cZ cI u X Y L1 L2 x y ) i_A_sideSeenFrom kL_A_74 ⟨Nat.le_of_ble_eq_true rfl, Nat.le_of_ble_eq_true rfl⟩ (by exact ⟨Nat.zero_le _, Nat.zero_le _⟩) (q0 := 0) (ci := 2) rfl rfl rfl hl.1 rfl (Nat.le_of_ble_eq_true rfl) d_A_same_3 ?_
  refine lv_istore (lv' := [(5, .int ((f_A_sideSeenFrom u X Y L1 L2 x y))), (0, .ref h0), (1, .int x), (2, .int y), (3, .int z), (4, .int w)]) hx hb d_A_same_6 hl (by decide) rfl (fun ls hl => ?_)
  refine lv_aload_n hx hb d_A_same_8 rfl (lv_at hl 1 rfl) ?_
  refine lv_iload_n hx hb d_A_same_9 rfl (lv_at hl 4 rfl) ?_
  refine lv_iload hx hb d_A_same_10 (lv_at hl 5 rfl) ?_
  refine rcallV (rest := []) (v := (f_A_sideSeenFrom u X Y L1 L2 z w)) S [.int z, .int w] hK hP [0, 1, 2, 3, 4, 5, 6, 7, 8] rfl [0, 1] rfl (c_A_sideSeenFrom l D h0 hm hu hxs hys hg1 hl1 hg2 hl2 cZ cI u X Y L1 L2 z w ) i_A_sideSeenFrom kL_A_74 ⟨Nat.le_of_ble_eq_true rfl, Nat.le_of_ble_eq_true rfl⟩ (by exact ⟨Nat.zero_le _, Nat.zero_le _⟩) (q0 := 0) (ci := 2) rfl rfl rfl hl.1 rfl (Nat.le_of_ble_eq_true rfl) d_A_same_12 ?_
  refine lv_istore (lv' := [(6, .int ((f_A_sideSeenFrom u X Y L1 L2 z w))), (5, .int ((f_A_sideSeenFrom u X Y L1 L2 x y))), (0, .ref h0), (1, .int x), (2, .int y), (3, .int z), (4, .int w)]) hx hb d_A_same_15 hl (by decide) rfl (fun ls hl => ?_)
  refine lv_iload hx hb d_A_same_17 (lv_at hl 1 rfl) ?_
  refine lv_if_lt (tgt := 45) hx hb d_A_same_19 (by decide) (fun c1 => ?_) (fun c1 => ?_)
  · have c1a : (f_A_sideSeenFrom u X Y L1 L2 x y) < 0 := c1
    refine lv_iconst (v := 0) hx hb d_A_same_45 (by decide) ?_
    exact rretZ S hr hlk (v := false) (show f_A_same u X Y L1 L2 x y z w = false from by unfold f_A_same; rw [if_pos c1a]).symm d_A_same_46
  · have c1a : ¬ ((f_A_sideSeenFrom u X Y L1 L2 x y) < 0) := c1
    refine lv_iload hx hb d_A_same_22 (lv_at hl 0 rfl) ?_
    refine lv_if_lt (tgt := 45) hx hb d_A_same_24 (by decide) (fun c2 => ?_) (fun c2 => ?_)
    · have c2a : (f_A_sideSeenFrom u X Y L1 L2 z w) < 0 := c2
      refine lv_iconst (v := 0) hx hb d_A_same_45 (by decide) ?_
      exact rretZ S hr hlk (v := false) (show f_A_same u X Y L1 L2 x y z w = false from by unfold f_A_same; rw [if_neg c1a, if_pos c2a]).symm d_A_same_46
    · have c2a : ¬ ((f_A_sideSeenFrom u X Y L1 L2 z w) < 0) := c2
      have ek2 : (f_A_sideSeenFrom u X Y L1 L2 x y) = nI ((f_A_sideSeenFrom u X Y L1 L2 x y).toNatClampNeg) := seen_nat2 c1a
      have hk2 : (f_A_sideSeenFrom u X Y L1 L2 x y).toNatClampNeg < 41 := seen_lt2 c1a
      rw [ek2] at hl
      have ek3 : (f_A_sideSeenFrom u X Y L1 L2 z w) = nI ((f_A_sideSeenFrom u X Y L1 L2 z w).toNatClampNeg) := seen_nat2 c2a
      have hk3 : (f_A_sideSeenFrom u X Y L1 L2 z w).toNatClampNeg < 41 := seen_lt2 c2a
      rw [ek3] at hl
      refine lv_aload_n hx hb d_A_same_27 rfl (lv_at hl 2 rfl) ?_
      refine rget S hK hP 0 rfl rfl in_A 1 (by decide) kF_A_21 rfl d_A_same_28 ?_
      refine lv_iload hx hb d_A_same_31 (lv_at hl 1 rfl) ?_
      refine lv_iload hx hb d_A_same_33 (lv_at hl 0 rfl) ?_
      refine rcallV (rest := []) (v := b2i (f_G_together 41 L1 ((f_A_sideSeenFrom u X Y L1 L2 x y).toNatClampNeg) ((f_A_sideSeenFrom u X Y L1 L2 z w).toNatClampNeg))) S [.int (nI ((f_A_sideSeenFrom u X Y L1 L2 x y).toNatClampNeg)), .int (nI ((f_A_sideSeenFrom u X Y L1 L2 z w).toNatClampNeg))] hK hP [5, 6] rfl [1] rfl (c_G_together l D hg1 hl1 cI 41 L1 ((f_A_sideSeenFrom u X Y L1 L2 x y).toNatClampNeg) ((f_A_sideSeenFrom u X Y L1 L2 z w).toNatClampNeg) (by omega) (by omega) (by first | decide | omega)) i_G_together kL_A_77 ⟨Nat.le_of_ble_eq_true rfl, Nat.le_of_ble_eq_true rfl⟩ (by exact ⟨Nat.zero_le _, Nat.zero_le _⟩) (q0 := 0) (ci := 0) rfl rfl rfl hl.1 rfl (Nat.le_of_ble_eq_true rfl) d_A_same_35 ?_
      refine lv_if_eq (tgt := 45) hx hb d_A_same_38 (by decide) (fun c3 => ?_) (fun c3 => ?_)
      · have c3a : ¬ (f_G_together 41 L1 ((f_A_sideSeenFrom u X Y L1 L2 x y).toNatClampNeg) ((f_A_sideSeenFrom u X Y L1 L2 z w).toNatClampNeg) = true) := b2n (b2i_eq0.mp c3)
        refine lv_iconst (v := 0) hx hb d_A_same_45 (by decide) ?_
        exact rretZ S hr hlk (v := false) (show f_A_same u X Y L1 L2 x y z w = false from by unfold f_A_same; rw [if_neg c1a, if_neg c2a, if_neg c3a]).symm d_A_same_46
      · have c3a : f_G_together 41 L1 ((f_A_sideSeenFrom u X Y L1 L2 x y).toNatClampNeg) ((f_A_sideSeenFrom u X Y L1 L2 z w).toNatClampNeg) = true := b2i_ne0.mp c3
        refine lv_iconst (v := 1) hx hb d_A_same_41 (by decide) ?_
        refine lv_goto (tgt := 46) hx hb d_A_same_42 (by decide) ?_
        exact rretZ S hr hlk (v := true) (show f_A_same u X Y L1 L2 x y z w = true from by unfold f_A_same; rw [if_neg c1a, if_neg c2a, if_pos c3a]).symm d_A_same_46
def fx_A_area (u : Nat → Bool) (X : Nat → Int32) (Y : Nat → Int32) (L1 : Nat → Nat) (L2 : Nat → Nat) (x : Int32) (y : Int32) (a : Nat) (sn : Nat) (tw2 : Int32) : Int32 := tw2
def fb_A_area (u : Nat → Bool) (X : Nat → Int32) (Y : Nat → Int32) (L1 : Nat → Nat) (L2 : Nat → Nat) (x : Int32) (y : Int32) (rec : Nat → Nat → Int32 → Int32) (a : Nat) (sn : Nat) (tw2 : Int32) : Int32 := if f_M_hasArrow u X Y a = true then (if f_G_together 41 L1 sn a = true then (rec (a + 1) sn (tw2 + (f_M_sweep u X Y a))) else (rec (a + 1) sn tw2)) else (rec (a + 1) sn tw2)
def fl_A_area (u : Nat → Bool) (X : Nat → Int32) (Y : Nat → Int32) (L1 : Nat → Nat) (L2 : Nat → Nat) (x : Int32) (y : Int32) : Nat → Nat → Nat → Int32 → Int32
  | 0, a, sn, tw2 => fx_A_area u X Y L1 L2 x y a sn tw2
  | n + 1, a, sn, tw2 => fb_A_area u X Y L1 L2 x y (fl_A_area u X Y L1 L2 x y n) a sn tw2
def f_A_area (u : Nat → Bool) (X : Nat → Int32) (Y : Nat → Int32) (L1 : Nat → Nat) (L2 : Nat → Nat) (x : Int32) (y : Int32) : Int32 := if 0 ≤ (f_A_sideSeenFrom u X Y L1 L2 x y) then (if f_G_together 41 L1 ((f_A_sideSeenFrom u X Y L1 L2 x y).toNatClampNeg) 40 = true then 0 else (fl_A_area u X Y L1 L2 x y 40 0 ((f_A_sideSeenFrom u X Y L1 L2 x y).toNatClampNeg) 0)) else (f_A_sideSeenFrom u X Y L1 L2 x y)
theorem i_A_area : inV y_A_area b_A_area 6 (some .int) 2 := ⟨kM_y_A_area, kV_y_A_area, kI_A, kY_y_A_area, by decide +kernel⟩
set_option maxHeartbeats 4000000 in
set_option maxRecDepth 100000 in
theorem c_A_area (l : Launch) (D : va_G) (h0 hm hu hxs hys hg1 hl1 hg2 hl2 : Nat) (cZ cI : ClassId) (u : Nat → Bool) (X Y : Nat → Int32) (L1 L2 : Nat → Nat) (x : Int32) (y : Int32)   : PM l y_A_area b_A_area 6 (some .int) 5 122 D (atlW h0 hm hu hxs hys hg1 hl1 hg2 hl2 cZ cI u X Y L1 L2) [(cZ, .boolean), (cI, .int)] [.ref h0, .int x, .int y] (f_A_area u X Y L1 L2 x y) := by
  refine pMet rfl (fun p e s m below meth c S hr hlk hP hK ls hl => ?_) (Nat.le_of_ble_eq_true rfl)
  have hx := S.1
  have hb := S.2.1
  have hl : lv_has ls 6 [(0, .ref h0), (1, .int x), (2, .int y)] := hl
  have key : ∀ (n : Nat) (a : Nat) (sn : Nat) (tw2 : Int32) (hk : a + n = 40) (hsn : sn < 41) (ls : Array Slot) (hl : lv_has ls 6 [(0, .ref h0), (3, .int (nI (sn))), (4, .int tw2), (5, .int (nI (a)))]) (hf : f_A_area u X Y L1 L2 x y = fl_A_area u X Y L1 L2 x y n a sn tw2), W p l e { frames := 5, cells := 0, slots := 0, locals := 122 } s m [.ref h0, .int x, .int y].toArray below meth c s.heap [] 0 0 (MQ below (pQ ((f_A_area u X Y L1 L2 x y))) [.ref h0, .int x, .int y].toArray s 0 0 (fun _ => False)) (F0 m 34 ls []) := by
    intro n
    induction n with
    | zero =>
      intro a sn tw2 hk hsn ls hl hf
      refine lv_iload hx hb d_A_area_34 (lv_at hl 3 rfl) ?_
      refine lv_bipush (v := 40) hx hb d_A_area_36 (by decide) ?_
      refine lv_icmp_ge (tgt := 86) hx hb d_A_area_38 (by decide) (fun c1 => ?_) (fun c1 => ?_)
      · have c1a : 40 ≤ a := (nI_leI (a := 40) (b := a) (by decide) (by omega)).mp c1
        refine lv_iload hx hb d_A_area_86 (lv_at hl 2 rfl) ?_
        exact rret S hr hlk (v := tw2) (hf.trans (show fx_A_area u X Y L1 L2 x y a sn tw2 = tw2 from rfl)).symm d_A_area_88
      · have c1a : ¬ (40 ≤ a) := fun h => c1 ((nI_leI (a := 40) (b := a) (by decide) (by omega)).mpr h)
        omega
    | succ n ih =>
      intro a sn tw2 hk hsn ls hl hf
      refine lv_iload hx hb d_A_area_34 (lv_at hl 3 rfl) ?_
      refine lv_bipush (v := 40) hx hb d_A_area_36 (by decide) ?_
      refine lv_icmp_ge (tgt := 86) hx hb d_A_area_38 (by decide) (fun c2 => ?_) (fun c2 => ?_)
      · have c2a : 40 ≤ a := (nI_leI (a := 40) (b := a) (by decide) (by omega)).mp c2
        omega
      · have c2a : ¬ (40 ≤ a) := fun h => c2 ((nI_leI (a := 40) (b := a) (by decide) (by omega)).mpr h)
        refine lv_aload_n hx hb d_A_area_41 rfl (lv_at hl 0 rfl) ?_
        refine rget S hK hP 0 rfl rfl in_A 0 (by decide) kF_A_12 rfl d_A_area_42 ?_
        refine lv_iload hx hb d_A_area_45 (lv_at hl 3 rfl) ?_
        refine rcallV (rest := []) (v := b2i (f_M_hasArrow u X Y a)) S [.int (nI (a))] hK hP [1, 2, 3, 4] rfl [0, 1] rfl (c_M_hasArrow l D hm hu hxs hys cZ cI u X Y a (by omega)) i_M_hasArrow kL_A_55 ⟨Nat.le_of_ble_eq_true rfl, Nat.le_of_ble_eq_true rfl⟩ (by exact ⟨Nat.zero_le _, Nat.zero_le _⟩) (q0 := 0) (ci := 1) rfl rfl rfl hl.1 rfl (Nat.le_of_ble_eq_true rfl) d_A_area_47 ?_
        refine lv_if_eq (tgt := 80) hx hb d_A_area_50 (by decide) (fun c3 => ?_) (fun c3 => ?_)
        · have c3a : ¬ (f_M_hasArrow u X Y a = true) := b2n (b2i_eq0.mp c3)
          refine lv_iinc (v := nI (a + 1)) (lv' := [(5, .int (nI (a + 1))), (0, .ref h0), (3, .int (nI (sn))), (4, .int tw2)]) hx hb d_A_area_80 hl (k := 3) rfl (nI_1 (a)) (by decide) rfl (fun ls hl => ?_)
          refine lv_goto (tgt := 34) hx hb d_A_area_83 (by decide) ?_
          exact ih (a + 1) sn tw2 (by omega) hsn ls (lv_sub hl [1, 2, 3, 0] rfl) (hf.trans (show fb_A_area u X Y L1 L2 x y (fl_A_area u X Y L1 L2 x y n) a sn tw2 = (fl_A_area u X Y L1 L2 x y n (a + 1) sn tw2) from by unfold fb_A_area; rw [if_neg c3a]))
        · have c3a : f_M_hasArrow u X Y a = true := b2i_ne0.mp c3
          refine lv_aload_n hx hb d_A_area_53 rfl (lv_at hl 0 rfl) ?_
          refine rget S hK hP 0 rfl rfl in_A 1 (by decide) kF_A_21 rfl d_A_area_54 ?_
          refine lv_iload_n hx hb d_A_area_57 rfl (lv_at hl 1 rfl) ?_
          refine lv_iload hx hb d_A_area_58 (lv_at hl 3 rfl) ?_
          refine rcallV (rest := []) (v := b2i (f_G_together 41 L1 sn a)) S [.int (nI (sn)), .int (nI (a))] hK hP [5, 6] rfl [1] rfl (c_G_together l D hg1 hl1 cI 41 L1 sn a (by omega) (by omega) (by first | decide | omega)) i_G_together kL_A_77 ⟨Nat.le_of_ble_eq_true rfl, Nat.le_of_ble_eq_true rfl⟩ (by exact ⟨Nat.zero_le _, Nat.zero_le _⟩) (q0 := 0) (ci := 0) rfl rfl rfl hl.1 rfl (Nat.le_of_ble_eq_true rfl) d_A_area_60 ?_
          refine lv_if_eq (tgt := 80) hx hb d_A_area_63 (by decide) (fun c4 => ?_) (fun c4 => ?_)
          · have c4a : ¬ (f_G_together 41 L1 sn a = true) := b2n (b2i_eq0.mp c4)
            refine lv_iinc (v := nI (a + 1)) (lv' := [(5, .int (nI (a + 1))), (0, .ref h0), (3, .int (nI (sn))), (4, .int tw2)]) hx hb d_A_area_80 hl (k := 3) rfl (nI_1 (a)) (by decide) rfl (fun ls hl => ?_)
            refine lv_goto (tgt := 34) hx hb d_A_area_83 (by decide) ?_
            exact ih (a + 1) sn tw2 (by omega) hsn ls (lv_sub hl [1, 2, 3, 0] rfl) (hf.trans (show fb_A_area u X Y L1 L2 x y (fl_A_area u X Y L1 L2 x y n) a sn tw2 = (fl_A_area u X Y L1 L2 x y n (a + 1) sn tw2) from by unfold fb_A_area; rw [if_pos c3a, if_neg c4a]))
          · have c4a : f_G_together 41 L1 sn a = true := b2i_ne0.mp c4
            refine lv_iload hx hb d_A_area_66 (lv_at hl 2 rfl) ?_
            refine lv_aload_n hx hb d_A_area_68 rfl (lv_at hl 0 rfl) ?_
            refine rget S hK hP 0 rfl rfl in_A 0 (by decide) kF_A_12 rfl d_A_area_69 ?_
            refine lv_iload hx hb d_A_area_72 (lv_at hl 3 rfl) ?_
            refine rcallV (rest := [.int tw2]) (v := (f_M_sweep u X Y a)) S [.int (nI (a))] hK hP [1, 2, 3, 4] rfl [0, 1] rfl (c_M_sweep l D hm hu hxs hys cZ cI u X Y a (by omega)) i_M_sweep kL_A_80 ⟨Nat.le_of_ble_eq_true rfl, Nat.le_of_ble_eq_true rfl⟩ (by exact ⟨Nat.zero_le _, Nat.zero_le _⟩) (q0 := 0) (ci := 1) rfl rfl rfl hl.1 rfl (Nat.le_of_ble_eq_true rfl) d_A_area_74 ?_
            refine lv_iadd hx hb d_A_area_77 ?_
            refine lv_istore (lv' := [(4, .int ((tw2 + (f_M_sweep u X Y a)))), (0, .ref h0), (3, .int (nI (sn))), (5, .int (nI (a)))]) hx hb d_A_area_78 hl (by decide) rfl (fun ls hl => ?_)
            refine lv_iinc (v := nI (a + 1)) (lv' := [(5, .int (nI (a + 1))), (4, .int ((tw2 + (f_M_sweep u X Y a)))), (0, .ref h0), (3, .int (nI (sn)))]) hx hb d_A_area_80 hl (k := 3) rfl (nI_1 (a)) (by decide) rfl (fun ls hl => ?_)
            refine lv_goto (tgt := 34) hx hb d_A_area_83 (by decide) ?_
            exact ih (a + 1) sn (tw2 + (f_M_sweep u X Y a)) (by omega) hsn ls (lv_sub hl [2, 3, 1, 0] rfl) (hf.trans (show fb_A_area u X Y L1 L2 x y (fl_A_area u X Y L1 L2 x y n) a sn tw2 = (fl_A_area u X Y L1 L2 x y n (a + 1) sn (tw2 + (f_M_sweep u X Y a))) from by unfold fb_A_area; rw [if_pos c3a, if_pos c4a]))
  refine lv_aload_n hx hb d_A_area_0 rfl (lv_at hl 0 rfl) ?_
  refine lv_iload_n hx hb d_A_area_1 rfl (lv_at hl 1 rfl) ?_
  refine lv_iload_n hx hb d_A_area_2 rfl (lv_at hl 2 rfl) ?_
  refine rcallV (rest := []) (v := (f_A_sideSeenFrom u X Y L1 L2 x y)) S [.int x, .int y] hK hP [0, 1, 2, 3, 4, 5, 6, 7, 8] rfl [0, 1] rfl (c_A_sideSeenFrom l D h0 hm hu hxs hys hg1 hl1 hg2 hl2 cZ cI u X Y L1 L2 x y ) i_A_sideSeenFrom kL_A_74 ⟨Nat.le_of_ble_eq_true rfl, Nat.le_of_ble_eq_true rfl⟩ (by exact ⟨Nat.zero_le _, Nat.zero_le _⟩) (q0 := 0) (ci := 2) rfl rfl rfl hl.1 rfl (Nat.le_of_ble_eq_true rfl) d_A_area_3 ?_
  refine lv_istore_n (lv' := [(3, .int ((f_A_sideSeenFrom u X Y L1 L2 x y))), (0, .ref h0), (1, .int x), (2, .int y)]) hx hb d_A_area_6 rfl hl (by decide) rfl (fun ls hl => ?_)
  refine lv_iload_n hx hb d_A_area_7 rfl (lv_at hl 0 rfl) ?_
  refine lv_if_ge (tgt := 13) hx hb d_A_area_8 (by decide) (fun c5 => ?_) (fun c5 => ?_)
  · have c5a : 0 ≤ (f_A_sideSeenFrom u X Y L1 L2 x y) := c5
    have ek2 : (f_A_sideSeenFrom u X Y L1 L2 x y) = nI ((f_A_sideSeenFrom u X Y L1 L2 x y).toNatClampNeg) := seen_nat c5a
    have hk2 : (f_A_sideSeenFrom u X Y L1 L2 x y).toNatClampNeg < 41 := seen_lt c5a
    rw [ek2] at hl
    refine lv_aload_n hx hb d_A_area_13 rfl (lv_at hl 1 rfl) ?_
    refine rget S hK hP 0 rfl rfl in_A 1 (by decide) kF_A_21 rfl d_A_area_14 ?_
    refine lv_iload_n hx hb d_A_area_17 rfl (lv_at hl 0 rfl) ?_
    refine lv_bipush (v := 40) hx hb d_A_area_18 (by decide) ?_
    refine rcallV (rest := []) (v := b2i (f_G_together 41 L1 ((f_A_sideSeenFrom u X Y L1 L2 x y).toNatClampNeg) 40)) S [.int (nI ((f_A_sideSeenFrom u X Y L1 L2 x y).toNatClampNeg)), .int 40] hK hP [5, 6] rfl [1] rfl (c_G_together l D hg1 hl1 cI 41 L1 ((f_A_sideSeenFrom u X Y L1 L2 x y).toNatClampNeg) 40 (by omega) (by omega) (by first | decide | omega)) i_G_together kL_A_77 ⟨Nat.le_of_ble_eq_true rfl, Nat.le_of_ble_eq_true rfl⟩ (by exact ⟨Nat.zero_le _, Nat.zero_le _⟩) (q0 := 0) (ci := 0) rfl rfl rfl hl.1 rfl (Nat.le_of_ble_eq_true rfl) d_A_area_20 ?_
    refine lv_if_eq (tgt := 28) hx hb d_A_area_23 (by decide) (fun c6 => ?_) (fun c6 => ?_)
    · have c6a : ¬ (f_G_together 41 L1 ((f_A_sideSeenFrom u X Y L1 L2 x y).toNatClampNeg) 40 = true) := b2n (b2i_eq0.mp c6)
      refine lv_iconst (v := 0) hx hb d_A_area_28 (by decide) ?_
      refine lv_istore (lv' := [(4, .int 0), (3, .int (nI ((f_A_sideSeenFrom u X Y L1 L2 x y).toNatClampNeg))), (0, .ref h0), (1, .int x), (2, .int y)]) hx hb d_A_area_29 hl (by decide) rfl (fun ls hl => ?_)
      refine lv_iconst (v := 0) hx hb d_A_area_31 (by decide) ?_
      refine lv_istore (lv' := [(5, .int 0), (4, .int 0), (3, .int (nI ((f_A_sideSeenFrom u X Y L1 L2 x y).toNatClampNeg))), (0, .ref h0), (1, .int x), (2, .int y)]) hx hb d_A_area_32 hl (by decide) rfl (fun ls hl => ?_)
      exact key 40 0 ((f_A_sideSeenFrom u X Y L1 L2 x y).toNatClampNeg) 0 (by omega) hk2 ls (lv_sub hl [3, 2, 1, 0] rfl) (show f_A_area u X Y L1 L2 x y = (fl_A_area u X Y L1 L2 x y 40 0 ((f_A_sideSeenFrom u X Y L1 L2 x y).toNatClampNeg) 0) from by unfold f_A_area; rw [if_pos c5a, if_neg c6a])
    · have c6a : f_G_together 41 L1 ((f_A_sideSeenFrom u X Y L1 L2 x y).toNatClampNeg) 40 = true := b2i_ne0.mp c6
      refine lv_iconst (v := 0) hx hb d_A_area_26 (by decide) ?_
      exact rret S hr hlk (v := 0) (show f_A_area u X Y L1 L2 x y = 0 from by unfold f_A_area; rw [if_pos c5a, if_pos c6a]).symm d_A_area_27
  · have c5a : ¬ (0 ≤ (f_A_sideSeenFrom u X Y L1 L2 x y)) := c5
    refine lv_iload_n hx hb d_A_area_11 rfl (lv_at hl 0 rfl) ?_
    exact rret S hr hlk (v := (f_A_sideSeenFrom u X Y L1 L2 x y)) (show f_A_area u X Y L1 L2 x y = (f_A_sideSeenFrom u X Y L1 L2 x y) from by unfold f_A_area; rw [if_neg c5a]).symm d_A_area_12
def fx_A_border (u : Nat → Bool) (X : Nat → Int32) (Y : Nat → Int32) (L1 : Nat → Nat) (L2 : Nat → Nat) (x : Int32) (y : Int32) (a : Nat) (sn : Nat) (cnt : Nat) : Int32 := nI (cnt)
def fb_A_border (u : Nat → Bool) (X : Nat → Int32) (Y : Nat → Int32) (L1 : Nat → Nat) (L2 : Nat → Nat) (x : Int32) (y : Int32) (rec : Nat → Nat → Nat → Int32) (a : Nat) (sn : Nat) (cnt : Nat) : Int32 := if f_M_hasArrow u X Y a = true then (if f_G_together 41 L1 sn a = true then (rec (a + 1) sn (cnt + 1)) else (rec (a + 1) sn cnt)) else (rec (a + 1) sn cnt)
def fl_A_border (u : Nat → Bool) (X : Nat → Int32) (Y : Nat → Int32) (L1 : Nat → Nat) (L2 : Nat → Nat) (x : Int32) (y : Int32) : Nat → Nat → Nat → Nat → Int32
  | 0, a, sn, cnt => fx_A_border u X Y L1 L2 x y a sn cnt
  | n + 1, a, sn, cnt => fb_A_border u X Y L1 L2 x y (fl_A_border u X Y L1 L2 x y n) a sn cnt
def f_A_border (u : Nat → Bool) (X : Nat → Int32) (Y : Nat → Int32) (L1 : Nat → Nat) (L2 : Nat → Nat) (x : Int32) (y : Int32) : Int32 := if 0 ≤ (f_A_sideSeenFrom u X Y L1 L2 x y) then (fl_A_border u X Y L1 L2 x y 40 0 ((f_A_sideSeenFrom u X Y L1 L2 x y).toNatClampNeg) 0) else (f_A_sideSeenFrom u X Y L1 L2 x y)
theorem i_A_border : inV y_A_border b_A_border 6 (some .int) 2 := ⟨kM_y_A_border, kV_y_A_border, kI_A, kY_y_A_border, by decide +kernel⟩
set_option maxHeartbeats 4000000 in
set_option maxRecDepth 100000 in
theorem c_A_border (l : Launch) (D : va_G) (h0 hm hu hxs hys hg1 hl1 hg2 hl2 : Nat) (cZ cI : ClassId) (u : Nat → Bool) (X Y : Nat → Int32) (L1 L2 : Nat → Nat) (x : Int32) (y : Int32)   : PM l y_A_border b_A_border 6 (some .int) 5 122 D (atlW h0 hm hu hxs hys hg1 hl1 hg2 hl2 cZ cI u X Y L1 L2) [(cZ, .boolean), (cI, .int)] [.ref h0, .int x, .int y] (f_A_border u X Y L1 L2 x y) := by
  refine pMet rfl (fun p e s m below meth c S hr hlk hP hK ls hl => ?_) (Nat.le_of_ble_eq_true rfl)
  have hx := S.1
  have hb := S.2.1
  have hl : lv_has ls 6 [(0, .ref h0), (1, .int x), (2, .int y)] := hl
  have key : ∀ (n : Nat) (a : Nat) (sn : Nat) (cnt : Nat) (hk : a + n = 40) (hsn : sn < 41) (ls : Array Slot) (hl : lv_has ls 6 [(0, .ref h0), (3, .int (nI (sn))), (4, .int (nI (cnt))), (5, .int (nI (a)))]) (hf : f_A_border u X Y L1 L2 x y = fl_A_border u X Y L1 L2 x y n a sn cnt), W p l e { frames := 5, cells := 0, slots := 0, locals := 122 } s m [.ref h0, .int x, .int y].toArray below meth c s.heap [] 0 0 (MQ below (pQ ((f_A_border u X Y L1 L2 x y))) [.ref h0, .int x, .int y].toArray s 0 0 (fun _ => False)) (F0 m 19 ls []) := by
    intro n
    induction n with
    | zero =>
      intro a sn cnt hk hsn ls hl hf
      refine lv_iload hx hb d_A_border_19 (lv_at hl 3 rfl) ?_
      refine lv_bipush (v := 40) hx hb d_A_border_21 (by decide) ?_
      refine lv_icmp_ge (tgt := 60) hx hb d_A_border_23 (by decide) (fun c1 => ?_) (fun c1 => ?_)
      · have c1a : 40 ≤ a := (nI_leI (a := 40) (b := a) (by decide) (by omega)).mp c1
        refine lv_iload hx hb d_A_border_60 (lv_at hl 2 rfl) ?_
        exact rret S hr hlk (v := nI (cnt)) (hf.trans (show fx_A_border u X Y L1 L2 x y a sn cnt = (nI (cnt)) from rfl)).symm d_A_border_62
      · have c1a : ¬ (40 ≤ a) := fun h => c1 ((nI_leI (a := 40) (b := a) (by decide) (by omega)).mpr h)
        omega
    | succ n ih =>
      intro a sn cnt hk hsn ls hl hf
      refine lv_iload hx hb d_A_border_19 (lv_at hl 3 rfl) ?_
      refine lv_bipush (v := 40) hx hb d_A_border_21 (by decide) ?_
      refine lv_icmp_ge (tgt := 60) hx hb d_A_border_23 (by decide) (fun c2 => ?_) (fun c2 => ?_)
      · have c2a : 40 ≤ a := (nI_leI (a := 40) (b := a) (by decide) (by omega)).mp c2
        omega
      · have c2a : ¬ (40 ≤ a) := fun h => c2 ((nI_leI (a := 40) (b := a) (by decide) (by omega)).mpr h)
        refine lv_aload_n hx hb d_A_border_26 rfl (lv_at hl 0 rfl) ?_
        refine rget S hK hP 0 rfl rfl in_A 0 (by decide) kF_A_12 rfl d_A_border_27 ?_
        refine lv_iload hx hb d_A_border_30 (lv_at hl 3 rfl) ?_
        refine rcallV (rest := []) (v := b2i (f_M_hasArrow u X Y a)) S [.int (nI (a))] hK hP [1, 2, 3, 4] rfl [0, 1] rfl (c_M_hasArrow l D hm hu hxs hys cZ cI u X Y a (by omega)) i_M_hasArrow kL_A_55 ⟨Nat.le_of_ble_eq_true rfl, Nat.le_of_ble_eq_true rfl⟩ (by exact ⟨Nat.zero_le _, Nat.zero_le _⟩) (q0 := 0) (ci := 1) rfl rfl rfl hl.1 rfl (Nat.le_of_ble_eq_true rfl) d_A_border_32 ?_
        refine lv_if_eq (tgt := 54) hx hb d_A_border_35 (by decide) (fun c3 => ?_) (fun c3 => ?_)
        · have c3a : ¬ (f_M_hasArrow u X Y a = true) := b2n (b2i_eq0.mp c3)
          refine lv_iinc (v := nI (a + 1)) (lv' := [(5, .int (nI (a + 1))), (0, .ref h0), (3, .int (nI (sn))), (4, .int (nI (cnt)))]) hx hb d_A_border_54 hl (k := 3) rfl (nI_1 (a)) (by decide) rfl (fun ls hl => ?_)
          refine lv_goto (tgt := 19) hx hb d_A_border_57 (by decide) ?_
          exact ih (a + 1) sn cnt (by omega) hsn ls (lv_sub hl [1, 2, 3, 0] rfl) (hf.trans (show fb_A_border u X Y L1 L2 x y (fl_A_border u X Y L1 L2 x y n) a sn cnt = (fl_A_border u X Y L1 L2 x y n (a + 1) sn cnt) from by unfold fb_A_border; rw [if_neg c3a]))
        · have c3a : f_M_hasArrow u X Y a = true := b2i_ne0.mp c3
          refine lv_aload_n hx hb d_A_border_38 rfl (lv_at hl 0 rfl) ?_
          refine rget S hK hP 0 rfl rfl in_A 1 (by decide) kF_A_21 rfl d_A_border_39 ?_
          refine lv_iload_n hx hb d_A_border_42 rfl (lv_at hl 1 rfl) ?_
          refine lv_iload hx hb d_A_border_43 (lv_at hl 3 rfl) ?_
          refine rcallV (rest := []) (v := b2i (f_G_together 41 L1 sn a)) S [.int (nI (sn)), .int (nI (a))] hK hP [5, 6] rfl [1] rfl (c_G_together l D hg1 hl1 cI 41 L1 sn a (by omega) (by omega) (by first | decide | omega)) i_G_together kL_A_77 ⟨Nat.le_of_ble_eq_true rfl, Nat.le_of_ble_eq_true rfl⟩ (by exact ⟨Nat.zero_le _, Nat.zero_le _⟩) (q0 := 0) (ci := 0) rfl rfl rfl hl.1 rfl (Nat.le_of_ble_eq_true rfl) d_A_border_45 ?_
          refine lv_if_eq (tgt := 54) hx hb d_A_border_48 (by decide) (fun c4 => ?_) (fun c4 => ?_)
          · have c4a : ¬ (f_G_together 41 L1 sn a = true) := b2n (b2i_eq0.mp c4)
            refine lv_iinc (v := nI (a + 1)) (lv' := [(5, .int (nI (a + 1))), (0, .ref h0), (3, .int (nI (sn))), (4, .int (nI (cnt)))]) hx hb d_A_border_54 hl (k := 3) rfl (nI_1 (a)) (by decide) rfl (fun ls hl => ?_)
            refine lv_goto (tgt := 19) hx hb d_A_border_57 (by decide) ?_
            exact ih (a + 1) sn cnt (by omega) hsn ls (lv_sub hl [1, 2, 3, 0] rfl) (hf.trans (show fb_A_border u X Y L1 L2 x y (fl_A_border u X Y L1 L2 x y n) a sn cnt = (fl_A_border u X Y L1 L2 x y n (a + 1) sn cnt) from by unfold fb_A_border; rw [if_pos c3a, if_neg c4a]))
          · have c4a : f_G_together 41 L1 sn a = true := b2i_ne0.mp c4
            refine lv_iinc (v := nI (cnt + 1)) (lv' := [(4, .int (nI (cnt + 1))), (0, .ref h0), (3, .int (nI (sn))), (5, .int (nI (a)))]) hx hb d_A_border_51 hl (k := 2) rfl (nI_1 (cnt)) (by decide) rfl (fun ls hl => ?_)
            refine lv_iinc (v := nI (a + 1)) (lv' := [(5, .int (nI (a + 1))), (4, .int (nI (cnt + 1))), (0, .ref h0), (3, .int (nI (sn)))]) hx hb d_A_border_54 hl (k := 3) rfl (nI_1 (a)) (by decide) rfl (fun ls hl => ?_)
            refine lv_goto (tgt := 19) hx hb d_A_border_57 (by decide) ?_
            exact ih (a + 1) sn (cnt + 1) (by omega) hsn ls (lv_sub hl [2, 3, 1, 0] rfl) (hf.trans (show fb_A_border u X Y L1 L2 x y (fl_A_border u X Y L1 L2 x y n) a sn cnt = (fl_A_border u X Y L1 L2 x y n (a + 1) sn (cnt + 1)) from by unfold fb_A_border; rw [if_pos c3a, if_pos c4a]))
  refine lv_aload_n hx hb d_A_border_0 rfl (lv_at hl 0 rfl) ?_
  refine lv_iload_n hx hb d_A_border_1 rfl (lv_at hl 1 rfl) ?_
  refine lv_iload_n hx hb d_A_border_2 rfl (lv_at hl 2 rfl) ?_
  refine rcallV (rest := []) (v := (f_A_sideSeenFrom u X Y L1 L2 x y)) S [.int x, .int y] hK hP [0, 1, 2, 3, 4, 5, 6, 7, 8] rfl [0, 1] rfl (c_A_sideSeenFrom l D h0 hm hu hxs hys hg1 hl1 hg2 hl2 cZ cI u X Y L1 L2 x y ) i_A_sideSeenFrom kL_A_74 ⟨Nat.le_of_ble_eq_true rfl, Nat.le_of_ble_eq_true rfl⟩ (by exact ⟨Nat.zero_le _, Nat.zero_le _⟩) (q0 := 0) (ci := 2) rfl rfl rfl hl.1 rfl (Nat.le_of_ble_eq_true rfl) d_A_border_3 ?_
  refine lv_istore_n (lv' := [(3, .int ((f_A_sideSeenFrom u X Y L1 L2 x y))), (0, .ref h0), (1, .int x), (2, .int y)]) hx hb d_A_border_6 rfl hl (by decide) rfl (fun ls hl => ?_)
  refine lv_iload_n hx hb d_A_border_7 rfl (lv_at hl 0 rfl) ?_
  refine lv_if_ge (tgt := 13) hx hb d_A_border_8 (by decide) (fun c5 => ?_) (fun c5 => ?_)
  · have c5a : 0 ≤ (f_A_sideSeenFrom u X Y L1 L2 x y) := c5
    have ek2 : (f_A_sideSeenFrom u X Y L1 L2 x y) = nI ((f_A_sideSeenFrom u X Y L1 L2 x y).toNatClampNeg) := seen_nat c5a
    have hk2 : (f_A_sideSeenFrom u X Y L1 L2 x y).toNatClampNeg < 41 := seen_lt c5a
    rw [ek2] at hl
    refine lv_iconst (v := 0) hx hb d_A_border_13 (by decide) ?_
    refine lv_istore (lv' := [(4, .int 0), (3, .int (nI ((f_A_sideSeenFrom u X Y L1 L2 x y).toNatClampNeg))), (0, .ref h0), (1, .int x), (2, .int y)]) hx hb d_A_border_14 hl (by decide) rfl (fun ls hl => ?_)
    refine lv_iconst (v := 0) hx hb d_A_border_16 (by decide) ?_
    refine lv_istore (lv' := [(5, .int 0), (4, .int 0), (3, .int (nI ((f_A_sideSeenFrom u X Y L1 L2 x y).toNatClampNeg))), (0, .ref h0), (1, .int x), (2, .int y)]) hx hb d_A_border_17 hl (by decide) rfl (fun ls hl => ?_)
    exact key 40 0 ((f_A_sideSeenFrom u X Y L1 L2 x y).toNatClampNeg) 0 (by omega) hk2 ls (lv_sub hl [3, 2, 1, 0] rfl) (show f_A_border u X Y L1 L2 x y = (fl_A_border u X Y L1 L2 x y 40 0 ((f_A_sideSeenFrom u X Y L1 L2 x y).toNatClampNeg) 0) from by unfold f_A_border; rw [if_pos c5a])
  · have c5a : ¬ (0 ≤ (f_A_sideSeenFrom u X Y L1 L2 x y)) := c5
    refine lv_iload_n hx hb d_A_border_11 rfl (lv_at hl 0 rfl) ?_
    exact rret S hr hlk (v := (f_A_sideSeenFrom u X Y L1 L2 x y)) (show f_A_border u X Y L1 L2 x y = (f_A_sideSeenFrom u X Y L1 L2 x y) from by unfold f_A_border; rw [if_neg c5a]).symm d_A_border_12
def f_A_touches (u : Nat → Bool) (X : Nat → Int32) (Y : Nat → Int32) (L1 : Nat → Nat) (L2 : Nat → Nat) (x : Int32) (y : Int32) (k : Int32) : Int32 := if 0 ≤ (f_A_sideSeenFrom u X Y L1 L2 x y) then (if f_M_has u X Y k = true then (if f_G_together 41 L1 ((f_A_sideSeenFrom u X Y L1 L2 x y).toNatClampNeg) (2 * k.toNatClampNeg) = true then (if f_G_together 41 L1 ((f_A_sideSeenFrom u X Y L1 L2 x y).toNatClampNeg) ((2 * k.toNatClampNeg) + 1) = true then 3 else 1) else (if f_G_together 41 L1 ((f_A_sideSeenFrom u X Y L1 L2 x y).toNatClampNeg) ((2 * k.toNatClampNeg) + 1) = true then 2 else 0)) else (-1)) else (f_A_sideSeenFrom u X Y L1 L2 x y)
theorem i_A_touches : inV y_A_touches b_A_touches 7 (some .int) 3 := ⟨kM_y_A_touches, kV_y_A_touches, kI_A, kY_y_A_touches, by decide +kernel⟩
set_option maxHeartbeats 4000000 in
set_option maxRecDepth 100000 in
theorem c_A_touches (l : Launch) (D : va_G) (h0 hm hu hxs hys hg1 hl1 hg2 hl2 : Nat) (cZ cI : ClassId) (u : Nat → Bool) (X Y : Nat → Int32) (L1 L2 : Nat → Nat) (x : Int32) (y : Int32) (k : Int32)   : PM l y_A_touches b_A_touches 7 (some .int) 5 122 D (atlW h0 hm hu hxs hys hg1 hl1 hg2 hl2 cZ cI u X Y L1 L2) [(cZ, .boolean), (cI, .int)] [.ref h0, .int x, .int y, .int k] (f_A_touches u X Y L1 L2 x y k) := by
  refine pMet rfl (fun p e s m below meth c S hr hlk hP hK ls hl => ?_) (Nat.le_of_ble_eq_true rfl)
  have hx := S.1
  have hb := S.2.1
  have hl : lv_has ls 7 [(0, .ref h0), (1, .int x), (2, .int y), (3, .int k)] := hl
  refine lv_aload_n hx hb d_A_touches_0 rfl (lv_at hl 0 rfl) ?_
  refine lv_iload_n hx hb d_A_touches_1 rfl (lv_at hl 1 rfl) ?_
  refine lv_iload_n hx hb d_A_touches_2 rfl (lv_at hl 2 rfl) ?_
  refine rcallV (rest := []) (v := (f_A_sideSeenFrom u X Y L1 L2 x y)) S [.int x, .int y] hK hP [0, 1, 2, 3, 4, 5, 6, 7, 8] rfl [0, 1] rfl (c_A_sideSeenFrom l D h0 hm hu hxs hys hg1 hl1 hg2 hl2 cZ cI u X Y L1 L2 x y ) i_A_sideSeenFrom kL_A_74 ⟨Nat.le_of_ble_eq_true rfl, Nat.le_of_ble_eq_true rfl⟩ (by exact ⟨Nat.zero_le _, Nat.zero_le _⟩) (q0 := 0) (ci := 2) rfl rfl rfl hl.1 rfl (Nat.le_of_ble_eq_true rfl) d_A_touches_3 ?_
  refine lv_istore (lv' := [(4, .int ((f_A_sideSeenFrom u X Y L1 L2 x y))), (0, .ref h0), (1, .int x), (2, .int y), (3, .int k)]) hx hb d_A_touches_6 hl (by decide) rfl (fun ls hl => ?_)
  refine lv_iload hx hb d_A_touches_8 (lv_at hl 0 rfl) ?_
  refine lv_if_ge (tgt := 16) hx hb d_A_touches_10 (by decide) (fun c1 => ?_) (fun c1 => ?_)
  · have c1a : 0 ≤ (f_A_sideSeenFrom u X Y L1 L2 x y) := c1
    have ek2 : (f_A_sideSeenFrom u X Y L1 L2 x y) = nI ((f_A_sideSeenFrom u X Y L1 L2 x y).toNatClampNeg) := seen_nat c1a
    have hk2 : (f_A_sideSeenFrom u X Y L1 L2 x y).toNatClampNeg < 41 := seen_lt c1a
    rw [ek2] at hl
    refine lv_aload_n hx hb d_A_touches_16 rfl (lv_at hl 1 rfl) ?_
    refine rget S hK hP 0 rfl rfl in_A 0 (by decide) kF_A_12 rfl d_A_touches_17 ?_
    refine lv_iload_n hx hb d_A_touches_20 rfl (lv_at hl 4 rfl) ?_
    refine rcallV (rest := []) (v := b2i (f_M_has u X Y k)) S [.int k] hK hP [1, 2, 3, 4] rfl [0, 1] rfl (c_M_has l D hm hu hxs hys cZ cI u X Y k ) i_M_has kL_A_51 ⟨Nat.le_of_ble_eq_true rfl, Nat.le_of_ble_eq_true rfl⟩ (by exact ⟨Nat.zero_le _, Nat.zero_le _⟩) (q0 := 0) (ci := 1) rfl rfl rfl hl.1 rfl (Nat.le_of_ble_eq_true rfl) d_A_touches_21 ?_
    refine lv_if_ne (tgt := 29) hx hb d_A_touches_24 (by decide) (fun c2 => ?_) (fun c2 => ?_)
    · have c2a : f_M_has u X Y k = true := b2i_ne0.mp c2
      have ek3 : k = nI (k.toNatClampNeg) := (has_ok c2a).1
      have hk3 : k.toNatClampNeg < 20 := (has_ok c2a).2.1
      rw [ek3] at hl
      refine lv_aload_n hx hb d_A_touches_29 rfl (lv_at hl 1 rfl) ?_
      refine rget S hK hP 0 rfl rfl in_A 1 (by decide) kF_A_21 rfl d_A_touches_30 ?_
      refine lv_iload hx hb d_A_touches_33 (lv_at hl 0 rfl) ?_
      refine lv_iconst (v := 2) hx hb d_A_touches_35 (by decide) ?_
      refine lv_iload_n hx hb d_A_touches_36 rfl (lv_at hl 4 rfl) ?_
      refine lv_imul hx hb d_A_touches_37 ?_
      refine rtop (y := nI (2 * k.toNatClampNeg)) (pk_mul (2) (k.toNatClampNeg)) ?_
      refine rcallV (rest := []) (v := b2i (f_G_together 41 L1 ((f_A_sideSeenFrom u X Y L1 L2 x y).toNatClampNeg) (2 * k.toNatClampNeg))) S [.int (nI ((f_A_sideSeenFrom u X Y L1 L2 x y).toNatClampNeg)), .int (nI (2 * k.toNatClampNeg))] hK hP [5, 6] rfl [1] rfl (c_G_together l D hg1 hl1 cI 41 L1 ((f_A_sideSeenFrom u X Y L1 L2 x y).toNatClampNeg) (2 * k.toNatClampNeg) (by omega) (by omega) (by first | decide | omega)) i_G_together kL_A_77 ⟨Nat.le_of_ble_eq_true rfl, Nat.le_of_ble_eq_true rfl⟩ (by exact ⟨Nat.zero_le _, Nat.zero_le _⟩) (q0 := 0) (ci := 0) rfl rfl rfl hl.1 rfl (Nat.le_of_ble_eq_true rfl) d_A_touches_38 ?_
      refine lv_if_eq (tgt := 48) hx hb d_A_touches_41 (by decide) (fun c3 => ?_) (fun c3 => ?_)
      · have c3a : ¬ (f_G_together 41 L1 ((f_A_sideSeenFrom u X Y L1 L2 x y).toNatClampNeg) (2 * k.toNatClampNeg) = true) := b2n (b2i_eq0.mp c3)
        refine lv_iconst (v := 0) hx hb d_A_touches_48 (by decide) ?_
        refine lv_istore (lv' := [(5, .int 0), (4, .int (nI ((f_A_sideSeenFrom u X Y L1 L2 x y).toNatClampNeg))), (0, .ref h0), (1, .int x), (2, .int y), (3, .int (nI (k.toNatClampNeg)))]) hx hb d_A_touches_49 hl (by decide) rfl (fun ls hl => ?_)
        refine lv_aload_n hx hb d_A_touches_51 rfl (lv_at hl 2 rfl) ?_
        refine rget S hK hP 0 rfl rfl in_A 1 (by decide) kF_A_21 rfl d_A_touches_52 ?_
        refine lv_iload hx hb d_A_touches_55 (lv_at hl 1 rfl) ?_
        refine lv_iconst (v := 2) hx hb d_A_touches_57 (by decide) ?_
        refine lv_iload_n hx hb d_A_touches_58 rfl (lv_at hl 5 rfl) ?_
        refine lv_imul hx hb d_A_touches_59 ?_
        refine rtop (y := nI (2 * k.toNatClampNeg)) (pk_mul (2) (k.toNatClampNeg)) ?_
        refine lv_iconst (v := 1) hx hb d_A_touches_60 (by decide) ?_
        refine lv_iadd hx hb d_A_touches_61 ?_
        refine rtop (y := nI ((2 * k.toNatClampNeg) + 1)) (nI_add (2 * k.toNatClampNeg) (1)) ?_
        refine rcallV (rest := []) (v := b2i (f_G_together 41 L1 ((f_A_sideSeenFrom u X Y L1 L2 x y).toNatClampNeg) ((2 * k.toNatClampNeg) + 1))) S [.int (nI ((f_A_sideSeenFrom u X Y L1 L2 x y).toNatClampNeg)), .int (nI ((2 * k.toNatClampNeg) + 1))] hK hP [5, 6] rfl [1] rfl (c_G_together l D hg1 hl1 cI 41 L1 ((f_A_sideSeenFrom u X Y L1 L2 x y).toNatClampNeg) ((2 * k.toNatClampNeg) + 1) (by omega) (by omega) (by first | decide | omega)) i_G_together kL_A_77 ⟨Nat.le_of_ble_eq_true rfl, Nat.le_of_ble_eq_true rfl⟩ (by exact ⟨Nat.zero_le _, Nat.zero_le _⟩) (q0 := 0) (ci := 0) rfl rfl rfl hl.1 rfl (Nat.le_of_ble_eq_true rfl) d_A_touches_62 ?_
        refine lv_if_eq (tgt := 72) hx hb d_A_touches_65 (by decide) (fun c4 => ?_) (fun c4 => ?_)
        · have c4a : ¬ (f_G_together 41 L1 ((f_A_sideSeenFrom u X Y L1 L2 x y).toNatClampNeg) ((2 * k.toNatClampNeg) + 1) = true) := b2n (b2i_eq0.mp c4)
          refine lv_iconst (v := 0) hx hb d_A_touches_72 (by decide) ?_
          refine lv_istore (lv' := [(6, .int 0), (5, .int 0), (4, .int (nI ((f_A_sideSeenFrom u X Y L1 L2 x y).toNatClampNeg))), (0, .ref h0), (1, .int x), (2, .int y), (3, .int (nI (k.toNatClampNeg)))]) hx hb d_A_touches_73 hl (by decide) rfl (fun ls hl => ?_)
          refine lv_iload hx hb d_A_touches_75 (lv_at hl 1 rfl) ?_
          refine lv_iload hx hb d_A_touches_77 (lv_at hl 0 rfl) ?_
          refine lv_iadd hx hb d_A_touches_79 ?_
          refine rtop (y := 0) (by decide) ?_
          exact rret S hr hlk (v := 0) (show f_A_touches u X Y L1 L2 x y k = 0 from by unfold f_A_touches; rw [if_pos c1a, if_pos c2a, if_neg c3a, if_neg c4a]).symm d_A_touches_80
        · have c4a : f_G_together 41 L1 ((f_A_sideSeenFrom u X Y L1 L2 x y).toNatClampNeg) ((2 * k.toNatClampNeg) + 1) = true := b2i_ne0.mp c4
          refine lv_iconst (v := 2) hx hb d_A_touches_68 (by decide) ?_
          refine lv_goto (tgt := 73) hx hb d_A_touches_69 (by decide) ?_
          refine lv_istore (lv' := [(6, .int 2), (5, .int 0), (4, .int (nI ((f_A_sideSeenFrom u X Y L1 L2 x y).toNatClampNeg))), (0, .ref h0), (1, .int x), (2, .int y), (3, .int (nI (k.toNatClampNeg)))]) hx hb d_A_touches_73 hl (by decide) rfl (fun ls hl => ?_)
          refine lv_iload hx hb d_A_touches_75 (lv_at hl 1 rfl) ?_
          refine lv_iload hx hb d_A_touches_77 (lv_at hl 0 rfl) ?_
          refine lv_iadd hx hb d_A_touches_79 ?_
          refine rtop (y := 2) (by decide) ?_
          exact rret S hr hlk (v := 2) (show f_A_touches u X Y L1 L2 x y k = 2 from by unfold f_A_touches; rw [if_pos c1a, if_pos c2a, if_neg c3a, if_pos c4a]).symm d_A_touches_80
      · have c3a : f_G_together 41 L1 ((f_A_sideSeenFrom u X Y L1 L2 x y).toNatClampNeg) (2 * k.toNatClampNeg) = true := b2i_ne0.mp c3
        refine lv_iconst (v := 1) hx hb d_A_touches_44 (by decide) ?_
        refine lv_goto (tgt := 49) hx hb d_A_touches_45 (by decide) ?_
        refine lv_istore (lv' := [(5, .int 1), (4, .int (nI ((f_A_sideSeenFrom u X Y L1 L2 x y).toNatClampNeg))), (0, .ref h0), (1, .int x), (2, .int y), (3, .int (nI (k.toNatClampNeg)))]) hx hb d_A_touches_49 hl (by decide) rfl (fun ls hl => ?_)
        refine lv_aload_n hx hb d_A_touches_51 rfl (lv_at hl 2 rfl) ?_
        refine rget S hK hP 0 rfl rfl in_A 1 (by decide) kF_A_21 rfl d_A_touches_52 ?_
        refine lv_iload hx hb d_A_touches_55 (lv_at hl 1 rfl) ?_
        refine lv_iconst (v := 2) hx hb d_A_touches_57 (by decide) ?_
        refine lv_iload_n hx hb d_A_touches_58 rfl (lv_at hl 5 rfl) ?_
        refine lv_imul hx hb d_A_touches_59 ?_
        refine rtop (y := nI (2 * k.toNatClampNeg)) (pk_mul (2) (k.toNatClampNeg)) ?_
        refine lv_iconst (v := 1) hx hb d_A_touches_60 (by decide) ?_
        refine lv_iadd hx hb d_A_touches_61 ?_
        refine rtop (y := nI ((2 * k.toNatClampNeg) + 1)) (nI_add (2 * k.toNatClampNeg) (1)) ?_
        refine rcallV (rest := []) (v := b2i (f_G_together 41 L1 ((f_A_sideSeenFrom u X Y L1 L2 x y).toNatClampNeg) ((2 * k.toNatClampNeg) + 1))) S [.int (nI ((f_A_sideSeenFrom u X Y L1 L2 x y).toNatClampNeg)), .int (nI ((2 * k.toNatClampNeg) + 1))] hK hP [5, 6] rfl [1] rfl (c_G_together l D hg1 hl1 cI 41 L1 ((f_A_sideSeenFrom u X Y L1 L2 x y).toNatClampNeg) ((2 * k.toNatClampNeg) + 1) (by omega) (by omega) (by first | decide | omega)) i_G_together kL_A_77 ⟨Nat.le_of_ble_eq_true rfl, Nat.le_of_ble_eq_true rfl⟩ (by exact ⟨Nat.zero_le _, Nat.zero_le _⟩) (q0 := 0) (ci := 0) rfl rfl rfl hl.1 rfl (Nat.le_of_ble_eq_true rfl) d_A_touches_62 ?_
        refine lv_if_eq (tgt := 72) hx hb d_A_touches_65 (by decide) (fun c5 => ?_) (fun c5 => ?_)
        · have c5a : ¬ (f_G_together 41 L1 ((f_A_sideSeenFrom u X Y L1 L2 x y).toNatClampNeg) ((2 * k.toNatClampNeg) + 1) = true) := b2n (b2i_eq0.mp c5)
          refine lv_iconst (v := 0) hx hb d_A_touches_72 (by decide) ?_
          refine lv_istore (lv' := [(6, .int 0), (5, .int 1), (4, .int (nI ((f_A_sideSeenFrom u X Y L1 L2 x y).toNatClampNeg))), (0, .ref h0), (1, .int x), (2, .int y), (3, .int (nI (k.toNatClampNeg)))]) hx hb d_A_touches_73 hl (by decide) rfl (fun ls hl => ?_)
          refine lv_iload hx hb d_A_touches_75 (lv_at hl 1 rfl) ?_
          refine lv_iload hx hb d_A_touches_77 (lv_at hl 0 rfl) ?_
          refine lv_iadd hx hb d_A_touches_79 ?_
          refine rtop (y := 1) (by decide) ?_
          exact rret S hr hlk (v := 1) (show f_A_touches u X Y L1 L2 x y k = 1 from by unfold f_A_touches; rw [if_pos c1a, if_pos c2a, if_pos c3a, if_neg c5a]).symm d_A_touches_80
        · have c5a : f_G_together 41 L1 ((f_A_sideSeenFrom u X Y L1 L2 x y).toNatClampNeg) ((2 * k.toNatClampNeg) + 1) = true := b2i_ne0.mp c5
          refine lv_iconst (v := 2) hx hb d_A_touches_68 (by decide) ?_
          refine lv_goto (tgt := 73) hx hb d_A_touches_69 (by decide) ?_
          refine lv_istore (lv' := [(6, .int 2), (5, .int 1), (4, .int (nI ((f_A_sideSeenFrom u X Y L1 L2 x y).toNatClampNeg))), (0, .ref h0), (1, .int x), (2, .int y), (3, .int (nI (k.toNatClampNeg)))]) hx hb d_A_touches_73 hl (by decide) rfl (fun ls hl => ?_)
          refine lv_iload hx hb d_A_touches_75 (lv_at hl 1 rfl) ?_
          refine lv_iload hx hb d_A_touches_77 (lv_at hl 0 rfl) ?_
          refine lv_iadd hx hb d_A_touches_79 ?_
          refine rtop (y := 3) (by decide) ?_
          exact rret S hr hlk (v := 3) (show f_A_touches u X Y L1 L2 x y k = 3 from by unfold f_A_touches; rw [if_pos c1a, if_pos c2a, if_pos c3a, if_pos c5a]).symm d_A_touches_80
    · have c2a : ¬ (f_M_has u X Y k = true) := b2n (b2i_eq0.mp c2)
      refine lv_iconst (v := (-1)) hx hb d_A_touches_27 (by decide) ?_
      exact rret S hr hlk (v := (-1)) (show f_A_touches u X Y L1 L2 x y k = (-1) from by unfold f_A_touches; rw [if_pos c1a, if_neg c2a]).symm d_A_touches_28
  · have c1a : ¬ (0 ≤ (f_A_sideSeenFrom u X Y L1 L2 x y)) := c1
    refine lv_iload hx hb d_A_touches_13 (lv_at hl 0 rfl) ?_
    exact rret S hr hlk (v := (f_A_sideSeenFrom u X Y L1 L2 x y)) (show f_A_touches u X Y L1 L2 x y k = (f_A_sideSeenFrom u X Y L1 L2 x y) from by unfold f_A_touches; rw [if_neg c1a]).symm d_A_touches_15
