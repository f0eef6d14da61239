theorem seg_ok {u : Nat → Bool} {aX aY bX bY : Nat → Int32} {k : Int32} (h : f_R_isSegment u aX aY bX bY k = true) : k = nI k.toNatClampNeg ∧ k.toNatClampNeg < 20 ∧ u k.toNatClampNeg = true := by
  unfold f_R_isSegment at h
  by_cases h1 : k < 0
  · rw [if_pos h1] at h; cases h
  · rw [if_neg h1] at h
    by_cases h2 : 20 ≤ k
    · rw [if_pos h2] at h; cases h
    · rw [if_neg h2] at h
      by_cases h3 : u k.toNatClampNeg = true
      · exact ⟨raw_nat h1, raw_lt h1 h2, h3⟩
      · rw [if_neg h3] at h; cases h
def FF : Nat := 20000
/-- a chain of 'same' comes to its end within n steps -/
def ends (sm : Nat → Nat) : Nat → Nat → Prop
  | 0, c => sm c = c
  | n + 1, c => sm c = c ∨ ends sm n (sm c)
theorem ends_next {sm : Nat → Nat} {n c : Nat} (h : ends sm (n + 1) c) (hc : ¬ sm c = c) : ends sm n (sm c) := h.resolve_left hc
def fx_R_isFree_1 (u : Nat → Bool) (aX : Nat → Int32) (aY : Nat → Int32) (bX : Nat → Int32) (bY : Nat → Int32) (x : Int32) (y : Int32) (k : Nat) (fr : Bool) : Bool := fr
def fb_R_isFree_1 (u : Nat → Bool) (aX : Nat → Int32) (aY : Nat → Int32) (bX : Nat → Int32) (bY : Nat → Int32) (x : Int32) (y : Int32) (rec : (Nat) → (Bool) → Bool) (k : Nat) (fr : Bool) : Bool := if fr = true then (if u k = true then (if f_R_isEnd u aX aY bX bY k x y = true then (rec (k + 1) false) else (if f_R_isInside u aX aY bX bY k x y = true then (rec (k + 1) false) else (rec (k + 1) true))) else (rec (k + 1) true)) else (rec (k + 1) false)
def fl_R_isFree_1 (u : Nat → Bool) (aX : Nat → Int32) (aY : Nat → Int32) (bX : Nat → Int32) (bY : Nat → Int32) (x : Int32) (y : Int32) : Nat → (Nat) → (Bool) → Bool
  | 0, k, fr => fx_R_isFree_1 u aX aY bX bY x y k fr
  | n1 + 1, k, fr => fb_R_isFree_1 u aX aY bX bY x y (fl_R_isFree_1 u aX aY bX bY x y n1) k fr
def f_R_isFree (u : Nat → Bool) (aX : Nat → Int32) (aY : Nat → Int32) (bX : Nat → Int32) (bY : Nat → Int32) (x : Int32) (y : Int32) : Bool := fl_R_isFree_1 u aX aY bX bY x y 20 0 true
theorem i_R_isFree : inV y_R_isFree b_R_isFree 5 (some .boolean) 2 := ⟨kM_y_R_isFree, kV_y_R_isFree, kI_R, kY_y_R_isFree, by decide +kernel⟩
set_option maxHeartbeats 4000000 in
set_option maxRecDepth 100000 in
theorem c_R_isFree (l : Launch) (D : va_G) (q0 qu qa qb qc qd qe qf qg qh : Nat) (cZ cI : ClassId) (u : Nat → Bool) (aX aY bX bY : Nat → Int32) (kn : Bool) (lns : Nat) (ln : Nat → Int32) (ac mn sm : Nat → Nat) (x : Int32) (y : Int32) : PM l y_R_isFree b_R_isFree 5 (some .boolean) 3 68 D (refW q0 qu qa qb qc qd qe qf qg qh cZ cI u aX aY bX bY kn lns ln ac mn sm) [(cZ, .boolean), (cI, .int)] [.ref q0, .int x, .int y] (b2i (f_R_isFree u aX aY bX bY x y)) := by
  refine pMet rfl (fun p e s m below meth c S hr hlk hP hK ls hl => ?_) (Nat.le_of_ble_eq_true rfl)
  have hx := S.1
  have hb := S.2.1
  have hl : lv_has ls 5 [(0, .ref q0), (1, .int x), (2, .int y)] := hl
  refine lv_iconst (v := 1) hx hb d_R_isFree_0 (by decide) ?_
  refine lv_istore_n (lv' := [(3, .int 1), (0, .ref q0), (1, .int x), (2, .int y)]) hx hb d_R_isFree_1 rfl hl (by decide) rfl (fun ls hl => ?_)
  refine lv_iconst (v := 0) hx hb d_R_isFree_2 (by decide) ?_
  refine lv_istore (lv' := [(4, .int 0), (3, .int 1), (0, .ref q0), (1, .int x), (2, .int y)]) hx hb d_R_isFree_3 hl (by decide) rfl (fun ls hl => ?_)
  have key1 : ∀ (n1 : Nat) (k : Nat) (fr : Bool) (hk1 : k + n1 = 20) (ls : Array Slot) (hl : lv_has ls 5 [(0, .ref q0), (1, .int x), (2, .int y), (3, .int (b2i (fr))), (4, .int (nI (k)))]) (hf : f_R_isFree u aX aY bX bY x y = fl_R_isFree_1 u aX aY bX bY x y n1 k fr), W p l e { frames := 3, cells := 0, slots := 0, locals := 68 } s m [.ref q0, .int x, .int y].toArray below meth c s.heap [] 0 0 (MQ below (pQ (b2i (f_R_isFree u aX aY bX bY x y))) [.ref q0, .int x, .int y].toArray s 0 0 (fun _ => False)) (F0 m 5 ls []) := by
    clear hl
    intro n1
    induction n1 with
    | zero =>
      intro k fr hk1 ls hl hf
      refine lv_iload hx hb d_R_isFree_5 (lv_at hl 4 rfl) ?_
      refine lv_bipush (v := 20) hx hb d_R_isFree_7 (by decide) ?_
      refine lv_icmp_ge (tgt := 60) hx hb d_R_isFree_9 (by decide) (fun c1 => ?_) (fun c1 => ?_)
      · have c1a : 20 ≤ k := (nI_leI (a := 20) (b := k) (by decide) (by omega)).mp c1
        refine lv_iload_n hx hb d_R_isFree_60 rfl (lv_at hl 3 rfl) ?_
        exact rretZ S hr hlk (v := fr) (hf.trans (show fx_R_isFree_1 u aX aY bX bY x y k fr = fr from rfl)).symm d_R_isFree_61
      · have c1a : ¬ (20 ≤ k) := fun h => c1 ((nI_leI (a := 20) (b := k) (by decide) (by omega)).mpr h)
        omega
    | succ n1 ih1 =>
      intro k fr hk1 ls hl hf
      refine lv_iload hx hb d_R_isFree_5 (lv_at hl 4 rfl) ?_
      refine lv_bipush (v := 20) hx hb d_R_isFree_7 (by decide) ?_
      refine lv_icmp_ge (tgt := 60) hx hb d_R_isFree_9 (by decide) (fun c2 => ?_) (fun c2 => ?_)
      · have c2a : 20 ≤ k := (nI_leI (a := 20) (b := k) (by decide) (by omega)).mp c2
        omega
      · have c2a : ¬ (20 ≤ k) := fun h => c2 ((nI_leI (a := 20) (b := k) (by decide) (by omega)).mpr h)
        refine lv_iload_n hx hb d_R_isFree_12 rfl (lv_at hl 3 rfl) ?_
        refine lv_if_eq (tgt := 52) hx hb d_R_isFree_13 (by decide) (fun c3 => ?_) (fun c3 => ?_)
        · have c3a : ¬ (fr = true) := b2n (b2i_eq0.mp c3)
          refine lv_iconst (v := 0) hx hb d_R_isFree_52 (by decide) ?_
          refine lv_istore_n (lv' := [(3, .int 0), (0, .ref q0), (1, .int x), (2, .int y), (4, .int (nI (k)))]) hx hb d_R_isFree_53 rfl hl (by decide) rfl (fun ls hl => ?_)
          refine lv_iinc (v := nI (k + 1)) (lv' := [(4, .int (nI (k + 1))), (3, .int 0), (0, .ref q0), (1, .int x), (2, .int y)]) hx hb d_R_isFree_54 hl (k := 4) rfl (nI_1 (k)) (by decide) rfl (fun ls hl => ?_)
          refine lv_goto (tgt := 5) hx hb d_R_isFree_57 (by decide) ?_
          exact ih1 (k + 1) false (by omega) ls (lv_sub hl [2, 3, 4, 1, 0] rfl) (hf.trans (show fb_R_isFree_1 u aX aY bX bY x y (fl_R_isFree_1 u aX aY bX bY x y n1) k fr = (fl_R_isFree_1 u aX aY bX bY x y n1 (k + 1) false) from by unfold fb_R_isFree_1; rw [if_neg c3a]))
        · have c3a : fr = true := b2i_ne0.mp c3
          refine lv_aload_n hx hb d_R_isFree_16 rfl (lv_at hl 0 rfl) ?_
          refine rget S hK hP 0 rfl rfl in_R 0 (by decide) kF_R_7 rfl d_R_isFree_17 ?_
          refine lv_iload hx hb d_R_isFree_20 (lv_at hl 4 rfl) ?_
          refine rzald (j := k) S hK hP 1 0 rfl rfl (by omega) (by first | decide | omega) d_R_isFree_22 ?_
          refine lv_if_eq (tgt := 48) hx hb d_R_isFree_23 (by decide) (fun c4 => ?_) (fun c4 => ?_)
          · have c4a : ¬ (u k = true) := b2n (b2i_eq0.mp c4)
            refine lv_iconst (v := 1) hx hb d_R_isFree_48 (by decide) ?_
            refine lv_goto (tgt := 53) hx hb d_R_isFree_49 (by decide) ?_
            refine lv_istore_n (lv' := [(3, .int 1), (0, .ref q0), (1, .int x), (2, .int y), (4, .int (nI (k)))]) hx hb d_R_isFree_53 rfl hl (by decide) rfl (fun ls hl => ?_)
            refine lv_iinc (v := nI (k + 1)) (lv' := [(4, .int (nI (k + 1))), (3, .int 1), (0, .ref q0), (1, .int x), (2, .int y)]) hx hb d_R_isFree_54 hl (k := 4) rfl (nI_1 (k)) (by decide) rfl (fun ls hl => ?_)
            refine lv_goto (tgt := 5) hx hb d_R_isFree_57 (by decide) ?_
            exact ih1 (k + 1) true (by omega) ls (lv_sub hl [2, 3, 4, 1, 0] rfl) (hf.trans (show fb_R_isFree_1 u aX aY bX bY x y (fl_R_isFree_1 u aX aY bX bY x y n1) k fr = (fl_R_isFree_1 u aX aY bX bY x y n1 (k + 1) true) from by unfold fb_R_isFree_1; rw [if_pos c3a, if_neg c4a]))
          · have c4a : u k = true := b2i_ne0.mp c4
            refine lv_aload_n hx hb d_R_isFree_26 rfl (lv_at hl 0 rfl) ?_
            refine lv_iload hx hb d_R_isFree_27 (lv_at hl 4 rfl) ?_
            refine lv_iload_n hx hb d_R_isFree_29 rfl (lv_at hl 1 rfl) ?_
            refine lv_iload_n hx hb d_R_isFree_30 rfl (lv_at hl 2 rfl) ?_
            refine rcallV (rest := []) (v := b2i (f_R_isEnd u aX aY bX bY k x y)) S [.int (nI (k)), .int x, .int y] hK hP [0, 1, 2, 3, 4, 5, 6, 7, 8, 9] rfl [0, 1] rfl (c_R_isEnd l D q0 qu qa qb qc qd qe qf qg qh cZ cI u aX aY bX bY kn lns ln ac mn sm k x y (by omega)) i_R_isEnd kL_R_46 ⟨Nat.le_of_ble_eq_true rfl, Nat.le_of_ble_eq_true rfl⟩ (by exact ⟨Nat.zero_le _, Nat.zero_le _⟩) (q0 := 0) (ci := 3) rfl rfl rfl hl.1 rfl (Nat.le_of_ble_eq_true rfl) d_R_isFree_31 ?_
            refine lv_if_ne (tgt := 52) hx hb d_R_isFree_34 (by decide) (fun c5 => ?_) (fun c5 => ?_)
            · have c5a : f_R_isEnd u aX aY bX bY k x y = true := b2i_ne0.mp c5
              refine lv_iconst (v := 0) hx hb d_R_isFree_52 (by decide) ?_
              refine lv_istore_n (lv' := [(3, .int 0), (0, .ref q0), (1, .int x), (2, .int y), (4, .int (nI (k)))]) hx hb d_R_isFree_53 rfl hl (by decide) rfl (fun ls hl => ?_)
              refine lv_iinc (v := nI (k + 1)) (lv' := [(4, .int (nI (k + 1))), (3, .int 0), (0, .ref q0), (1, .int x), (2, .int y)]) hx hb d_R_isFree_54 hl (k := 4) rfl (nI_1 (k)) (by decide) rfl (fun ls hl => ?_)
              refine lv_goto (tgt := 5) hx hb d_R_isFree_57 (by decide) ?_
              exact ih1 (k + 1) false (by omega) ls (lv_sub hl [2, 3, 4, 1, 0] rfl) (hf.trans (show fb_R_isFree_1 u aX aY bX bY x y (fl_R_isFree_1 u aX aY bX bY x y n1) k fr = (fl_R_isFree_1 u aX aY bX bY x y n1 (k + 1) false) from by unfold fb_R_isFree_1; rw [if_pos c3a, if_pos c4a, if_pos c5a]))
            · have c5a : ¬ (f_R_isEnd u aX aY bX bY k x y = true) := b2n (b2i_eq0.mp c5)
              refine lv_aload_n hx hb d_R_isFree_37 rfl (lv_at hl 0 rfl) ?_
              refine lv_iload hx hb d_R_isFree_38 (lv_at hl 4 rfl) ?_
              refine lv_iload_n hx hb d_R_isFree_40 rfl (lv_at hl 1 rfl) ?_
              refine lv_iload_n hx hb d_R_isFree_41 rfl (lv_at hl 2 rfl) ?_
              refine rcallV (rest := []) (v := b2i (f_R_isInside u aX aY bX bY k x y)) S [.int (nI (k)), .int x, .int y] hK hP [0, 1, 2, 3, 4, 5, 6, 7, 8, 9] rfl [0, 1] rfl (c_R_isInside l D q0 qu qa qb qc qd qe qf qg qh cZ cI u aX aY bX bY kn lns ln ac mn sm k x y (by omega)) i_R_isInside kL_R_50 ⟨Nat.le_of_ble_eq_true rfl, Nat.le_of_ble_eq_true rfl⟩ (by exact ⟨Nat.zero_le _, Nat.zero_le _⟩) (q0 := 0) (ci := 3) rfl rfl rfl hl.1 rfl (Nat.le_of_ble_eq_true rfl) d_R_isFree_42 ?_
              refine lv_if_ne (tgt := 52) hx hb d_R_isFree_45 (by decide) (fun c6 => ?_) (fun c6 => ?_)
              · have c6a : f_R_isInside u aX aY bX bY k x y = true := b2i_ne0.mp c6
                refine lv_iconst (v := 0) hx hb d_R_isFree_52 (by decide) ?_
                refine lv_istore_n (lv' := [(3, .int 0), (0, .ref q0), (1, .int x), (2, .int y), (4, .int (nI (k)))]) hx hb d_R_isFree_53 rfl hl (by decide) rfl (fun ls hl => ?_)
                refine lv_iinc (v := nI (k + 1)) (lv' := [(4, .int (nI (k + 1))), (3, .int 0), (0, .ref q0), (1, .int x), (2, .int y)]) hx hb d_R_isFree_54 hl (k := 4) rfl (nI_1 (k)) (by decide) rfl (fun ls hl => ?_)
                refine lv_goto (tgt := 5) hx hb d_R_isFree_57 (by decide) ?_
                exact ih1 (k + 1) false (by omega) ls (lv_sub hl [2, 3, 4, 1, 0] rfl) (hf.trans (show fb_R_isFree_1 u aX aY bX bY x y (fl_R_isFree_1 u aX aY bX bY x y n1) k fr = (fl_R_isFree_1 u aX aY bX bY x y n1 (k + 1) false) from by unfold fb_R_isFree_1; rw [if_pos c3a, if_pos c4a, if_neg c5a, if_pos c6a]))
              · have c6a : ¬ (f_R_isInside u aX aY bX bY k x y = true) := b2n (b2i_eq0.mp c6)
                refine lv_iconst (v := 1) hx hb d_R_isFree_48 (by decide) ?_
                refine lv_goto (tgt := 53) hx hb d_R_isFree_49 (by decide) ?_
                refine lv_istore_n (lv' := [(3, .int 1), (0, .ref q0), (1, .int x), (2, .int y), (4, .int (nI (k)))]) hx hb d_R_isFree_53 rfl hl (by decide) rfl (fun ls hl => ?_)
                refine lv_iinc (v := nI (k + 1)) (lv' := [(4, .int (nI (k + 1))), (3, .int 1), (0, .ref q0), (1, .int x), (2, .int y)]) hx hb d_R_isFree_54 hl (k := 4) rfl (nI_1 (k)) (by decide) rfl (fun ls hl => ?_)
                refine lv_goto (tgt := 5) hx hb d_R_isFree_57 (by decide) ?_
                exact ih1 (k + 1) true (by omega) ls (lv_sub hl [2, 3, 4, 1, 0] rfl) (hf.trans (show fb_R_isFree_1 u aX aY bX bY x y (fl_R_isFree_1 u aX aY bX bY x y n1) k fr = (fl_R_isFree_1 u aX aY bX bY x y n1 (k + 1) true) from by unfold fb_R_isFree_1; rw [if_pos c3a, if_pos c4a, if_neg c5a, if_neg c6a]))
  exact key1 20 0 true (by omega) ls (lv_sub hl [2, 3, 4, 1, 0] rfl) (show f_R_isFree u aX aY bX bY x y = (fl_R_isFree_1 u aX aY bX bY x y 20 0 true) from rfl)
def f_R_refusal (u : Nat → Bool) (aX : Nat → Int32) (aY : Nat → Int32) (bX : Nat → Int32) (bY : Nat → Int32) (x : Int32) (y : Int32) : Int32 := if f_R_near x = true then (if f_R_near y = true then (if f_R_isFree u aX aY bX bY x y = true then 0 else (-1)) else (-2)) else (-2)
theorem i_R_refusal : inV y_R_refusal b_R_refusal 3 (some .int) 2 := ⟨kM_y_R_refusal, kV_y_R_refusal, kI_R, kY_y_R_refusal, by decide +kernel⟩
set_option maxHeartbeats 4000000 in
set_option maxRecDepth 100000 in
theorem c_R_refusal (l : Launch) (D : va_G) (q0 qu qa qb qc qd qe qf qg qh : Nat) (cZ cI : ClassId) (u : Nat → Bool) (aX aY bX bY : Nat → Int32) (kn : Bool) (lns : Nat) (ln : Nat → Int32) (ac mn sm : Nat → Nat) (x : Int32) (y : Int32) : PM l y_R_refusal b_R_refusal 3 (some .int) 4 92 D (refW q0 qu qa qb qc qd qe qf qg qh cZ cI u aX aY bX bY kn lns ln ac mn sm) [(cZ, .boolean), (cI, .int)] [.ref q0, .int x, .int y] (f_R_refusal u aX aY bX bY x y) := by
  refine pMet rfl (fun p e s m below meth c S hr hlk hP hK ls hl => ?_) (Nat.le_of_ble_eq_true rfl)
  have hx := S.1
  have hb := S.2.1
  have hl : lv_has ls 3 [(0, .ref q0), (1, .int x), (2, .int y)] := hl
  refine lv_iload_n hx hb d_R_refusal_0 rfl (lv_at hl 1 rfl) ?_
  refine rcallS (rest := []) (v := b2i (f_R_near x)) S [.int x] hK hP [] rfl [] rfl (c_R_near l D x ) i_R_near rfl kL_R_53 ⟨Nat.le_of_ble_eq_true rfl, Nat.le_of_ble_eq_true rfl⟩ (by exact ⟨Nat.zero_le _, Nat.zero_le _⟩) hl.1 rfl (Nat.le_of_ble_eq_true rfl) d_R_refusal_1 ?_
  refine lv_if_eq (tgt := 14) hx hb d_R_refusal_4 (by decide) (fun c1 => ?_) (fun c1 => ?_)
  · have c1a : ¬ (f_R_near x = true) := b2n (b2i_eq0.mp c1)
    refine lv_bipush (v := (-2)) hx hb d_R_refusal_14 (by decide) ?_
    refine lv_goto (tgt := 33) hx hb d_R_refusal_16 (by decide) ?_
    exact rret S hr hlk (v := (-2)) (show f_R_refusal u aX aY bX bY x y = (-2) from by unfold f_R_refusal; rw [if_neg c1a]).symm d_R_refusal_33
  · have c1a : f_R_near x = true := b2i_ne0.mp c1
    refine lv_iload_n hx hb d_R_refusal_7 rfl (lv_at hl 2 rfl) ?_
    refine rcallS (rest := []) (v := b2i (f_R_near y)) S [.int y] hK hP [] rfl [] rfl (c_R_near l D y ) i_R_near rfl kL_R_53 ⟨Nat.le_of_ble_eq_true rfl, Nat.le_of_ble_eq_true rfl⟩ (by exact ⟨Nat.zero_le _, Nat.zero_le _⟩) hl.1 rfl (Nat.le_of_ble_eq_true rfl) d_R_refusal_8 ?_
    refine lv_if_ne (tgt := 19) hx hb d_R_refusal_11 (by decide) (fun c2 => ?_) (fun c2 => ?_)
    · have c2a : f_R_near y = true := b2i_ne0.mp c2
      refine lv_aload_n hx hb d_R_refusal_19 rfl (lv_at hl 0 rfl) ?_
      refine lv_iload_n hx hb d_R_refusal_20 rfl (lv_at hl 1 rfl) ?_
      refine lv_iload_n hx hb d_R_refusal_21 rfl (lv_at hl 2 rfl) ?_
      refine rcallV (rest := []) (v := b2i (f_R_isFree u aX aY bX bY x y)) S [.int x, .int y] hK hP [0, 1, 2, 3, 4, 5, 6, 7, 8, 9] rfl [0, 1] rfl (c_R_isFree l D q0 qu qa qb qc qd qe qf qg qh cZ cI u aX aY bX bY kn lns ln ac mn sm x y ) i_R_isFree kL_R_134 ⟨Nat.le_of_ble_eq_true rfl, Nat.le_of_ble_eq_true rfl⟩ (by exact ⟨Nat.zero_le _, Nat.zero_le _⟩) (q0 := 0) (ci := 3) rfl rfl rfl hl.1 rfl (Nat.le_of_ble_eq_true rfl) d_R_refusal_22 ?_
      refine lv_if_eq (tgt := 32) hx hb d_R_refusal_25 (by decide) (fun c3 => ?_) (fun c3 => ?_)
      · have c3a : ¬ (f_R_isFree u aX aY bX bY x y = true) := b2n (b2i_eq0.mp c3)
        refine lv_iconst (v := (-1)) hx hb d_R_refusal_32 (by decide) ?_
        exact rret S hr hlk (v := (-1)) (show f_R_refusal u aX aY bX bY x y = (-1) from by unfold f_R_refusal; rw [if_pos c1a, if_pos c2a, if_neg c3a]).symm d_R_refusal_33
      · have c3a : f_R_isFree u aX aY bX bY x y = true := b2i_ne0.mp c3
        refine lv_iconst (v := 0) hx hb d_R_refusal_28 (by decide) ?_
        refine lv_goto (tgt := 33) hx hb d_R_refusal_29 (by decide) ?_
        exact rret S hr hlk (v := 0) (show f_R_refusal u aX aY bX bY x y = 0 from by unfold f_R_refusal; rw [if_pos c1a, if_pos c2a, if_pos c3a]).symm d_R_refusal_33
    · have c2a : ¬ (f_R_near y = true) := b2n (b2i_eq0.mp c2)
      refine lv_bipush (v := (-2)) hx hb d_R_refusal_14 (by decide) ?_
      refine lv_goto (tgt := 33) hx hb d_R_refusal_16 (by decide) ?_
      exact rret S hr hlk (v := (-2)) (show f_R_refusal u aX aY bX bY x y = (-2) from by unfold f_R_refusal; rw [if_pos c1a, if_neg c2a]).symm d_R_refusal_33
def fx_R_find_1 (u : Nat → Bool) (aX : Nat → Int32) (aY : Nat → Int32) (bX : Nat → Int32) (bY : Nat → Int32) (x : Int32) (y : Int32) (k : Nat) (fo : Int32) (up : Int32) (wi : Int32) : Int32 := fo
def fb_R_find_1 (u : Nat → Bool) (aX : Nat → Int32) (aY : Nat → Int32) (bX : Nat → Int32) (bY : Nat → Int32) (x : Int32) (y : Int32) (rec : (Nat) → (Int32) → (Int32) → (Int32) → Int32) (k : Nat) (fo : Int32) (up : Int32) (wi : Int32) : Int32 := if u k = true then (if f_R_isInside u aX aY bX bY k x y = true then (nI (100 + k)) else (if u k = true then (if x < aX k then (rec (k + 1) fo up wi) else (if bX k < x then (rec (k + 1) fo up wi) else (if f_R_isUpright u aX aY bX bY k = true then (if f_R_isUpright u aX aY bX bY k = true then (if f_R_less y 1 (aY k) 1 = true then (if f_R_less (aY k) 1 up wi = true then (rec (k + 1) (nI (k)) (aY k) 1) else (rec (k + 1) fo up wi)) else (rec (k + 1) fo up wi)) else (if f_R_less y 1 (aY k) (f_R_width u aX aY bX bY k) = true then (if f_R_less (aY k) (f_R_width u aX aY bX bY k) up wi = true then (rec (k + 1) (nI (k)) (aY k) (f_R_width u aX aY bX bY k)) else (rec (k + 1) fo up wi)) else (rec (k + 1) fo up wi))) else (if f_R_isUpright u aX aY bX bY k = true then (if f_R_less y 1 (f_R_rise u aX aY bX bY k x) 1 = true then (if f_R_less (f_R_rise u aX aY bX bY k x) 1 up wi = true then (rec (k + 1) (nI (k)) (f_R_rise u aX aY bX bY k x) 1) else (rec (k + 1) fo up wi)) else (rec (k + 1) fo up wi)) else (if f_R_less y 1 (f_R_rise u aX aY bX bY k x) (f_R_width u aX aY bX bY k) = true then (if f_R_less (f_R_rise u aX aY bX bY k x) (f_R_width u aX aY bX bY k) up wi = true then (rec (k + 1) (nI (k)) (f_R_rise u aX aY bX bY k x) (f_R_width u aX aY bX bY k)) else (rec (k + 1) fo up wi)) else (rec (k + 1) fo up wi)))))) else (rec (k + 1) fo up wi))) else (if u k = true then (if x < aX k then (rec (k + 1) fo up wi) else (if bX k < x then (rec (k + 1) fo up wi) else (if f_R_isUpright u aX aY bX bY k = true then (if f_R_isUpright u aX aY bX bY k = true then (if f_R_less y 1 (aY k) 1 = true then (if f_R_less (aY k) 1 up wi = true then (rec (k + 1) (nI (k)) (aY k) 1) else (rec (k + 1) fo up wi)) else (rec (k + 1) fo up wi)) else (if f_R_less y 1 (aY k) (f_R_width u aX aY bX bY k) = true then (if f_R_less (aY k) (f_R_width u aX aY bX bY k) up wi = true then (rec (k + 1) (nI (k)) (aY k) (f_R_width u aX aY bX bY k)) else (rec (k + 1) fo up wi)) else (rec (k + 1) fo up wi))) else (if f_R_isUpright u aX aY bX bY k = true then (if f_R_less y 1 (f_R_rise u aX aY bX bY k x) 1 = true then (if f_R_less (f_R_rise u aX aY bX bY k x) 1 up wi = true then (rec (k + 1) (nI (k)) (f_R_rise u aX aY bX bY k x) 1) else (rec (k + 1) fo up wi)) else (rec (k + 1) fo up wi)) else (if f_R_less y 1 (f_R_rise u aX aY bX bY k x) (f_R_width u aX aY bX bY k) = true then (if f_R_less (f_R_rise u aX aY bX bY k x) (f_R_width u aX aY bX bY k) up wi = true then (rec (k + 1) (nI (k)) (f_R_rise u aX aY bX bY k x) (f_R_width u aX aY bX bY k)) else (rec (k + 1) fo up wi)) else (rec (k + 1) fo up wi)))))) else (rec (k + 1) fo up wi))
def fl_R_find_1 (u : Nat → Bool) (aX : Nat → Int32) (aY : Nat → Int32) (bX : Nat → Int32) (bY : Nat → Int32) (x : Int32) (y : Int32) : Nat → (Nat) → (Int32) → (Int32) → (Int32) → Int32
  | 0, k, fo, up, wi => fx_R_find_1 u aX aY bX bY x y k fo up wi
  | n1 + 1, k, fo, up, wi => fb_R_find_1 u aX aY bX bY x y (fl_R_find_1 u aX aY bX bY x y n1) k fo up wi
def f_R_find (u : Nat → Bool) (aX : Nat → Int32) (aY : Nat → Int32) (bX : Nat → Int32) (bY : Nat → Int32) (x : Int32) (y : Int32) : Int32 := if f_R_near x = true then (if f_R_near y = true then (if (f_R_endings u aX aY bX bY x y) ≤ 0 then (fl_R_find_1 u aX aY bX bY x y 20 0 (-1) 1000000 1) else (nI (200 + (f_R_endings u aX aY bX bY x y)))) else (-2)) else (-2)
theorem i_R_find : inV y_R_find b_R_find 10 (some .int) 2 := ⟨kM_y_R_find, kV_y_R_find, kI_R, kY_y_R_find, by decide +kernel⟩
set_option maxHeartbeats 4000000 in
set_option maxRecDepth 100000 in
theorem c_R_find (l : Launch) (D : va_G) (q0 qu qa qb qc qd qe qf qg qh : Nat) (cZ cI : ClassId) (u : Nat → Bool) (aX aY bX bY : Nat → Int32) (kn : Bool) (lns : Nat) (ln : Nat → Int32) (ac mn sm : Nat → Nat) (x : Int32) (y : Int32) : PM l y_R_find b_R_find 10 (some .int) 3 68 D (refW q0 qu qa qb qc qd qe qf qg qh cZ cI u aX aY bX bY kn lns ln ac mn sm) [(cZ, .boolean), (cI, .int)] [.ref q0, .int x, .int y] (f_R_find u aX aY bX bY x y) := by
  refine pMet rfl (fun p e s m below meth c S hr hlk hP hK ls hl => ?_) (Nat.le_of_ble_eq_true rfl)
  have hx := S.1
  have hb := S.2.1
  have hl : lv_has ls 10 [(0, .ref q0), (1, .int x), (2, .int y)] := hl
  refine lv_iload_n hx hb d_R_find_0 rfl (lv_at hl 1 rfl) ?_
  refine rcallS (rest := []) (v := b2i (f_R_near x)) S [.int x] hK hP [] rfl [] rfl (c_R_near l D x ) i_R_near rfl kL_R_53 ⟨Nat.le_of_ble_eq_true rfl, Nat.le_of_ble_eq_true rfl⟩ (by exact ⟨Nat.zero_le _, Nat.zero_le _⟩) hl.1 rfl (Nat.le_of_ble_eq_true rfl) d_R_find_1 ?_
  refine lv_if_eq (tgt := 14) hx hb d_R_find_4 (by decide) (fun c1 => ?_) (fun c1 => ?_)
  · have c1a : ¬ (f_R_near x = true) := b2n (b2i_eq0.mp c1)
    refine lv_bipush (v := (-2)) hx hb d_R_find_14 (by decide) ?_
    exact rret S hr hlk (v := (-2)) (show f_R_find u aX aY bX bY x y = (-2) from by unfold f_R_find; rw [if_neg c1a]).symm d_R_find_16
  · have c1a : f_R_near x = true := b2i_ne0.mp c1
    refine lv_iload_n hx hb d_R_find_7 rfl (lv_at hl 2 rfl) ?_
    refine rcallS (rest := []) (v := b2i (f_R_near y)) S [.int y] hK hP [] rfl [] rfl (c_R_near l D y ) i_R_near rfl kL_R_53 ⟨Nat.le_of_ble_eq_true rfl, Nat.le_of_ble_eq_true rfl⟩ (by exact ⟨Nat.zero_le _, Nat.zero_le _⟩) hl.1 rfl (Nat.le_of_ble_eq_true rfl) d_R_find_8 ?_
    refine lv_if_ne (tgt := 17) hx hb d_R_find_11 (by decide) (fun c2 => ?_) (fun c2 => ?_)
    · have c2a : f_R_near y = true := b2i_ne0.mp c2
      refine lv_aload_n hx hb d_R_find_17 rfl (lv_at hl 0 rfl) ?_
      refine lv_iload_n hx hb d_R_find_18 rfl (lv_at hl 1 rfl) ?_
      refine lv_iload_n hx hb d_R_find_19 rfl (lv_at hl 2 rfl) ?_
      refine rcallV (rest := []) (v := nI (f_R_endings u aX aY bX bY x y)) S [.int x, .int y] hK hP [0, 1, 2, 3, 4, 5, 6, 7, 8, 9] rfl [0, 1] rfl (c_R_endings l D q0 qu qa qb qc qd qe qf qg qh cZ cI u aX aY bX bY kn lns ln ac mn sm x y ) i_R_endings kL_R_131 ⟨Nat.le_of_ble_eq_true rfl, Nat.le_of_ble_eq_true rfl⟩ (by exact ⟨Nat.zero_le _, Nat.zero_le _⟩) (q0 := 0) (ci := 3) rfl rfl rfl hl.1 rfl (Nat.le_of_ble_eq_true rfl) d_R_find_20 ?_
      have hen := endings_le u aX aY bX bY x y
      refine lv_istore_n (lv' := [(3, .int (nI (f_R_endings u aX aY bX bY x y))), (0, .ref q0), (1, .int x), (2, .int y)]) hx hb d_R_find_23 rfl hl (by decide) rfl (fun ls hl => ?_)
      refine lv_iload_n hx hb d_R_find_24 rfl (lv_at hl 0 rfl) ?_
      refine lv_if_le (tgt := 34) hx hb d_R_find_25 (by decide) (fun c3 => ?_) (fun c3 => ?_)
      · have c3a : (f_R_endings u aX aY bX bY x y) ≤ 0 := (nI_leI (a := f_R_endings u aX aY bX bY x y) (b := 0) (by omega) (by decide)).mp c3
        refine lv_iconst (v := (-1)) hx hb d_R_find_34 (by decide) ?_
        refine lv_istore (lv' := [(4, .int ((-1))), (3, .int (nI (f_R_endings u aX aY bX bY x y))), (0, .ref q0), (1, .int x), (2, .int y)]) hx hb d_R_find_35 hl (by decide) rfl (fun ls hl => ?_)
        refine lv_ldc (v := 1000000) hx hb S.2.2.2.1 (S.2.2.2.2 _ kK_R_85) d_R_find_37 ?_
        refine lv_istore (lv' := [(5, .int 1000000), (4, .int ((-1))), (3, .int (nI (f_R_endings u aX aY bX bY x y))), (0, .ref q0), (1, .int x), (2, .int y)]) hx hb d_R_find_39 hl (by decide) rfl (fun ls hl => ?_)
        refine lv_iconst (v := 1) hx hb d_R_find_41 (by decide) ?_
        refine lv_istore (lv' := [(6, .int 1), (5, .int 1000000), (4, .int ((-1))), (3, .int (nI (f_R_endings u aX aY bX bY x y))), (0, .ref q0), (1, .int x), (2, .int y)]) hx hb d_R_find_42 hl (by decide) rfl (fun ls hl => ?_)
        refine lv_iconst (v := 0) hx hb d_R_find_44 (by decide) ?_
        refine lv_istore (lv' := [(7, .int 0), (6, .int 1), (5, .int 1000000), (4, .int ((-1))), (3, .int (nI (f_R_endings u aX aY bX bY x y))), (0, .ref q0), (1, .int x), (2, .int y)]) hx hb d_R_find_45 hl (by decide) rfl (fun ls hl => ?_)
        have key1 : ∀ (n1 : Nat) (k : Nat) (fo : Int32) (up : Int32) (wi : Int32) (hk1 : k + n1 = 20) (ls : Array Slot) (hl : lv_has ls 10 [(0, .ref q0), (1, .int x), (2, .int y), (4, .int fo), (5, .int up), (6, .int wi), (7, .int (nI (k)))]) (hf : f_R_find u aX aY bX bY x y = fl_R_find_1 u aX aY bX bY x y n1 k fo up wi), W p l e { frames := 3, cells := 0, slots := 0, locals := 68 } s m [.ref q0, .int x, .int y].toArray below meth c s.heap [] 0 0 (MQ below (pQ ((f_R_find u aX aY bX bY x y))) [.ref q0, .int x, .int y].toArray s 0 0 (fun _ => False)) (F0 m 47 ls []) := by
          clear hl
          intro n1
          induction n1 with
          | zero =>
            intro k fo up wi hk1 ls hl hf
            refine lv_iload hx hb d_R_find_47 (lv_at hl 6 rfl) ?_
            refine lv_bipush (v := 20) hx hb d_R_find_49 (by decide) ?_
            refine lv_icmp_ge (tgt := 206) hx hb d_R_find_51 (by decide) (fun c4 => ?_) (fun c4 => ?_)
            · have c4a : 20 ≤ k := (nI_leI (a := 20) (b := k) (by decide) (by omega)).mp c4
              refine lv_iload hx hb d_R_find_206 (lv_at hl 3 rfl) ?_
              exact rret S hr hlk (v := fo) (hf.trans (show fx_R_find_1 u aX aY bX bY x y k fo up wi = fo from rfl)).symm d_R_find_208
            · have c4a : ¬ (20 ≤ k) := fun h => c4 ((nI_leI (a := 20) (b := k) (by decide) (by omega)).mpr h)
              omega
          | succ n1 ih1 =>
            intro k fo up wi hk1 ls hl hf
            refine lv_iload hx hb d_R_find_47 (lv_at hl 6 rfl) ?_
            refine lv_bipush (v := 20) hx hb d_R_find_49 (by decide) ?_
            refine lv_icmp_ge (tgt := 206) hx hb d_R_find_51 (by decide) (fun c5 => ?_) (fun c5 => ?_)
            · have c5a : 20 ≤ k := (nI_leI (a := 20) (b := k) (by decide) (by omega)).mp c5
              omega
            · have c5a : ¬ (20 ≤ k) := fun h => c5 ((nI_leI (a := 20) (b := k) (by decide) (by omega)).mpr h)
              refine lv_aload_n hx hb d_R_find_54 rfl (lv_at hl 0 rfl) ?_
              refine rget S hK hP 0 rfl rfl in_R 0 (by decide) kF_R_7 rfl d_R_find_55 ?_
              refine lv_iload hx hb d_R_find_58 (lv_at hl 6 rfl) ?_
              refine rzald (j := k) S hK hP 1 0 rfl rfl (by omega) (by first | decide | omega) d_R_find_60 ?_
              refine lv_if_eq (tgt := 81) hx hb d_R_find_61 (by decide) (fun c6 => ?_) (fun c6 => ?_)
              · have c6a : ¬ (u k = true) := b2n (b2i_eq0.mp c6)
                refine lv_aload_n hx hb d_R_find_81 rfl (lv_at hl 0 rfl) ?_
                refine rget S hK hP 0 rfl rfl in_R 0 (by decide) kF_R_7 rfl d_R_find_82 ?_
                refine lv_iload hx hb d_R_find_85 (lv_at hl 6 rfl) ?_
                refine rzald (j := k) S hK hP 1 0 rfl rfl (by omega) (by first | decide | omega) d_R_find_87 ?_
                refine lv_if_eq (tgt := 200) hx hb d_R_find_88 (by decide) (fun c7 => ?_) (fun c7 => ?_)
                · have c7a : ¬ (u k = true) := b2n (b2i_eq0.mp c7)
                  refine lv_iinc (v := nI (k + 1)) (lv' := [(7, .int (nI (k + 1))), (0, .ref q0), (1, .int x), (2, .int y), (4, .int fo), (5, .int up), (6, .int wi)]) hx hb d_R_find_200 hl (k := 6) rfl (nI_1 (k)) (by decide) rfl (fun ls hl => ?_)
                  refine lv_goto (tgt := 47) hx hb d_R_find_203 (by decide) ?_
                  exact ih1 (k + 1) fo up wi (by omega) ls (lv_sub hl [1, 2, 3, 4, 5, 6, 0] rfl) (hf.trans (show fb_R_find_1 u aX aY bX bY x y (fl_R_find_1 u aX aY bX bY x y n1) k fo up wi = (fl_R_find_1 u aX aY bX bY x y n1 (k + 1) fo up wi) from by unfold fb_R_find_1; rw [if_neg c6a, if_neg c7a]))
                · have c7a : u k = true := b2i_ne0.mp c7
                  refine lv_aload_n hx hb d_R_find_91 rfl (lv_at hl 0 rfl) ?_
                  refine rget S hK hP 0 rfl rfl in_R 1 (by decide) kF_R_13 rfl d_R_find_92 ?_
                  refine lv_iload hx hb d_R_find_95 (lv_at hl 6 rfl) ?_
                  refine riald (j := k) S hK hP 2 1 rfl rfl (by omega) (by first | decide | omega) d_R_find_97 ?_
                  refine lv_iload_n hx hb d_R_find_98 rfl (lv_at hl 1 rfl) ?_
                  refine lv_icmp_gt (tgt := 200) hx hb d_R_find_99 (by decide) (fun c8 => ?_) (fun c8 => ?_)
                  · have c8a : x < aX k := c8
                    refine lv_iinc (v := nI (k + 1)) (lv' := [(7, .int (nI (k + 1))), (0, .ref q0), (1, .int x), (2, .int y), (4, .int fo), (5, .int up), (6, .int wi)]) hx hb d_R_find_200 hl (k := 6) rfl (nI_1 (k)) (by decide) rfl (fun ls hl => ?_)
                    refine lv_goto (tgt := 47) hx hb d_R_find_203 (by decide) ?_
                    exact ih1 (k + 1) fo up wi (by omega) ls (lv_sub hl [1, 2, 3, 4, 5, 6, 0] rfl) (hf.trans (show fb_R_find_1 u aX aY bX bY x y (fl_R_find_1 u aX aY bX bY x y n1) k fo up wi = (fl_R_find_1 u aX aY bX bY x y n1 (k + 1) fo up wi) from by unfold fb_R_find_1; rw [if_neg c6a, if_pos c7a, if_pos c8a]))
                  · have c8a : ¬ (x < aX k) := c8
                    refine lv_iload_n hx hb d_R_find_102 rfl (lv_at hl 1 rfl) ?_
                    refine lv_aload_n hx hb d_R_find_103 rfl (lv_at hl 0 rfl) ?_
                    refine rget S hK hP 0 rfl rfl in_R 3 (by decide) kF_R_20 rfl d_R_find_104 ?_
                    refine lv_iload hx hb d_R_find_107 (lv_at hl 6 rfl) ?_
                    refine riald (j := k) S hK hP 4 1 rfl rfl (by omega) (by first | decide | omega) d_R_find_109 ?_
                    refine lv_icmp_gt (tgt := 200) hx hb d_R_find_110 (by decide) (fun c9 => ?_) (fun c9 => ?_)
                    · have c9a : bX k < x := c9
                      refine lv_iinc (v := nI (k + 1)) (lv' := [(7, .int (nI (k + 1))), (0, .ref q0), (1, .int x), (2, .int y), (4, .int fo), (5, .int up), (6, .int wi)]) hx hb d_R_find_200 hl (k := 6) rfl (nI_1 (k)) (by decide) rfl (fun ls hl => ?_)
                      refine lv_goto (tgt := 47) hx hb d_R_find_203 (by decide) ?_
                      exact ih1 (k + 1) fo up wi (by omega) ls (lv_sub hl [1, 2, 3, 4, 5, 6, 0] rfl) (hf.trans (show fb_R_find_1 u aX aY bX bY x y (fl_R_find_1 u aX aY bX bY x y n1) k fo up wi = (fl_R_find_1 u aX aY bX bY x y n1 (k + 1) fo up wi) from by unfold fb_R_find_1; rw [if_neg c6a, if_pos c7a, if_neg c8a, if_pos c9a]))
                    · have c9a : ¬ (bX k < x) := c9
                      refine lv_aload_n hx hb d_R_find_113 rfl (lv_at hl 0 rfl) ?_
                      refine lv_iload hx hb d_R_find_114 (lv_at hl 6 rfl) ?_
                      refine rcallV (rest := []) (v := b2i (f_R_isUpright u aX aY bX bY k)) S [.int (nI (k))] hK hP [0, 1, 2, 3, 4, 5, 6, 7, 8, 9] rfl [0, 1] rfl (c_R_isUpright l D q0 qu qa qb qc qd qe qf qg qh cZ cI u aX aY bX bY kn lns ln ac mn sm k (by omega)) i_R_isUpright kL_R_109 ⟨Nat.le_of_ble_eq_true rfl, Nat.le_of_ble_eq_true rfl⟩ (by exact ⟨Nat.zero_le _, Nat.zero_le _⟩) (q0 := 0) (ci := 3) rfl rfl rfl hl.1 rfl (Nat.le_of_ble_eq_true rfl) d_R_find_116 ?_
                      refine lv_if_eq (tgt := 132) hx hb d_R_find_119 (by decide) (fun c10 => ?_) (fun c10 => ?_)
                      · have c10a : ¬ (f_R_isUpright u aX aY bX bY k = true) := b2n (b2i_eq0.mp c10)
                        refine lv_aload_n hx hb d_R_find_132 rfl (lv_at hl 0 rfl) ?_
                        refine lv_iload hx hb d_R_find_133 (lv_at hl 6 rfl) ?_
                        refine lv_iload_n hx hb d_R_find_135 rfl (lv_at hl 1 rfl) ?_
                        refine rcallV (rest := []) (v := (f_R_rise u aX aY bX bY k x)) S [.int (nI (k)), .int x] hK hP [0, 1, 2, 3, 4, 5, 6, 7, 8, 9] rfl [0, 1] rfl (c_R_rise l D q0 qu qa qb qc qd qe qf qg qh cZ cI u aX aY bX bY kn lns ln ac mn sm k x (by omega)) i_R_rise kL_R_79 ⟨Nat.le_of_ble_eq_true rfl, Nat.le_of_ble_eq_true rfl⟩ (by exact ⟨Nat.zero_le _, Nat.zero_le _⟩) (q0 := 0) (ci := 3) rfl rfl rfl hl.1 rfl (Nat.le_of_ble_eq_true rfl) d_R_find_136 ?_
                        refine lv_istore (lv' := [(8, .int ((f_R_rise u aX aY bX bY k x))), (0, .ref q0), (1, .int x), (2, .int y), (4, .int fo), (5, .int up), (6, .int wi), (7, .int (nI (k)))]) hx hb d_R_find_139 hl (by decide) rfl (fun ls hl => ?_)
                        refine lv_aload_n hx hb d_R_find_141 rfl (lv_at hl 1 rfl) ?_
                        refine lv_iload hx hb d_R_find_142 (lv_at hl 7 rfl) ?_
                        refine rcallV (rest := []) (v := b2i (f_R_isUpright u aX aY bX bY k)) S [.int (nI (k))] hK hP [0, 1, 2, 3, 4, 5, 6, 7, 8, 9] rfl [0, 1] rfl (c_R_isUpright l D q0 qu qa qb qc qd qe qf qg qh cZ cI u aX aY bX bY kn lns ln ac mn sm k (by omega)) i_R_isUpright kL_R_109 ⟨Nat.le_of_ble_eq_true rfl, Nat.le_of_ble_eq_true rfl⟩ (by exact ⟨Nat.zero_le _, Nat.zero_le _⟩) (q0 := 0) (ci := 3) rfl rfl rfl hl.1 rfl (Nat.le_of_ble_eq_true rfl) d_R_find_144 ?_
                        refine lv_if_eq (tgt := 154) hx hb d_R_find_147 (by decide) (fun c11 => ?_) (fun c11 => ?_)
                        · have c11a : ¬ (f_R_isUpright u aX aY bX bY k = true) := b2n (b2i_eq0.mp c11)
                          refine lv_aload_n hx hb d_R_find_154 rfl (lv_at hl 1 rfl) ?_
                          refine lv_iload hx hb d_R_find_155 (lv_at hl 7 rfl) ?_
                          refine rcallV (rest := []) (v := (f_R_width u aX aY bX bY k)) S [.int (nI (k))] hK hP [0, 1, 2, 3, 4, 5, 6, 7, 8, 9] rfl [0, 1] rfl (c_R_width l D q0 qu qa qb qc qd qe qf qg qh cZ cI u aX aY bX bY kn lns ln ac mn sm k (by omega)) i_R_width kL_R_82 ⟨Nat.le_of_ble_eq_true rfl, Nat.le_of_ble_eq_true rfl⟩ (by exact ⟨Nat.zero_le _, Nat.zero_le _⟩) (q0 := 0) (ci := 3) rfl rfl rfl hl.1 rfl (Nat.le_of_ble_eq_true rfl) d_R_find_157 ?_
                          refine lv_istore (lv' := [(9, .int ((f_R_width u aX aY bX bY k))), (8, .int ((f_R_rise u aX aY bX bY k x))), (0, .ref q0), (1, .int x), (2, .int y), (4, .int fo), (5, .int up), (6, .int wi), (7, .int (nI (k)))]) hx hb d_R_find_160 hl (by decide) rfl (fun ls hl => ?_)
                          refine lv_iload_n hx hb d_R_find_162 rfl (lv_at hl 4 rfl) ?_
                          refine lv_iconst (v := 1) hx hb d_R_find_163 (by decide) ?_
                          refine lv_iload hx hb d_R_find_164 (lv_at hl 1 rfl) ?_
                          refine lv_iload hx hb d_R_find_166 (lv_at hl 0 rfl) ?_
                          refine rcallS (rest := []) (v := b2i (f_R_less y 1 (f_R_rise u aX aY bX bY k x) (f_R_width u aX aY bX bY k))) S [.int y, .int 1, .int ((f_R_rise u aX aY bX bY k x)), .int ((f_R_width u aX aY bX bY k))] hK hP [] rfl [] rfl (c_R_less l D y 1 (f_R_rise u aX aY bX bY k x) (f_R_width u aX aY bX bY k) ) i_R_less rfl kL_R_90 ⟨Nat.le_of_ble_eq_true rfl, Nat.le_of_ble_eq_true rfl⟩ (by exact ⟨Nat.zero_le _, Nat.zero_le _⟩) hl.1 rfl (Nat.le_of_ble_eq_true rfl) d_R_find_168 ?_
                          refine lv_if_eq (tgt := 200) hx hb d_R_find_171 (by decide) (fun c12 => ?_) (fun c12 => ?_)
                          · have c12a : ¬ (f_R_less y 1 (f_R_rise u aX aY bX bY k x) (f_R_width u aX aY bX bY k) = true) := b2n (b2i_eq0.mp c12)
                            refine lv_iinc (v := nI (k + 1)) (lv' := [(7, .int (nI (k + 1))), (9, .int ((f_R_width u aX aY bX bY k))), (8, .int ((f_R_rise u aX aY bX bY k x))), (0, .ref q0), (1, .int x), (2, .int y), (4, .int fo), (5, .int up), (6, .int wi)]) hx hb d_R_find_200 hl (k := 8) rfl (nI_1 (k)) (by decide) rfl (fun ls hl => ?_)
                            refine lv_goto (tgt := 47) hx hb d_R_find_203 (by decide) ?_
                            exact ih1 (k + 1) fo up wi (by omega) ls (lv_sub hl [3, 4, 5, 6, 7, 8, 0] rfl) (hf.trans (show fb_R_find_1 u aX aY bX bY x y (fl_R_find_1 u aX aY bX bY x y n1) k fo up wi = (fl_R_find_1 u aX aY bX bY x y n1 (k + 1) fo up wi) from by unfold fb_R_find_1; rw [if_neg c6a, if_pos c7a, if_neg c8a, if_neg c9a, if_neg c10a, if_neg c11a, if_neg c12a]))
                          · have c12a : f_R_less y 1 (f_R_rise u aX aY bX bY k x) (f_R_width u aX aY bX bY k) = true := b2i_ne0.mp c12
                            refine lv_iload hx hb d_R_find_174 (lv_at hl 1 rfl) ?_
                            refine lv_iload hx hb d_R_find_176 (lv_at hl 0 rfl) ?_
                            refine lv_iload hx hb d_R_find_178 (lv_at hl 6 rfl) ?_
                            refine lv_iload hx hb d_R_find_180 (lv_at hl 7 rfl) ?_
                            refine rcallS (rest := []) (v := b2i (f_R_less (f_R_rise u aX aY bX bY k x) (f_R_width u aX aY bX bY k) up wi)) S [.int ((f_R_rise u aX aY bX bY k x)), .int ((f_R_width u aX aY bX bY k)), .int up, .int wi] hK hP [] rfl [] rfl (c_R_less l D (f_R_rise u aX aY bX bY k x) (f_R_width u aX aY bX bY k) up wi ) i_R_less rfl kL_R_90 ⟨Nat.le_of_ble_eq_true rfl, Nat.le_of_ble_eq_true rfl⟩ (by exact ⟨Nat.zero_le _, Nat.zero_le _⟩) hl.1 rfl (Nat.le_of_ble_eq_true rfl) d_R_find_182 ?_
                            refine lv_if_eq (tgt := 200) hx hb d_R_find_185 (by decide) (fun c13 => ?_) (fun c13 => ?_)
                            · have c13a : ¬ (f_R_less (f_R_rise u aX aY bX bY k x) (f_R_width u aX aY bX bY k) up wi = true) := b2n (b2i_eq0.mp c13)
                              refine lv_iinc (v := nI (k + 1)) (lv' := [(7, .int (nI (k + 1))), (9, .int ((f_R_width u aX aY bX bY k))), (8, .int ((f_R_rise u aX aY bX bY k x))), (0, .ref q0), (1, .int x), (2, .int y), (4, .int fo), (5, .int up), (6, .int wi)]) hx hb d_R_find_200 hl (k := 8) rfl (nI_1 (k)) (by decide) rfl (fun ls hl => ?_)
                              refine lv_goto (tgt := 47) hx hb d_R_find_203 (by decide) ?_
                              exact ih1 (k + 1) fo up wi (by omega) ls (lv_sub hl [3, 4, 5, 6, 7, 8, 0] rfl) (hf.trans (show fb_R_find_1 u aX aY bX bY x y (fl_R_find_1 u aX aY bX bY x y n1) k fo up wi = (fl_R_find_1 u aX aY bX bY x y n1 (k + 1) fo up wi) from by unfold fb_R_find_1; rw [if_neg c6a, if_pos c7a, if_neg c8a, if_neg c9a, if_neg c10a, if_neg c11a, if_pos c12a, if_neg c13a]))
                            · have c13a : f_R_less (f_R_rise u aX aY bX bY k x) (f_R_width u aX aY bX bY k) up wi = true := b2i_ne0.mp c13
                              refine lv_iload hx hb d_R_find_188 (lv_at hl 8 rfl) ?_
                              refine lv_istore (lv' := [(4, .int (nI (k))), (9, .int ((f_R_width u aX aY bX bY k))), (8, .int ((f_R_rise u aX aY bX bY k x))), (0, .ref q0), (1, .int x), (2, .int y), (5, .int up), (6, .int wi), (7, .int (nI (k)))]) hx hb d_R_find_190 hl (by decide) rfl (fun ls hl => ?_)
                              refine lv_iload hx hb d_R_find_192 (lv_at hl 2 rfl) ?_
                              refine lv_istore (lv' := [(5, .int ((f_R_rise u aX aY bX bY k x))), (4, .int (nI (k))), (9, .int ((f_R_width u aX aY bX bY k))), (8, .int ((f_R_rise u aX aY bX bY k x))), (0, .ref q0), (1, .int x), (2, .int y), (6, .int wi), (7, .int (nI (k)))]) hx hb d_R_find_194 hl (by decide) rfl (fun ls hl => ?_)
                              refine lv_iload hx hb d_R_find_196 (lv_at hl 2 rfl) ?_
                              refine lv_istore (lv' := [(6, .int ((f_R_width u aX aY bX bY k))), (5, .int ((f_R_rise u aX aY bX bY k x))), (4, .int (nI (k))), (9, .int ((f_R_width u aX aY bX bY k))), (8, .int ((f_R_rise u aX aY bX bY k x))), (0, .ref q0), (1, .int x), (2, .int y), (7, .int (nI (k)))]) hx hb d_R_find_198 hl (by decide) rfl (fun ls hl => ?_)
                              refine lv_iinc (v := nI (k + 1)) (lv' := [(7, .int (nI (k + 1))), (6, .int ((f_R_width u aX aY bX bY k))), (5, .int ((f_R_rise u aX aY bX bY k x))), (4, .int (nI (k))), (9, .int ((f_R_width u aX aY bX bY k))), (8, .int ((f_R_rise u aX aY bX bY k x))), (0, .ref q0), (1, .int x), (2, .int y)]) hx hb d_R_find_200 hl (k := 8) rfl (nI_1 (k)) (by decide) rfl (fun ls hl => ?_)
                              refine lv_goto (tgt := 47) hx hb d_R_find_203 (by decide) ?_
                              exact ih1 (k + 1) (nI (k)) (f_R_rise u aX aY bX bY k x) (f_R_width u aX aY bX bY k) (by omega) ls (lv_sub hl [6, 7, 8, 3, 2, 1, 0] rfl) (hf.trans (show fb_R_find_1 u aX aY bX bY x y (fl_R_find_1 u aX aY bX bY x y n1) k fo up wi = (fl_R_find_1 u aX aY bX bY x y n1 (k + 1) (nI (k)) (f_R_rise u aX aY bX bY k x) (f_R_width u aX aY bX bY k)) from by unfold fb_R_find_1; rw [if_neg c6a, if_pos c7a, if_neg c8a, if_neg c9a, if_neg c10a, if_neg c11a, if_pos c12a, if_pos c13a]))
                        · have c11a : f_R_isUpright u aX aY bX bY k = true := b2i_ne0.mp c11
                          refine lv_iconst (v := 1) hx hb d_R_find_150 (by decide) ?_
                          refine lv_goto (tgt := 160) hx hb d_R_find_151 (by decide) ?_
                          refine lv_istore (lv' := [(9, .int 1), (8, .int ((f_R_rise u aX aY bX bY k x))), (0, .ref q0), (1, .int x), (2, .int y), (4, .int fo), (5, .int up), (6, .int wi), (7, .int (nI (k)))]) hx hb d_R_find_160 hl (by decide) rfl (fun ls hl => ?_)
                          refine lv_iload_n hx hb d_R_find_162 rfl (lv_at hl 4 rfl) ?_
                          refine lv_iconst (v := 1) hx hb d_R_find_163 (by decide) ?_
                          refine lv_iload hx hb d_R_find_164 (lv_at hl 1 rfl) ?_
                          refine lv_iload hx hb d_R_find_166 (lv_at hl 0 rfl) ?_
                          refine rcallS (rest := []) (v := b2i (f_R_less y 1 (f_R_rise u aX aY bX bY k x) 1)) S [.int y, .int 1, .int ((f_R_rise u aX aY bX bY k x)), .int 1] hK hP [] rfl [] rfl (c_R_less l D y 1 (f_R_rise u aX aY bX bY k x) 1 ) i_R_less rfl kL_R_90 ⟨Nat.le_of_ble_eq_true rfl, Nat.le_of_ble_eq_true rfl⟩ (by exact ⟨Nat.zero_le _, Nat.zero_le _⟩) hl.1 rfl (Nat.le_of_ble_eq_true rfl) d_R_find_168 ?_
                          refine lv_if_eq (tgt := 200) hx hb d_R_find_171 (by decide) (fun c14 => ?_) (fun c14 => ?_)
                          · have c14a : ¬ (f_R_less y 1 (f_R_rise u aX aY bX bY k x) 1 = true) := b2n (b2i_eq0.mp c14)
                            refine lv_iinc (v := nI (k + 1)) (lv' := [(7, .int (nI (k + 1))), (9, .int 1), (8, .int ((f_R_rise u aX aY bX bY k x))), (0, .ref q0), (1, .int x), (2, .int y), (4, .int fo), (5, .int up), (6, .int wi)]) hx hb d_R_find_200 hl (k := 8) rfl (nI_1 (k)) (by decide) rfl (fun ls hl => ?_)
                            refine lv_goto (tgt := 47) hx hb d_R_find_203 (by decide) ?_
                            exact ih1 (k + 1) fo up wi (by omega) ls (lv_sub hl [3, 4, 5, 6, 7, 8, 0] rfl) (hf.trans (show fb_R_find_1 u aX aY bX bY x y (fl_R_find_1 u aX aY bX bY x y n1) k fo up wi = (fl_R_find_1 u aX aY bX bY x y n1 (k + 1) fo up wi) from by unfold fb_R_find_1; rw [if_neg c6a, if_pos c7a, if_neg c8a, if_neg c9a, if_neg c10a, if_pos c11a, if_neg c14a]))
                          · have c14a : f_R_less y 1 (f_R_rise u aX aY bX bY k x) 1 = true := b2i_ne0.mp c14
                            refine lv_iload hx hb d_R_find_174 (lv_at hl 1 rfl) ?_
                            refine lv_iload hx hb d_R_find_176 (lv_at hl 0 rfl) ?_
                            refine lv_iload hx hb d_R_find_178 (lv_at hl 6 rfl) ?_
                            refine lv_iload hx hb d_R_find_180 (lv_at hl 7 rfl) ?_
                            refine rcallS (rest := []) (v := b2i (f_R_less (f_R_rise u aX aY bX bY k x) 1 up wi)) S [.int ((f_R_rise u aX aY bX bY k x)), .int 1, .int up, .int wi] hK hP [] rfl [] rfl (c_R_less l D (f_R_rise u aX aY bX bY k x) 1 up wi ) i_R_less rfl kL_R_90 ⟨Nat.le_of_ble_eq_true rfl, Nat.le_of_ble_eq_true rfl⟩ (by exact ⟨Nat.zero_le _, Nat.zero_le _⟩) hl.1 rfl (Nat.le_of_ble_eq_true rfl) d_R_find_182 ?_
                            refine lv_if_eq (tgt := 200) hx hb d_R_find_185 (by decide) (fun c15 => ?_) (fun c15 => ?_)
                            · have c15a : ¬ (f_R_less (f_R_rise u aX aY bX bY k x) 1 up wi = true) := b2n (b2i_eq0.mp c15)
                              refine lv_iinc (v := nI (k + 1)) (lv' := [(7, .int (nI (k + 1))), (9, .int 1), (8, .int ((f_R_rise u aX aY bX bY k x))), (0, .ref q0), (1, .int x), (2, .int y), (4, .int fo), (5, .int up), (6, .int wi)]) hx hb d_R_find_200 hl (k := 8) rfl (nI_1 (k)) (by decide) rfl (fun ls hl => ?_)
                              refine lv_goto (tgt := 47) hx hb d_R_find_203 (by decide) ?_
                              exact ih1 (k + 1) fo up wi (by omega) ls (lv_sub hl [3, 4, 5, 6, 7, 8, 0] rfl) (hf.trans (show fb_R_find_1 u aX aY bX bY x y (fl_R_find_1 u aX aY bX bY x y n1) k fo up wi = (fl_R_find_1 u aX aY bX bY x y n1 (k + 1) fo up wi) from by unfold fb_R_find_1; rw [if_neg c6a, if_pos c7a, if_neg c8a, if_neg c9a, if_neg c10a, if_pos c11a, if_pos c14a, if_neg c15a]))
                            · have c15a : f_R_less (f_R_rise u aX aY bX bY k x) 1 up wi = true := b2i_ne0.mp c15
                              refine lv_iload hx hb d_R_find_188 (lv_at hl 8 rfl) ?_
                              refine lv_istore (lv' := [(4, .int (nI (k))), (9, .int 1), (8, .int ((f_R_rise u aX aY bX bY k x))), (0, .ref q0), (1, .int x), (2, .int y), (5, .int up), (6, .int wi), (7, .int (nI (k)))]) hx hb d_R_find_190 hl (by decide) rfl (fun ls hl => ?_)
                              refine lv_iload hx hb d_R_find_192 (lv_at hl 2 rfl) ?_
                              refine lv_istore (lv' := [(5, .int ((f_R_rise u aX aY bX bY k x))), (4, .int (nI (k))), (9, .int 1), (8, .int ((f_R_rise u aX aY bX bY k x))), (0, .ref q0), (1, .int x), (2, .int y), (6, .int wi), (7, .int (nI (k)))]) hx hb d_R_find_194 hl (by decide) rfl (fun ls hl => ?_)
                              refine lv_iload hx hb d_R_find_196 (lv_at hl 2 rfl) ?_
                              refine lv_istore (lv' := [(6, .int 1), (5, .int ((f_R_rise u aX aY bX bY k x))), (4, .int (nI (k))), (9, .int 1), (8, .int ((f_R_rise u aX aY bX bY k x))), (0, .ref q0), (1, .int x), (2, .int y), (7, .int (nI (k)))]) hx hb d_R_find_198 hl (by decide) rfl (fun ls hl => ?_)
                              refine lv_iinc (v := nI (k + 1)) (lv' := [(7, .int (nI (k + 1))), (6, .int 1), (5, .int ((f_R_rise u aX aY bX bY k x))), (4, .int (nI (k))), (9, .int 1), (8, .int ((f_R_rise u aX aY bX bY k x))), (0, .ref q0), (1, .int x), (2, .int y)]) hx hb d_R_find_200 hl (k := 8) rfl (nI_1 (k)) (by decide) rfl (fun ls hl => ?_)
                              refine lv_goto (tgt := 47) hx hb d_R_find_203 (by decide) ?_
                              exact ih1 (k + 1) (nI (k)) (f_R_rise u aX aY bX bY k x) 1 (by omega) ls (lv_sub hl [6, 7, 8, 3, 2, 1, 0] rfl) (hf.trans (show fb_R_find_1 u aX aY bX bY x y (fl_R_find_1 u aX aY bX bY x y n1) k fo up wi = (fl_R_find_1 u aX aY bX bY x y n1 (k + 1) (nI (k)) (f_R_rise u aX aY bX bY k x) 1) from by unfold fb_R_find_1; rw [if_neg c6a, if_pos c7a, if_neg c8a, if_neg c9a, if_neg c10a, if_pos c11a, if_pos c14a, if_pos c15a]))
                      · have c10a : f_R_isUpright u aX aY bX bY k = true := b2i_ne0.mp c10
                        refine lv_aload_n hx hb d_R_find_122 rfl (lv_at hl 0 rfl) ?_
                        refine rget S hK hP 0 rfl rfl in_R 2 (by decide) kF_R_17 rfl d_R_find_123 ?_
                        refine lv_iload hx hb d_R_find_126 (lv_at hl 6 rfl) ?_
                        refine riald (j := k) S hK hP 3 1 rfl rfl (by omega) (by first | decide | omega) d_R_find_128 ?_
                        refine lv_goto (tgt := 139) hx hb d_R_find_129 (by decide) ?_
                        refine lv_istore (lv' := [(8, .int (aY k)), (0, .ref q0), (1, .int x), (2, .int y), (4, .int fo), (5, .int up), (6, .int wi), (7, .int (nI (k)))]) hx hb d_R_find_139 hl (by decide) rfl (fun ls hl => ?_)
                        refine lv_aload_n hx hb d_R_find_141 rfl (lv_at hl 1 rfl) ?_
                        refine lv_iload hx hb d_R_find_142 (lv_at hl 7 rfl) ?_
                        refine rcallV (rest := []) (v := b2i (f_R_isUpright u aX aY bX bY k)) S [.int (nI (k))] hK hP [0, 1, 2, 3, 4, 5, 6, 7, 8, 9] rfl [0, 1] rfl (c_R_isUpright l D q0 qu qa qb qc qd qe qf qg qh cZ cI u aX aY bX bY kn lns ln ac mn sm k (by omega)) i_R_isUpright kL_R_109 ⟨Nat.le_of_ble_eq_true rfl, Nat.le_of_ble_eq_true rfl⟩ (by exact ⟨Nat.zero_le _, Nat.zero_le _⟩) (q0 := 0) (ci := 3) rfl rfl rfl hl.1 rfl (Nat.le_of_ble_eq_true rfl) d_R_find_144 ?_
                        refine lv_if_eq (tgt := 154) hx hb d_R_find_147 (by decide) (fun c16 => ?_) (fun c16 => ?_)
                        · have c16a : ¬ (f_R_isUpright u aX aY bX bY k = true) := b2n (b2i_eq0.mp c16)
                          refine lv_aload_n hx hb d_R_find_154 rfl (lv_at hl 1 rfl) ?_
                          refine lv_iload hx hb d_R_find_155 (lv_at hl 7 rfl) ?_
                          refine rcallV (rest := []) (v := (f_R_width u aX aY bX bY k)) S [.int (nI (k))] hK hP [0, 1, 2, 3, 4, 5, 6, 7, 8, 9] rfl [0, 1] rfl (c_R_width l D q0 qu qa qb qc qd qe qf qg qh cZ cI u aX aY bX bY kn lns ln ac mn sm k (by omega)) i_R_width kL_R_82 ⟨Nat.le_of_ble_eq_true rfl, Nat.le_of_ble_eq_true rfl⟩ (by exact ⟨Nat.zero_le _, Nat.zero_le _⟩) (q0 := 0) (ci := 3) rfl rfl rfl hl.1 rfl (Nat.le_of_ble_eq_true rfl) d_R_find_157 ?_
                          refine lv_istore (lv' := [(9, .int ((f_R_width u aX aY bX bY k))), (8, .int (aY k)), (0, .ref q0), (1, .int x), (2, .int y), (4, .int fo), (5, .int up), (6, .int wi), (7, .int (nI (k)))]) hx hb d_R_find_160 hl (by decide) rfl (fun ls hl => ?_)
                          refine lv_iload_n hx hb d_R_find_162 rfl (lv_at hl 4 rfl) ?_
                          refine lv_iconst (v := 1) hx hb d_R_find_163 (by decide) ?_
                          refine lv_iload hx hb d_R_find_164 (lv_at hl 1 rfl) ?_
                          refine lv_iload hx hb d_R_find_166 (lv_at hl 0 rfl) ?_
                          refine rcallS (rest := []) (v := b2i (f_R_less y 1 (aY k) (f_R_width u aX aY bX bY k))) S [.int y, .int 1, .int (aY k), .int ((f_R_width u aX aY bX bY k))] hK hP [] rfl [] rfl (c_R_less l D y 1 (aY k) (f_R_width u aX aY bX bY k) ) i_R_less rfl kL_R_90 ⟨Nat.le_of_ble_eq_true rfl, Nat.le_of_ble_eq_true rfl⟩ (by exact ⟨Nat.zero_le _, Nat.zero_le _⟩) hl.1 rfl (Nat.le_of_ble_eq_true rfl) d_R_find_168 ?_
                          refine lv_if_eq (tgt := 200) hx hb d_R_find_171 (by decide) (fun c17 => ?_) (fun c17 => ?_)
                          · have c17a : ¬ (f_R_less y 1 (aY k) (f_R_width u aX aY bX bY k) = true) := b2n (b2i_eq0.mp c17)
                            refine lv_iinc (v := nI (k + 1)) (lv' := [(7, .int (nI (k + 1))), (9, .int ((f_R_width u aX aY bX bY k))), (8, .int (aY k)), (0, .ref q0), (1, .int x), (2, .int y), (4, .int fo), (5, .int up), (6, .int wi)]) hx hb d_R_find_200 hl (k := 8) rfl (nI_1 (k)) (by decide) rfl (fun ls hl => ?_)
                            refine lv_goto (tgt := 47) hx hb d_R_find_203 (by decide) ?_
                            exact ih1 (k + 1) fo up wi (by omega) ls (lv_sub hl [3, 4, 5, 6, 7, 8, 0] rfl) (hf.trans (show fb_R_find_1 u aX aY bX bY x y (fl_R_find_1 u aX aY bX bY x y n1) k fo up wi = (fl_R_find_1 u aX aY bX bY x y n1 (k + 1) fo up wi) from by unfold fb_R_find_1; rw [if_neg c6a, if_pos c7a, if_neg c8a, if_neg c9a, if_pos c10a, if_neg c16a, if_neg c17a]))
                          · have c17a : f_R_less y 1 (aY k) (f_R_width u aX aY bX bY k) = true := b2i_ne0.mp c17
                            refine lv_iload hx hb d_R_find_174 (lv_at hl 1 rfl) ?_
                            refine lv_iload hx hb d_R_find_176 (lv_at hl 0 rfl) ?_
                            refine lv_iload hx hb d_R_find_178 (lv_at hl 6 rfl) ?_
                            refine lv_iload hx hb d_R_find_180 (lv_at hl 7 rfl) ?_
                            refine rcallS (rest := []) (v := b2i (f_R_less (aY k) (f_R_width u aX aY bX bY k) up wi)) S [.int (aY k), .int ((f_R_width u aX aY bX bY k)), .int up, .int wi] hK hP [] rfl [] rfl (c_R_less l D (aY k) (f_R_width u aX aY bX bY k) up wi ) i_R_less rfl kL_R_90 ⟨Nat.le_of_ble_eq_true rfl, Nat.le_of_ble_eq_true rfl⟩ (by exact ⟨Nat.zero_le _, Nat.zero_le _⟩) hl.1 rfl (Nat.le_of_ble_eq_true rfl) d_R_find_182 ?_
                            refine lv_if_eq (tgt := 200) hx hb d_R_find_185 (by decide) (fun c18 => ?_) (fun c18 => ?_)
                            · have c18a : ¬ (f_R_less (aY k) (f_R_width u aX aY bX bY k) up wi = true) := b2n (b2i_eq0.mp c18)
                              refine lv_iinc (v := nI (k + 1)) (lv' := [(7, .int (nI (k + 1))), (9, .int ((f_R_width u aX aY bX bY k))), (8, .int (aY k)), (0, .ref q0), (1, .int x), (2, .int y), (4, .int fo), (5, .int up), (6, .int wi)]) hx hb d_R_find_200 hl (k := 8) rfl (nI_1 (k)) (by decide) rfl (fun ls hl => ?_)
                              refine lv_goto (tgt := 47) hx hb d_R_find_203 (by decide) ?_
                              exact ih1 (k + 1) fo up wi (by omega) ls (lv_sub hl [3, 4, 5, 6, 7, 8, 0] rfl) (hf.trans (show fb_R_find_1 u aX aY bX bY x y (fl_R_find_1 u aX aY bX bY x y n1) k fo up wi = (fl_R_find_1 u aX aY bX bY x y n1 (k + 1) fo up wi) from by unfold fb_R_find_1; rw [if_neg c6a, if_pos c7a, if_neg c8a, if_neg c9a, if_pos c10a, if_neg c16a, if_pos c17a, if_neg c18a]))
                            · have c18a : f_R_less (aY k) (f_R_width u aX aY bX bY k) up wi = true := b2i_ne0.mp c18
                              refine lv_iload hx hb d_R_find_188 (lv_at hl 8 rfl) ?_
                              refine lv_istore (lv' := [(4, .int (nI (k))), (9, .int ((f_R_width u aX aY bX bY k))), (8, .int (aY k)), (0, .ref q0), (1, .int x), (2, .int y), (5, .int up), (6, .int wi), (7, .int (nI (k)))]) hx hb d_R_find_190 hl (by decide) rfl (fun ls hl => ?_)
                              refine lv_iload hx hb d_R_find_192 (lv_at hl 2 rfl) ?_
                              refine lv_istore (lv' := [(5, .int (aY k)), (4, .int (nI (k))), (9, .int ((f_R_width u aX aY bX bY k))), (8, .int (aY k)), (0, .ref q0), (1, .int x), (2, .int y), (6, .int wi), (7, .int (nI (k)))]) hx hb d_R_find_194 hl (by decide) rfl (fun ls hl => ?_)
                              refine lv_iload hx hb d_R_find_196 (lv_at hl 2 rfl) ?_
                              refine lv_istore (lv' := [(6, .int ((f_R_width u aX aY bX bY k))), (5, .int (aY k)), (4, .int (nI (k))), (9, .int ((f_R_width u aX aY bX bY k))), (8, .int (aY k)), (0, .ref q0), (1, .int x), (2, .int y), (7, .int (nI (k)))]) hx hb d_R_find_198 hl (by decide) rfl (fun ls hl => ?_)
                              refine lv_iinc (v := nI (k + 1)) (lv' := [(7, .int (nI (k + 1))), (6, .int ((f_R_width u aX aY bX bY k))), (5, .int (aY k)), (4, .int (nI (k))), (9, .int ((f_R_width u aX aY bX bY k))), (8, .int (aY k)), (0, .ref q0), (1, .int x), (2, .int y)]) hx hb d_R_find_200 hl (k := 8) rfl (nI_1 (k)) (by decide) rfl (fun ls hl => ?_)
                              refine lv_goto (tgt := 47) hx hb d_R_find_203 (by decide) ?_
                              exact ih1 (k + 1) (nI (k)) (aY k) (f_R_width u aX aY bX bY k) (by omega) ls (lv_sub hl [6, 7, 8, 3, 2, 1, 0] rfl) (hf.trans (show fb_R_find_1 u aX aY bX bY x y (fl_R_find_1 u aX aY bX bY x y n1) k fo up wi = (fl_R_find_1 u aX aY bX bY x y n1 (k + 1) (nI (k)) (aY k) (f_R_width u aX aY bX bY k)) from by unfold fb_R_find_1; rw [if_neg c6a, if_pos c7a, if_neg c8a, if_neg c9a, if_pos c10a, if_neg c16a, if_pos c17a, if_pos c18a]))
                        · have c16a : f_R_isUpright u aX aY bX bY k = true := b2i_ne0.mp c16
                          refine lv_iconst (v := 1) hx hb d_R_find_150 (by decide) ?_
                          refine lv_goto (tgt := 160) hx hb d_R_find_151 (by decide) ?_
                          refine lv_istore (lv' := [(9, .int 1), (8, .int (aY k)), (0, .ref q0), (1, .int x), (2, .int y), (4, .int fo), (5, .int up), (6, .int wi), (7, .int (nI (k)))]) hx hb d_R_find_160 hl (by decide) rfl (fun ls hl => ?_)
                          refine lv_iload_n hx hb d_R_find_162 rfl (lv_at hl 4 rfl) ?_
                          refine lv_iconst (v := 1) hx hb d_R_find_163 (by decide) ?_
                          refine lv_iload hx hb d_R_find_164 (lv_at hl 1 rfl) ?_
                          refine lv_iload hx hb d_R_find_166 (lv_at hl 0 rfl) ?_
                          refine rcallS (rest := []) (v := b2i (f_R_less y 1 (aY k) 1)) S [.int y, .int 1, .int (aY k), .int 1] hK hP [] rfl [] rfl (c_R_less l D y 1 (aY k) 1 ) i_R_less rfl kL_R_90 ⟨Nat.le_of_ble_eq_true rfl, Nat.le_of_ble_eq_true rfl⟩ (by exact ⟨Nat.zero_le _, Nat.zero_le _⟩) hl.1 rfl (Nat.le_of_ble_eq_true rfl) d_R_find_168 ?_
                          refine lv_if_eq (tgt := 200) hx hb d_R_find_171 (by decide) (fun c19 => ?_) (fun c19 => ?_)
                          · have c19a : ¬ (f_R_less y 1 (aY k) 1 = true) := b2n (b2i_eq0.mp c19)
                            refine lv_iinc (v := nI (k + 1)) (lv' := [(7, .int (nI (k + 1))), (9, .int 1), (8, .int (aY k)), (0, .ref q0), (1, .int x), (2, .int y), (4, .int fo), (5, .int up), (6, .int wi)]) hx hb d_R_find_200 hl (k := 8) rfl (nI_1 (k)) (by decide) rfl (fun ls hl => ?_)
                            refine lv_goto (tgt := 47) hx hb d_R_find_203 (by decide) ?_
                            exact ih1 (k + 1) fo up wi (by omega) ls (lv_sub hl [3, 4, 5, 6, 7, 8, 0] rfl) (hf.trans (show fb_R_find_1 u aX aY bX bY x y (fl_R_find_1 u aX aY bX bY x y n1) k fo up wi = (fl_R_find_1 u aX aY bX bY x y n1 (k + 1) fo up wi) from by unfold fb_R_find_1; rw [if_neg c6a, if_pos c7a, if_neg c8a, if_neg c9a, if_pos c10a, if_pos c16a, if_neg c19a]))
                          · have c19a : f_R_less y 1 (aY k) 1 = true := b2i_ne0.mp c19
                            refine lv_iload hx hb d_R_find_174 (lv_at hl 1 rfl) ?_
                            refine lv_iload hx hb d_R_find_176 (lv_at hl 0 rfl) ?_
                            refine lv_iload hx hb d_R_find_178 (lv_at hl 6 rfl) ?_
                            refine lv_iload hx hb d_R_find_180 (lv_at hl 7 rfl) ?_
                            refine rcallS (rest := []) (v := b2i (f_R_less (aY k) 1 up wi)) S [.int (aY k), .int 1, .int up, .int wi] hK hP [] rfl [] rfl (c_R_less l D (aY k) 1 up wi ) i_R_less rfl kL_R_90 ⟨Nat.le_of_ble_eq_true rfl, Nat.le_of_ble_eq_true rfl⟩ (by exact ⟨Nat.zero_le _, Nat.zero_le _⟩) hl.1 rfl (Nat.le_of_ble_eq_true rfl) d_R_find_182 ?_
                            refine lv_if_eq (tgt := 200) hx hb d_R_find_185 (by decide) (fun c20 => ?_) (fun c20 => ?_)
                            · have c20a : ¬ (f_R_less (aY k) 1 up wi = true) := b2n (b2i_eq0.mp c20)
                              refine lv_iinc (v := nI (k + 1)) (lv' := [(7, .int (nI (k + 1))), (9, .int 1), (8, .int (aY k)), (0, .ref q0), (1, .int x), (2, .int y), (4, .int fo), (5, .int up), (6, .int wi)]) hx hb d_R_find_200 hl (k := 8) rfl (nI_1 (k)) (by decide) rfl (fun ls hl => ?_)
                              refine lv_goto (tgt := 47) hx hb d_R_find_203 (by decide) ?_
                              exact ih1 (k + 1) fo up wi (by omega) ls (lv_sub hl [3, 4, 5, 6, 7, 8, 0] rfl) (hf.trans (show fb_R_find_1 u aX aY bX bY x y (fl_R_find_1 u aX aY bX bY x y n1) k fo up wi = (fl_R_find_1 u aX aY bX bY x y n1 (k + 1) fo up wi) from by unfold fb_R_find_1; rw [if_neg c6a, if_pos c7a, if_neg c8a, if_neg c9a, if_pos c10a, if_pos c16a, if_pos c19a, if_neg c20a]))
                            · have c20a : f_R_less (aY k) 1 up wi = true := b2i_ne0.mp c20
                              refine lv_iload hx hb d_R_find_188 (lv_at hl 8 rfl) ?_
                              refine lv_istore (lv' := [(4, .int (nI (k))), (9, .int 1), (8, .int (aY k)), (0, .ref q0), (1, .int x), (2, .int y), (5, .int up), (6, .int wi), (7, .int (nI (k)))]) hx hb d_R_find_190 hl (by decide) rfl (fun ls hl => ?_)
                              refine lv_iload hx hb d_R_find_192 (lv_at hl 2 rfl) ?_
                              refine lv_istore (lv' := [(5, .int (aY k)), (4, .int (nI (k))), (9, .int 1), (8, .int (aY k)), (0, .ref q0), (1, .int x), (2, .int y), (6, .int wi), (7, .int (nI (k)))]) hx hb d_R_find_194 hl (by decide) rfl (fun ls hl => ?_)
                              refine lv_iload hx hb d_R_find_196 (lv_at hl 2 rfl) ?_
                              refine lv_istore (lv' := [(6, .int 1), (5, .int (aY k)), (4, .int (nI (k))), (9, .int 1), (8, .int (aY k)), (0, .ref q0), (1, .int x), (2, .int y), (7, .int (nI (k)))]) hx hb d_R_find_198 hl (by decide) rfl (fun ls hl => ?_)
                              refine lv_iinc (v := nI (k + 1)) (lv' := [(7, .int (nI (k + 1))), (6, .int 1), (5, .int (aY k)), (4, .int (nI (k))), (9, .int 1), (8, .int (aY k)), (0, .ref q0), (1, .int x), (2, .int y)]) hx hb d_R_find_200 hl (k := 8) rfl (nI_1 (k)) (by decide) rfl (fun ls hl => ?_)
                              refine lv_goto (tgt := 47) hx hb d_R_find_203 (by decide) ?_
                              exact ih1 (k + 1) (nI (k)) (aY k) 1 (by omega) ls (lv_sub hl [6, 7, 8, 3, 2, 1, 0] rfl) (hf.trans (show fb_R_find_1 u aX aY bX bY x y (fl_R_find_1 u aX aY bX bY x y n1) k fo up wi = (fl_R_find_1 u aX aY bX bY x y n1 (k + 1) (nI (k)) (aY k) 1) from by unfold fb_R_find_1; rw [if_neg c6a, if_pos c7a, if_neg c8a, if_neg c9a, if_pos c10a, if_pos c16a, if_pos c19a, if_pos c20a]))
              · have c6a : u k = true := b2i_ne0.mp c6
                refine lv_aload_n hx hb d_R_find_64 rfl (lv_at hl 0 rfl) ?_
                refine lv_iload hx hb d_R_find_65 (lv_at hl 6 rfl) ?_
                refine lv_iload_n hx hb d_R_find_67 rfl (lv_at hl 1 rfl) ?_
                refine lv_iload_n hx hb d_R_find_68 rfl (lv_at hl 2 rfl) ?_
                refine rcallV (rest := []) (v := b2i (f_R_isInside u aX aY bX bY k x y)) S [.int (nI (k)), .int x, .int y] hK hP [0, 1, 2, 3, 4, 5, 6, 7, 8, 9] rfl [0, 1] rfl (c_R_isInside l D q0 qu qa qb qc qd qe qf qg qh cZ cI u aX aY bX bY kn lns ln ac mn sm k x y (by omega)) i_R_isInside kL_R_50 ⟨Nat.le_of_ble_eq_true rfl, Nat.le_of_ble_eq_true rfl⟩ (by exact ⟨Nat.zero_le _, Nat.zero_le _⟩) (q0 := 0) (ci := 3) rfl rfl rfl hl.1 rfl (Nat.le_of_ble_eq_true rfl) d_R_find_69 ?_
                refine lv_if_eq (tgt := 81) hx hb d_R_find_72 (by decide) (fun c21 => ?_) (fun c21 => ?_)
                · have c21a : ¬ (f_R_isInside u aX aY bX bY k x y = true) := b2n (b2i_eq0.mp c21)
                  refine lv_aload_n hx hb d_R_find_81 rfl (lv_at hl 0 rfl) ?_
                  refine rget S hK hP 0 rfl rfl in_R 0 (by decide) kF_R_7 rfl d_R_find_82 ?_
                  refine lv_iload hx hb d_R_find_85 (lv_at hl 6 rfl) ?_
                  refine rzald (j := k) S hK hP 1 0 rfl rfl (by omega) (by first | decide | omega) d_R_find_87 ?_
                  refine lv_if_eq (tgt := 200) hx hb d_R_find_88 (by decide) (fun c22 => ?_) (fun c22 => ?_)
                  · have c22a : ¬ (u k = true) := b2n (b2i_eq0.mp c22)
                    refine lv_iinc (v := nI (k + 1)) (lv' := [(7, .int (nI (k + 1))), (0, .ref q0), (1, .int x), (2, .int y), (4, .int fo), (5, .int up), (6, .int wi)]) hx hb d_R_find_200 hl (k := 6) rfl (nI_1 (k)) (by decide) rfl (fun ls hl => ?_)
                    refine lv_goto (tgt := 47) hx hb d_R_find_203 (by decide) ?_
                    exact ih1 (k + 1) fo up wi (by omega) ls (lv_sub hl [1, 2, 3, 4, 5, 6, 0] rfl) (hf.trans (show fb_R_find_1 u aX aY bX bY x y (fl_R_find_1 u aX aY bX bY x y n1) k fo up wi = (fl_R_find_1 u aX aY bX bY x y n1 (k + 1) fo up wi) from by unfold fb_R_find_1; rw [if_pos c6a, if_neg c21a, if_neg c22a]))
                  · have c22a : u k = true := b2i_ne0.mp c22
                    refine lv_aload_n hx hb d_R_find_91 rfl (lv_at hl 0 rfl) ?_
                    refine rget S hK hP 0 rfl rfl in_R 1 (by decide) kF_R_13 rfl d_R_find_92 ?_
                    refine lv_iload hx hb d_R_find_95 (lv_at hl 6 rfl) ?_
                    refine riald (j := k) S hK hP 2 1 rfl rfl (by omega) (by first | decide | omega) d_R_find_97 ?_
                    refine lv_iload_n hx hb d_R_find_98 rfl (lv_at hl 1 rfl) ?_
                    refine lv_icmp_gt (tgt := 200) hx hb d_R_find_99 (by decide) (fun c23 => ?_) (fun c23 => ?_)
                    · have c23a : x < aX k := c23
                      refine lv_iinc (v := nI (k + 1)) (lv' := [(7, .int (nI (k + 1))), (0, .ref q0), (1, .int x), (2, .int y), (4, .int fo), (5, .int up), (6, .int wi)]) hx hb d_R_find_200 hl (k := 6) rfl (nI_1 (k)) (by decide) rfl (fun ls hl => ?_)
                      refine lv_goto (tgt := 47) hx hb d_R_find_203 (by decide) ?_
                      exact ih1 (k + 1) fo up wi (by omega) ls (lv_sub hl [1, 2, 3, 4, 5, 6, 0] rfl) (hf.trans (show fb_R_find_1 u aX aY bX bY x y (fl_R_find_1 u aX aY bX bY x y n1) k fo up wi = (fl_R_find_1 u aX aY bX bY x y n1 (k + 1) fo up wi) from by unfold fb_R_find_1; rw [if_pos c6a, if_neg c21a, if_pos c22a, if_pos c23a]))
                    · have c23a : ¬ (x < aX k) := c23
                      refine lv_iload_n hx hb d_R_find_102 rfl (lv_at hl 1 rfl) ?_
                      refine lv_aload_n hx hb d_R_find_103 rfl (lv_at hl 0 rfl) ?_
                      refine rget S hK hP 0 rfl rfl in_R 3 (by decide) kF_R_20 rfl d_R_find_104 ?_
                      refine lv_iload hx hb d_R_find_107 (lv_at hl 6 rfl) ?_
                      refine riald (j := k) S hK hP 4 1 rfl rfl (by omega) (by first | decide | omega) d_R_find_109 ?_
                      refine lv_icmp_gt (tgt := 200) hx hb d_R_find_110 (by decide) (fun c24 => ?_) (fun c24 => ?_)
                      · have c24a : bX k < x := c24
                        refine lv_iinc (v := nI (k + 1)) (lv' := [(7, .int (nI (k + 1))), (0, .ref q0), (1, .int x), (2, .int y), (4, .int fo), (5, .int up), (6, .int wi)]) hx hb d_R_find_200 hl (k := 6) rfl (nI_1 (k)) (by decide) rfl (fun ls hl => ?_)
                        refine lv_goto (tgt := 47) hx hb d_R_find_203 (by decide) ?_
                        exact ih1 (k + 1) fo up wi (by omega) ls (lv_sub hl [1, 2, 3, 4, 5, 6, 0] rfl) (hf.trans (show fb_R_find_1 u aX aY bX bY x y (fl_R_find_1 u aX aY bX bY x y n1) k fo up wi = (fl_R_find_1 u aX aY bX bY x y n1 (k + 1) fo up wi) from by unfold fb_R_find_1; rw [if_pos c6a, if_neg c21a, if_pos c22a, if_neg c23a, if_pos c24a]))
                      · have c24a : ¬ (bX k < x) := c24
                        refine lv_aload_n hx hb d_R_find_113 rfl (lv_at hl 0 rfl) ?_
                        refine lv_iload hx hb d_R_find_114 (lv_at hl 6 rfl) ?_
                        refine rcallV (rest := []) (v := b2i (f_R_isUpright u aX aY bX bY k)) S [.int (nI (k))] hK hP [0, 1, 2, 3, 4, 5, 6, 7, 8, 9] rfl [0, 1] rfl (c_R_isUpright l D q0 qu qa qb qc qd qe qf qg qh cZ cI u aX aY bX bY kn lns ln ac mn sm k (by omega)) i_R_isUpright kL_R_109 ⟨Nat.le_of_ble_eq_true rfl, Nat.le_of_ble_eq_true rfl⟩ (by exact ⟨Nat.zero_le _, Nat.zero_le _⟩) (q0 := 0) (ci := 3) rfl rfl rfl hl.1 rfl (Nat.le_of_ble_eq_true rfl) d_R_find_116 ?_
                        refine lv_if_eq (tgt := 132) hx hb d_R_find_119 (by decide) (fun c25 => ?_) (fun c25 => ?_)
                        · have c25a : ¬ (f_R_isUpright u aX aY bX bY k = true) := b2n (b2i_eq0.mp c25)
                          refine lv_aload_n hx hb d_R_find_132 rfl (lv_at hl 0 rfl) ?_
                          refine lv_iload hx hb d_R_find_133 (lv_at hl 6 rfl) ?_
                          refine lv_iload_n hx hb d_R_find_135 rfl (lv_at hl 1 rfl) ?_
                          refine rcallV (rest := []) (v := (f_R_rise u aX aY bX bY k x)) S [.int (nI (k)), .int x] hK hP [0, 1, 2, 3, 4, 5, 6, 7, 8, 9] rfl [0, 1] rfl (c_R_rise l D q0 qu qa qb qc qd qe qf qg qh cZ cI u aX aY bX bY kn lns ln ac mn sm k x (by omega)) i_R_rise kL_R_79 ⟨Nat.le_of_ble_eq_true rfl, Nat.le_of_ble_eq_true rfl⟩ (by exact ⟨Nat.zero_le _, Nat.zero_le _⟩) (q0 := 0) (ci := 3) rfl rfl rfl hl.1 rfl (Nat.le_of_ble_eq_true rfl) d_R_find_136 ?_
                          refine lv_istore (lv' := [(8, .int ((f_R_rise u aX aY bX bY k x))), (0, .ref q0), (1, .int x), (2, .int y), (4, .int fo), (5, .int up), (6, .int wi), (7, .int (nI (k)))]) hx hb d_R_find_139 hl (by decide) rfl (fun ls hl => ?_)
                          refine lv_aload_n hx hb d_R_find_141 rfl (lv_at hl 1 rfl) ?_
                          refine lv_iload hx hb d_R_find_142 (lv_at hl 7 rfl) ?_
                          refine rcallV (rest := []) (v := b2i (f_R_isUpright u aX aY bX bY k)) S [.int (nI (k))] hK hP [0, 1, 2, 3, 4, 5, 6, 7, 8, 9] rfl [0, 1] rfl (c_R_isUpright l D q0 qu qa qb qc qd qe qf qg qh cZ cI u aX aY bX bY kn lns ln ac mn sm k (by omega)) i_R_isUpright kL_R_109 ⟨Nat.le_of_ble_eq_true rfl, Nat.le_of_ble_eq_true rfl⟩ (by exact ⟨Nat.zero_le _, Nat.zero_le _⟩) (q0 := 0) (ci := 3) rfl rfl rfl hl.1 rfl (Nat.le_of_ble_eq_true rfl) d_R_find_144 ?_
                          refine lv_if_eq (tgt := 154) hx hb d_R_find_147 (by decide) (fun c26 => ?_) (fun c26 => ?_)
                          · have c26a : ¬ (f_R_isUpright u aX aY bX bY k = true) := b2n (b2i_eq0.mp c26)
                            refine lv_aload_n hx hb d_R_find_154 rfl (lv_at hl 1 rfl) ?_
                            refine lv_iload hx hb d_R_find_155 (lv_at hl 7 rfl) ?_
                            refine rcallV (rest := []) (v := (f_R_width u aX aY bX bY k)) S [.int (nI (k))] hK hP [0, 1, 2, 3, 4, 5, 6, 7, 8, 9] rfl [0, 1] rfl (c_R_width l D q0 qu qa qb qc qd qe qf qg qh cZ cI u aX aY bX bY kn lns ln ac mn sm k (by omega)) i_R_width kL_R_82 ⟨Nat.le_of_ble_eq_true rfl, Nat.le_of_ble_eq_true rfl⟩ (by exact ⟨Nat.zero_le _, Nat.zero_le _⟩) (q0 := 0) (ci := 3) rfl rfl rfl hl.1 rfl (Nat.le_of_ble_eq_true rfl) d_R_find_157 ?_
                            refine lv_istore (lv' := [(9, .int ((f_R_width u aX aY bX bY k))), (8, .int ((f_R_rise u aX aY bX bY k x))), (0, .ref q0), (1, .int x), (2, .int y), (4, .int fo), (5, .int up), (6, .int wi), (7, .int (nI (k)))]) hx hb d_R_find_160 hl (by decide) rfl (fun ls hl => ?_)
                            refine lv_iload_n hx hb d_R_find_162 rfl (lv_at hl 4 rfl) ?_
                            refine lv_iconst (v := 1) hx hb d_R_find_163 (by decide) ?_
                            refine lv_iload hx hb d_R_find_164 (lv_at hl 1 rfl) ?_
                            refine lv_iload hx hb d_R_find_166 (lv_at hl 0 rfl) ?_
                            refine rcallS (rest := []) (v := b2i (f_R_less y 1 (f_R_rise u aX aY bX bY k x) (f_R_width u aX aY bX bY k))) S [.int y, .int 1, .int ((f_R_rise u aX aY bX bY k x)), .int ((f_R_width u aX aY bX bY k))] hK hP [] rfl [] rfl (c_R_less l D y 1 (f_R_rise u aX aY bX bY k x) (f_R_width u aX aY bX bY k) ) i_R_less rfl kL_R_90 ⟨Nat.le_of_ble_eq_true rfl, Nat.le_of_ble_eq_true rfl⟩ (by exact ⟨Nat.zero_le _, Nat.zero_le _⟩) hl.1 rfl (Nat.le_of_ble_eq_true rfl) d_R_find_168 ?_
                            refine lv_if_eq (tgt := 200) hx hb d_R_find_171 (by decide) (fun c27 => ?_) (fun c27 => ?_)
                            · have c27a : ¬ (f_R_less y 1 (f_R_rise u aX aY bX bY k x) (f_R_width u aX aY bX bY k) = true) := b2n (b2i_eq0.mp c27)
                              refine lv_iinc (v := nI (k + 1)) (lv' := [(7, .int (nI (k + 1))), (9, .int ((f_R_width u aX aY bX bY k))), (8, .int ((f_R_rise u aX aY bX bY k x))), (0, .ref q0), (1, .int x), (2, .int y), (4, .int fo), (5, .int up), (6, .int wi)]) hx hb d_R_find_200 hl (k := 8) rfl (nI_1 (k)) (by decide) rfl (fun ls hl => ?_)
                              refine lv_goto (tgt := 47) hx hb d_R_find_203 (by decide) ?_
                              exact ih1 (k + 1) fo up wi (by omega) ls (lv_sub hl [3, 4, 5, 6, 7, 8, 0] rfl) (hf.trans (show fb_R_find_1 u aX aY bX bY x y (fl_R_find_1 u aX aY bX bY x y n1) k fo up wi = (fl_R_find_1 u aX aY bX bY x y n1 (k + 1) fo up wi) from by unfold fb_R_find_1; rw [if_pos c6a, if_neg c21a, if_pos c22a, if_neg c23a, if_neg c24a, if_neg c25a, if_neg c26a, if_neg c27a]))
                            · have c27a : f_R_less y 1 (f_R_rise u aX aY bX bY k x) (f_R_width u aX aY bX bY k) = true := b2i_ne0.mp c27
                              refine lv_iload hx hb d_R_find_174 (lv_at hl 1 rfl) ?_
                              refine lv_iload hx hb d_R_find_176 (lv_at hl 0 rfl) ?_
                              refine lv_iload hx hb d_R_find_178 (lv_at hl 6 rfl) ?_
                              refine lv_iload hx hb d_R_find_180 (lv_at hl 7 rfl) ?_
                              refine rcallS (rest := []) (v := b2i (f_R_less (f_R_rise u aX aY bX bY k x) (f_R_width u aX aY bX bY k) up wi)) S [.int ((f_R_rise u aX aY bX bY k x)), .int ((f_R_width u aX aY bX bY k)), .int up, .int wi] hK hP [] rfl [] rfl (c_R_less l D (f_R_rise u aX aY bX bY k x) (f_R_width u aX aY bX bY k) up wi ) i_R_less rfl kL_R_90 ⟨Nat.le_of_ble_eq_true rfl, Nat.le_of_ble_eq_true rfl⟩ (by exact ⟨Nat.zero_le _, Nat.zero_le _⟩) hl.1 rfl (Nat.le_of_ble_eq_true rfl) d_R_find_182 ?_
                              refine lv_if_eq (tgt := 200) hx hb d_R_find_185 (by decide) (fun c28 => ?_) (fun c28 => ?_)
                              · have c28a : ¬ (f_R_less (f_R_rise u aX aY bX bY k x) (f_R_width u aX aY bX bY k) up wi = true) := b2n (b2i_eq0.mp c28)
                                refine lv_iinc (v := nI (k + 1)) (lv' := [(7, .int (nI (k + 1))), (9, .int ((f_R_width u aX aY bX bY k))), (8, .int ((f_R_rise u aX aY bX bY k x))), (0, .ref q0), (1, .int x), (2, .int y), (4, .int fo), (5, .int up), (6, .int wi)]) hx hb d_R_find_200 hl (k := 8) rfl (nI_1 (k)) (by decide) rfl (fun ls hl => ?_)
                                refine lv_goto (tgt := 47) hx hb d_R_find_203 (by decide) ?_
                                exact ih1 (k + 1) fo up wi (by omega) ls (lv_sub hl [3, 4, 5, 6, 7, 8, 0] rfl) (hf.trans (show fb_R_find_1 u aX aY bX bY x y (fl_R_find_1 u aX aY bX bY x y n1) k fo up wi = (fl_R_find_1 u aX aY bX bY x y n1 (k + 1) fo up wi) from by unfold fb_R_find_1; rw [if_pos c6a, if_neg c21a, if_pos c22a, if_neg c23a, if_neg c24a, if_neg c25a, if_neg c26a, if_pos c27a, if_neg c28a]))
                              · have c28a : f_R_less (f_R_rise u aX aY bX bY k x) (f_R_width u aX aY bX bY k) up wi = true := b2i_ne0.mp c28
                                refine lv_iload hx hb d_R_find_188 (lv_at hl 8 rfl) ?_
                                refine lv_istore (lv' := [(4, .int (nI (k))), (9, .int ((f_R_width u aX aY bX bY k))), (8, .int ((f_R_rise u aX aY bX bY k x))), (0, .ref q0), (1, .int x), (2, .int y), (5, .int up), (6, .int wi), (7, .int (nI (k)))]) hx hb d_R_find_190 hl (by decide) rfl (fun ls hl => ?_)
                                refine lv_iload hx hb d_R_find_192 (lv_at hl 2 rfl) ?_
                                refine lv_istore (lv' := [(5, .int ((f_R_rise u aX aY bX bY k x))), (4, .int (nI (k))), (9, .int ((f_R_width u aX aY bX bY k))), (8, .int ((f_R_rise u aX aY bX bY k x))), (0, .ref q0), (1, .int x), (2, .int y), (6, .int wi), (7, .int (nI (k)))]) hx hb d_R_find_194 hl (by decide) rfl (fun ls hl => ?_)
                                refine lv_iload hx hb d_R_find_196 (lv_at hl 2 rfl) ?_
                                refine lv_istore (lv' := [(6, .int ((f_R_width u aX aY bX bY k))), (5, .int ((f_R_rise u aX aY bX bY k x))), (4, .int (nI (k))), (9, .int ((f_R_width u aX aY bX bY k))), (8, .int ((f_R_rise u aX aY bX bY k x))), (0, .ref q0), (1, .int x), (2, .int y), (7, .int (nI (k)))]) hx hb d_R_find_198 hl (by decide) rfl (fun ls hl => ?_)
                                refine lv_iinc (v := nI (k + 1)) (lv' := [(7, .int (nI (k + 1))), (6, .int ((f_R_width u aX aY bX bY k))), (5, .int ((f_R_rise u aX aY bX bY k x))), (4, .int (nI (k))), (9, .int ((f_R_width u aX aY bX bY k))), (8, .int ((f_R_rise u aX aY bX bY k x))), (0, .ref q0), (1, .int x), (2, .int y)]) hx hb d_R_find_200 hl (k := 8) rfl (nI_1 (k)) (by decide) rfl (fun ls hl => ?_)
                                refine lv_goto (tgt := 47) hx hb d_R_find_203 (by decide) ?_
                                exact ih1 (k + 1) (nI (k)) (f_R_rise u aX aY bX bY k x) (f_R_width u aX aY bX bY k) (by omega) ls (lv_sub hl [6, 7, 8, 3, 2, 1, 0] rfl) (hf.trans (show fb_R_find_1 u aX aY bX bY x y (fl_R_find_1 u aX aY bX bY x y n1) k fo up wi = (fl_R_find_1 u aX aY bX bY x y n1 (k + 1) (nI (k)) (f_R_rise u aX aY bX bY k x) (f_R_width u aX aY bX bY k)) from by unfold fb_R_find_1; rw [if_pos c6a, if_neg c21a, if_pos c22a, if_neg c23a, if_neg c24a, if_neg c25a, if_neg c26a, if_pos c27a, if_pos c28a]))
                          · have c26a : f_R_isUpright u aX aY bX bY k = true := b2i_ne0.mp c26
                            refine lv_iconst (v := 1) hx hb d_R_find_150 (by decide) ?_
                            refine lv_goto (tgt := 160) hx hb d_R_find_151 (by decide) ?_
                            refine lv_istore (lv' := [(9, .int 1), (8, .int ((f_R_rise u aX aY bX bY k x))), (0, .ref q0), (1, .int x), (2, .int y), (4, .int fo), (5, .int up), (6, .int wi), (7, .int (nI (k)))]) hx hb d_R_find_160 hl (by decide) rfl (fun ls hl => ?_)
                            refine lv_iload_n hx hb d_R_find_162 rfl (lv_at hl 4 rfl) ?_
                            refine lv_iconst (v := 1) hx hb d_R_find_163 (by decide) ?_
                            refine lv_iload hx hb d_R_find_164 (lv_at hl 1 rfl) ?_
                            refine lv_iload hx hb d_R_find_166 (lv_at hl 0 rfl) ?_
                            refine rcallS (rest := []) (v := b2i (f_R_less y 1 (f_R_rise u aX aY bX bY k x) 1)) S [.int y, .int 1, .int ((f_R_rise u aX aY bX bY k x)), .int 1] hK hP [] rfl [] rfl (c_R_less l D y 1 (f_R_rise u aX aY bX bY k x) 1 ) i_R_less rfl kL_R_90 ⟨Nat.le_of_ble_eq_true rfl, Nat.le_of_ble_eq_true rfl⟩ (by exact ⟨Nat.zero_le _, Nat.zero_le _⟩) hl.1 rfl (Nat.le_of_ble_eq_true rfl) d_R_find_168 ?_
                            refine lv_if_eq (tgt := 200) hx hb d_R_find_171 (by decide) (fun c29 => ?_) (fun c29 => ?_)
                            · have c29a : ¬ (f_R_less y 1 (f_R_rise u aX aY bX bY k x) 1 = true) := b2n (b2i_eq0.mp c29)
                              refine lv_iinc (v := nI (k + 1)) (lv' := [(7, .int (nI (k + 1))), (9, .int 1), (8, .int ((f_R_rise u aX aY bX bY k x))), (0, .ref q0), (1, .int x), (2, .int y), (4, .int fo), (5, .int up), (6, .int wi)]) hx hb d_R_find_200 hl (k := 8) rfl (nI_1 (k)) (by decide) rfl (fun ls hl => ?_)
                              refine lv_goto (tgt := 47) hx hb d_R_find_203 (by decide) ?_
                              exact ih1 (k + 1) fo up wi (by omega) ls (lv_sub hl [3, 4, 5, 6, 7, 8, 0] rfl) (hf.trans (show fb_R_find_1 u aX aY bX bY x y (fl_R_find_1 u aX aY bX bY x y n1) k fo up wi = (fl_R_find_1 u aX aY bX bY x y n1 (k + 1) fo up wi) from by unfold fb_R_find_1; rw [if_pos c6a, if_neg c21a, if_pos c22a, if_neg c23a, if_neg c24a, if_neg c25a, if_pos c26a, if_neg c29a]))
                            · have c29a : f_R_less y 1 (f_R_rise u aX aY bX bY k x) 1 = true := b2i_ne0.mp c29
                              refine lv_iload hx hb d_R_find_174 (lv_at hl 1 rfl) ?_
                              refine lv_iload hx hb d_R_find_176 (lv_at hl 0 rfl) ?_
                              refine lv_iload hx hb d_R_find_178 (lv_at hl 6 rfl) ?_
                              refine lv_iload hx hb d_R_find_180 (lv_at hl 7 rfl) ?_
                              refine rcallS (rest := []) (v := b2i (f_R_less (f_R_rise u aX aY bX bY k x) 1 up wi)) S [.int ((f_R_rise u aX aY bX bY k x)), .int 1, .int up, .int wi] hK hP [] rfl [] rfl (c_R_less l D (f_R_rise u aX aY bX bY k x) 1 up wi ) i_R_less rfl kL_R_90 ⟨Nat.le_of_ble_eq_true rfl, Nat.le_of_ble_eq_true rfl⟩ (by exact ⟨Nat.zero_le _, Nat.zero_le _⟩) hl.1 rfl (Nat.le_of_ble_eq_true rfl) d_R_find_182 ?_
                              refine lv_if_eq (tgt := 200) hx hb d_R_find_185 (by decide) (fun c30 => ?_) (fun c30 => ?_)
                              · have c30a : ¬ (f_R_less (f_R_rise u aX aY bX bY k x) 1 up wi = true) := b2n (b2i_eq0.mp c30)
                                refine lv_iinc (v := nI (k + 1)) (lv' := [(7, .int (nI (k + 1))), (9, .int 1), (8, .int ((f_R_rise u aX aY bX bY k x))), (0, .ref q0), (1, .int x), (2, .int y), (4, .int fo), (5, .int up), (6, .int wi)]) hx hb d_R_find_200 hl (k := 8) rfl (nI_1 (k)) (by decide) rfl (fun ls hl => ?_)
                                refine lv_goto (tgt := 47) hx hb d_R_find_203 (by decide) ?_
                                exact ih1 (k + 1) fo up wi (by omega) ls (lv_sub hl [3, 4, 5, 6, 7, 8, 0] rfl) (hf.trans (show fb_R_find_1 u aX aY bX bY x y (fl_R_find_1 u aX aY bX bY x y n1) k fo up wi = (fl_R_find_1 u aX aY bX bY x y n1 (k + 1) fo up wi) from by unfold fb_R_find_1; rw [if_pos c6a, if_neg c21a, if_pos c22a, if_neg c23a, if_neg c24a, if_neg c25a, if_pos c26a, if_pos c29a, if_neg c30a]))
                              · have c30a : f_R_less (f_R_rise u aX aY bX bY k x) 1 up wi = true := b2i_ne0.mp c30
                                refine lv_iload hx hb d_R_find_188 (lv_at hl 8 rfl) ?_
                                refine lv_istore (lv' := [(4, .int (nI (k))), (9, .int 1), (8, .int ((f_R_rise u aX aY bX bY k x))), (0, .ref q0), (1, .int x), (2, .int y), (5, .int up), (6, .int wi), (7, .int (nI (k)))]) hx hb d_R_find_190 hl (by decide) rfl (fun ls hl => ?_)
                                refine lv_iload hx hb d_R_find_192 (lv_at hl 2 rfl) ?_
                                refine lv_istore (lv' := [(5, .int ((f_R_rise u aX aY bX bY k x))), (4, .int (nI (k))), (9, .int 1), (8, .int ((f_R_rise u aX aY bX bY k x))), (0, .ref q0), (1, .int x), (2, .int y), (6, .int wi), (7, .int (nI (k)))]) hx hb d_R_find_194 hl (by decide) rfl (fun ls hl => ?_)
                                refine lv_iload hx hb d_R_find_196 (lv_at hl 2 rfl) ?_
                                refine lv_istore (lv' := [(6, .int 1), (5, .int ((f_R_rise u aX aY bX bY k x))), (4, .int (nI (k))), (9, .int 1), (8, .int ((f_R_rise u aX aY bX bY k x))), (0, .ref q0), (1, .int x), (2, .int y), (7, .int (nI (k)))]) hx hb d_R_find_198 hl (by decide) rfl (fun ls hl => ?_)
                                refine lv_iinc (v := nI (k + 1)) (lv' := [(7, .int (nI (k + 1))), (6, .int 1), (5, .int ((f_R_rise u aX aY bX bY k x))), (4, .int (nI (k))), (9, .int 1), (8, .int ((f_R_rise u aX aY bX bY k x))), (0, .ref q0), (1, .int x), (2, .int y)]) hx hb d_R_find_200 hl (k := 8) rfl (nI_1 (k)) (by decide) rfl (fun ls hl => ?_)
                                refine lv_goto (tgt := 47) hx hb d_R_find_203 (by decide) ?_
                                exact ih1 (k + 1) (nI (k)) (f_R_rise u aX aY bX bY k x) 1 (by omega) ls (lv_sub hl [6, 7, 8, 3, 2, 1, 0] rfl) (hf.trans (show fb_R_find_1 u aX aY bX bY x y (fl_R_find_1 u aX aY bX bY x y n1) k fo up wi = (fl_R_find_1 u aX aY bX bY x y n1 (k + 1) (nI (k)) (f_R_rise u aX aY bX bY k x) 1) from by unfold fb_R_find_1; rw [if_pos c6a, if_neg c21a, if_pos c22a, if_neg c23a, if_neg c24a, if_neg c25a, if_pos c26a, if_pos c29a, if_pos c30a]))
                        · have c25a : f_R_isUpright u aX aY bX bY k = true := b2i_ne0.mp c25
                          refine lv_aload_n hx hb d_R_find_122 rfl (lv_at hl 0 rfl) ?_
                          refine rget S hK hP 0 rfl rfl in_R 2 (by decide) kF_R_17 rfl d_R_find_123 ?_
                          refine lv_iload hx hb d_R_find_126 (lv_at hl 6 rfl) ?_
                          refine riald (j := k) S hK hP 3 1 rfl rfl (by omega) (by first | decide | omega) d_R_find_128 ?_
                          refine lv_goto (tgt := 139) hx hb d_R_find_129 (by decide) ?_
                          refine lv_istore (lv' := [(8, .int (aY k)), (0, .ref q0), (1, .int x), (2, .int y), (4, .int fo), (5, .int up), (6, .int wi), (7, .int (nI (k)))]) hx hb d_R_find_139 hl (by decide) rfl (fun ls hl => ?_)
                          refine lv_aload_n hx hb d_R_find_141 rfl (lv_at hl 1 rfl) ?_
                          refine lv_iload hx hb d_R_find_142 (lv_at hl 7 rfl) ?_
                          refine rcallV (rest := []) (v := b2i (f_R_isUpright u aX aY bX bY k)) S [.int (nI (k))] hK hP [0, 1, 2, 3, 4, 5, 6, 7, 8, 9] rfl [0, 1] rfl (c_R_isUpright l D q0 qu qa qb qc qd qe qf qg qh cZ cI u aX aY bX bY kn lns ln ac mn sm k (by omega)) i_R_isUpright kL_R_109 ⟨Nat.le_of_ble_eq_true rfl, Nat.le_of_ble_eq_true rfl⟩ (by exact ⟨Nat.zero_le _, Nat.zero_le _⟩) (q0 := 0) (ci := 3) rfl rfl rfl hl.1 rfl (Nat.le_of_ble_eq_true rfl) d_R_find_144 ?_
                          refine lv_if_eq (tgt := 154) hx hb d_R_find_147 (by decide) (fun c31 => ?_) (fun c31 => ?_)
                          · have c31a : ¬ (f_R_isUpright u aX aY bX bY k = true) := b2n (b2i_eq0.mp c31)
                            refine lv_aload_n hx hb d_R_find_154 rfl (lv_at hl 1 rfl) ?_
                            refine lv_iload hx hb d_R_find_155 (lv_at hl 7 rfl) ?_
                            refine rcallV (rest := []) (v := (f_R_width u aX aY bX bY k)) S [.int (nI (k))] hK hP [0, 1, 2, 3, 4, 5, 6, 7, 8, 9] rfl [0, 1] rfl (c_R_width l D q0 qu qa qb qc qd qe qf qg qh cZ cI u aX aY bX bY kn lns ln ac mn sm k (by omega)) i_R_width kL_R_82 ⟨Nat.le_of_ble_eq_true rfl, Nat.le_of_ble_eq_true rfl⟩ (by exact ⟨Nat.zero_le _, Nat.zero_le _⟩) (q0 := 0) (ci := 3) rfl rfl rfl hl.1 rfl (Nat.le_of_ble_eq_true rfl) d_R_find_157 ?_
                            refine lv_istore (lv' := [(9, .int ((f_R_width u aX aY bX bY k))), (8, .int (aY k)), (0, .ref q0), (1, .int x), (2, .int y), (4, .int fo), (5, .int up), (6, .int wi), (7, .int (nI (k)))]) hx hb d_R_find_160 hl (by decide) rfl (fun ls hl => ?_)
                            refine lv_iload_n hx hb d_R_find_162 rfl (lv_at hl 4 rfl) ?_
                            refine lv_iconst (v := 1) hx hb d_R_find_163 (by decide) ?_
                            refine lv_iload hx hb d_R_find_164 (lv_at hl 1 rfl) ?_
                            refine lv_iload hx hb d_R_find_166 (lv_at hl 0 rfl) ?_
                            refine rcallS (rest := []) (v := b2i (f_R_less y 1 (aY k) (f_R_width u aX aY bX bY k))) S [.int y, .int 1, .int (aY k), .int ((f_R_width u aX aY bX bY k))] hK hP [] rfl [] rfl (c_R_less l D y 1 (aY k) (f_R_width u aX aY bX bY k) ) i_R_less rfl kL_R_90 ⟨Nat.le_of_ble_eq_true rfl, Nat.le_of_ble_eq_true rfl⟩ (by exact ⟨Nat.zero_le _, Nat.zero_le _⟩) hl.1 rfl (Nat.le_of_ble_eq_true rfl) d_R_find_168 ?_
                            refine lv_if_eq (tgt := 200) hx hb d_R_find_171 (by decide) (fun c32 => ?_) (fun c32 => ?_)
                            · have c32a : ¬ (f_R_less y 1 (aY k) (f_R_width u aX aY bX bY k) = true) := b2n (b2i_eq0.mp c32)
                              refine lv_iinc (v := nI (k + 1)) (lv' := [(7, .int (nI (k + 1))), (9, .int ((f_R_width u aX aY bX bY k))), (8, .int (aY k)), (0, .ref q0), (1, .int x), (2, .int y), (4, .int fo), (5, .int up), (6, .int wi)]) hx hb d_R_find_200 hl (k := 8) rfl (nI_1 (k)) (by decide) rfl (fun ls hl => ?_)
                              refine lv_goto (tgt := 47) hx hb d_R_find_203 (by decide) ?_
                              exact ih1 (k + 1) fo up wi (by omega) ls (lv_sub hl [3, 4, 5, 6, 7, 8, 0] rfl) (hf.trans (show fb_R_find_1 u aX aY bX bY x y (fl_R_find_1 u aX aY bX bY x y n1) k fo up wi = (fl_R_find_1 u aX aY bX bY x y n1 (k + 1) fo up wi) from by unfold fb_R_find_1; rw [if_pos c6a, if_neg c21a, if_pos c22a, if_neg c23a, if_neg c24a, if_pos c25a, if_neg c31a, if_neg c32a]))
                            · have c32a : f_R_less y 1 (aY k) (f_R_width u aX aY bX bY k) = true := b2i_ne0.mp c32
                              refine lv_iload hx hb d_R_find_174 (lv_at hl 1 rfl) ?_
                              refine lv_iload hx hb d_R_find_176 (lv_at hl 0 rfl) ?_
                              refine lv_iload hx hb d_R_find_178 (lv_at hl 6 rfl) ?_
                              refine lv_iload hx hb d_R_find_180 (lv_at hl 7 rfl) ?_
                              refine rcallS (rest := []) (v := b2i (f_R_less (aY k) (f_R_width u aX aY bX bY k) up wi)) S [.int (aY k), .int ((f_R_width u aX aY bX bY k)), .int up, .int wi] hK hP [] rfl [] rfl (c_R_less l D (aY k) (f_R_width u aX aY bX bY k) up wi ) i_R_less rfl kL_R_90 ⟨Nat.le_of_ble_eq_true rfl, Nat.le_of_ble_eq_true rfl⟩ (by exact ⟨Nat.zero_le _, Nat.zero_le _⟩) hl.1 rfl (Nat.le_of_ble_eq_true rfl) d_R_find_182 ?_
                              refine lv_if_eq (tgt := 200) hx hb d_R_find_185 (by decide) (fun c33 => ?_) (fun c33 => ?_)
                              · have c33a : ¬ (f_R_less (aY k) (f_R_width u aX aY bX bY k) up wi = true) := b2n (b2i_eq0.mp c33)
                                refine lv_iinc (v := nI (k + 1)) (lv' := [(7, .int (nI (k + 1))), (9, .int ((f_R_width u aX aY bX bY k))), (8, .int (aY k)), (0, .ref q0), (1, .int x), (2, .int y), (4, .int fo), (5, .int up), (6, .int wi)]) hx hb d_R_find_200 hl (k := 8) rfl (nI_1 (k)) (by decide) rfl (fun ls hl => ?_)
                                refine lv_goto (tgt := 47) hx hb d_R_find_203 (by decide) ?_
                                exact ih1 (k + 1) fo up wi (by omega) ls (lv_sub hl [3, 4, 5, 6, 7, 8, 0] rfl) (hf.trans (show fb_R_find_1 u aX aY bX bY x y (fl_R_find_1 u aX aY bX bY x y n1) k fo up wi = (fl_R_find_1 u aX aY bX bY x y n1 (k + 1) fo up wi) from by unfold fb_R_find_1; rw [if_pos c6a, if_neg c21a, if_pos c22a, if_neg c23a, if_neg c24a, if_pos c25a, if_neg c31a, if_pos c32a, if_neg c33a]))
                              · have c33a : f_R_less (aY k) (f_R_width u aX aY bX bY k) up wi = true := b2i_ne0.mp c33
                                refine lv_iload hx hb d_R_find_188 (lv_at hl 8 rfl) ?_
                                refine lv_istore (lv' := [(4, .int (nI (k))), (9, .int ((f_R_width u aX aY bX bY k))), (8, .int (aY k)), (0, .ref q0), (1, .int x), (2, .int y), (5, .int up), (6, .int wi), (7, .int (nI (k)))]) hx hb d_R_find_190 hl (by decide) rfl (fun ls hl => ?_)
                                refine lv_iload hx hb d_R_find_192 (lv_at hl 2 rfl) ?_
                                refine lv_istore (lv' := [(5, .int (aY k)), (4, .int (nI (k))), (9, .int ((f_R_width u aX aY bX bY k))), (8, .int (aY k)), (0, .ref q0), (1, .int x), (2, .int y), (6, .int wi), (7, .int (nI (k)))]) hx hb d_R_find_194 hl (by decide) rfl (fun ls hl => ?_)
                                refine lv_iload hx hb d_R_find_196 (lv_at hl 2 rfl) ?_
                                refine lv_istore (lv' := [(6, .int ((f_R_width u aX aY bX bY k))), (5, .int (aY k)), (4, .int (nI (k))), (9, .int ((f_R_width u aX aY bX bY k))), (8, .int (aY k)), (0, .ref q0), (1, .int x), (2, .int y), (7, .int (nI (k)))]) hx hb d_R_find_198 hl (by decide) rfl (fun ls hl => ?_)
                                refine lv_iinc (v := nI (k + 1)) (lv' := [(7, .int (nI (k + 1))), (6, .int ((f_R_width u aX aY bX bY k))), (5, .int (aY k)), (4, .int (nI (k))), (9, .int ((f_R_width u aX aY bX bY k))), (8, .int (aY k)), (0, .ref q0), (1, .int x), (2, .int y)]) hx hb d_R_find_200 hl (k := 8) rfl (nI_1 (k)) (by decide) rfl (fun ls hl => ?_)
                                refine lv_goto (tgt := 47) hx hb d_R_find_203 (by decide) ?_
                                exact ih1 (k + 1) (nI (k)) (aY k) (f_R_width u aX aY bX bY k) (by omega) ls (lv_sub hl [6, 7, 8, 3, 2, 1, 0] rfl) (hf.trans (show fb_R_find_1 u aX aY bX bY x y (fl_R_find_1 u aX aY bX bY x y n1) k fo up wi = (fl_R_find_1 u aX aY bX bY x y n1 (k + 1) (nI (k)) (aY k) (f_R_width u aX aY bX bY k)) from by unfold fb_R_find_1; rw [if_pos c6a, if_neg c21a, if_pos c22a, if_neg c23a, if_neg c24a, if_pos c25a, if_neg c31a, if_pos c32a, if_pos c33a]))
                          · have c31a : f_R_isUpright u aX aY bX bY k = true := b2i_ne0.mp c31
                            refine lv_iconst (v := 1) hx hb d_R_find_150 (by decide) ?_
                            refine lv_goto (tgt := 160) hx hb d_R_find_151 (by decide) ?_
                            refine lv_istore (lv' := [(9, .int 1), (8, .int (aY k)), (0, .ref q0), (1, .int x), (2, .int y), (4, .int fo), (5, .int up), (6, .int wi), (7, .int (nI (k)))]) hx hb d_R_find_160 hl (by decide) rfl (fun ls hl => ?_)
                            refine lv_iload_n hx hb d_R_find_162 rfl (lv_at hl 4 rfl) ?_
                            refine lv_iconst (v := 1) hx hb d_R_find_163 (by decide) ?_
                            refine lv_iload hx hb d_R_find_164 (lv_at hl 1 rfl) ?_
                            refine lv_iload hx hb d_R_find_166 (lv_at hl 0 rfl) ?_
                            refine rcallS (rest := []) (v := b2i (f_R_less y 1 (aY k) 1)) S [.int y, .int 1, .int (aY k), .int 1] hK hP [] rfl [] rfl (c_R_less l D y 1 (aY k) 1 ) i_R_less rfl kL_R_90 ⟨Nat.le_of_ble_eq_true rfl, Nat.le_of_ble_eq_true rfl⟩ (by exact ⟨Nat.zero_le _, Nat.zero_le _⟩) hl.1 rfl (Nat.le_of_ble_eq_true rfl) d_R_find_168 ?_
                            refine lv_if_eq (tgt := 200) hx hb d_R_find_171 (by decide) (fun c34 => ?_) (fun c34 => ?_)
                            · have c34a : ¬ (f_R_less y 1 (aY k) 1 = true) := b2n (b2i_eq0.mp c34)
                              refine lv_iinc (v := nI (k + 1)) (lv' := [(7, .int (nI (k + 1))), (9, .int 1), (8, .int (aY k)), (0, .ref q0), (1, .int x), (2, .int y), (4, .int fo), (5, .int up), (6, .int wi)]) hx hb d_R_find_200 hl (k := 8) rfl (nI_1 (k)) (by decide) rfl (fun ls hl => ?_)
                              refine lv_goto (tgt := 47) hx hb d_R_find_203 (by decide) ?_
                              exact ih1 (k + 1) fo up wi (by omega) ls (lv_sub hl [3, 4, 5, 6, 7, 8, 0] rfl) (hf.trans (show fb_R_find_1 u aX aY bX bY x y (fl_R_find_1 u aX aY bX bY x y n1) k fo up wi = (fl_R_find_1 u aX aY bX bY x y n1 (k + 1) fo up wi) from by unfold fb_R_find_1; rw [if_pos c6a, if_neg c21a, if_pos c22a, if_neg c23a, if_neg c24a, if_pos c25a, if_pos c31a, if_neg c34a]))
                            · have c34a : f_R_less y 1 (aY k) 1 = true := b2i_ne0.mp c34
                              refine lv_iload hx hb d_R_find_174 (lv_at hl 1 rfl) ?_
                              refine lv_iload hx hb d_R_find_176 (lv_at hl 0 rfl) ?_
                              refine lv_iload hx hb d_R_find_178 (lv_at hl 6 rfl) ?_
                              refine lv_iload hx hb d_R_find_180 (lv_at hl 7 rfl) ?_
                              refine rcallS (rest := []) (v := b2i (f_R_less (aY k) 1 up wi)) S [.int (aY k), .int 1, .int up, .int wi] hK hP [] rfl [] rfl (c_R_less l D (aY k) 1 up wi ) i_R_less rfl kL_R_90 ⟨Nat.le_of_ble_eq_true rfl, Nat.le_of_ble_eq_true rfl⟩ (by exact ⟨Nat.zero_le _, Nat.zero_le _⟩) hl.1 rfl (Nat.le_of_ble_eq_true rfl) d_R_find_182 ?_
                              refine lv_if_eq (tgt := 200) hx hb d_R_find_185 (by decide) (fun c35 => ?_) (fun c35 => ?_)
                              · have c35a : ¬ (f_R_less (aY k) 1 up wi = true) := b2n (b2i_eq0.mp c35)
                                refine lv_iinc (v := nI (k + 1)) (lv' := [(7, .int (nI (k + 1))), (9, .int 1), (8, .int (aY k)), (0, .ref q0), (1, .int x), (2, .int y), (4, .int fo), (5, .int up), (6, .int wi)]) hx hb d_R_find_200 hl (k := 8) rfl (nI_1 (k)) (by decide) rfl (fun ls hl => ?_)
                                refine lv_goto (tgt := 47) hx hb d_R_find_203 (by decide) ?_
                                exact ih1 (k + 1) fo up wi (by omega) ls (lv_sub hl [3, 4, 5, 6, 7, 8, 0] rfl) (hf.trans (show fb_R_find_1 u aX aY bX bY x y (fl_R_find_1 u aX aY bX bY x y n1) k fo up wi = (fl_R_find_1 u aX aY bX bY x y n1 (k + 1) fo up wi) from by unfold fb_R_find_1; rw [if_pos c6a, if_neg c21a, if_pos c22a, if_neg c23a, if_neg c24a, if_pos c25a, if_pos c31a, if_pos c34a, if_neg c35a]))
                              · have c35a : f_R_less (aY k) 1 up wi = true := b2i_ne0.mp c35
                                refine lv_iload hx hb d_R_find_188 (lv_at hl 8 rfl) ?_
                                refine lv_istore (lv' := [(4, .int (nI (k))), (9, .int 1), (8, .int (aY k)), (0, .ref q0), (1, .int x), (2, .int y), (5, .int up), (6, .int wi), (7, .int (nI (k)))]) hx hb d_R_find_190 hl (by decide) rfl (fun ls hl => ?_)
                                refine lv_iload hx hb d_R_find_192 (lv_at hl 2 rfl) ?_
                                refine lv_istore (lv' := [(5, .int (aY k)), (4, .int (nI (k))), (9, .int 1), (8, .int (aY k)), (0, .ref q0), (1, .int x), (2, .int y), (6, .int wi), (7, .int (nI (k)))]) hx hb d_R_find_194 hl (by decide) rfl (fun ls hl => ?_)
                                refine lv_iload hx hb d_R_find_196 (lv_at hl 2 rfl) ?_
                                refine lv_istore (lv' := [(6, .int 1), (5, .int (aY k)), (4, .int (nI (k))), (9, .int 1), (8, .int (aY k)), (0, .ref q0), (1, .int x), (2, .int y), (7, .int (nI (k)))]) hx hb d_R_find_198 hl (by decide) rfl (fun ls hl => ?_)
                                refine lv_iinc (v := nI (k + 1)) (lv' := [(7, .int (nI (k + 1))), (6, .int 1), (5, .int (aY k)), (4, .int (nI (k))), (9, .int 1), (8, .int (aY k)), (0, .ref q0), (1, .int x), (2, .int y)]) hx hb d_R_find_200 hl (k := 8) rfl (nI_1 (k)) (by decide) rfl (fun ls hl => ?_)
                                refine lv_goto (tgt := 47) hx hb d_R_find_203 (by decide) ?_
                                exact ih1 (k + 1) (nI (k)) (aY k) 1 (by omega) ls (lv_sub hl [6, 7, 8, 3, 2, 1, 0] rfl) (hf.trans (show fb_R_find_1 u aX aY bX bY x y (fl_R_find_1 u aX aY bX bY x y n1) k fo up wi = (fl_R_find_1 u aX aY bX bY x y n1 (k + 1) (nI (k)) (aY k) 1) from by unfold fb_R_find_1; rw [if_pos c6a, if_neg c21a, if_pos c22a, if_neg c23a, if_neg c24a, if_pos c25a, if_pos c31a, if_pos c34a, if_pos c35a]))
                · have c21a : f_R_isInside u aX aY bX bY k x y = true := b2i_ne0.mp c21
                  refine lv_bipush (v := 100) hx hb d_R_find_75 (by decide) ?_
                  refine lv_iload hx hb d_R_find_77 (lv_at hl 6 rfl) ?_
                  refine lv_iadd hx hb d_R_find_79 ?_
                  refine rtop (y := nI (100 + k)) (nI_add (100) (k)) ?_
                  exact rret S hr hlk (v := nI (100 + k)) (hf.trans (show fb_R_find_1 u aX aY bX bY x y (fl_R_find_1 u aX aY bX bY x y n1) k fo up wi = (nI (100 + k)) from by unfold fb_R_find_1; rw [if_pos c6a, if_pos c21a])).symm d_R_find_80
        exact key1 20 0 (-1) 1000000 1 (by omega) ls (lv_sub hl [5, 6, 7, 3, 2, 1, 0] rfl) (show f_R_find u aX aY bX bY x y = (fl_R_find_1 u aX aY bX bY x y 20 0 (-1) 1000000 1) from by unfold f_R_find; rw [if_pos c1a, if_pos c2a, if_pos c3a])
      · have c3a : ¬ ((f_R_endings u aX aY bX bY x y) ≤ 0) := fun h => c3 ((nI_leI (a := f_R_endings u aX aY bX bY x y) (b := 0) (by omega) (by decide)).mpr h)
        refine lv_sipush (v := 200) hx hb d_R_find_28 (by decide) ?_
        refine lv_iload_n hx hb d_R_find_31 rfl (lv_at hl 0 rfl) ?_
        refine lv_iadd hx hb d_R_find_32 ?_
        refine rtop (y := nI (200 + (f_R_endings u aX aY bX bY x y))) (nI_add (200) (f_R_endings u aX aY bX bY x y)) ?_
        exact rret S hr hlk (v := nI (200 + (f_R_endings u aX aY bX bY x y))) (show f_R_find u aX aY bX bY x y = (nI (200 + (f_R_endings u aX aY bX bY x y))) from by unfold f_R_find; rw [if_pos c1a, if_pos c2a, if_neg c3a]).symm d_R_find_33
    · have c2a : ¬ (f_R_near y = true) := b2n (b2i_eq0.mp c2)
      refine lv_bipush (v := (-2)) hx hb d_R_find_14 (by decide) ?_
      exact rret S hr hlk (v := (-2)) (show f_R_find u aX aY bX bY x y = (-2) from by unfold f_R_find; rw [if_pos c1a, if_neg c2a]).symm d_R_find_16
def f_R_remove (u : Nat → Bool) (aX : Nat → Int32) (aY : Nat → Int32) (bX : Nat → Int32) (bY : Nat → Int32) (kn : Bool) (k : Int32) : (Bool) × (Nat → Bool) × (Bool) := if f_R_isSegment u aX aY bX bY k = true then (true, updB u k.toNatClampNeg false, false) else (false, u, kn)
theorem i_R_remove : inV y_R_remove b_R_remove 2 (some .boolean) 1 := ⟨kM_y_R_remove, kV_y_R_remove, kI_R, kY_y_R_remove, by decide +kernel⟩
set_option maxHeartbeats 4000000 in
set_option maxRecDepth 100000 in
theorem c_R_remove (l : Launch) (D : va_G) (q0 qu qa qb qc qd qe qf qg qh : Nat) (cZ cI : ClassId) (u : Nat → Bool) (aX aY bX bY : Nat → Int32) (kn : Bool) (lns : Nat) (ln : Nat → Int32) (ac mn sm : Nat → Nat) (k : Int32) (sz : Nat) : SMi l y_R_remove b_R_remove 2 (some .boolean) 1 21 D [(q0, .inr (3, [.ref qu, .ref qa, .ref qb, .ref qc, .ref qd, .int (b2i (kn)), .int (nI (lns)), .ref qe, .ref qf, .ref qg, .ref qh])), (qu, .inl (cZ, 20, .inl (fun z9 => b2i (u z9)))), (qa, .inl (cI, 20, .inl aX)), (qb, .inl (cI, 20, .inl aY)), (qc, .inl (cI, 20, .inl bX)), (qd, .inl (cI, 20, .inl bY)), (qe, .inl (cI, 40, .inl ln)), (qf, .inl (cI, 820, .inl (fun z9 => nI (ac z9)))), (qg, .inl (cI, 41, .inl (fun z9 => nI (mn z9)))), (qh, .inl (cI, 861, .inl (fun z9 => nI (sm z9))))] [(cZ, .boolean), (cI, .int)] [.ref q0, .int k] sz (b2i ((f_R_remove u aX aY bX bY kn k).1)) [(q0, .inr (3, [.ref qu, .ref qa, .ref qb, .ref qc, .ref qd, .int (b2i ((f_R_remove u aX aY bX bY kn k).2.2)), .int (nI (lns)), .ref qe, .ref qf, .ref qg, .ref qh])), (qu, .inl (cZ, 20, .inl (fun z9 => b2i (((f_R_remove u aX aY bX bY kn k).2.1) z9)))), (qa, .inl (cI, 20, .inl aX)), (qb, .inl (cI, 20, .inl aY)), (qc, .inl (cI, 20, .inl bX)), (qd, .inl (cI, 20, .inl bY)), (qe, .inl (cI, 40, .inl ln)), (qf, .inl (cI, 820, .inl (fun z9 => nI (ac z9)))), (qg, .inl (cI, 41, .inl (fun z9 => nI (mn z9)))), (qh, .inl (cI, 861, .inl (fun z9 => nI (sm z9))))] := by
  refine sMet (Qc := fun A => sQi (b2i ((f_R_remove u aX aY bX bY kn k).1)) D [(q0, .inr (3, [.ref qu, .ref qa, .ref qb, .ref qc, .ref qd, .int (b2i ((f_R_remove u aX aY bX bY kn k).2.2)), .int (nI (lns)), .ref qe, .ref qf, .ref qg, .ref qh])), (qu, .inl (cZ, 20, .inl (fun z9 => b2i (((f_R_remove u aX aY bX bY kn k).2.1) z9)))), (qa, .inl (cI, 20, .inl aX)), (qb, .inl (cI, 20, .inl aY)), (qc, .inl (cI, 20, .inl bX)), (qd, .inl (cI, 20, .inl bY)), (qe, .inl (cI, 40, .inl ln)), (qf, .inl (cI, 820, .inl (fun z9 => nI (ac z9)))), (qg, .inl (cI, 41, .inl (fun z9 => nI (mn z9)))), (qh, .inl (cI, 861, .inl (fun z9 => nI (sm z9))))] [(cZ, .boolean), (cI, .int)] A) rfl (fun p e s m below meth c A S hr hlk hP hK hD hA hS ls hl => ?_) (Nat.le_of_ble_eq_true rfl)
  have hx := S.1
  have hb := S.2.1
  have hl : lv_has ls 2 [(0, .ref q0), (1, .int k)] := hl
  refine lv_aload_n hx hb d_R_remove_0 rfl (lv_at hl 0 rfl) ?_
  refine lv_iload_n hx hb d_R_remove_1 rfl (lv_at hl 1 rfl) ?_
  refine rcallV (rest := []) (v := b2i (f_R_isSegment u aX aY bX bY k)) S [.int k] hK hP [0, 1, 2, 3, 4, 5, 6, 7, 8, 9] rfl [0, 1] rfl (c_R_isSegment l D q0 qu qa qb qc qd qe qf qg qh cZ cI u aX aY bX bY kn lns ln ac mn sm k ) i_R_isSegment kL_R_65 ⟨Nat.le_of_ble_eq_true rfl, Nat.le_of_ble_eq_true rfl⟩ (by exact ⟨Nat.zero_le _, Nat.zero_le _⟩) (q0 := 0) (ci := 3) rfl rfl rfl hl.1 rfl (Nat.le_of_ble_eq_true rfl) d_R_remove_2 ?_
  refine lv_if_ne (tgt := 10) hx hb d_R_remove_5 (by decide) (fun c1 => ?_) (fun c1 => ?_)
  · have c1a : f_R_isSegment u aX aY bX bY k = true := b2i_ne0.mp c1
    have ek2 : k = nI (k.toNatClampNeg) := (seg_ok c1a).1
    have hk2 : k.toNatClampNeg < 20 := (seg_ok c1a).2.1
    rw [ek2] at hl
    refine lv_aload_n hx hb d_R_remove_10 rfl (lv_at hl 0 rfl) ?_
    refine rget S hK hP 0 rfl rfl in_R 0 (by decide) kF_R_7 rfl d_R_remove_11 ?_
    refine lv_iload_n hx hb d_R_remove_14 rfl (lv_at hl 1 rfl) ?_
    refine lv_iconst (v := 0) hx hb d_R_remove_15 (by decide) ?_
    refine rzast (j := k.toNatClampNeg) (x := false) S hK hP hD hS 1 0 rfl rfl (by omega) (by first | decide | omega) d_R_remove_16 (fun H locs hP hD hS => ?_)
    have hP : va_P D CLS [(q0, .inr (3, [.ref qu, .ref qa, .ref qb, .ref qc, .ref qd, .int (b2i (kn)), .int (nI (lns)), .ref qe, .ref qf, .ref qg, .ref qh])), (qu, .inl (cZ, 20, .inl (fun z9 => b2i ((updB u k.toNatClampNeg false) z9)))), (qa, .inl (cI, 20, .inl aX)), (qb, .inl (cI, 20, .inl aY)), (qc, .inl (cI, 20, .inl bX)), (qd, .inl (cI, 20, .inl bY)), (qe, .inl (cI, 40, .inl ln)), (qf, .inl (cI, 820, .inl (fun z9 => nI (ac z9)))), (qg, .inl (cI, 41, .inl (fun z9 => nI (mn z9)))), (qh, .inl (cI, 861, .inl (fun z9 => nI (sm z9))))] H := hP
    have hD : va_D A [(q0, .inr (3, [.ref qu, .ref qa, .ref qb, .ref qc, .ref qd, .int (b2i (kn)), .int (nI (lns)), .ref qe, .ref qf, .ref qg, .ref qh])), (qu, .inl (cZ, 20, .inl (fun z9 => b2i ((updB u k.toNatClampNeg false) z9)))), (qa, .inl (cI, 20, .inl aX)), (qb, .inl (cI, 20, .inl aY)), (qc, .inl (cI, 20, .inl bX)), (qd, .inl (cI, 20, .inl bY)), (qe, .inl (cI, 40, .inl ln)), (qf, .inl (cI, 820, .inl (fun z9 => nI (ac z9)))), (qg, .inl (cI, 41, .inl (fun z9 => nI (mn z9)))), (qh, .inl (cI, 861, .inl (fun z9 => nI (sm z9))))] := hD
    refine lv_aload_n hx hb d_R_remove_17 rfl (lv_at hl 0 rfl) ?_
    refine lv_iconst (v := 0) hx hb d_R_remove_18 (by decide) ?_
    refine rputf (v := .int (b2i (false))) S hK hP hD hS 0 rfl rfl in_R t_R tok_R n_R 5 (by decide) kF_R_61 rfl (b2i_nar _) (b2i_fits _) (Nat.le_of_ble_eq_true rfl) d_R_remove_19 (fun H locs hP hD hS => ?_)
    have hP : va_P D CLS [(q0, .inr (3, [.ref qu, .ref qa, .ref qb, .ref qc, .ref qd, .int (b2i (false)), .int (nI (lns)), .ref qe, .ref qf, .ref qg, .ref qh])), (qu, .inl (cZ, 20, .inl (fun z9 => b2i ((updB u k.toNatClampNeg false) z9)))), (qa, .inl (cI, 20, .inl aX)), (qb, .inl (cI, 20, .inl aY)), (qc, .inl (cI, 20, .inl bX)), (qd, .inl (cI, 20, .inl bY)), (qe, .inl (cI, 40, .inl ln)), (qf, .inl (cI, 820, .inl (fun z9 => nI (ac z9)))), (qg, .inl (cI, 41, .inl (fun z9 => nI (mn z9)))), (qh, .inl (cI, 861, .inl (fun z9 => nI (sm z9))))] H := hP
    have hD : va_D A [(q0, .inr (3, [.ref qu, .ref qa, .ref qb, .ref qc, .ref qd, .int (b2i (false)), .int (nI (lns)), .ref qe, .ref qf, .ref qg, .ref qh])), (qu, .inl (cZ, 20, .inl (fun z9 => b2i ((updB u k.toNatClampNeg false) z9)))), (qa, .inl (cI, 20, .inl aX)), (qb, .inl (cI, 20, .inl aY)), (qc, .inl (cI, 20, .inl bX)), (qd, .inl (cI, 20, .inl bY)), (qe, .inl (cI, 40, .inl ln)), (qf, .inl (cI, 820, .inl (fun z9 => nI (ac z9)))), (qg, .inl (cI, 41, .inl (fun z9 => nI (mn z9)))), (qh, .inl (cI, 861, .inl (fun z9 => nI (sm z9))))] := hD
    refine lv_iconst (v := 1) hx hb d_R_remove_22 (by decide) ?_
    have eqf := (show f_R_remove u aX aY bX bY kn k = (true, updB u k.toNatClampNeg false, false) from by unfold f_R_remove; rw [if_pos c1a])
    exact rretB S hr hlk (v := true) (by rw [eqf]) (by rw [eqf]) hP hK hD hS d_R_remove_23
  · have c1a : ¬ (f_R_isSegment u aX aY bX bY k = true) := b2n (b2i_eq0.mp c1)
    refine lv_iconst (v := 0) hx hb d_R_remove_8 (by decide) ?_
    have eqf := (show f_R_remove u aX aY bX bY kn k = (false, u, kn) from by unfold f_R_remove; rw [if_neg c1a])
    exact rretB S hr hlk (v := false) (by rw [eqf]) (by rw [eqf]) hP hK hD hS d_R_remove_9
def f_R_floorRise (u : Nat → Bool) (aX : Nat → Int32) (aY : Nat → Int32) (bX : Nat → Int32) (bY : Nat → Int32) (ac : Nat → Nat) (sp : Nat) (i : Nat) (x : Int32) : Int32 := if i = 0 then (-1000000) else (f_R_rise u aX aY bX bY (ac (((20 * sp) + i) - 1)) x)
theorem i_R_floorRise : inV y_R_floorRise b_R_floorRise 4 (some .int) 3 := ⟨kM_y_R_floorRise, kV_y_R_floorRise, kI_R, kY_y_R_floorRise, by decide +kernel⟩
set_option maxHeartbeats 4000000 in
set_option maxRecDepth 100000 in
theorem c_R_floorRise (l : Launch) (D : va_G) (q0 qu qa qb qc qd qe qf qg qh : Nat) (cZ cI : ClassId) (u : Nat → Bool) (aX aY bX bY : Nat → Int32) (kn : Bool) (lns : Nat) (ln : Nat → Int32) (ac mn sm : Nat → Nat) (sp : Nat) (i : Nat) (x : Int32) (hsp : sp < 41) (hi : i < 21) (hAc : ∀ i, ac i < 20) : PM l y_R_floorRise b_R_floorRise 4 (some .int) 1 22 D (refW q0 qu qa qb qc qd qe qf qg qh cZ cI u aX aY bX bY kn lns ln ac mn sm) [(cZ, .boolean), (cI, .int)] [.ref q0, .int (nI (sp)), .int (nI (i)), .int x] (f_R_floorRise u aX aY bX bY ac sp i x) := by
  refine pMet rfl (fun p e s m below meth c S hr hlk hP hK ls hl => ?_) (Nat.le_of_ble_eq_true rfl)
  have hx := S.1
  have hb := S.2.1
  have hl : lv_has ls 4 [(0, .ref q0), (1, .int (nI (sp))), (2, .int (nI (i))), (3, .int x)] := hl
  refine lv_iload_n hx hb d_R_floorRise_0 rfl (lv_at hl 2 rfl) ?_
  refine lv_if_ne (tgt := 9) hx hb d_R_floorRise_1 (by decide) (fun c1 => ?_) (fun c1 => ?_)
  · have c1a : ¬ (i = 0) := fun h => c1 ((nI_eq (a := i) (b := 0) (by omega) (by decide)).mpr h)
    refine lv_aload_n hx hb d_R_floorRise_9 rfl (lv_at hl 0 rfl) ?_
    refine lv_aload_n hx hb d_R_floorRise_10 rfl (lv_at hl 0 rfl) ?_
    refine rget S hK hP 0 rfl rfl in_R 8 (by decide) kF_R_29 rfl d_R_floorRise_11 ?_
    refine lv_bipush (v := 20) hx hb d_R_floorRise_14 (by decide) ?_
    refine lv_iload_n hx hb d_R_floorRise_16 rfl (lv_at hl 1 rfl) ?_
    refine lv_imul hx hb d_R_floorRise_17 ?_
    refine rtop (y := nI (20 * sp)) (pk_mul (20) (sp)) ?_
    refine lv_iload_n hx hb d_R_floorRise_18 rfl (lv_at hl 2 rfl) ?_
    refine lv_iadd hx hb d_R_floorRise_19 ?_
    refine rtop (y := nI ((20 * sp) + i)) (nI_add (20 * sp) (i)) ?_
    refine lv_iconst (v := 1) hx hb d_R_floorRise_20 (by decide) ?_
    refine lv_isub hx hb d_R_floorRise_21 ?_
    refine rtop (y := nI (((20 * sp) + i) - 1)) (pk_sub (a := (20 * sp) + i) (b := 1) (by omega)) ?_
    refine rnald (j := ((20 * sp) + i) - 1) S hK hP 7 1 rfl rfl (by omega) (by first | decide | omega) d_R_floorRise_22 ?_
    refine lv_iload_n hx hb d_R_floorRise_23 rfl (lv_at hl 3 rfl) ?_
    refine rcallV (rest := []) (v := (f_R_rise u aX aY bX bY (ac (((20 * sp) + i) - 1)) x)) S [.int (nI (ac (((20 * sp) + i) - 1))), .int x] hK hP [0, 1, 2, 3, 4, 5, 6, 7, 8, 9] rfl [0, 1] rfl (c_R_rise l D q0 qu qa qb qc qd qe qf qg qh cZ cI u aX aY bX bY kn lns ln ac mn sm (ac (((20 * sp) + i) - 1)) x (hAc _)) i_R_rise kL_R_79 ⟨Nat.le_of_ble_eq_true rfl, Nat.le_of_ble_eq_true rfl⟩ (by exact ⟨Nat.zero_le _, Nat.zero_le _⟩) (q0 := 0) (ci := 3) rfl rfl rfl hl.1 rfl (Nat.le_of_ble_eq_true rfl) d_R_floorRise_24 ?_
    exact rret S hr hlk (v := (f_R_rise u aX aY bX bY (ac (((20 * sp) + i) - 1)) x)) (show f_R_floorRise u aX aY bX bY ac sp i x = (f_R_rise u aX aY bX bY (ac (((20 * sp) + i) - 1)) x) from by unfold f_R_floorRise; rw [if_neg c1a]).symm d_R_floorRise_27
  · have c1a : i = 0 := (nI_eq (a := i) (b := 0) (by omega) (by decide)).mp c1
    refine lv_ldc (v := (-1000000)) hx hb S.2.2.2.1 (S.2.2.2.2 _ kK_R_78) d_R_floorRise_4 ?_
    refine lv_goto (tgt := 27) hx hb d_R_floorRise_6 (by decide) ?_
    exact rret S hr hlk (v := (-1000000)) (show f_R_floorRise u aX aY bX bY ac sp i x = (-1000000) from by unfold f_R_floorRise; rw [if_pos c1a]).symm d_R_floorRise_27
def f_R_floorWidth (u : Nat → Bool) (aX : Nat → Int32) (aY : Nat → Int32) (bX : Nat → Int32) (bY : Nat → Int32) (ac : Nat → Nat) (sp : Nat) (i : Nat) : Int32 := if i = 0 then 1 else (f_R_width u aX aY bX bY (ac (((20 * sp) + i) - 1)))
theorem i_R_floorWidth : inV y_R_floorWidth b_R_floorWidth 3 (some .int) 2 := ⟨kM_y_R_floorWidth, kV_y_R_floorWidth, kI_R, kY_y_R_floorWidth, by decide +kernel⟩
set_option maxHeartbeats 4000000 in
set_option maxRecDepth 100000 in
theorem c_R_floorWidth (l : Launch) (D : va_G) (q0 qu qa qb qc qd qe qf qg qh : Nat) (cZ cI : ClassId) (u : Nat → Bool) (aX aY bX bY : Nat → Int32) (kn : Bool) (lns : Nat) (ln : Nat → Int32) (ac mn sm : Nat → Nat) (sp : Nat) (i : Nat) (hsp : sp < 41) (hi : i < 21) (hAc : ∀ i, ac i < 20) : PM l y_R_floorWidth b_R_floorWidth 3 (some .int) 1 21 D (refW q0 qu qa qb qc qd qe qf qg qh cZ cI u aX aY bX bY kn lns ln ac mn sm) [(cZ, .boolean), (cI, .int)] [.ref q0, .int (nI (sp)), .int (nI (i))] (f_R_floorWidth u aX aY bX bY ac sp i) := by
  refine pMet rfl (fun p e s m below meth c S hr hlk hP hK ls hl => ?_) (Nat.le_of_ble_eq_true rfl)
  have hx := S.1
  have hb := S.2.1
  have hl : lv_has ls 3 [(0, .ref q0), (1, .int (nI (sp))), (2, .int (nI (i)))] := hl
  refine lv_iload_n hx hb d_R_floorWidth_0 rfl (lv_at hl 2 rfl) ?_
  refine lv_if_ne (tgt := 8) hx hb d_R_floorWidth_1 (by decide) (fun c1 => ?_) (fun c1 => ?_)
  · have c1a : ¬ (i = 0) := fun h => c1 ((nI_eq (a := i) (b := 0) (by omega) (by decide)).mpr h)
    refine lv_aload_n hx hb d_R_floorWidth_8 rfl (lv_at hl 0 rfl) ?_
    refine lv_aload_n hx hb d_R_floorWidth_9 rfl (lv_at hl 0 rfl) ?_
    refine rget S hK hP 0 rfl rfl in_R 8 (by decide) kF_R_29 rfl d_R_floorWidth_10 ?_
    refine lv_bipush (v := 20) hx hb d_R_floorWidth_13 (by decide) ?_
    refine lv_iload_n hx hb d_R_floorWidth_15 rfl (lv_at hl 1 rfl) ?_
    refine lv_imul hx hb d_R_floorWidth_16 ?_
    refine rtop (y := nI (20 * sp)) (pk_mul (20) (sp)) ?_
    refine lv_iload_n hx hb d_R_floorWidth_17 rfl (lv_at hl 2 rfl) ?_
    refine lv_iadd hx hb d_R_floorWidth_18 ?_
    refine rtop (y := nI ((20 * sp) + i)) (nI_add (20 * sp) (i)) ?_
    refine lv_iconst (v := 1) hx hb d_R_floorWidth_19 (by decide) ?_
    refine lv_isub hx hb d_R_floorWidth_20 ?_
    refine rtop (y := nI (((20 * sp) + i) - 1)) (pk_sub (a := (20 * sp) + i) (b := 1) (by omega)) ?_
    refine rnald (j := ((20 * sp) + i) - 1) S hK hP 7 1 rfl rfl (by omega) (by first | decide | omega) d_R_floorWidth_21 ?_
    refine rcallV (rest := []) (v := (f_R_width u aX aY bX bY (ac (((20 * sp) + i) - 1)))) S [.int (nI (ac (((20 * sp) + i) - 1)))] hK hP [0, 1, 2, 3, 4, 5, 6, 7, 8, 9] rfl [0, 1] rfl (c_R_width l D q0 qu qa qb qc qd qe qf qg qh cZ cI u aX aY bX bY kn lns ln ac mn sm (ac (((20 * sp) + i) - 1)) (hAc _)) i_R_width kL_R_82 ⟨Nat.le_of_ble_eq_true rfl, Nat.le_of_ble_eq_true rfl⟩ (by exact ⟨Nat.zero_le _, Nat.zero_le _⟩) (q0 := 0) (ci := 3) rfl rfl rfl hl.1 rfl (Nat.le_of_ble_eq_true rfl) d_R_floorWidth_22 ?_
    exact rret S hr hlk (v := (f_R_width u aX aY bX bY (ac (((20 * sp) + i) - 1)))) (show f_R_floorWidth u aX aY bX bY ac sp i = (f_R_width u aX aY bX bY (ac (((20 * sp) + i) - 1))) from by unfold f_R_floorWidth; rw [if_neg c1a]).symm d_R_floorWidth_25
  · have c1a : i = 0 := (nI_eq (a := i) (b := 0) (by omega) (by decide)).mp c1
    refine lv_iconst (v := 1) hx hb d_R_floorWidth_4 (by decide) ?_
    refine lv_goto (tgt := 25) hx hb d_R_floorWidth_5 (by decide) ?_
    exact rret S hr hlk (v := 1) (show f_R_floorWidth u aX aY bX bY ac sp i = 1 from by unfold f_R_floorWidth; rw [if_pos c1a]).symm d_R_floorWidth_25
def f_R_roofRise (u : Nat → Bool) (aX : Nat → Int32) (aY : Nat → Int32) (bX : Nat → Int32) (bY : Nat → Int32) (ac : Nat → Nat) (mn : Nat → Nat) (sp : Nat) (i : Nat) (x : Int32) : Int32 := if i = (mn sp) then 1000000 else (f_R_rise u aX aY bX bY (ac ((20 * sp) + i)) x)
theorem i_R_roofRise : inV y_R_roofRise b_R_roofRise 4 (some .int) 3 := ⟨kM_y_R_roofRise, kV_y_R_roofRise, kI_R, kY_y_R_roofRise, by decide +kernel⟩
set_option maxHeartbeats 4000000 in
set_option maxRecDepth 100000 in
theorem c_R_roofRise (l : Launch) (D : va_G) (q0 qu qa qb qc qd qe qf qg qh : Nat) (cZ cI : ClassId) (u : Nat → Bool) (aX aY bX bY : Nat → Int32) (kn : Bool) (lns : Nat) (ln : Nat → Int32) (ac mn sm : Nat → Nat) (sp : Nat) (i : Nat) (x : Int32) (hsp : sp < 41) (hi : i < 21) (hAc : ∀ i, ac i < 20) (hMn : ∀ i, mn i ≤ 20) (him : i ≤ mn sp) : PM l y_R_roofRise b_R_roofRise 4 (some .int) 1 22 D (refW q0 qu qa qb qc qd qe qf qg qh cZ cI u aX aY bX bY kn lns ln ac mn sm) [(cZ, .boolean), (cI, .int)] [.ref q0, .int (nI (sp)), .int (nI (i)), .int x] (f_R_roofRise u aX aY bX bY ac mn sp i x) := by
  refine pMet rfl (fun p e s m below meth c S hr hlk hP hK ls hl => ?_) (Nat.le_of_ble_eq_true rfl)
  have hx := S.1
  have hb := S.2.1
  have hl : lv_has ls 4 [(0, .ref q0), (1, .int (nI (sp))), (2, .int (nI (i))), (3, .int x)] := hl
  have hms := hMn sp
  refine lv_iload_n hx hb d_R_roofRise_0 rfl (lv_at hl 2 rfl) ?_
  refine lv_aload_n hx hb d_R_roofRise_1 rfl (lv_at hl 0 rfl) ?_
  refine rget S hK hP 0 rfl rfl in_R 9 (by decide) kF_R_32 rfl d_R_roofRise_2 ?_
  refine lv_iload_n hx hb d_R_roofRise_5 rfl (lv_at hl 1 rfl) ?_
  refine rnald (j := sp) S hK hP 8 1 rfl rfl (by omega) (by first | decide | omega) d_R_roofRise_6 ?_
  refine lv_icmp_ne (tgt := 15) hx hb d_R_roofRise_7 (by decide) (fun c1 => ?_) (fun c1 => ?_)
  · have c1a : ¬ (i = (mn sp)) := fun h => c1 ((nI_eq (a := i) (b := mn sp) (by omega) (Nat.lt_of_le_of_lt (hMn _) (by decide))).mpr h)
    refine lv_aload_n hx hb d_R_roofRise_15 rfl (lv_at hl 0 rfl) ?_
    refine lv_aload_n hx hb d_R_roofRise_16 rfl (lv_at hl 0 rfl) ?_
    refine rget S hK hP 0 rfl rfl in_R 8 (by decide) kF_R_29 rfl d_R_roofRise_17 ?_
    refine lv_bipush (v := 20) hx hb d_R_roofRise_20 (by decide) ?_
    refine lv_iload_n hx hb d_R_roofRise_22 rfl (lv_at hl 1 rfl) ?_
    refine lv_imul hx hb d_R_roofRise_23 ?_
    refine rtop (y := nI (20 * sp)) (pk_mul (20) (sp)) ?_
    refine lv_iload_n hx hb d_R_roofRise_24 rfl (lv_at hl 2 rfl) ?_
    refine lv_iadd hx hb d_R_roofRise_25 ?_
    refine rtop (y := nI ((20 * sp) + i)) (nI_add (20 * sp) (i)) ?_
    refine rnald (j := (20 * sp) + i) S hK hP 7 1 rfl rfl (by omega) (by first | decide | omega) d_R_roofRise_26 ?_
    refine lv_iload_n hx hb d_R_roofRise_27 rfl (lv_at hl 3 rfl) ?_
    refine rcallV (rest := []) (v := (f_R_rise u aX aY bX bY (ac ((20 * sp) + i)) x)) S [.int (nI (ac ((20 * sp) + i))), .int x] hK hP [0, 1, 2, 3, 4, 5, 6, 7, 8, 9] rfl [0, 1] rfl (c_R_rise l D q0 qu qa qb qc qd qe qf qg qh cZ cI u aX aY bX bY kn lns ln ac mn sm (ac ((20 * sp) + i)) x (hAc _)) i_R_rise kL_R_79 ⟨Nat.le_of_ble_eq_true rfl, Nat.le_of_ble_eq_true rfl⟩ (by exact ⟨Nat.zero_le _, Nat.zero_le _⟩) (q0 := 0) (ci := 3) rfl rfl rfl hl.1 rfl (Nat.le_of_ble_eq_true rfl) d_R_roofRise_28 ?_
    exact rret S hr hlk (v := (f_R_rise u aX aY bX bY (ac ((20 * sp) + i)) x)) (show f_R_roofRise u aX aY bX bY ac mn sp i x = (f_R_rise u aX aY bX bY (ac ((20 * sp) + i)) x) from by unfold f_R_roofRise; rw [if_neg c1a]).symm d_R_roofRise_31
  · have c1a : i = (mn sp) := (nI_eq (a := i) (b := mn sp) (by omega) (Nat.lt_of_le_of_lt (hMn _) (by decide))).mp c1
    refine lv_ldc (v := 1000000) hx hb S.2.2.2.1 (S.2.2.2.2 _ kK_R_85) d_R_roofRise_10 ?_
    refine lv_goto (tgt := 31) hx hb d_R_roofRise_12 (by decide) ?_
    exact rret S hr hlk (v := 1000000) (show f_R_roofRise u aX aY bX bY ac mn sp i x = 1000000 from by unfold f_R_roofRise; rw [if_pos c1a]).symm d_R_roofRise_31
def f_R_roofWidth (u : Nat → Bool) (aX : Nat → Int32) (aY : Nat → Int32) (bX : Nat → Int32) (bY : Nat → Int32) (ac : Nat → Nat) (mn : Nat → Nat) (sp : Nat) (i : Nat) : Int32 := if i = (mn sp) then 1 else (f_R_width u aX aY bX bY (ac ((20 * sp) + i)))
theorem i_R_roofWidth : inV y_R_roofWidth b_R_roofWidth 3 (some .int) 2 := ⟨kM_y_R_roofWidth, kV_y_R_roofWidth, kI_R, kY_y_R_roofWidth, by decide +kernel⟩
set_option maxHeartbeats 4000000 in
set_option maxRecDepth 100000 in
theorem c_R_roofWidth (l : Launch) (D : va_G) (q0 qu qa qb qc qd qe qf qg qh : Nat) (cZ cI : ClassId) (u : Nat → Bool) (aX aY bX bY : Nat → Int32) (kn : Bool) (lns : Nat) (ln : Nat → Int32) (ac mn sm : Nat → Nat) (sp : Nat) (i : Nat) (hsp : sp < 41) (hi : i < 21) (hAc : ∀ i, ac i < 20) (hMn : ∀ i, mn i ≤ 20) (him : i ≤ mn sp) : PM l y_R_roofWidth b_R_roofWidth 3 (some .int) 1 21 D (refW q0 qu qa qb qc qd qe qf qg qh cZ cI u aX aY bX bY kn lns ln ac mn sm) [(cZ, .boolean), (cI, .int)] [.ref q0, .int (nI (sp)), .int (nI (i))] (f_R_roofWidth u aX aY bX bY ac mn sp i) := by
  refine pMet rfl (fun p e s m below meth c S hr hlk hP hK ls hl => ?_) (Nat.le_of_ble_eq_true rfl)
  have hx := S.1
  have hb := S.2.1
  have hl : lv_has ls 3 [(0, .ref q0), (1, .int (nI (sp))), (2, .int (nI (i)))] := hl
  have hms := hMn sp
  refine lv_iload_n hx hb d_R_roofWidth_0 rfl (lv_at hl 2 rfl) ?_
  refine lv_aload_n hx hb d_R_roofWidth_1 rfl (lv_at hl 0 rfl) ?_
  refine rget S hK hP 0 rfl rfl in_R 9 (by decide) kF_R_32 rfl d_R_roofWidth_2 ?_
  refine lv_iload_n hx hb d_R_roofWidth_5 rfl (lv_at hl 1 rfl) ?_
  refine rnald (j := sp) S hK hP 8 1 rfl rfl (by omega) (by first | decide | omega) d_R_roofWidth_6 ?_
  refine lv_icmp_ne (tgt := 14) hx hb d_R_roofWidth_7 (by decide) (fun c1 => ?_) (fun c1 => ?_)
  · have c1a : ¬ (i = (mn sp)) := fun h => c1 ((nI_eq (a := i) (b := mn sp) (by omega) (Nat.lt_of_le_of_lt (hMn _) (by decide))).mpr h)
    refine lv_aload_n hx hb d_R_roofWidth_14 rfl (lv_at hl 0 rfl) ?_
    refine lv_aload_n hx hb d_R_roofWidth_15 rfl (lv_at hl 0 rfl) ?_
    refine rget S hK hP 0 rfl rfl in_R 8 (by decide) kF_R_29 rfl d_R_roofWidth_16 ?_
    refine lv_bipush (v := 20) hx hb d_R_roofWidth_19 (by decide) ?_
    refine lv_iload_n hx hb d_R_roofWidth_21 rfl (lv_at hl 1 rfl) ?_
    refine lv_imul hx hb d_R_roofWidth_22 ?_
    refine rtop (y := nI (20 * sp)) (pk_mul (20) (sp)) ?_
    refine lv_iload_n hx hb d_R_roofWidth_23 rfl (lv_at hl 2 rfl) ?_
    refine lv_iadd hx hb d_R_roofWidth_24 ?_
    refine rtop (y := nI ((20 * sp) + i)) (nI_add (20 * sp) (i)) ?_
    refine rnald (j := (20 * sp) + i) S hK hP 7 1 rfl rfl (by omega) (by first | decide | omega) d_R_roofWidth_25 ?_
    refine rcallV (rest := []) (v := (f_R_width u aX aY bX bY (ac ((20 * sp) + i)))) S [.int (nI (ac ((20 * sp) + i)))] hK hP [0, 1, 2, 3, 4, 5, 6, 7, 8, 9] rfl [0, 1] rfl (c_R_width l D q0 qu qa qb qc qd qe qf qg qh cZ cI u aX aY bX bY kn lns ln ac mn sm (ac ((20 * sp) + i)) (hAc _)) i_R_width kL_R_82 ⟨Nat.le_of_ble_eq_true rfl, Nat.le_of_ble_eq_true rfl⟩ (by exact ⟨Nat.zero_le _, Nat.zero_le _⟩) (q0 := 0) (ci := 3) rfl rfl rfl hl.1 rfl (Nat.le_of_ble_eq_true rfl) d_R_roofWidth_26 ?_
    exact rret S hr hlk (v := (f_R_width u aX aY bX bY (ac ((20 * sp) + i)))) (show f_R_roofWidth u aX aY bX bY ac mn sp i = (f_R_width u aX aY bX bY (ac ((20 * sp) + i))) from by unfold f_R_roofWidth; rw [if_neg c1a]).symm d_R_roofWidth_29
  · have c1a : i = (mn sp) := (nI_eq (a := i) (b := mn sp) (by omega) (Nat.lt_of_le_of_lt (hMn _) (by decide))).mp c1
    refine lv_iconst (v := 1) hx hb d_R_roofWidth_10 (by decide) ?_
    refine lv_goto (tgt := 29) hx hb d_R_roofWidth_11 (by decide) ?_
    exact rret S hr hlk (v := 1) (show f_R_roofWidth u aX aY bX bY ac mn sp i = 1 from by unfold f_R_roofWidth; rw [if_pos c1a]).symm d_R_roofWidth_29
def fx_R_face_1 (sm : Nat → Nat) (fc : Nat) : (Nat) := fc
def fb_R_face_1 (sm : Nat → Nat) (rec : (Nat) → (Nat)) (fc : Nat) : (Nat) := if (sm fc) = fc then fc else (rec (sm fc))
def fl_R_face_1 (sm : Nat → Nat) : Nat → (Nat) → (Nat)
  | 0, fc => fx_R_face_1 sm fc
  | n1 + 1, fc => fb_R_face_1 sm (fl_R_face_1 sm n1) fc
def f_R_face (sm : Nat → Nat) (c0 : Nat) : Nat := fl_R_face_1 sm FF c0
theorem i_R_face : inV y_R_face b_R_face 3 (some .int) 1 := ⟨kM_y_R_face, kV_y_R_face, kI_R, kY_y_R_face, by decide +kernel⟩
set_option maxHeartbeats 4000000 in
set_option maxRecDepth 100000 in
theorem c_R_face (l : Launch) (D : va_G) (q0 qu qa qb qc qd qe qf qg qh : Nat) (cZ cI : ClassId) (u : Nat → Bool) (aX aY bX bY : Nat → Int32) (kn : Bool) (lns : Nat) (ln : Nat → Int32) (ac mn sm : Nat → Nat) (c0 : Nat) (hc0 : c0 < 861) (hSm : ∀ i, sm i < 861) (hE : ends sm FF c0) : PM l y_R_face b_R_face 3 (some .int) 0 0 D (refW q0 qu qa qb qc qd qe qf qg qh cZ cI u aX aY bX bY kn lns ln ac mn sm) [(cZ, .boolean), (cI, .int)] [.ref q0, .int (nI (c0))] (nI (f_R_face sm c0)) := by
  refine pMet rfl (fun p e s m below meth c S hr hlk hP hK ls hl => ?_) (Nat.le_of_ble_eq_true rfl)
  have hx := S.1
  have hb := S.2.1
  have hl : lv_has ls 3 [(0, .ref q0), (1, .int (nI (c0)))] := hl
  refine lv_iload_n hx hb d_R_face_0 rfl (lv_at hl 1 rfl) ?_
  refine lv_istore_n (lv' := [(2, .int (nI (c0))), (0, .ref q0), (1, .int (nI (c0)))]) hx hb d_R_face_1 rfl hl (by decide) rfl (fun ls hl => ?_)
  have key1 : ∀ (n1 : Nat) (fc : Nat) (hen : ends sm n1 fc) (hlt : fc < 861) (ls : Array Slot) (hl : lv_has ls 3 [(0, .ref q0), (2, .int (nI (fc)))]) (cont : ∀ (res : (Nat)), res = fl_R_face_1 sm n1 fc → ∀ ls : Array Slot, lv_has ls 3 [(0, .ref q0), (2, .int (nI (res)))] → W p l e { frames := 0, cells := 0, slots := 0, locals := 0 } s m [.ref q0, .int (nI (c0))].toArray below meth c s.heap [] 0 0 (MQ below (pQ (nI (f_R_face sm c0))) [.ref q0, .int (nI (c0))].toArray s 0 0 (fun _ => False)) (F0 m 22 ls [])), W p l e { frames := 0, cells := 0, slots := 0, locals := 0 } s m [.ref q0, .int (nI (c0))].toArray below meth c s.heap [] 0 0 (MQ below (pQ (nI (f_R_face sm c0))) [.ref q0, .int (nI (c0))].toArray s 0 0 (fun _ => False)) (F0 m 2 ls []) := by
    clear hl
    intro n1
    induction n1 with
    | zero =>
      intro fc hen hlt ls hl cont
      refine lv_aload_n hx hb d_R_face_2 rfl (lv_at hl 0 rfl) ?_
      refine rget S hK hP 0 rfl rfl in_R 10 (by decide) kF_R_35 rfl d_R_face_3 ?_
      refine lv_iload_n hx hb d_R_face_6 rfl (lv_at hl 1 rfl) ?_
      refine rnald (j := fc) S hK hP 9 1 rfl rfl (by omega) (by first | decide | omega) d_R_face_7 ?_
      refine lv_iload_n hx hb d_R_face_8 rfl (lv_at hl 1 rfl) ?_
      refine lv_icmp_eq (tgt := 22) hx hb d_R_face_9 (by decide) (fun c1 => ?_) (fun c1 => ?_)
      · have c1a : (sm fc) = fc := (nI_eq (a := sm fc) (b := fc) (Nat.lt_trans (hSm _) (by decide)) (by omega)).mp c1
        exact cont fc (show fx_R_face_1 sm fc = fc from rfl).symm ls (lv_sub hl [0, 1] rfl)
      · have c1a : ¬ ((sm fc) = fc) := fun h => c1 ((nI_eq (a := sm fc) (b := fc) (Nat.lt_trans (hSm _) (by decide)) (by omega)).mpr h)
        exact absurd hen c1a
    | succ n1 ih1 =>
      intro fc hen hlt ls hl cont
      refine lv_aload_n hx hb d_R_face_2 rfl (lv_at hl 0 rfl) ?_
      refine rget S hK hP 0 rfl rfl in_R 10 (by decide) kF_R_35 rfl d_R_face_3 ?_
      refine lv_iload_n hx hb d_R_face_6 rfl (lv_at hl 1 rfl) ?_
      refine rnald (j := fc) S hK hP 9 1 rfl rfl (by omega) (by first | decide | omega) d_R_face_7 ?_
      refine lv_iload_n hx hb d_R_face_8 rfl (lv_at hl 1 rfl) ?_
      refine lv_icmp_eq (tgt := 22) hx hb d_R_face_9 (by decide) (fun c2 => ?_) (fun c2 => ?_)
      · have c2a : (sm fc) = fc := (nI_eq (a := sm fc) (b := fc) (Nat.lt_trans (hSm _) (by decide)) (by omega)).mp c2
        exact cont fc (show fb_R_face_1 sm (fl_R_face_1 sm n1) fc = fc from by unfold fb_R_face_1; rw [if_pos c2a]).symm ls (lv_sub hl [0, 1] rfl)
      · have c2a : ¬ ((sm fc) = fc) := fun h => c2 ((nI_eq (a := sm fc) (b := fc) (Nat.lt_trans (hSm _) (by decide)) (by omega)).mpr h)
        refine lv_aload_n hx hb d_R_face_12 rfl (lv_at hl 0 rfl) ?_
        refine rget S hK hP 0 rfl rfl in_R 10 (by decide) kF_R_35 rfl d_R_face_13 ?_
        refine lv_iload_n hx hb d_R_face_16 rfl (lv_at hl 1 rfl) ?_
        refine rnald (j := fc) S hK hP 9 1 rfl rfl (by omega) (by first | decide | omega) d_R_face_17 ?_
        refine lv_istore_n (lv' := [(2, .int (nI (sm fc))), (0, .ref q0)]) hx hb d_R_face_18 rfl hl (by decide) rfl (fun ls hl => ?_)
        refine lv_goto (tgt := 2) hx hb d_R_face_19 (by decide) ?_
        exact ih1 (sm fc) (ends_next hen c2a) (hSm _) ls (lv_sub hl [1, 0] rfl) (fun res hres => cont res (hres.trans (show fb_R_face_1 sm (fl_R_face_1 sm n1) fc = (fl_R_face_1 sm n1 (sm fc)) from by unfold fb_R_face_1; rw [if_neg c2a]).symm))
  refine key1 FF c0 hE hc0 ls (lv_sub hl [1, 0] rfl) (fun res hres ls hl => ?_)
  subst hres
  have hl : lv_has ls 3 [(0, .ref q0), (2, .int (nI (fl_R_face_1 sm FF c0)))] := hl
  refine lv_iload_n hx hb d_R_face_22 rfl (lv_at hl 1 rfl) ?_
  exact rret S hr hlk (v := nI (fl_R_face_1 sm FF c0)) (congrArg nI (show f_R_face sm c0 = (fl_R_face_1 sm FF c0) from rfl).symm) d_R_face_23
theorem face_fl (sm : Nat → Nat) (hSm : ∀ i, sm i < 861) : ∀ (n c : Nat), c < 861 → fl_R_face_1 sm n c < 861 := by
  intro n
  induction n with
  | zero => intro c h; exact h
  | succ n ih =>
    intro c h
    show fb_R_face_1 sm (fl_R_face_1 sm n) c < 861
    unfold fb_R_face_1
    split
    · exact h
    · exact ih _ (hSm _)
theorem face_lt (sm : Nat → Nat) (c0 : Nat) (h : c0 < 861) (hSm : ∀ i, sm i < 861) : f_R_face sm c0 < 861 := by
  unfold f_R_face
  exact face_fl sm hSm FF c0 h
def fx_R_addLine_2 (i2 : Nat) (a2 : Nat) (l2 : Nat → Int32) : (Nat → Int32) := l2
def fb_R_addLine_2 (rec : (Nat) → (Nat) → (Nat → Int32) → (Nat → Int32)) (i2 : Nat) (a2 : Nat) (l2 : Nat → Int32) : (Nat → Int32) := rec (i2 - 1) a2 (upd l2 i2 (l2 (i2 - 1)))
def fl_R_addLine_2 : Nat → (Nat) → (Nat) → (Nat → Int32) → (Nat → Int32)
  | 0, i2, a2, l2 => fx_R_addLine_2 i2 a2 l2
  | n2 + 1, i2, a2, l2 => fb_R_addLine_2 (fl_R_addLine_2 n2) i2 a2 l2
def fx_R_addLine_1 (ln : Nat → Int32) (x : Int32) (at1 : Nat) : (Nat) := at1
def fb_R_addLine_1 (ln : Nat → Int32) (x : Int32) (rec : (Nat) → (Nat)) (at1 : Nat) : (Nat) := if ln (at1 - 1) ≤ x then at1 else (rec (at1 - 1))
def fl_R_addLine_1 (ln : Nat → Int32) (x : Int32) : Nat → (Nat) → (Nat)
  | 0, at1 => fx_R_addLine_1 ln x at1
  | n1 + 1, at1 => fb_R_addLine_1 ln x (fl_R_addLine_1 ln x n1) at1
def f_R_addLine (lns : Nat) (ln : Nat → Int32) (x : Int32) : (Nat) × (Nat → Int32) := if (fl_R_addLine_1 ln x lns lns) = 0 then ((lns + 1), upd (fl_R_addLine_2 (lns - (fl_R_addLine_1 ln x lns lns)) lns (fl_R_addLine_1 ln x lns lns) ln) (fl_R_addLine_1 ln x lns lns) x) else (if ln ((fl_R_addLine_1 ln x lns lns) - 1) = x then (lns, ln) else ((lns + 1), upd (fl_R_addLine_2 (lns - (fl_R_addLine_1 ln x lns lns)) lns (fl_R_addLine_1 ln x lns lns) ln) (fl_R_addLine_1 ln x lns lns) x))
theorem i_R_addLine : inV y_R_addLine b_R_addLine 4 (none) 1 := ⟨kM_y_R_addLine, kV_y_R_addLine, kI_R, kY_y_R_addLine, by decide +kernel⟩
set_option maxHeartbeats 4000000 in
set_option maxRecDepth 100000 in
theorem c_R_addLine (l : Launch) (D : va_G) (q0 qu qa qb qc qd qe qf qg qh : Nat) (cZ cI : ClassId) (u : Nat → Bool) (aX aY bX bY : Nat → Int32) (kn : Bool) (lns : Nat) (ln : Nat → Int32) (ac mn sm : Nat → Nat) (x : Int32) (sz : Nat) (hln : lns < 40) : SMv l y_R_addLine b_R_addLine 4 0 0 D [(q0, .inr (3, [.ref qu, .ref qa, .ref qb, .ref qc, .ref qd, .int (b2i (kn)), .int (nI (lns)), .ref qe, .ref qf, .ref qg, .ref qh])), (qu, .inl (cZ, 20, .inl (fun z9 => b2i (u z9)))), (qa, .inl (cI, 20, .inl aX)), (qb, .inl (cI, 20, .inl aY)), (qc, .inl (cI, 20, .inl bX)), (qd, .inl (cI, 20, .inl bY)), (qe, .inl (cI, 40, .inl ln)), (qf, .inl (cI, 820, .inl (fun z9 => nI (ac z9)))), (qg, .inl (cI, 41, .inl (fun z9 => nI (mn z9)))), (qh, .inl (cI, 861, .inl (fun z9 => nI (sm z9))))] [(cZ, .boolean), (cI, .int)] [.ref q0, .int x] sz [(q0, .inr (3, [.ref qu, .ref qa, .ref qb, .ref qc, .ref qd, .int (b2i (kn)), .int (nI ((f_R_addLine lns ln x).1)), .ref qe, .ref qf, .ref qg, .ref qh])), (qu, .inl (cZ, 20, .inl (fun z9 => b2i (u z9)))), (qa, .inl (cI, 20, .inl aX)), (qb, .inl (cI, 20, .inl aY)), (qc, .inl (cI, 20, .inl bX)), (qd, .inl (cI, 20, .inl bY)), (qe, .inl (cI, 40, .inl ((f_R_addLine lns ln x).2))), (qf, .inl (cI, 820, .inl (fun z9 => nI (ac z9)))), (qg, .inl (cI, 41, .inl (fun z9 => nI (mn z9)))), (qh, .inl (cI, 861, .inl (fun z9 => nI (sm z9))))] := by
  refine sMet (Qc := fun A => sQv D [(q0, .inr (3, [.ref qu, .ref qa, .ref qb, .ref qc, .ref qd, .int (b2i (kn)), .int (nI ((f_R_addLine lns ln x).1)), .ref qe, .ref qf, .ref qg, .ref qh])), (qu, .inl (cZ, 20, .inl (fun z9 => b2i (u z9)))), (qa, .inl (cI, 20, .inl aX)), (qb, .inl (cI, 20, .inl aY)), (qc, .inl (cI, 20, .inl bX)), (qd, .inl (cI, 20, .inl bY)), (qe, .inl (cI, 40, .inl ((f_R_addLine lns ln x).2))), (qf, .inl (cI, 820, .inl (fun z9 => nI (ac z9)))), (qg, .inl (cI, 41, .inl (fun z9 => nI (mn z9)))), (qh, .inl (cI, 861, .inl (fun z9 => nI (sm z9))))] [(cZ, .boolean), (cI, .int)] A) rfl (fun p e s m below meth c A S hr hlk hP hK hD hA hS ls hl => ?_) (Nat.le_of_ble_eq_true rfl)
  have hx := S.1
  have hb := S.2.1
  have hl : lv_has ls 4 [(0, .ref q0), (1, .int x)] := hl
  have key2 : ∀ (n2 : Nat) (i2 : Nat) (a2 : Nat) (l2 : Nat → Int32) (hk2 : i2 = a2 + n2) (hi2 : i2 ≤ lns) (H : Heap) (locs : List Loc) (hP : va_P D CLS [(q0, .inr (3, [.ref qu, .ref qa, .ref qb, .ref qc, .ref qd, .int (b2i (kn)), .int (nI (lns)), .ref qe, .ref qf, .ref qg, .ref qh])), (qu, .inl (cZ, 20, .inl (fun z9 => b2i (u z9)))), (qa, .inl (cI, 20, .inl aX)), (qb, .inl (cI, 20, .inl aY)), (qc, .inl (cI, 20, .inl bX)), (qd, .inl (cI, 20, .inl bY)), (qe, .inl (cI, 40, .inl l2)), (qf, .inl (cI, 820, .inl (fun z9 => nI (ac z9)))), (qg, .inl (cI, 41, .inl (fun z9 => nI (mn z9)))), (qh, .inl (cI, 861, .inl (fun z9 => nI (sm z9))))] H) (hD : va_D A [(q0, .inr (3, [.ref qu, .ref qa, .ref qb, .ref qc, .ref qd, .int (b2i (kn)), .int (nI (lns)), .ref qe, .ref qf, .ref qg, .ref qh])), (qu, .inl (cZ, 20, .inl (fun z9 => b2i (u z9)))), (qa, .inl (cI, 20, .inl aX)), (qb, .inl (cI, 20, .inl aY)), (qc, .inl (cI, 20, .inl bX)), (qd, .inl (cI, 20, .inl bY)), (qe, .inl (cI, 40, .inl l2)), (qf, .inl (cI, 820, .inl (fun z9 => nI (ac z9)))), (qg, .inl (cI, 41, .inl (fun z9 => nI (mn z9)))), (qh, .inl (cI, 861, .inl (fun z9 => nI (sm z9))))]) (hS : va_S A s.heap H locs) (ls : Array Slot) (hl : lv_has ls 4 [(0, .ref q0), (1, .int x), (2, .int (nI (a2))), (3, .int (nI (i2)))]) (cont : ∀ (res : (Nat → Int32)), res = fl_R_addLine_2 n2 i2 a2 l2 → ∀ (H : Heap) (locs : List Loc), va_P D CLS [(q0, .inr (3, [.ref qu, .ref qa, .ref qb, .ref qc, .ref qd, .int (b2i (kn)), .int (nI (lns)), .ref qe, .ref qf, .ref qg, .ref qh])), (qu, .inl (cZ, 20, .inl (fun z9 => b2i (u z9)))), (qa, .inl (cI, 20, .inl aX)), (qb, .inl (cI, 20, .inl aY)), (qc, .inl (cI, 20, .inl bX)), (qd, .inl (cI, 20, .inl bY)), (qe, .inl (cI, 40, .inl res)), (qf, .inl (cI, 820, .inl (fun z9 => nI (ac z9)))), (qg, .inl (cI, 41, .inl (fun z9 => nI (mn z9)))), (qh, .inl (cI, 861, .inl (fun z9 => nI (sm z9))))] H → va_D A [(q0, .inr (3, [.ref qu, .ref qa, .ref qb, .ref qc, .ref qd, .int (b2i (kn)), .int (nI (lns)), .ref qe, .ref qf, .ref qg, .ref qh])), (qu, .inl (cZ, 20, .inl (fun z9 => b2i (u z9)))), (qa, .inl (cI, 20, .inl aX)), (qb, .inl (cI, 20, .inl aY)), (qc, .inl (cI, 20, .inl bX)), (qd, .inl (cI, 20, .inl bY)), (qe, .inl (cI, 40, .inl res)), (qf, .inl (cI, 820, .inl (fun z9 => nI (ac z9)))), (qg, .inl (cI, 41, .inl (fun z9 => nI (mn z9)))), (qh, .inl (cI, 861, .inl (fun z9 => nI (sm z9))))] → va_S A s.heap H locs → ∀ ls : Array Slot, lv_has ls 4 [(0, .ref q0), (1, .int x), (2, .int (nI (a2)))] → W p l e { frames := 0, cells := 0, slots := 0, locals := 0 } s m [.ref q0, .int x].toArray below meth c H locs 0 0 (MQ below (sQv D [(q0, .inr (3, [.ref qu, .ref qa, .ref qb, .ref qc, .ref qd, .int (b2i (kn)), .int (nI ((f_R_addLine lns ln x).1)), .ref qe, .ref qf, .ref qg, .ref qh])), (qu, .inl (cZ, 20, .inl (fun z9 => b2i (u z9)))), (qa, .inl (cI, 20, .inl aX)), (qb, .inl (cI, 20, .inl aY)), (qc, .inl (cI, 20, .inl bX)), (qd, .inl (cI, 20, .inl bY)), (qe, .inl (cI, 40, .inl ((f_R_addLine lns ln x).2))), (qf, .inl (cI, 820, .inl (fun z9 => nI (ac z9)))), (qg, .inl (cI, 41, .inl (fun z9 => nI (mn z9)))), (qh, .inl (cI, 861, .inl (fun z9 => nI (sm z9))))] [(cZ, .boolean), (cI, .int)] A) [.ref q0, .int x].toArray s 0 0 A) (F0 m 73 ls [])), W p l e { frames := 0, cells := 0, slots := 0, locals := 0 } s m [.ref q0, .int x].toArray below meth c H locs 0 0 (MQ below (sQv D [(q0, .inr (3, [.ref qu, .ref qa, .ref qb, .ref qc, .ref qd, .int (b2i (kn)), .int (nI ((f_R_addLine lns ln x).1)), .ref qe, .ref qf, .ref qg, .ref qh])), (qu, .inl (cZ, 20, .inl (fun z9 => b2i (u z9)))), (qa, .inl (cI, 20, .inl aX)), (qb, .inl (cI, 20, .inl aY)), (qc, .inl (cI, 20, .inl bX)), (qd, .inl (cI, 20, .inl bY)), (qe, .inl (cI, 40, .inl ((f_R_addLine lns ln x).2))), (qf, .inl (cI, 820, .inl (fun z9 => nI (ac z9)))), (qg, .inl (cI, 41, .inl (fun z9 => nI (mn z9)))), (qh, .inl (cI, 861, .inl (fun z9 => nI (sm z9))))] [(cZ, .boolean), (cI, .int)] A) [.ref q0, .int x].toArray s 0 0 A) (F0 m 48 ls []) := by
    clear hP hD hS hl
    intro n2
    induction n2 with
    | zero =>
      intro i2 a2 l2 hk2 hi2 H locs hP hD hS ls hl cont
      refine lv_iload_n hx hb d_R_addLine_48 rfl (lv_at hl 3 rfl) ?_
      refine lv_iload_n hx hb d_R_addLine_49 rfl (lv_at hl 2 rfl) ?_
      refine lv_icmp_le (tgt := 73) hx hb d_R_addLine_50 (by decide) (fun c1 => ?_) (fun c1 => ?_)
      · have c1a : i2 ≤ a2 := (nI_leI (a := i2) (b := a2) (by omega) (by omega)).mp c1
        exact cont l2 (show fx_R_addLine_2 i2 a2 l2 = l2 from rfl).symm _ _ hP hD hS ls (lv_sub hl [0, 1, 2] rfl)
      · have c1a : ¬ (i2 ≤ a2) := fun h => c1 ((nI_leI (a := i2) (b := a2) (by omega) (by omega)).mpr h)
        omega
    | succ n2 ih2 =>
      intro i2 a2 l2 hk2 hi2 H locs hP hD hS ls hl cont
      refine lv_iload_n hx hb d_R_addLine_48 rfl (lv_at hl 3 rfl) ?_
      refine lv_iload_n hx hb d_R_addLine_49 rfl (lv_at hl 2 rfl) ?_
      refine lv_icmp_le (tgt := 73) hx hb d_R_addLine_50 (by decide) (fun c2 => ?_) (fun c2 => ?_)
      · have c2a : i2 ≤ a2 := (nI_leI (a := i2) (b := a2) (by omega) (by omega)).mp c2
        omega
      · have c2a : ¬ (i2 ≤ a2) := fun h => c2 ((nI_leI (a := i2) (b := a2) (by omega) (by omega)).mpr h)
        refine lv_aload_n hx hb d_R_addLine_53 rfl (lv_at hl 0 rfl) ?_
        refine rget S hK hP 0 rfl rfl in_R 7 (by decide) kF_R_26 rfl d_R_addLine_54 ?_
        refine lv_iload_n hx hb d_R_addLine_57 rfl (lv_at hl 3 rfl) ?_
        refine lv_aload_n hx hb d_R_addLine_58 rfl (lv_at hl 0 rfl) ?_
        refine rget S hK hP 0 rfl rfl in_R 7 (by decide) kF_R_26 rfl d_R_addLine_59 ?_
        refine lv_iload_n hx hb d_R_addLine_62 rfl (lv_at hl 3 rfl) ?_
        refine lv_iconst (v := 1) hx hb d_R_addLine_63 (by decide) ?_
        refine lv_isub hx hb d_R_addLine_64 ?_
        refine rtop (y := nI (i2 - 1)) (pk_sub (a := i2) (b := 1) (by omega)) ?_
        refine riald (j := i2 - 1) S hK hP 6 1 rfl rfl (by omega) (by first | decide | omega) d_R_addLine_65 ?_
        refine riast (j := i2) (x := (l2 (i2 - 1))) S hK hP hD hS 6 1 rfl rfl (by omega) (by first | decide | omega) d_R_addLine_66 (fun H locs hP hD hS => ?_)
        have hP : va_P D CLS [(q0, .inr (3, [.ref qu, .ref qa, .ref qb, .ref qc, .ref qd, .int (b2i (kn)), .int (nI (lns)), .ref qe, .ref qf, .ref qg, .ref qh])), (qu, .inl (cZ, 20, .inl (fun z9 => b2i (u z9)))), (qa, .inl (cI, 20, .inl aX)), (qb, .inl (cI, 20, .inl aY)), (qc, .inl (cI, 20, .inl bX)), (qd, .inl (cI, 20, .inl bY)), (qe, .inl (cI, 40, .inl (upd l2 i2 (l2 (i2 - 1))))), (qf, .inl (cI, 820, .inl (fun z9 => nI (ac z9)))), (qg, .inl (cI, 41, .inl (fun z9 => nI (mn z9)))), (qh, .inl (cI, 861, .inl (fun z9 => nI (sm z9))))] H := hP
        have hD : va_D A [(q0, .inr (3, [.ref qu, .ref qa, .ref qb, .ref qc, .ref qd, .int (b2i (kn)), .int (nI (lns)), .ref qe, .ref qf, .ref qg, .ref qh])), (qu, .inl (cZ, 20, .inl (fun z9 => b2i (u z9)))), (qa, .inl (cI, 20, .inl aX)), (qb, .inl (cI, 20, .inl aY)), (qc, .inl (cI, 20, .inl bX)), (qd, .inl (cI, 20, .inl bY)), (qe, .inl (cI, 40, .inl (upd l2 i2 (l2 (i2 - 1))))), (qf, .inl (cI, 820, .inl (fun z9 => nI (ac z9)))), (qg, .inl (cI, 41, .inl (fun z9 => nI (mn z9)))), (qh, .inl (cI, 861, .inl (fun z9 => nI (sm z9))))] := hD
        refine lv_iinc (v := nI (i2 - 1)) (lv' := [(3, .int (nI (i2 - 1))), (0, .ref q0), (1, .int x), (2, .int (nI (a2)))]) hx hb d_R_addLine_67 hl (k := 3) rfl (sb_m1 (p := i2) (by omega)) (by decide) rfl (fun ls hl => ?_)
        refine lv_goto (tgt := 48) hx hb d_R_addLine_70 (by decide) ?_
        exact ih2 (i2 - 1) a2 (upd l2 i2 (l2 (i2 - 1))) (by omega) (by omega) _ _ (hP.sub [0, 1, 2, 3, 4, 5, 6, 7, 8, 9] rfl) (hD.sub [0, 1, 2, 3, 4, 5, 6, 7, 8, 9] (by decide) rfl) hS ls (lv_sub hl [1, 2, 3, 0] rfl) (fun res hres => cont res (hres.trans (show fb_R_addLine_2 (fl_R_addLine_2 n2) i2 a2 l2 = (fl_R_addLine_2 n2 (i2 - 1) a2 (upd l2 i2 (l2 (i2 - 1)))) from rfl).symm))
  refine lv_aload_n hx hb d_R_addLine_0 rfl (lv_at hl 0 rfl) ?_
  refine rget S hK hP 0 rfl rfl in_R 6 (by decide) kF_R_86 rfl d_R_addLine_1 ?_
  refine lv_istore_n (lv' := [(2, .int (nI (lns))), (0, .ref q0), (1, .int x)]) hx hb d_R_addLine_4 rfl hl (by decide) rfl (fun ls hl => ?_)
  have key1 : ∀ (n1 : Nat) (at1 : Nat) (hk1 : at1 = n1) (hat : at1 ≤ lns) (H : Heap) (locs : List Loc) (hP : va_P D CLS [(q0, .inr (3, [.ref qu, .ref qa, .ref qb, .ref qc, .ref qd, .int (b2i (kn)), .int (nI (lns)), .ref qe, .ref qf, .ref qg, .ref qh])), (qu, .inl (cZ, 20, .inl (fun z9 => b2i (u z9)))), (qa, .inl (cI, 20, .inl aX)), (qb, .inl (cI, 20, .inl aY)), (qc, .inl (cI, 20, .inl bX)), (qd, .inl (cI, 20, .inl bY)), (qe, .inl (cI, 40, .inl ln)), (qf, .inl (cI, 820, .inl (fun z9 => nI (ac z9)))), (qg, .inl (cI, 41, .inl (fun z9 => nI (mn z9)))), (qh, .inl (cI, 861, .inl (fun z9 => nI (sm z9))))] H) (hD : va_D A [(q0, .inr (3, [.ref qu, .ref qa, .ref qb, .ref qc, .ref qd, .int (b2i (kn)), .int (nI (lns)), .ref qe, .ref qf, .ref qg, .ref qh])), (qu, .inl (cZ, 20, .inl (fun z9 => b2i (u z9)))), (qa, .inl (cI, 20, .inl aX)), (qb, .inl (cI, 20, .inl aY)), (qc, .inl (cI, 20, .inl bX)), (qd, .inl (cI, 20, .inl bY)), (qe, .inl (cI, 40, .inl ln)), (qf, .inl (cI, 820, .inl (fun z9 => nI (ac z9)))), (qg, .inl (cI, 41, .inl (fun z9 => nI (mn z9)))), (qh, .inl (cI, 861, .inl (fun z9 => nI (sm z9))))]) (hS : va_S A s.heap H locs) (ls : Array Slot) (hl : lv_has ls 4 [(0, .ref q0), (1, .int x), (2, .int (nI (at1)))]) (cont : ∀ (res : (Nat)), res = fl_R_addLine_1 ln x n1 at1 → (res ≤ lns) → ∀ (H : Heap) (locs : List Loc), va_P D CLS [(q0, .inr (3, [.ref qu, .ref qa, .ref qb, .ref qc, .ref qd, .int (b2i (kn)), .int (nI (lns)), .ref qe, .ref qf, .ref qg, .ref qh])), (qu, .inl (cZ, 20, .inl (fun z9 => b2i (u z9)))), (qa, .inl (cI, 20, .inl aX)), (qb, .inl (cI, 20, .inl aY)), (qc, .inl (cI, 20, .inl bX)), (qd, .inl (cI, 20, .inl bY)), (qe, .inl (cI, 40, .inl ln)), (qf, .inl (cI, 820, .inl (fun z9 => nI (ac z9)))), (qg, .inl (cI, 41, .inl (fun z9 => nI (mn z9)))), (qh, .inl (cI, 861, .inl (fun z9 => nI (sm z9))))] H → va_D A [(q0, .inr (3, [.ref qu, .ref qa, .ref qb, .ref qc, .ref qd, .int (b2i (kn)), .int (nI (lns)), .ref qe, .ref qf, .ref qg, .ref qh])), (qu, .inl (cZ, 20, .inl (fun z9 => b2i (u z9)))), (qa, .inl (cI, 20, .inl aX)), (qb, .inl (cI, 20, .inl aY)), (qc, .inl (cI, 20, .inl bX)), (qd, .inl (cI, 20, .inl bY)), (qe, .inl (cI, 40, .inl ln)), (qf, .inl (cI, 820, .inl (fun z9 => nI (ac z9)))), (qg, .inl (cI, 41, .inl (fun z9 => nI (mn z9)))), (qh, .inl (cI, 861, .inl (fun z9 => nI (sm z9))))] → va_S A s.heap H locs → ∀ ls : Array Slot, lv_has ls 4 [(0, .ref q0), (1, .int x), (2, .int (nI (res)))] → W p l e { frames := 0, cells := 0, slots := 0, locals := 0 } s m [.ref q0, .int x].toArray below meth c H locs 0 0 (MQ below (sQv D [(q0, .inr (3, [.ref qu, .ref qa, .ref qb, .ref qc, .ref qd, .int (b2i (kn)), .int (nI ((f_R_addLine lns ln x).1)), .ref qe, .ref qf, .ref qg, .ref qh])), (qu, .inl (cZ, 20, .inl (fun z9 => b2i (u z9)))), (qa, .inl (cI, 20, .inl aX)), (qb, .inl (cI, 20, .inl aY)), (qc, .inl (cI, 20, .inl bX)), (qd, .inl (cI, 20, .inl bY)), (qe, .inl (cI, 40, .inl ((f_R_addLine lns ln x).2))), (qf, .inl (cI, 820, .inl (fun z9 => nI (ac z9)))), (qg, .inl (cI, 41, .inl (fun z9 => nI (mn z9)))), (qh, .inl (cI, 861, .inl (fun z9 => nI (sm z9))))] [(cZ, .boolean), (cI, .int)] A) [.ref q0, .int x].toArray s 0 0 A) (F0 m 27 ls [])), W p l e { frames := 0, cells := 0, slots := 0, locals := 0 } s m [.ref q0, .int x].toArray below meth c H locs 0 0 (MQ below (sQv D [(q0, .inr (3, [.ref qu, .ref qa, .ref qb, .ref qc, .ref qd, .int (b2i (kn)), .int (nI ((f_R_addLine lns ln x).1)), .ref qe, .ref qf, .ref qg, .ref qh])), (qu, .inl (cZ, 20, .inl (fun z9 => b2i (u z9)))), (qa, .inl (cI, 20, .inl aX)), (qb, .inl (cI, 20, .inl aY)), (qc, .inl (cI, 20, .inl bX)), (qd, .inl (cI, 20, .inl bY)), (qe, .inl (cI, 40, .inl ((f_R_addLine lns ln x).2))), (qf, .inl (cI, 820, .inl (fun z9 => nI (ac z9)))), (qg, .inl (cI, 41, .inl (fun z9 => nI (mn z9)))), (qh, .inl (cI, 861, .inl (fun z9 => nI (sm z9))))] [(cZ, .boolean), (cI, .int)] A) [.ref q0, .int x].toArray s 0 0 A) (F0 m 5 ls []) := by
    clear hP hD hS hl
    intro n1
    induction n1 with
    | zero =>
      intro at1 hk1 hat H locs hP hD hS ls hl cont
      refine lv_iload_n hx hb d_R_addLine_5 rfl (lv_at hl 2 rfl) ?_
      refine lv_if_le (tgt := 27) hx hb d_R_addLine_6 (by decide) (fun c3 => ?_) (fun c3 => ?_)
      · have c3a : at1 ≤ 0 := (nI_leI (a := at1) (b := 0) (by omega) (by decide)).mp c3
        exact cont at1 (show fx_R_addLine_1 ln x at1 = at1 from rfl).symm hat _ _ hP hD hS ls (lv_sub hl [0, 1, 2] rfl)
      · have c3a : ¬ (at1 ≤ 0) := fun h => c3 ((nI_leI (a := at1) (b := 0) (by omega) (by decide)).mpr h)
        omega
    | succ n1 ih1 =>
      intro at1 hk1 hat H locs hP hD hS ls hl cont
      refine lv_iload_n hx hb d_R_addLine_5 rfl (lv_at hl 2 rfl) ?_
      refine lv_if_le (tgt := 27) hx hb d_R_addLine_6 (by decide) (fun c4 => ?_) (fun c4 => ?_)
      · have c4a : at1 ≤ 0 := (nI_leI (a := at1) (b := 0) (by omega) (by decide)).mp c4
        omega
      · have c4a : ¬ (at1 ≤ 0) := fun h => c4 ((nI_leI (a := at1) (b := 0) (by omega) (by decide)).mpr h)
        refine lv_aload_n hx hb d_R_addLine_9 rfl (lv_at hl 0 rfl) ?_
        refine rget S hK hP 0 rfl rfl in_R 7 (by decide) kF_R_26 rfl d_R_addLine_10 ?_
        refine lv_iload_n hx hb d_R_addLine_13 rfl (lv_at hl 2 rfl) ?_
        refine lv_iconst (v := 1) hx hb d_R_addLine_14 (by decide) ?_
        refine lv_isub hx hb d_R_addLine_15 ?_
        refine rtop (y := nI (at1 - 1)) (pk_sub (a := at1) (b := 1) (by omega)) ?_
        refine riald (j := at1 - 1) S hK hP 6 1 rfl rfl (by omega) (by first | decide | omega) d_R_addLine_16 ?_
        refine lv_iload_n hx hb d_R_addLine_17 rfl (lv_at hl 1 rfl) ?_
        refine lv_icmp_le (tgt := 27) hx hb d_R_addLine_18 (by decide) (fun c5 => ?_) (fun c5 => ?_)
        · have c5a : ln (at1 - 1) ≤ x := c5
          exact cont at1 (show fb_R_addLine_1 ln x (fl_R_addLine_1 ln x n1) at1 = at1 from by unfold fb_R_addLine_1; rw [if_pos c5a]).symm hat _ _ hP hD hS ls (lv_sub hl [0, 1, 2] rfl)
        · have c5a : ¬ (ln (at1 - 1) ≤ x) := c5
          refine lv_iinc (v := nI (at1 - 1)) (lv' := [(2, .int (nI (at1 - 1))), (0, .ref q0), (1, .int x)]) hx hb d_R_addLine_21 hl (k := 2) rfl (sb_m1 (p := at1) (by omega)) (by decide) rfl (fun ls hl => ?_)
          refine lv_goto (tgt := 5) hx hb d_R_addLine_24 (by decide) ?_
          exact ih1 (at1 - 1) (by omega) (by omega) _ _ (hP.sub [0, 1, 2, 3, 4, 5, 6, 7, 8, 9] rfl) (hD.sub [0, 1, 2, 3, 4, 5, 6, 7, 8, 9] (by decide) rfl) hS ls (lv_sub hl [1, 2, 0] rfl) (fun res hres => cont res (hres.trans (show fb_R_addLine_1 ln x (fl_R_addLine_1 ln x n1) at1 = (fl_R_addLine_1 ln x n1 (at1 - 1)) from by unfold fb_R_addLine_1; rw [if_neg c5a]).symm))
  refine key1 lns lns (by omega) (Nat.le_refl _) _ _ hP hD hS ls (lv_sub hl [1, 2, 0] rfl) (fun res hres hpa H locs hP hD hS ls hl => ?_)
  subst hres
  have hP : va_P D CLS [(q0, .inr (3, [.ref qu, .ref qa, .ref qb, .ref qc, .ref qd, .int (b2i (kn)), .int (nI (lns)), .ref qe, .ref qf, .ref qg, .ref qh])), (qu, .inl (cZ, 20, .inl (fun z9 => b2i (u z9)))), (qa, .inl (cI, 20, .inl aX)), (qb, .inl (cI, 20, .inl aY)), (qc, .inl (cI, 20, .inl bX)), (qd, .inl (cI, 20, .inl bY)), (qe, .inl (cI, 40, .inl ln)), (qf, .inl (cI, 820, .inl (fun z9 => nI (ac z9)))), (qg, .inl (cI, 41, .inl (fun z9 => nI (mn z9)))), (qh, .inl (cI, 861, .inl (fun z9 => nI (sm z9))))] H := hP
  have hD : va_D A [(q0, .inr (3, [.ref qu, .ref qa, .ref qb, .ref qc, .ref qd, .int (b2i (kn)), .int (nI (lns)), .ref qe, .ref qf, .ref qg, .ref qh])), (qu, .inl (cZ, 20, .inl (fun z9 => b2i (u z9)))), (qa, .inl (cI, 20, .inl aX)), (qb, .inl (cI, 20, .inl aY)), (qc, .inl (cI, 20, .inl bX)), (qd, .inl (cI, 20, .inl bY)), (qe, .inl (cI, 40, .inl ln)), (qf, .inl (cI, 820, .inl (fun z9 => nI (ac z9)))), (qg, .inl (cI, 41, .inl (fun z9 => nI (mn z9)))), (qh, .inl (cI, 861, .inl (fun z9 => nI (sm z9))))] := hD
  have hl : lv_has ls 4 [(0, .ref q0), (1, .int x), (2, .int (nI (fl_R_addLine_1 ln x lns lns)))] := hl
  refine lv_iload_n hx hb d_R_addLine_27 rfl (lv_at hl 2 rfl) ?_
  refine lv_if_eq (tgt := 43) hx hb d_R_addLine_28 (by decide) (fun c6 => ?_) (fun c6 => ?_)
  · have c6a : (fl_R_addLine_1 ln x lns lns) = 0 := (nI_eq (a := fl_R_addLine_1 ln x lns lns) (b := 0) (by omega) (by decide)).mp c6
    refine lv_aload_n hx hb d_R_addLine_43 rfl (lv_at hl 0 rfl) ?_
    refine rget S hK hP 0 rfl rfl in_R 6 (by decide) kF_R_86 rfl d_R_addLine_44 ?_
    refine lv_istore_n (lv' := [(3, .int (nI (lns))), (0, .ref q0), (1, .int x), (2, .int (nI (fl_R_addLine_1 ln x lns lns)))]) hx hb d_R_addLine_47 rfl hl (by decide) rfl (fun ls hl => ?_)
    refine key2 (lns - (fl_R_addLine_1 ln x lns lns)) lns (fl_R_addLine_1 ln x lns lns) ln (by omega) (Nat.le_refl _) _ _ hP hD hS ls (lv_sub hl [1, 2, 3, 0] rfl) (fun res hres H locs hP hD hS ls hl => ?_)
    subst hres
    have hP : va_P D CLS [(q0, .inr (3, [.ref qu, .ref qa, .ref qb, .ref qc, .ref qd, .int (b2i (kn)), .int (nI (lns)), .ref qe, .ref qf, .ref qg, .ref qh])), (qu, .inl (cZ, 20, .inl (fun z9 => b2i (u z9)))), (qa, .inl (cI, 20, .inl aX)), (qb, .inl (cI, 20, .inl aY)), (qc, .inl (cI, 20, .inl bX)), (qd, .inl (cI, 20, .inl bY)), (qe, .inl (cI, 40, .inl (fl_R_addLine_2 (lns - (fl_R_addLine_1 ln x lns lns)) lns (fl_R_addLine_1 ln x lns lns) ln))), (qf, .inl (cI, 820, .inl (fun z9 => nI (ac z9)))), (qg, .inl (cI, 41, .inl (fun z9 => nI (mn z9)))), (qh, .inl (cI, 861, .inl (fun z9 => nI (sm z9))))] H := hP
    have hD : va_D A [(q0, .inr (3, [.ref qu, .ref qa, .ref qb, .ref qc, .ref qd, .int (b2i (kn)), .int (nI (lns)), .ref qe, .ref qf, .ref qg, .ref qh])), (qu, .inl (cZ, 20, .inl (fun z9 => b2i (u z9)))), (qa, .inl (cI, 20, .inl aX)), (qb, .inl (cI, 20, .inl aY)), (qc, .inl (cI, 20, .inl bX)), (qd, .inl (cI, 20, .inl bY)), (qe, .inl (cI, 40, .inl (fl_R_addLine_2 (lns - (fl_R_addLine_1 ln x lns lns)) lns (fl_R_addLine_1 ln x lns lns) ln))), (qf, .inl (cI, 820, .inl (fun z9 => nI (ac z9)))), (qg, .inl (cI, 41, .inl (fun z9 => nI (mn z9)))), (qh, .inl (cI, 861, .inl (fun z9 => nI (sm z9))))] := hD
    have hl : lv_has ls 4 [(0, .ref q0), (1, .int x), (2, .int (nI (fl_R_addLine_1 ln x lns lns)))] := hl
    refine lv_aload_n hx hb d_R_addLine_73 rfl (lv_at hl 0 rfl) ?_
    refine rget S hK hP 0 rfl rfl in_R 7 (by decide) kF_R_26 rfl d_R_addLine_74 ?_
    refine lv_iload_n hx hb d_R_addLine_77 rfl (lv_at hl 2 rfl) ?_
    refine lv_iload_n hx hb d_R_addLine_78 rfl (lv_at hl 1 rfl) ?_
    refine riast (j := fl_R_addLine_1 ln x lns lns) (x := x) S hK hP hD hS 6 1 rfl rfl (by omega) (by first | decide | omega) d_R_addLine_79 (fun H locs hP hD hS => ?_)
    have hP : va_P D CLS [(q0, .inr (3, [.ref qu, .ref qa, .ref qb, .ref qc, .ref qd, .int (b2i (kn)), .int (nI (lns)), .ref qe, .ref qf, .ref qg, .ref qh])), (qu, .inl (cZ, 20, .inl (fun z9 => b2i (u z9)))), (qa, .inl (cI, 20, .inl aX)), (qb, .inl (cI, 20, .inl aY)), (qc, .inl (cI, 20, .inl bX)), (qd, .inl (cI, 20, .inl bY)), (qe, .inl (cI, 40, .inl (upd (fl_R_addLine_2 (lns - (fl_R_addLine_1 ln x lns lns)) lns (fl_R_addLine_1 ln x lns lns) ln) (fl_R_addLine_1 ln x lns lns) x))), (qf, .inl (cI, 820, .inl (fun z9 => nI (ac z9)))), (qg, .inl (cI, 41, .inl (fun z9 => nI (mn z9)))), (qh, .inl (cI, 861, .inl (fun z9 => nI (sm z9))))] H := hP
    have hD : va_D A [(q0, .inr (3, [.ref qu, .ref qa, .ref qb, .ref qc, .ref qd, .int (b2i (kn)), .int (nI (lns)), .ref qe, .ref qf, .ref qg, .ref qh])), (qu, .inl (cZ, 20, .inl (fun z9 => b2i (u z9)))), (qa, .inl (cI, 20, .inl aX)), (qb, .inl (cI, 20, .inl aY)), (qc, .inl (cI, 20, .inl bX)), (qd, .inl (cI, 20, .inl bY)), (qe, .inl (cI, 40, .inl (upd (fl_R_addLine_2 (lns - (fl_R_addLine_1 ln x lns lns)) lns (fl_R_addLine_1 ln x lns lns) ln) (fl_R_addLine_1 ln x lns lns) x))), (qf, .inl (cI, 820, .inl (fun z9 => nI (ac z9)))), (qg, .inl (cI, 41, .inl (fun z9 => nI (mn z9)))), (qh, .inl (cI, 861, .inl (fun z9 => nI (sm z9))))] := hD
    refine lv_aload_n hx hb d_R_addLine_80 rfl (lv_at hl 0 rfl) ?_
    refine lv_dup hx hb d_R_addLine_81 rfl ?_
    refine rget S hK hP 0 rfl rfl in_R 6 (by decide) kF_R_86 rfl d_R_addLine_82 ?_
    refine lv_iconst (v := 1) hx hb d_R_addLine_85 (by decide) ?_
    refine lv_iadd hx hb d_R_addLine_86 ?_
    refine rtop (y := nI (lns + 1)) (nI_add (lns) (1)) ?_
    refine rputf (v := .int (nI (lns + 1))) S hK hP hD hS 0 rfl rfl in_R t_R tok_R n_R 6 (by decide) kF_R_86 rfl rfl rfl (Nat.le_of_ble_eq_true rfl) d_R_addLine_87 (fun H locs hP hD hS => ?_)
    have hP : va_P D CLS [(q0, .inr (3, [.ref qu, .ref qa, .ref qb, .ref qc, .ref qd, .int (b2i (kn)), .int (nI (lns + 1)), .ref qe, .ref qf, .ref qg, .ref qh])), (qu, .inl (cZ, 20, .inl (fun z9 => b2i (u z9)))), (qa, .inl (cI, 20, .inl aX)), (qb, .inl (cI, 20, .inl aY)), (qc, .inl (cI, 20, .inl bX)), (qd, .inl (cI, 20, .inl bY)), (qe, .inl (cI, 40, .inl (upd (fl_R_addLine_2 (lns - (fl_R_addLine_1 ln x lns lns)) lns (fl_R_addLine_1 ln x lns lns) ln) (fl_R_addLine_1 ln x lns lns) x))), (qf, .inl (cI, 820, .inl (fun z9 => nI (ac z9)))), (qg, .inl (cI, 41, .inl (fun z9 => nI (mn z9)))), (qh, .inl (cI, 861, .inl (fun z9 => nI (sm z9))))] H := hP
    have hD : va_D A [(q0, .inr (3, [.ref qu, .ref qa, .ref qb, .ref qc, .ref qd, .int (b2i (kn)), .int (nI (lns + 1)), .ref qe, .ref qf, .ref qg, .ref qh])), (qu, .inl (cZ, 20, .inl (fun z9 => b2i (u z9)))), (qa, .inl (cI, 20, .inl aX)), (qb, .inl (cI, 20, .inl aY)), (qc, .inl (cI, 20, .inl bX)), (qd, .inl (cI, 20, .inl bY)), (qe, .inl (cI, 40, .inl (upd (fl_R_addLine_2 (lns - (fl_R_addLine_1 ln x lns lns)) lns (fl_R_addLine_1 ln x lns lns) ln) (fl_R_addLine_1 ln x lns lns) x))), (qf, .inl (cI, 820, .inl (fun z9 => nI (ac z9)))), (qg, .inl (cI, 41, .inl (fun z9 => nI (mn z9)))), (qh, .inl (cI, 861, .inl (fun z9 => nI (sm z9))))] := hD
    have eqf := (show f_R_addLine lns ln x = ((lns + 1), upd (fl_R_addLine_2 (lns - (fl_R_addLine_1 ln x lns lns)) lns (fl_R_addLine_1 ln x lns lns) ln) (fl_R_addLine_1 ln x lns lns) x) from by unfold f_R_addLine; rw [if_pos c6a])
    exact rretV S hr hlk (by rw [eqf]) hP hK hD hS d_R_addLine_90
  · have c6a : ¬ ((fl_R_addLine_1 ln x lns lns) = 0) := fun h => c6 ((nI_eq (a := fl_R_addLine_1 ln x lns lns) (b := 0) (by omega) (by decide)).mpr h)
    refine lv_aload_n hx hb d_R_addLine_31 rfl (lv_at hl 0 rfl) ?_
    refine rget S hK hP 0 rfl rfl in_R 7 (by decide) kF_R_26 rfl d_R_addLine_32 ?_
    refine lv_iload_n hx hb d_R_addLine_35 rfl (lv_at hl 2 rfl) ?_
    refine lv_iconst (v := 1) hx hb d_R_addLine_36 (by decide) ?_
    refine lv_isub hx hb d_R_addLine_37 ?_
    refine rtop (y := nI ((fl_R_addLine_1 ln x lns lns) - 1)) (pk_sub (a := fl_R_addLine_1 ln x lns lns) (b := 1) (by omega)) ?_
    refine riald (j := (fl_R_addLine_1 ln x lns lns) - 1) S hK hP 6 1 rfl rfl (by omega) (by first | decide | omega) d_R_addLine_38 ?_
    refine lv_iload_n hx hb d_R_addLine_39 rfl (lv_at hl 1 rfl) ?_
    refine lv_icmp_eq (tgt := 90) hx hb d_R_addLine_40 (by decide) (fun c7 => ?_) (fun c7 => ?_)
    · have c7a : ln ((fl_R_addLine_1 ln x lns lns) - 1) = x := c7
      have eqf := (show f_R_addLine lns ln x = (lns, ln) from by unfold f_R_addLine; rw [if_neg c6a, if_pos c7a])
      exact rretV S hr hlk (by rw [eqf]) hP hK hD hS d_R_addLine_90
    · have c7a : ¬ (ln ((fl_R_addLine_1 ln x lns lns) - 1) = x) := c7
      refine lv_aload_n hx hb d_R_addLine_43 rfl (lv_at hl 0 rfl) ?_
      refine rget S hK hP 0 rfl rfl in_R 6 (by decide) kF_R_86 rfl d_R_addLine_44 ?_
      refine lv_istore_n (lv' := [(3, .int (nI (lns))), (0, .ref q0), (1, .int x), (2, .int (nI (fl_R_addLine_1 ln x lns lns)))]) hx hb d_R_addLine_47 rfl hl (by decide) rfl (fun ls hl => ?_)
      refine key2 (lns - (fl_R_addLine_1 ln x lns lns)) lns (fl_R_addLine_1 ln x lns lns) ln (by omega) (Nat.le_refl _) _ _ hP hD hS ls (lv_sub hl [1, 2, 3, 0] rfl) (fun res hres H locs hP hD hS ls hl => ?_)
      subst hres
      have hP : va_P D CLS [(q0, .inr (3, [.ref qu, .ref qa, .ref qb, .ref qc, .ref qd, .int (b2i (kn)), .int (nI (lns)), .ref qe, .ref qf, .ref qg, .ref qh])), (qu, .inl (cZ, 20, .inl (fun z9 => b2i (u z9)))), (qa, .inl (cI, 20, .inl aX)), (qb, .inl (cI, 20, .inl aY)), (qc, .inl (cI, 20, .inl bX)), (qd, .inl (cI, 20, .inl bY)), (qe, .inl (cI, 40, .inl (fl_R_addLine_2 (lns - (fl_R_addLine_1 ln x lns lns)) lns (fl_R_addLine_1 ln x lns lns) ln))), (qf, .inl (cI, 820, .inl (fun z9 => nI (ac z9)))), (qg, .inl (cI, 41, .inl (fun z9 => nI (mn z9)))), (qh, .inl (cI, 861, .inl (fun z9 => nI (sm z9))))] H := hP
      have hD : va_D A [(q0, .inr (3, [.ref qu, .ref qa, .ref qb, .ref qc, .ref qd, .int (b2i (kn)), .int (nI (lns)), .ref qe, .ref qf, .ref qg, .ref qh])), (qu, .inl (cZ, 20, .inl (fun z9 => b2i (u z9)))), (qa, .inl (cI, 20, .inl aX)), (qb, .inl (cI, 20, .inl aY)), (qc, .inl (cI, 20, .inl bX)), (qd, .inl (cI, 20, .inl bY)), (qe, .inl (cI, 40, .inl (fl_R_addLine_2 (lns - (fl_R_addLine_1 ln x lns lns)) lns (fl_R_addLine_1 ln x lns lns) ln))), (qf, .inl (cI, 820, .inl (fun z9 => nI (ac z9)))), (qg, .inl (cI, 41, .inl (fun z9 => nI (mn z9)))), (qh, .inl (cI, 861, .inl (fun z9 => nI (sm z9))))] := hD
      have hl : lv_has ls 4 [(0, .ref q0), (1, .int x), (2, .int (nI (fl_R_addLine_1 ln x lns lns)))] := hl
      refine lv_aload_n hx hb d_R_addLine_73 rfl (lv_at hl 0 rfl) ?_
      refine rget S hK hP 0 rfl rfl in_R 7 (by decide) kF_R_26 rfl d_R_addLine_74 ?_
      refine lv_iload_n hx hb d_R_addLine_77 rfl (lv_at hl 2 rfl) ?_
      refine lv_iload_n hx hb d_R_addLine_78 rfl (lv_at hl 1 rfl) ?_
      refine riast (j := fl_R_addLine_1 ln x lns lns) (x := x) S hK hP hD hS 6 1 rfl rfl (by omega) (by first | decide | omega) d_R_addLine_79 (fun H locs hP hD hS => ?_)
      have hP : va_P D CLS [(q0, .inr (3, [.ref qu, .ref qa, .ref qb, .ref qc, .ref qd, .int (b2i (kn)), .int (nI (lns)), .ref qe, .ref qf, .ref qg, .ref qh])), (qu, .inl (cZ, 20, .inl (fun z9 => b2i (u z9)))), (qa, .inl (cI, 20, .inl aX)), (qb, .inl (cI, 20, .inl aY)), (qc, .inl (cI, 20, .inl bX)), (qd, .inl (cI, 20, .inl bY)), (qe, .inl (cI, 40, .inl (upd (fl_R_addLine_2 (lns - (fl_R_addLine_1 ln x lns lns)) lns (fl_R_addLine_1 ln x lns lns) ln) (fl_R_addLine_1 ln x lns lns) x))), (qf, .inl (cI, 820, .inl (fun z9 => nI (ac z9)))), (qg, .inl (cI, 41, .inl (fun z9 => nI (mn z9)))), (qh, .inl (cI, 861, .inl (fun z9 => nI (sm z9))))] H := hP
      have hD : va_D A [(q0, .inr (3, [.ref qu, .ref qa, .ref qb, .ref qc, .ref qd, .int (b2i (kn)), .int (nI (lns)), .ref qe, .ref qf, .ref qg, .ref qh])), (qu, .inl (cZ, 20, .inl (fun z9 => b2i (u z9)))), (qa, .inl (cI, 20, .inl aX)), (qb, .inl (cI, 20, .inl aY)), (qc, .inl (cI, 20, .inl bX)), (qd, .inl (cI, 20, .inl bY)), (qe, .inl (cI, 40, .inl (upd (fl_R_addLine_2 (lns - (fl_R_addLine_1 ln x lns lns)) lns (fl_R_addLine_1 ln x lns lns) ln) (fl_R_addLine_1 ln x lns lns) x))), (qf, .inl (cI, 820, .inl (fun z9 => nI (ac z9)))), (qg, .inl (cI, 41, .inl (fun z9 => nI (mn z9)))), (qh, .inl (cI, 861, .inl (fun z9 => nI (sm z9))))] := hD
      refine lv_aload_n hx hb d_R_addLine_80 rfl (lv_at hl 0 rfl) ?_
      refine lv_dup hx hb d_R_addLine_81 rfl ?_
      refine rget S hK hP 0 rfl rfl in_R 6 (by decide) kF_R_86 rfl d_R_addLine_82 ?_
      refine lv_iconst (v := 1) hx hb d_R_addLine_85 (by decide) ?_
      refine lv_iadd hx hb d_R_addLine_86 ?_
      refine rtop (y := nI (lns + 1)) (nI_add (lns) (1)) ?_
      refine rputf (v := .int (nI (lns + 1))) S hK hP hD hS 0 rfl rfl in_R t_R tok_R n_R 6 (by decide) kF_R_86 rfl rfl rfl (Nat.le_of_ble_eq_true rfl) d_R_addLine_87 (fun H locs hP hD hS => ?_)
      have hP : va_P D CLS [(q0, .inr (3, [.ref qu, .ref qa, .ref qb, .ref qc, .ref qd, .int (b2i (kn)), .int (nI (lns + 1)), .ref qe, .ref qf, .ref qg, .ref qh])), (qu, .inl (cZ, 20, .inl (fun z9 => b2i (u z9)))), (qa, .inl (cI, 20, .inl aX)), (qb, .inl (cI, 20, .inl aY)), (qc, .inl (cI, 20, .inl bX)), (qd, .inl (cI, 20, .inl bY)), (qe, .inl (cI, 40, .inl (upd (fl_R_addLine_2 (lns - (fl_R_addLine_1 ln x lns lns)) lns (fl_R_addLine_1 ln x lns lns) ln) (fl_R_addLine_1 ln x lns lns) x))), (qf, .inl (cI, 820, .inl (fun z9 => nI (ac z9)))), (qg, .inl (cI, 41, .inl (fun z9 => nI (mn z9)))), (qh, .inl (cI, 861, .inl (fun z9 => nI (sm z9))))] H := hP
      have hD : va_D A [(q0, .inr (3, [.ref qu, .ref qa, .ref qb, .ref qc, .ref qd, .int (b2i (kn)), .int (nI (lns + 1)), .ref qe, .ref qf, .ref qg, .ref qh])), (qu, .inl (cZ, 20, .inl (fun z9 => b2i (u z9)))), (qa, .inl (cI, 20, .inl aX)), (qb, .inl (cI, 20, .inl aY)), (qc, .inl (cI, 20, .inl bX)), (qd, .inl (cI, 20, .inl bY)), (qe, .inl (cI, 40, .inl (upd (fl_R_addLine_2 (lns - (fl_R_addLine_1 ln x lns lns)) lns (fl_R_addLine_1 ln x lns lns) ln) (fl_R_addLine_1 ln x lns lns) x))), (qf, .inl (cI, 820, .inl (fun z9 => nI (ac z9)))), (qg, .inl (cI, 41, .inl (fun z9 => nI (mn z9)))), (qh, .inl (cI, 861, .inl (fun z9 => nI (sm z9))))] := hD
      have eqf := (show f_R_addLine lns ln x = ((lns + 1), upd (fl_R_addLine_2 (lns - (fl_R_addLine_1 ln x lns lns)) lns (fl_R_addLine_1 ln x lns lns) ln) (fl_R_addLine_1 ln x lns lns) x) from by unfold f_R_addLine; rw [if_neg c6a, if_neg c7a])
      exact rretV S hr hlk (by rw [eqf]) hP hK hD hS d_R_addLine_90
def fx_R_add_1 (u : Nat → Bool) (k : Nat) : (Nat) := k
def fb_R_add_1 (u : Nat → Bool) (rec : (Nat) → (Nat)) (k : Nat) : (Nat) := if u k = true then (rec (k + 1)) else k
def fl_R_add_1 (u : Nat → Bool) : Nat → (Nat) → (Nat)
  | 0, k => fx_R_add_1 u k
  | n1 + 1, k => fb_R_add_1 u (fl_R_add_1 u n1) k
def fx_R_add_2 (u : Nat → Bool) (kn : Bool) (j : Nat) (k2 : Nat) (a1 : Nat → Int32) (a2 : Nat → Int32) (b1 : Nat → Int32) (b2 : Nat → Int32) : (Int32) × (Nat → Bool) × (Nat → Int32) × (Nat → Int32) × (Nat → Int32) × (Nat → Int32) × (Bool) := (nI (k2), updB u k2 true, a1, a2, b1, b2, false)
def fb_R_add_2 (u : Nat → Bool) (kn : Bool) (rec : (Nat) → (Nat) → (Nat → Int32) → (Nat → Int32) → (Nat → Int32) → (Nat → Int32) → (Int32) × (Nat → Bool) × (Nat → Int32) × (Nat → Int32) × (Nat → Int32) × (Nat → Int32) × (Bool)) (j : Nat) (k2 : Nat) (a1 : Nat → Int32) (a2 : Nat → Int32) (b1 : Nat → Int32) (b2 : Nat → Int32) : (Int32) × (Nat → Bool) × (Nat → Int32) × (Nat → Int32) × (Nat → Int32) × (Nat → Int32) × (Bool) := if u j = true then (if f_R_meet u a1 a2 b1 b2 k2 j = true then (((-10) - nI (j)), u, a1, a2, b1, b2, kn) else (rec (j + 1) k2 a1 a2 b1 b2)) else (rec (j + 1) k2 a1 a2 b1 b2)
def fl_R_add_2 (u : Nat → Bool) (kn : Bool) : Nat → (Nat) → (Nat) → (Nat → Int32) → (Nat → Int32) → (Nat → Int32) → (Nat → Int32) → (Int32) × (Nat → Bool) × (Nat → Int32) × (Nat → Int32) × (Nat → Int32) × (Nat → Int32) × (Bool)
  | 0, j, k2, a1, a2, b1, b2 => fx_R_add_2 u kn j k2 a1 a2 b1 b2
  | n2 + 1, j, k2, a1, a2, b1, b2 => fb_R_add_2 u kn (fl_R_add_2 u kn n2) j k2 a1 a2 b1 b2
def f_R_add (u : Nat → Bool) (aX : Nat → Int32) (aY : Nat → Int32) (bX : Nat → Int32) (bY : Nat → Int32) (kn : Bool) (x : Int32) (y : Int32) (z : Int32) (w : Int32) : (Int32) × (Nat → Bool) × (Nat → Int32) × (Nat → Int32) × (Nat → Int32) × (Nat → Int32) × (Bool) := if f_R_near x = true then (if f_R_near y = true then (if f_R_near z = true then (if f_R_near w = true then (if x = z then (if y = w then ((-2), u, aX, aY, bX, bY, kn) else (if (fl_R_add_1 u 20 0) = 20 then ((-3), u, aX, aY, bX, bY, kn) else (if z < x then (fl_R_add_2 u kn 20 0 (fl_R_add_1 u 20 0) (upd aX (fl_R_add_1 u 20 0) z) (upd aY (fl_R_add_1 u 20 0) w) (upd bX (fl_R_add_1 u 20 0) x) (upd bY (fl_R_add_1 u 20 0) y)) else (if z = x then (if y ≤ w then (fl_R_add_2 u kn 20 0 (fl_R_add_1 u 20 0) (upd aX (fl_R_add_1 u 20 0) x) (upd aY (fl_R_add_1 u 20 0) y) (upd bX (fl_R_add_1 u 20 0) z) (upd bY (fl_R_add_1 u 20 0) w)) else (fl_R_add_2 u kn 20 0 (fl_R_add_1 u 20 0) (upd aX (fl_R_add_1 u 20 0) z) (upd aY (fl_R_add_1 u 20 0) w) (upd bX (fl_R_add_1 u 20 0) x) (upd bY (fl_R_add_1 u 20 0) y))) else (fl_R_add_2 u kn 20 0 (fl_R_add_1 u 20 0) (upd aX (fl_R_add_1 u 20 0) x) (upd aY (fl_R_add_1 u 20 0) y) (upd bX (fl_R_add_1 u 20 0) z) (upd bY (fl_R_add_1 u 20 0) w)))))) else (if (fl_R_add_1 u 20 0) = 20 then ((-3), u, aX, aY, bX, bY, kn) else (if z < x then (fl_R_add_2 u kn 20 0 (fl_R_add_1 u 20 0) (upd aX (fl_R_add_1 u 20 0) z) (upd aY (fl_R_add_1 u 20 0) w) (upd bX (fl_R_add_1 u 20 0) x) (upd bY (fl_R_add_1 u 20 0) y)) else (if z = x then (if y ≤ w then (fl_R_add_2 u kn 20 0 (fl_R_add_1 u 20 0) (upd aX (fl_R_add_1 u 20 0) x) (upd aY (fl_R_add_1 u 20 0) y) (upd bX (fl_R_add_1 u 20 0) z) (upd bY (fl_R_add_1 u 20 0) w)) else (fl_R_add_2 u kn 20 0 (fl_R_add_1 u 20 0) (upd aX (fl_R_add_1 u 20 0) z) (upd aY (fl_R_add_1 u 20 0) w) (upd bX (fl_R_add_1 u 20 0) x) (upd bY (fl_R_add_1 u 20 0) y))) else (fl_R_add_2 u kn 20 0 (fl_R_add_1 u 20 0) (upd aX (fl_R_add_1 u 20 0) x) (upd aY (fl_R_add_1 u 20 0) y) (upd bX (fl_R_add_1 u 20 0) z) (upd bY (fl_R_add_1 u 20 0) w)))))) else ((-2), u, aX, aY, bX, bY, kn)) else ((-2), u, aX, aY, bX, bY, kn)) else ((-2), u, aX, aY, bX, bY, kn)) else ((-2), u, aX, aY, bX, bY, kn)
theorem i_R_add : inV y_R_add b_R_add 8 (some .int) 4 := ⟨kM_y_R_add, kV_y_R_add, kI_R, kY_y_R_add, by decide +kernel⟩
set_option maxHeartbeats 4000000 in
set_option maxRecDepth 100000 in
theorem c_R_add (l : Launch) (D : va_G) (q0 qu qa qb qc qd qe qf qg qh : Nat) (cZ cI : ClassId) (u : Nat → Bool) (aX aY bX bY : Nat → Int32) (kn : Bool) (lns : Nat) (ln : Nat → Int32) (ac mn sm : Nat → Nat) (x : Int32) (y : Int32) (z : Int32) (w : Int32) (sz : Nat) : SMi l y_R_add b_R_add 8 (some .int) 4 90 D [(q0, .inr (3, [.ref qu, .ref qa, .ref qb, .ref qc, .ref qd, .int (b2i (kn)), .int (nI (lns)), .ref qe, .ref qf, .ref qg, .ref qh])), (qu, .inl (cZ, 20, .inl (fun z9 => b2i (u z9)))), (qa, .inl (cI, 20, .inl aX)), (qb, .inl (cI, 20, .inl aY)), (qc, .inl (cI, 20, .inl bX)), (qd, .inl (cI, 20, .inl bY)), (qe, .inl (cI, 40, .inl ln)), (qf, .inl (cI, 820, .inl (fun z9 => nI (ac z9)))), (qg, .inl (cI, 41, .inl (fun z9 => nI (mn z9)))), (qh, .inl (cI, 861, .inl (fun z9 => nI (sm z9))))] [(cZ, .boolean), (cI, .int)] [.ref q0, .int x, .int y, .int z, .int w] sz (((f_R_add u aX aY bX bY kn x y z w).1)) [(q0, .inr (3, [.ref qu, .ref qa, .ref qb, .ref qc, .ref qd, .int (b2i ((f_R_add u aX aY bX bY kn x y z w).2.2.2.2.2.2)), .int (nI (lns)), .ref qe, .ref qf, .ref qg, .ref qh])), (qu, .inl (cZ, 20, .inl (fun z9 => b2i (((f_R_add u aX aY bX bY kn x y z w).2.1) z9)))), (qa, .inl (cI, 20, .inl ((f_R_add u aX aY bX bY kn x y z w).2.2.1))), (qb, .inl (cI, 20, .inl ((f_R_add u aX aY bX bY kn x y z w).2.2.2.1))), (qc, .inl (cI, 20, .inl ((f_R_add u aX aY bX bY kn x y z w).2.2.2.2.1))), (qd, .inl (cI, 20, .inl ((f_R_add u aX aY bX bY kn x y z w).2.2.2.2.2.1))), (qe, .inl (cI, 40, .inl ln)), (qf, .inl (cI, 820, .inl (fun z9 => nI (ac z9)))), (qg, .inl (cI, 41, .inl (fun z9 => nI (mn z9)))), (qh, .inl (cI, 861, .inl (fun z9 => nI (sm z9))))] := by
  refine sMet (Qc := fun A => sQi (((f_R_add u aX aY bX bY kn x y z w).1)) D [(q0, .inr (3, [.ref qu, .ref qa, .ref qb, .ref qc, .ref qd, .int (b2i ((f_R_add u aX aY bX bY kn x y z w).2.2.2.2.2.2)), .int (nI (lns)), .ref qe, .ref qf, .ref qg, .ref qh])), (qu, .inl (cZ, 20, .inl (fun z9 => b2i (((f_R_add u aX aY bX bY kn x y z w).2.1) z9)))), (qa, .inl (cI, 20, .inl ((f_R_add u aX aY bX bY kn x y z w).2.2.1))), (qb, .inl (cI, 20, .inl ((f_R_add u aX aY bX bY kn x y z w).2.2.2.1))), (qc, .inl (cI, 20, .inl ((f_R_add u aX aY bX bY kn x y z w).2.2.2.2.1))), (qd, .inl (cI, 20, .inl ((f_R_add u aX aY bX bY kn x y z w).2.2.2.2.2.1))), (qe, .inl (cI, 40, .inl ln)), (qf, .inl (cI, 820, .inl (fun z9 => nI (ac z9)))), (qg, .inl (cI, 41, .inl (fun z9 => nI (mn z9)))), (qh, .inl (cI, 861, .inl (fun z9 => nI (sm z9))))] [(cZ, .boolean), (cI, .int)] A) rfl (fun p e s m below meth c A S hr hlk hP hK hD hA hS ls hl => ?_) (Nat.le_of_ble_eq_true rfl)
  have hx := S.1
  have hb := S.2.1
  have hl : lv_has ls 8 [(0, .ref q0), (1, .int x), (2, .int y), (3, .int z), (4, .int w)] := hl
  have key1 : ∀ (n1 : Nat) (k : Nat) (hk1 : k + n1 = 20) (H : Heap) (locs : List Loc) (hP : va_P D CLS [(q0, .inr (3, [.ref qu, .ref qa, .ref qb, .ref qc, .ref qd, .int (b2i (kn)), .int (nI (lns)), .ref qe, .ref qf, .ref qg, .ref qh])), (qu, .inl (cZ, 20, .inl (fun z9 => b2i (u z9)))), (qa, .inl (cI, 20, .inl aX)), (qb, .inl (cI, 20, .inl aY)), (qc, .inl (cI, 20, .inl bX)), (qd, .inl (cI, 20, .inl bY)), (qe, .inl (cI, 40, .inl ln)), (qf, .inl (cI, 820, .inl (fun z9 => nI (ac z9)))), (qg, .inl (cI, 41, .inl (fun z9 => nI (mn z9)))), (qh, .inl (cI, 861, .inl (fun z9 => nI (sm z9))))] H) (hD : va_D A [(q0, .inr (3, [.ref qu, .ref qa, .ref qb, .ref qc, .ref qd, .int (b2i (kn)), .int (nI (lns)), .ref qe, .ref qf, .ref qg, .ref qh])), (qu, .inl (cZ, 20, .inl (fun z9 => b2i (u z9)))), (qa, .inl (cI, 20, .inl aX)), (qb, .inl (cI, 20, .inl aY)), (qc, .inl (cI, 20, .inl bX)), (qd, .inl (cI, 20, .inl bY)), (qe, .inl (cI, 40, .inl ln)), (qf, .inl (cI, 820, .inl (fun z9 => nI (ac z9)))), (qg, .inl (cI, 41, .inl (fun z9 => nI (mn z9)))), (qh, .inl (cI, 861, .inl (fun z9 => nI (sm z9))))]) (hS : va_S A s.heap H locs) (ls : Array Slot) (hl : lv_has ls 8 [(0, .ref q0), (1, .int x), (2, .int y), (3, .int z), (4, .int w), (5, .int (nI (k)))]) (cont : ∀ (res : (Nat)), res = fl_R_add_1 u n1 k → (res ≤ 20) → ∀ (H : Heap) (locs : List Loc), va_P D CLS [(q0, .inr (3, [.ref qu, .ref qa, .ref qb, .ref qc, .ref qd, .int (b2i (kn)), .int (nI (lns)), .ref qe, .ref qf, .ref qg, .ref qh])), (qu, .inl (cZ, 20, .inl (fun z9 => b2i (u z9)))), (qa, .inl (cI, 20, .inl aX)), (qb, .inl (cI, 20, .inl aY)), (qc, .inl (cI, 20, .inl bX)), (qd, .inl (cI, 20, .inl bY)), (qe, .inl (cI, 40, .inl ln)), (qf, .inl (cI, 820, .inl (fun z9 => nI (ac z9)))), (qg, .inl (cI, 41, .inl (fun z9 => nI (mn z9)))), (qh, .inl (cI, 861, .inl (fun z9 => nI (sm z9))))] H → va_D A [(q0, .inr (3, [.ref qu, .ref qa, .ref qb, .ref qc, .ref qd, .int (b2i (kn)), .int (nI (lns)), .ref qe, .ref qf, .ref qg, .ref qh])), (qu, .inl (cZ, 20, .inl (fun z9 => b2i (u z9)))), (qa, .inl (cI, 20, .inl aX)), (qb, .inl (cI, 20, .inl aY)), (qc, .inl (cI, 20, .inl bX)), (qd, .inl (cI, 20, .inl bY)), (qe, .inl (cI, 40, .inl ln)), (qf, .inl (cI, 820, .inl (fun z9 => nI (ac z9)))), (qg, .inl (cI, 41, .inl (fun z9 => nI (mn z9)))), (qh, .inl (cI, 861, .inl (fun z9 => nI (sm z9))))] → va_S A s.heap H locs → ∀ ls : Array Slot, lv_has ls 8 [(0, .ref q0), (1, .int x), (2, .int y), (3, .int z), (4, .int w), (5, .int (nI (res)))] → W p l e { frames := 4, cells := 0, slots := 0, locals := 90 } s m [.ref q0, .int x, .int y, .int z, .int w].toArray below meth c H locs 0 0 (MQ below (sQi (((f_R_add u aX aY bX bY kn x y z w).1)) D [(q0, .inr (3, [.ref qu, .ref qa, .ref qb, .ref qc, .ref qd, .int (b2i ((f_R_add u aX aY bX bY kn x y z w).2.2.2.2.2.2)), .int (nI (lns)), .ref qe, .ref qf, .ref qg, .ref qh])), (qu, .inl (cZ, 20, .inl (fun z9 => b2i (((f_R_add u aX aY bX bY kn x y z w).2.1) z9)))), (qa, .inl (cI, 20, .inl ((f_R_add u aX aY bX bY kn x y z w).2.2.1))), (qb, .inl (cI, 20, .inl ((f_R_add u aX aY bX bY kn x y z w).2.2.2.1))), (qc, .inl (cI, 20, .inl ((f_R_add u aX aY bX bY kn x y z w).2.2.2.2.1))), (qd, .inl (cI, 20, .inl ((f_R_add u aX aY bX bY kn x y z w).2.2.2.2.2.1))), (qe, .inl (cI, 40, .inl ln)), (qf, .inl (cI, 820, .inl (fun z9 => nI (ac z9)))), (qg, .inl (cI, 41, .inl (fun z9 => nI (mn z9)))), (qh, .inl (cI, 861, .inl (fun z9 => nI (sm z9))))] [(cZ, .boolean), (cI, .int)] A) [.ref q0, .int x, .int y, .int z, .int w].toArray s 0 0 A) (F0 m 69 ls [])), W p l e { frames := 4, cells := 0, slots := 0, locals := 90 } s m [.ref q0, .int x, .int y, .int z, .int w].toArray below meth c H locs 0 0 (MQ below (sQi (((f_R_add u aX aY bX bY kn x y z w).1)) D [(q0, .inr (3, [.ref qu, .ref qa, .ref qb, .ref qc, .ref qd, .int (b2i ((f_R_add u aX aY bX bY kn x y z w).2.2.2.2.2.2)), .int (nI (lns)), .ref qe, .ref qf, .ref qg, .ref qh])), (qu, .inl (cZ, 20, .inl (fun z9 => b2i (((f_R_add u aX aY bX bY kn x y z w).2.1) z9)))), (qa, .inl (cI, 20, .inl ((f_R_add u aX aY bX bY kn x y z w).2.2.1))), (qb, .inl (cI, 20, .inl ((f_R_add u aX aY bX bY kn x y z w).2.2.2.1))), (qc, .inl (cI, 20, .inl ((f_R_add u aX aY bX bY kn x y z w).2.2.2.2.1))), (qd, .inl (cI, 20, .inl ((f_R_add u aX aY bX bY kn x y z w).2.2.2.2.2.1))), (qe, .inl (cI, 40, .inl ln)), (qf, .inl (cI, 820, .inl (fun z9 => nI (ac z9)))), (qg, .inl (cI, 41, .inl (fun z9 => nI (mn z9)))), (qh, .inl (cI, 861, .inl (fun z9 => nI (sm z9))))] [(cZ, .boolean), (cI, .int)] A) [.ref q0, .int x, .int y, .int z, .int w].toArray s 0 0 A) (F0 m 46 ls []) := by
    clear hP hD hS hl
    intro n1
    induction n1 with
    | zero =>
      intro k hk1 H locs hP hD hS ls hl cont
      refine lv_iload hx hb d_R_add_46 (lv_at hl 5 rfl) ?_
      refine lv_bipush (v := 20) hx hb d_R_add_48 (by decide) ?_
      refine lv_icmp_ge (tgt := 69) hx hb d_R_add_50 (by decide) (fun c1 => ?_) (fun c1 => ?_)
      · have c1a : 20 ≤ k := (nI_leI (a := 20) (b := k) (by decide) (by omega)).mp c1
        exact cont k (show fx_R_add_1 u k = k from rfl).symm (by omega) _ _ hP hD hS ls (lv_sub hl [0, 1, 2, 3, 4, 5] rfl)
      · have c1a : ¬ (20 ≤ k) := fun h => c1 ((nI_leI (a := 20) (b := k) (by decide) (by omega)).mpr h)
        omega
    | succ n1 ih1 =>
      intro k hk1 H locs hP hD hS ls hl cont
      refine lv_iload hx hb d_R_add_46 (lv_at hl 5 rfl) ?_
      refine lv_bipush (v := 20) hx hb d_R_add_48 (by decide) ?_
      refine lv_icmp_ge (tgt := 69) hx hb d_R_add_50 (by decide) (fun c2 => ?_) (fun c2 => ?_)
      · have c2a : 20 ≤ k := (nI_leI (a := 20) (b := k) (by decide) (by omega)).mp c2
        omega
      · have c2a : ¬ (20 ≤ k) := fun h => c2 ((nI_leI (a := 20) (b := k) (by decide) (by omega)).mpr h)
        refine lv_aload_n hx hb d_R_add_53 rfl (lv_at hl 0 rfl) ?_
        refine rget S hK hP 0 rfl rfl in_R 0 (by decide) kF_R_7 rfl d_R_add_54 ?_
        refine lv_iload hx hb d_R_add_57 (lv_at hl 5 rfl) ?_
        refine rzald (j := k) S hK hP 1 0 rfl rfl (by omega) (by first | decide | omega) d_R_add_59 ?_
        refine lv_if_eq (tgt := 69) hx hb d_R_add_60 (by decide) (fun c3 => ?_) (fun c3 => ?_)
        · have c3a : ¬ (u k = true) := b2n (b2i_eq0.mp c3)
          exact cont k (show fb_R_add_1 u (fl_R_add_1 u n1) k = k from by unfold fb_R_add_1; rw [if_neg c3a]).symm (by omega) _ _ hP hD hS ls (lv_sub hl [0, 1, 2, 3, 4, 5] rfl)
        · have c3a : u k = true := b2i_ne0.mp c3
          refine lv_iinc (v := nI (k + 1)) (lv' := [(5, .int (nI (k + 1))), (0, .ref q0), (1, .int x), (2, .int y), (3, .int z), (4, .int w)]) hx hb d_R_add_63 hl (k := 5) rfl (nI_1 (k)) (by decide) rfl (fun ls hl => ?_)
          refine lv_goto (tgt := 46) hx hb d_R_add_66 (by decide) ?_
          exact ih1 (k + 1) (by omega) _ _ (hP.sub [0, 1, 2, 3, 4, 5, 6, 7, 8, 9] rfl) (hD.sub [0, 1, 2, 3, 4, 5, 6, 7, 8, 9] (by decide) rfl) hS ls (lv_sub hl [1, 2, 3, 4, 5, 0] rfl) (fun res hres => cont res (hres.trans (show fb_R_add_1 u (fl_R_add_1 u n1) k = (fl_R_add_1 u n1 (k + 1)) from by unfold fb_R_add_1; rw [if_pos c3a]).symm))
  have key2 : ∀ (n2 : Nat) (j : Nat) (k2 : Nat) (a1 : Nat → Int32) (a2 : Nat → Int32) (b1 : Nat → Int32) (b2 : Nat → Int32) (hk2 : j + n2 = 20) (hk2 : k2 < 20) (H : Heap) (locs : List Loc) (hP : va_P D CLS [(q0, .inr (3, [.ref qu, .ref qa, .ref qb, .ref qc, .ref qd, .int (b2i (kn)), .int (nI (lns)), .ref qe, .ref qf, .ref qg, .ref qh])), (qu, .inl (cZ, 20, .inl (fun z9 => b2i (u z9)))), (qa, .inl (cI, 20, .inl a1)), (qb, .inl (cI, 20, .inl a2)), (qc, .inl (cI, 20, .inl b1)), (qd, .inl (cI, 20, .inl b2)), (qe, .inl (cI, 40, .inl ln)), (qf, .inl (cI, 820, .inl (fun z9 => nI (ac z9)))), (qg, .inl (cI, 41, .inl (fun z9 => nI (mn z9)))), (qh, .inl (cI, 861, .inl (fun z9 => nI (sm z9))))] H) (hD : va_D A [(q0, .inr (3, [.ref qu, .ref qa, .ref qb, .ref qc, .ref qd, .int (b2i (kn)), .int (nI (lns)), .ref qe, .ref qf, .ref qg, .ref qh])), (qu, .inl (cZ, 20, .inl (fun z9 => b2i (u z9)))), (qa, .inl (cI, 20, .inl a1)), (qb, .inl (cI, 20, .inl a2)), (qc, .inl (cI, 20, .inl b1)), (qd, .inl (cI, 20, .inl b2)), (qe, .inl (cI, 40, .inl ln)), (qf, .inl (cI, 820, .inl (fun z9 => nI (ac z9)))), (qg, .inl (cI, 41, .inl (fun z9 => nI (mn z9)))), (qh, .inl (cI, 861, .inl (fun z9 => nI (sm z9))))]) (hS : va_S A s.heap H locs) (ls : Array Slot) (hl : lv_has ls 8 [(0, .ref q0), (5, .int (nI (k2))), (7, .int (nI (j)))]) (hf : f_R_add u aX aY bX bY kn x y z w = fl_R_add_2 u kn n2 j k2 a1 a2 b1 b2), W p l e { frames := 4, cells := 0, slots := 0, locals := 90 } s m [.ref q0, .int x, .int y, .int z, .int w].toArray below meth c H locs 0 0 (MQ below (sQi (((f_R_add u aX aY bX bY kn x y z w).1)) D [(q0, .inr (3, [.ref qu, .ref qa, .ref qb, .ref qc, .ref qd, .int (b2i ((f_R_add u aX aY bX bY kn x y z w).2.2.2.2.2.2)), .int (nI (lns)), .ref qe, .ref qf, .ref qg, .ref qh])), (qu, .inl (cZ, 20, .inl (fun z9 => b2i (((f_R_add u aX aY bX bY kn x y z w).2.1) z9)))), (qa, .inl (cI, 20, .inl ((f_R_add u aX aY bX bY kn x y z w).2.2.1))), (qb, .inl (cI, 20, .inl ((f_R_add u aX aY bX bY kn x y z w).2.2.2.1))), (qc, .inl (cI, 20, .inl ((f_R_add u aX aY bX bY kn x y z w).2.2.2.2.1))), (qd, .inl (cI, 20, .inl ((f_R_add u aX aY bX bY kn x y z w).2.2.2.2.2.1))), (qe, .inl (cI, 40, .inl ln)), (qf, .inl (cI, 820, .inl (fun z9 => nI (ac z9)))), (qg, .inl (cI, 41, .inl (fun z9 => nI (mn z9)))), (qh, .inl (cI, 861, .inl (fun z9 => nI (sm z9))))] [(cZ, .boolean), (cI, .int)] A) [.ref q0, .int x, .int y, .int z, .int w].toArray s 0 0 A) (F0 m 175 ls []) := by
    clear hP hD hS hl
    intro n2
    induction n2 with
    | zero =>
      intro j k2 a1 a2 b1 b2 hk2 hk2 H locs hP hD hS ls hl hf
      refine lv_iload hx hb d_R_add_175 (lv_at hl 2 rfl) ?_
      refine lv_bipush (v := 20) hx hb d_R_add_177 (by decide) ?_
      refine lv_icmp_ge (tgt := 215) hx hb d_R_add_179 (by decide) (fun c4 => ?_) (fun c4 => ?_)
      · have c4a : 20 ≤ j := (nI_leI (a := 20) (b := j) (by decide) (by omega)).mp c4
        refine lv_aload_n hx hb d_R_add_215 rfl (lv_at hl 0 rfl) ?_
        refine rget S hK hP 0 rfl rfl in_R 0 (by decide) kF_R_7 rfl d_R_add_216 ?_
        refine lv_iload hx hb d_R_add_219 (lv_at hl 1 rfl) ?_
        refine lv_iconst (v := 1) hx hb d_R_add_221 (by decide) ?_
        refine rzast (j := k2) (x := true) S hK hP hD hS 1 0 rfl rfl (by omega) (by first | decide | omega) d_R_add_222 (fun H locs hP hD hS => ?_)
        have hP : va_P D CLS [(q0, .inr (3, [.ref qu, .ref qa, .ref qb, .ref qc, .ref qd, .int (b2i (kn)), .int (nI (lns)), .ref qe, .ref qf, .ref qg, .ref qh])), (qu, .inl (cZ, 20, .inl (fun z9 => b2i ((updB u k2 true) z9)))), (qa, .inl (cI, 20, .inl a1)), (qb, .inl (cI, 20, .inl a2)), (qc, .inl (cI, 20, .inl b1)), (qd, .inl (cI, 20, .inl b2)), (qe, .inl (cI, 40, .inl ln)), (qf, .inl (cI, 820, .inl (fun z9 => nI (ac z9)))), (qg, .inl (cI, 41, .inl (fun z9 => nI (mn z9)))), (qh, .inl (cI, 861, .inl (fun z9 => nI (sm z9))))] H := hP
        have hD : va_D A [(q0, .inr (3, [.ref qu, .ref qa, .ref qb, .ref qc, .ref qd, .int (b2i (kn)), .int (nI (lns)), .ref qe, .ref qf, .ref qg, .ref qh])), (qu, .inl (cZ, 20, .inl (fun z9 => b2i ((updB u k2 true) z9)))), (qa, .inl (cI, 20, .inl a1)), (qb, .inl (cI, 20, .inl a2)), (qc, .inl (cI, 20, .inl b1)), (qd, .inl (cI, 20, .inl b2)), (qe, .inl (cI, 40, .inl ln)), (qf, .inl (cI, 820, .inl (fun z9 => nI (ac z9)))), (qg, .inl (cI, 41, .inl (fun z9 => nI (mn z9)))), (qh, .inl (cI, 861, .inl (fun z9 => nI (sm z9))))] := hD
        refine lv_aload_n hx hb d_R_add_223 rfl (lv_at hl 0 rfl) ?_
        refine lv_iconst (v := 0) hx hb d_R_add_224 (by decide) ?_
        refine rputf (v := .int (b2i (false))) S hK hP hD hS 0 rfl rfl in_R t_R tok_R n_R 5 (by decide) kF_R_61 rfl (b2i_nar _) (b2i_fits _) (Nat.le_of_ble_eq_true rfl) d_R_add_225 (fun H locs hP hD hS => ?_)
        have hP : va_P D CLS [(q0, .inr (3, [.ref qu, .ref qa, .ref qb, .ref qc, .ref qd, .int (b2i (false)), .int (nI (lns)), .ref qe, .ref qf, .ref qg, .ref qh])), (qu, .inl (cZ, 20, .inl (fun z9 => b2i ((updB u k2 true) z9)))), (qa, .inl (cI, 20, .inl a1)), (qb, .inl (cI, 20, .inl a2)), (qc, .inl (cI, 20, .inl b1)), (qd, .inl (cI, 20, .inl b2)), (qe, .inl (cI, 40, .inl ln)), (qf, .inl (cI, 820, .inl (fun z9 => nI (ac z9)))), (qg, .inl (cI, 41, .inl (fun z9 => nI (mn z9)))), (qh, .inl (cI, 861, .inl (fun z9 => nI (sm z9))))] H := hP
        have hD : va_D A [(q0, .inr (3, [.ref qu, .ref qa, .ref qb, .ref qc, .ref qd, .int (b2i (false)), .int (nI (lns)), .ref qe, .ref qf, .ref qg, .ref qh])), (qu, .inl (cZ, 20, .inl (fun z9 => b2i ((updB u k2 true) z9)))), (qa, .inl (cI, 20, .inl a1)), (qb, .inl (cI, 20, .inl a2)), (qc, .inl (cI, 20, .inl b1)), (qd, .inl (cI, 20, .inl b2)), (qe, .inl (cI, 40, .inl ln)), (qf, .inl (cI, 820, .inl (fun z9 => nI (ac z9)))), (qg, .inl (cI, 41, .inl (fun z9 => nI (mn z9)))), (qh, .inl (cI, 861, .inl (fun z9 => nI (sm z9))))] := hD
        refine lv_iload hx hb d_R_add_228 (lv_at hl 1 rfl) ?_
        have eqf := (hf.trans (show fx_R_add_2 u kn j k2 a1 a2 b1 b2 = (nI (k2), updB u k2 true, a1, a2, b1, b2, false) from rfl))
        exact rretI S hr hlk (v := nI (k2)) (by rw [eqf]) (by rw [eqf]) hP hK hD hS d_R_add_230
      · have c4a : ¬ (20 ≤ j) := fun h => c4 ((nI_leI (a := 20) (b := j) (by decide) (by omega)).mpr h)
        omega
    | succ n2 ih2 =>
      intro j k2 a1 a2 b1 b2 hk2 hk2 H locs hP hD hS ls hl hf
      refine lv_iload hx hb d_R_add_175 (lv_at hl 2 rfl) ?_
      refine lv_bipush (v := 20) hx hb d_R_add_177 (by decide) ?_
      refine lv_icmp_ge (tgt := 215) hx hb d_R_add_179 (by decide) (fun c5 => ?_) (fun c5 => ?_)
      · have c5a : 20 ≤ j := (nI_leI (a := 20) (b := j) (by decide) (by omega)).mp c5
        omega
      · have c5a : ¬ (20 ≤ j) := fun h => c5 ((nI_leI (a := 20) (b := j) (by decide) (by omega)).mpr h)
        refine lv_aload_n hx hb d_R_add_182 rfl (lv_at hl 0 rfl) ?_
        refine rget S hK hP 0 rfl rfl in_R 0 (by decide) kF_R_7 rfl d_R_add_183 ?_
        refine lv_iload hx hb d_R_add_186 (lv_at hl 2 rfl) ?_
        refine rzald (j := j) S hK hP 1 0 rfl rfl (by omega) (by first | decide | omega) d_R_add_188 ?_
        refine lv_if_eq (tgt := 209) hx hb d_R_add_189 (by decide) (fun c6 => ?_) (fun c6 => ?_)
        · have c6a : ¬ (u j = true) := b2n (b2i_eq0.mp c6)
          refine lv_iinc (v := nI (j + 1)) (lv' := [(7, .int (nI (j + 1))), (0, .ref q0), (5, .int (nI (k2)))]) hx hb d_R_add_209 hl (k := 2) rfl (nI_1 (j)) (by decide) rfl (fun ls hl => ?_)
          refine lv_goto (tgt := 175) hx hb d_R_add_212 (by decide) ?_
          exact ih2 (j + 1) k2 a1 a2 b1 b2 (by omega) hk2 _ _ (hP.sub [0, 1, 2, 3, 4, 5, 6, 7, 8, 9] rfl) (hD.sub [0, 1, 2, 3, 4, 5, 6, 7, 8, 9] (by decide) rfl) hS ls (lv_sub hl [1, 2, 0] rfl) (hf.trans (show fb_R_add_2 u kn (fl_R_add_2 u kn n2) j k2 a1 a2 b1 b2 = (fl_R_add_2 u kn n2 (j + 1) k2 a1 a2 b1 b2) from by unfold fb_R_add_2; rw [if_neg c6a]))
        · have c6a : u j = true := b2i_ne0.mp c6
          refine lv_aload_n hx hb d_R_add_192 rfl (lv_at hl 0 rfl) ?_
          refine lv_iload hx hb d_R_add_193 (lv_at hl 1 rfl) ?_
          refine lv_iload hx hb d_R_add_195 (lv_at hl 2 rfl) ?_
          refine rcallV (rest := []) (v := b2i (f_R_meet u a1 a2 b1 b2 k2 j)) S [.int (nI (k2)), .int (nI (j))] hK hP [0, 1, 2, 3, 4, 5, 6, 7, 8, 9] rfl [0, 1] rfl (c_R_meet l D q0 qu qa qb qc qd qe qf qg qh cZ cI u a1 a2 b1 b2 kn lns ln ac mn sm k2 j (by omega) (by omega)) i_R_meet kL_R_57 ⟨Nat.le_of_ble_eq_true rfl, Nat.le_of_ble_eq_true rfl⟩ (by exact ⟨Nat.zero_le _, Nat.zero_le _⟩) (q0 := 0) (ci := 3) rfl rfl rfl hl.1 rfl (Nat.le_of_ble_eq_true rfl) d_R_add_197 ?_
          refine lv_if_eq (tgt := 209) hx hb d_R_add_200 (by decide) (fun c7 => ?_) (fun c7 => ?_)
          · have c7a : ¬ (f_R_meet u a1 a2 b1 b2 k2 j = true) := b2n (b2i_eq0.mp c7)
            refine lv_iinc (v := nI (j + 1)) (lv' := [(7, .int (nI (j + 1))), (0, .ref q0), (5, .int (nI (k2)))]) hx hb d_R_add_209 hl (k := 2) rfl (nI_1 (j)) (by decide) rfl (fun ls hl => ?_)
            refine lv_goto (tgt := 175) hx hb d_R_add_212 (by decide) ?_
            exact ih2 (j + 1) k2 a1 a2 b1 b2 (by omega) hk2 _ _ (hP.sub [0, 1, 2, 3, 4, 5, 6, 7, 8, 9] rfl) (hD.sub [0, 1, 2, 3, 4, 5, 6, 7, 8, 9] (by decide) rfl) hS ls (lv_sub hl [1, 2, 0] rfl) (hf.trans (show fb_R_add_2 u kn (fl_R_add_2 u kn n2) j k2 a1 a2 b1 b2 = (fl_R_add_2 u kn n2 (j + 1) k2 a1 a2 b1 b2) from by unfold fb_R_add_2; rw [if_pos c6a, if_neg c7a]))
          · have c7a : f_R_meet u a1 a2 b1 b2 k2 j = true := b2i_ne0.mp c7
            refine lv_bipush (v := (-10)) hx hb d_R_add_203 (by decide) ?_
            refine lv_iload hx hb d_R_add_205 (lv_at hl 2 rfl) ?_
            refine lv_isub hx hb d_R_add_207 ?_
            have eqf := (hf.trans (show fb_R_add_2 u kn (fl_R_add_2 u kn n2) j k2 a1 a2 b1 b2 = (((-10) - nI (j)), u, a1, a2, b1, b2, kn) from by unfold fb_R_add_2; rw [if_pos c6a, if_pos c7a]))
            exact rretI S hr hlk (v := ((-10) - nI (j))) (by rw [eqf]) (by rw [eqf]) hP hK hD hS d_R_add_208
  refine lv_iload_n hx hb d_R_add_0 rfl (lv_at hl 1 rfl) ?_
  refine rcallS (rest := []) (v := b2i (f_R_near x)) S [.int x] hK hP [] rfl [] rfl (c_R_near l D x ) i_R_near rfl kL_R_53 ⟨Nat.le_of_ble_eq_true rfl, Nat.le_of_ble_eq_true rfl⟩ (by exact ⟨Nat.zero_le _, Nat.zero_le _⟩) hl.1 rfl (Nat.le_of_ble_eq_true rfl) d_R_add_1 ?_
  refine lv_if_eq (tgt := 40) hx hb d_R_add_4 (by decide) (fun c8 => ?_) (fun c8 => ?_)
  · have c8a : ¬ (f_R_near x = true) := b2n (b2i_eq0.mp c8)
    refine lv_bipush (v := (-2)) hx hb d_R_add_40 (by decide) ?_
    have eqf := (show f_R_add u aX aY bX bY kn x y z w = ((-2), u, aX, aY, bX, bY, kn) from by unfold f_R_add; rw [if_neg c8a])
    exact rretI S hr hlk (v := (-2)) (by rw [eqf]) (by rw [eqf]) hP hK hD hS d_R_add_42
  · have c8a : f_R_near x = true := b2i_ne0.mp c8
    refine lv_iload_n hx hb d_R_add_7 rfl (lv_at hl 2 rfl) ?_
    refine rcallS (rest := []) (v := b2i (f_R_near y)) S [.int y] hK hP [] rfl [] rfl (c_R_near l D y ) i_R_near rfl kL_R_53 ⟨Nat.le_of_ble_eq_true rfl, Nat.le_of_ble_eq_true rfl⟩ (by exact ⟨Nat.zero_le _, Nat.zero_le _⟩) hl.1 rfl (Nat.le_of_ble_eq_true rfl) d_R_add_8 ?_
    refine lv_if_eq (tgt := 40) hx hb d_R_add_11 (by decide) (fun c9 => ?_) (fun c9 => ?_)
    · have c9a : ¬ (f_R_near y = true) := b2n (b2i_eq0.mp c9)
      refine lv_bipush (v := (-2)) hx hb d_R_add_40 (by decide) ?_
      have eqf := (show f_R_add u aX aY bX bY kn x y z w = ((-2), u, aX, aY, bX, bY, kn) from by unfold f_R_add; rw [if_pos c8a, if_neg c9a])
      exact rretI S hr hlk (v := (-2)) (by rw [eqf]) (by rw [eqf]) hP hK hD hS d_R_add_42
    · have c9a : f_R_near y = true := b2i_ne0.mp c9
      refine lv_iload_n hx hb d_R_add_14 rfl (lv_at hl 3 rfl) ?_
      refine rcallS (rest := []) (v := b2i (f_R_near z)) S [.int z] hK hP [] rfl [] rfl (c_R_near l D z ) i_R_near rfl kL_R_53 ⟨Nat.le_of_ble_eq_true rfl, Nat.le_of_ble_eq_true rfl⟩ (by exact ⟨Nat.zero_le _, Nat.zero_le _⟩) hl.1 rfl (Nat.le_of_ble_eq_true rfl) d_R_add_15 ?_
      refine lv_if_eq (tgt := 40) hx hb d_R_add_18 (by decide) (fun c10 => ?_) (fun c10 => ?_)
      · have c10a : ¬ (f_R_near z = true) := b2n (b2i_eq0.mp c10)
        refine lv_bipush (v := (-2)) hx hb d_R_add_40 (by decide) ?_
        have eqf := (show f_R_add u aX aY bX bY kn x y z w = ((-2), u, aX, aY, bX, bY, kn) from by unfold f_R_add; rw [if_pos c8a, if_pos c9a, if_neg c10a])
        exact rretI S hr hlk (v := (-2)) (by rw [eqf]) (by rw [eqf]) hP hK hD hS d_R_add_42
      · have c10a : f_R_near z = true := b2i_ne0.mp c10
        refine lv_iload hx hb d_R_add_21 (lv_at hl 4 rfl) ?_
        refine rcallS (rest := []) (v := b2i (f_R_near w)) S [.int w] hK hP [] rfl [] rfl (c_R_near l D w ) i_R_near rfl kL_R_53 ⟨Nat.le_of_ble_eq_true rfl, Nat.le_of_ble_eq_true rfl⟩ (by exact ⟨Nat.zero_le _, Nat.zero_le _⟩) hl.1 rfl (Nat.le_of_ble_eq_true rfl) d_R_add_23 ?_
        refine lv_if_eq (tgt := 40) hx hb d_R_add_26 (by decide) (fun c11 => ?_) (fun c11 => ?_)
        · have c11a : ¬ (f_R_near w = true) := b2n (b2i_eq0.mp c11)
          refine lv_bipush (v := (-2)) hx hb d_R_add_40 (by decide) ?_
          have eqf := (show f_R_add u aX aY bX bY kn x y z w = ((-2), u, aX, aY, bX, bY, kn) from by unfold f_R_add; rw [if_pos c8a, if_pos c9a, if_pos c10a, if_neg c11a])
          exact rretI S hr hlk (v := (-2)) (by rw [eqf]) (by rw [eqf]) hP hK hD hS d_R_add_42
        · have c11a : f_R_near w = true := b2i_ne0.mp c11
          refine lv_iload_n hx hb d_R_add_29 rfl (lv_at hl 1 rfl) ?_
          refine lv_iload_n hx hb d_R_add_30 rfl (lv_at hl 3 rfl) ?_
          refine lv_icmp_ne (tgt := 43) hx hb d_R_add_31 (by decide) (fun c12 => ?_) (fun c12 => ?_)
          · have c12a : ¬ (x = z) := c12
            refine lv_iconst (v := 0) hx hb d_R_add_43 (by decide) ?_
            refine lv_istore (lv' := [(5, .int 0), (0, .ref q0), (1, .int x), (2, .int y), (3, .int z), (4, .int w)]) hx hb d_R_add_44 hl (by decide) rfl (fun ls hl => ?_)
            refine key1 20 0 (by omega) _ _ hP hD hS ls (lv_sub hl [1, 2, 3, 4, 5, 0] rfl) (fun res hres hk1p H locs hP hD hS ls hl => ?_)
            subst hres
            have hP : va_P D CLS [(q0, .inr (3, [.ref qu, .ref qa, .ref qb, .ref qc, .ref qd, .int (b2i (kn)), .int (nI (lns)), .ref qe, .ref qf, .ref qg, .ref qh])), (qu, .inl (cZ, 20, .inl (fun z9 => b2i (u z9)))), (qa, .inl (cI, 20, .inl aX)), (qb, .inl (cI, 20, .inl aY)), (qc, .inl (cI, 20, .inl bX)), (qd, .inl (cI, 20, .inl bY)), (qe, .inl (cI, 40, .inl ln)), (qf, .inl (cI, 820, .inl (fun z9 => nI (ac z9)))), (qg, .inl (cI, 41, .inl (fun z9 => nI (mn z9)))), (qh, .inl (cI, 861, .inl (fun z9 => nI (sm z9))))] H := hP
            have hD : va_D A [(q0, .inr (3, [.ref qu, .ref qa, .ref qb, .ref qc, .ref qd, .int (b2i (kn)), .int (nI (lns)), .ref qe, .ref qf, .ref qg, .ref qh])), (qu, .inl (cZ, 20, .inl (fun z9 => b2i (u z9)))), (qa, .inl (cI, 20, .inl aX)), (qb, .inl (cI, 20, .inl aY)), (qc, .inl (cI, 20, .inl bX)), (qd, .inl (cI, 20, .inl bY)), (qe, .inl (cI, 40, .inl ln)), (qf, .inl (cI, 820, .inl (fun z9 => nI (ac z9)))), (qg, .inl (cI, 41, .inl (fun z9 => nI (mn z9)))), (qh, .inl (cI, 861, .inl (fun z9 => nI (sm z9))))] := hD
            have hl : lv_has ls 8 [(0, .ref q0), (1, .int x), (2, .int y), (3, .int z), (4, .int w), (5, .int (nI (fl_R_add_1 u 20 0)))] := hl
            refine lv_iload hx hb d_R_add_69 (lv_at hl 5 rfl) ?_
            refine lv_bipush (v := 20) hx hb d_R_add_71 (by decide) ?_
            refine lv_icmp_ne (tgt := 79) hx hb d_R_add_73 (by decide) (fun c13 => ?_) (fun c13 => ?_)
            · have c13a : ¬ ((fl_R_add_1 u 20 0) = 20) := fun h => c13 ((nI_eq (a := fl_R_add_1 u 20 0) (b := 20) (by omega) (by decide)).mpr h)
              refine lv_iload_n hx hb d_R_add_79 rfl (lv_at hl 3 rfl) ?_
              refine lv_iload_n hx hb d_R_add_80 rfl (lv_at hl 1 rfl) ?_
              refine lv_icmp_lt (tgt := 95) hx hb d_R_add_81 (by decide) (fun c14 => ?_) (fun c14 => ?_)
              · have c14a : z < x := c14
                refine lv_iconst (v := 1) hx hb d_R_add_95 (by decide) ?_
                refine lv_goto (tgt := 100) hx hb d_R_add_96 (by decide) ?_
                refine lv_istore (lv' := [(6, .int 1), (0, .ref q0), (1, .int x), (2, .int y), (3, .int z), (4, .int w), (5, .int (nI (fl_R_add_1 u 20 0)))]) hx hb d_R_add_100 hl (by decide) rfl (fun ls hl => ?_)
                refine lv_aload_n hx hb d_R_add_102 rfl (lv_at hl 1 rfl) ?_
                refine rget S hK hP 0 rfl rfl in_R 1 (by decide) kF_R_13 rfl d_R_add_103 ?_
                refine lv_iload hx hb d_R_add_106 (lv_at hl 6 rfl) ?_
                refine lv_iload hx hb d_R_add_108 (lv_at hl 0 rfl) ?_
                refine lv_if_eq (tgt := 117) hx hb d_R_add_110 (by decide) (fun h => absurd h (by decide)) (fun _ => ?_)
                refine lv_iload_n hx hb d_R_add_113 rfl (lv_at hl 4 rfl) ?_
                refine lv_goto (tgt := 118) hx hb d_R_add_114 (by decide) ?_
                refine riast (j := fl_R_add_1 u 20 0) (x := z) S hK hP hD hS 2 1 rfl rfl (by omega) (by first | decide | omega) d_R_add_118 (fun H locs hP hD hS => ?_)
                have hP : va_P D CLS [(q0, .inr (3, [.ref qu, .ref qa, .ref qb, .ref qc, .ref qd, .int (b2i (kn)), .int (nI (lns)), .ref qe, .ref qf, .ref qg, .ref qh])), (qu, .inl (cZ, 20, .inl (fun z9 => b2i (u z9)))), (qa, .inl (cI, 20, .inl (upd aX (fl_R_add_1 u 20 0) z))), (qb, .inl (cI, 20, .inl aY)), (qc, .inl (cI, 20, .inl bX)), (qd, .inl (cI, 20, .inl bY)), (qe, .inl (cI, 40, .inl ln)), (qf, .inl (cI, 820, .inl (fun z9 => nI (ac z9)))), (qg, .inl (cI, 41, .inl (fun z9 => nI (mn z9)))), (qh, .inl (cI, 861, .inl (fun z9 => nI (sm z9))))] H := hP
                have hD : va_D A [(q0, .inr (3, [.ref qu, .ref qa, .ref qb, .ref qc, .ref qd, .int (b2i (kn)), .int (nI (lns)), .ref qe, .ref qf, .ref qg, .ref qh])), (qu, .inl (cZ, 20, .inl (fun z9 => b2i (u z9)))), (qa, .inl (cI, 20, .inl (upd aX (fl_R_add_1 u 20 0) z))), (qb, .inl (cI, 20, .inl aY)), (qc, .inl (cI, 20, .inl bX)), (qd, .inl (cI, 20, .inl bY)), (qe, .inl (cI, 40, .inl ln)), (qf, .inl (cI, 820, .inl (fun z9 => nI (ac z9)))), (qg, .inl (cI, 41, .inl (fun z9 => nI (mn z9)))), (qh, .inl (cI, 861, .inl (fun z9 => nI (sm z9))))] := hD
                refine lv_aload_n hx hb d_R_add_119 rfl (lv_at hl 1 rfl) ?_
                refine rget S hK hP 0 rfl rfl in_R 2 (by decide) kF_R_17 rfl d_R_add_120 ?_
                refine lv_iload hx hb d_R_add_123 (lv_at hl 6 rfl) ?_
                refine lv_iload hx hb d_R_add_125 (lv_at hl 0 rfl) ?_
                refine lv_if_eq (tgt := 135) hx hb d_R_add_127 (by decide) (fun h => absurd h (by decide)) (fun _ => ?_)
                refine lv_iload hx hb d_R_add_130 (lv_at hl 5 rfl) ?_
                refine lv_goto (tgt := 136) hx hb d_R_add_132 (by decide) ?_
                refine riast (j := fl_R_add_1 u 20 0) (x := w) S hK hP hD hS 3 1 rfl rfl (by omega) (by first | decide | omega) d_R_add_136 (fun H locs hP hD hS => ?_)
                have hP : va_P D CLS [(q0, .inr (3, [.ref qu, .ref qa, .ref qb, .ref qc, .ref qd, .int (b2i (kn)), .int (nI (lns)), .ref qe, .ref qf, .ref qg, .ref qh])), (qu, .inl (cZ, 20, .inl (fun z9 => b2i (u z9)))), (qa, .inl (cI, 20, .inl (upd aX (fl_R_add_1 u 20 0) z))), (qb, .inl (cI, 20, .inl (upd aY (fl_R_add_1 u 20 0) w))), (qc, .inl (cI, 20, .inl bX)), (qd, .inl (cI, 20, .inl bY)), (qe, .inl (cI, 40, .inl ln)), (qf, .inl (cI, 820, .inl (fun z9 => nI (ac z9)))), (qg, .inl (cI, 41, .inl (fun z9 => nI (mn z9)))), (qh, .inl (cI, 861, .inl (fun z9 => nI (sm z9))))] H := hP
                have hD : va_D A [(q0, .inr (3, [.ref qu, .ref qa, .ref qb, .ref qc, .ref qd, .int (b2i (kn)), .int (nI (lns)), .ref qe, .ref qf, .ref qg, .ref qh])), (qu, .inl (cZ, 20, .inl (fun z9 => b2i (u z9)))), (qa, .inl (cI, 20, .inl (upd aX (fl_R_add_1 u 20 0) z))), (qb, .inl (cI, 20, .inl (upd aY (fl_R_add_1 u 20 0) w))), (qc, .inl (cI, 20, .inl bX)), (qd, .inl (cI, 20, .inl bY)), (qe, .inl (cI, 40, .inl ln)), (qf, .inl (cI, 820, .inl (fun z9 => nI (ac z9)))), (qg, .inl (cI, 41, .inl (fun z9 => nI (mn z9)))), (qh, .inl (cI, 861, .inl (fun z9 => nI (sm z9))))] := hD
                refine lv_aload_n hx hb d_R_add_137 rfl (lv_at hl 1 rfl) ?_
                refine rget S hK hP 0 rfl rfl in_R 3 (by decide) kF_R_20 rfl d_R_add_138 ?_
                refine lv_iload hx hb d_R_add_141 (lv_at hl 6 rfl) ?_
                refine lv_iload hx hb d_R_add_143 (lv_at hl 0 rfl) ?_
                refine lv_if_eq (tgt := 152) hx hb d_R_add_145 (by decide) (fun h => absurd h (by decide)) (fun _ => ?_)
                refine lv_iload_n hx hb d_R_add_148 rfl (lv_at hl 2 rfl) ?_
                refine lv_goto (tgt := 153) hx hb d_R_add_149 (by decide) ?_
                refine riast (j := fl_R_add_1 u 20 0) (x := x) S hK hP hD hS 4 1 rfl rfl (by omega) (by first | decide | omega) d_R_add_153 (fun H locs hP hD hS => ?_)
                have hP : va_P D CLS [(q0, .inr (3, [.ref qu, .ref qa, .ref qb, .ref qc, .ref qd, .int (b2i (kn)), .int (nI (lns)), .ref qe, .ref qf, .ref qg, .ref qh])), (qu, .inl (cZ, 20, .inl (fun z9 => b2i (u z9)))), (qa, .inl (cI, 20, .inl (upd aX (fl_R_add_1 u 20 0) z))), (qb, .inl (cI, 20, .inl (upd aY (fl_R_add_1 u 20 0) w))), (qc, .inl (cI, 20, .inl (upd bX (fl_R_add_1 u 20 0) x))), (qd, .inl (cI, 20, .inl bY)), (qe, .inl (cI, 40, .inl ln)), (qf, .inl (cI, 820, .inl (fun z9 => nI (ac z9)))), (qg, .inl (cI, 41, .inl (fun z9 => nI (mn z9)))), (qh, .inl (cI, 861, .inl (fun z9 => nI (sm z9))))] H := hP
                have hD : va_D A [(q0, .inr (3, [.ref qu, .ref qa, .ref qb, .ref qc, .ref qd, .int (b2i (kn)), .int (nI (lns)), .ref qe, .ref qf, .ref qg, .ref qh])), (qu, .inl (cZ, 20, .inl (fun z9 => b2i (u z9)))), (qa, .inl (cI, 20, .inl (upd aX (fl_R_add_1 u 20 0) z))), (qb, .inl (cI, 20, .inl (upd aY (fl_R_add_1 u 20 0) w))), (qc, .inl (cI, 20, .inl (upd bX (fl_R_add_1 u 20 0) x))), (qd, .inl (cI, 20, .inl bY)), (qe, .inl (cI, 40, .inl ln)), (qf, .inl (cI, 820, .inl (fun z9 => nI (ac z9)))), (qg, .inl (cI, 41, .inl (fun z9 => nI (mn z9)))), (qh, .inl (cI, 861, .inl (fun z9 => nI (sm z9))))] := hD
                refine lv_aload_n hx hb d_R_add_154 rfl (lv_at hl 1 rfl) ?_
                refine rget S hK hP 0 rfl rfl in_R 4 (by decide) kF_R_23 rfl d_R_add_155 ?_
                refine lv_iload hx hb d_R_add_158 (lv_at hl 6 rfl) ?_
                refine lv_iload hx hb d_R_add_160 (lv_at hl 0 rfl) ?_
                refine lv_if_eq (tgt := 169) hx hb d_R_add_162 (by decide) (fun h => absurd h (by decide)) (fun _ => ?_)
                refine lv_iload_n hx hb d_R_add_165 rfl (lv_at hl 3 rfl) ?_
                refine lv_goto (tgt := 171) hx hb d_R_add_166 (by decide) ?_
                refine riast (j := fl_R_add_1 u 20 0) (x := y) S hK hP hD hS 5 1 rfl rfl (by omega) (by first | decide | omega) d_R_add_171 (fun H locs hP hD hS => ?_)
                have hP : va_P D CLS [(q0, .inr (3, [.ref qu, .ref qa, .ref qb, .ref qc, .ref qd, .int (b2i (kn)), .int (nI (lns)), .ref qe, .ref qf, .ref qg, .ref qh])), (qu, .inl (cZ, 20, .inl (fun z9 => b2i (u z9)))), (qa, .inl (cI, 20, .inl (upd aX (fl_R_add_1 u 20 0) z))), (qb, .inl (cI, 20, .inl (upd aY (fl_R_add_1 u 20 0) w))), (qc, .inl (cI, 20, .inl (upd bX (fl_R_add_1 u 20 0) x))), (qd, .inl (cI, 20, .inl (upd bY (fl_R_add_1 u 20 0) y))), (qe, .inl (cI, 40, .inl ln)), (qf, .inl (cI, 820, .inl (fun z9 => nI (ac z9)))), (qg, .inl (cI, 41, .inl (fun z9 => nI (mn z9)))), (qh, .inl (cI, 861, .inl (fun z9 => nI (sm z9))))] H := hP
                have hD : va_D A [(q0, .inr (3, [.ref qu, .ref qa, .ref qb, .ref qc, .ref qd, .int (b2i (kn)), .int (nI (lns)), .ref qe, .ref qf, .ref qg, .ref qh])), (qu, .inl (cZ, 20, .inl (fun z9 => b2i (u z9)))), (qa, .inl (cI, 20, .inl (upd aX (fl_R_add_1 u 20 0) z))), (qb, .inl (cI, 20, .inl (upd aY (fl_R_add_1 u 20 0) w))), (qc, .inl (cI, 20, .inl (upd bX (fl_R_add_1 u 20 0) x))), (qd, .inl (cI, 20, .inl (upd bY (fl_R_add_1 u 20 0) y))), (qe, .inl (cI, 40, .inl ln)), (qf, .inl (cI, 820, .inl (fun z9 => nI (ac z9)))), (qg, .inl (cI, 41, .inl (fun z9 => nI (mn z9)))), (qh, .inl (cI, 861, .inl (fun z9 => nI (sm z9))))] := hD
                refine lv_iconst (v := 0) hx hb d_R_add_172 (by decide) ?_
                refine lv_istore (lv' := [(7, .int 0), (6, .int 1), (0, .ref q0), (1, .int x), (2, .int y), (3, .int z), (4, .int w), (5, .int (nI (fl_R_add_1 u 20 0)))]) hx hb d_R_add_173 hl (by decide) rfl (fun ls hl => ?_)
                exact key2 20 0 (fl_R_add_1 u 20 0) (upd aX (fl_R_add_1 u 20 0) z) (upd aY (fl_R_add_1 u 20 0) w) (upd bX (fl_R_add_1 u 20 0) x) (upd bY (fl_R_add_1 u 20 0) y) (by omega) (by omega) _ _ hP hD hS ls (lv_sub hl [2, 7, 0] rfl) (show f_R_add u aX aY bX bY kn x y z w = (fl_R_add_2 u kn 20 0 (fl_R_add_1 u 20 0) (upd aX (fl_R_add_1 u 20 0) z) (upd aY (fl_R_add_1 u 20 0) w) (upd bX (fl_R_add_1 u 20 0) x) (upd bY (fl_R_add_1 u 20 0) y)) from by unfold f_R_add; rw [if_pos c8a, if_pos c9a, if_pos c10a, if_pos c11a, if_neg c12a, if_neg c13a, if_pos c14a])
              · have c14a : ¬ (z < x) := c14
                refine lv_iload_n hx hb d_R_add_84 rfl (lv_at hl 3 rfl) ?_
                refine lv_iload_n hx hb d_R_add_85 rfl (lv_at hl 1 rfl) ?_
                refine lv_icmp_ne (tgt := 99) hx hb d_R_add_86 (by decide) (fun c19 => ?_) (fun c19 => ?_)
                · have c19a : ¬ (z = x) := c19
                  refine lv_iconst (v := 0) hx hb d_R_add_99 (by decide) ?_
                  refine lv_istore (lv' := [(6, .int 0), (0, .ref q0), (1, .int x), (2, .int y), (3, .int z), (4, .int w), (5, .int (nI (fl_R_add_1 u 20 0)))]) hx hb d_R_add_100 hl (by decide) rfl (fun ls hl => ?_)
                  refine lv_aload_n hx hb d_R_add_102 rfl (lv_at hl 1 rfl) ?_
                  refine rget S hK hP 0 rfl rfl in_R 1 (by decide) kF_R_13 rfl d_R_add_103 ?_
                  refine lv_iload hx hb d_R_add_106 (lv_at hl 6 rfl) ?_
                  refine lv_iload hx hb d_R_add_108 (lv_at hl 0 rfl) ?_
                  refine lv_if_eq (tgt := 117) hx hb d_R_add_110 (by decide) (fun _ => ?_) (fun h => absurd (by decide) h)
                  refine lv_iload_n hx hb d_R_add_117 rfl (lv_at hl 2 rfl) ?_
                  refine riast (j := fl_R_add_1 u 20 0) (x := x) S hK hP hD hS 2 1 rfl rfl (by omega) (by first | decide | omega) d_R_add_118 (fun H locs hP hD hS => ?_)
                  have hP : va_P D CLS [(q0, .inr (3, [.ref qu, .ref qa, .ref qb, .ref qc, .ref qd, .int (b2i (kn)), .int (nI (lns)), .ref qe, .ref qf, .ref qg, .ref qh])), (qu, .inl (cZ, 20, .inl (fun z9 => b2i (u z9)))), (qa, .inl (cI, 20, .inl (upd aX (fl_R_add_1 u 20 0) x))), (qb, .inl (cI, 20, .inl aY)), (qc, .inl (cI, 20, .inl bX)), (qd, .inl (cI, 20, .inl bY)), (qe, .inl (cI, 40, .inl ln)), (qf, .inl (cI, 820, .inl (fun z9 => nI (ac z9)))), (qg, .inl (cI, 41, .inl (fun z9 => nI (mn z9)))), (qh, .inl (cI, 861, .inl (fun z9 => nI (sm z9))))] H := hP
                  have hD : va_D A [(q0, .inr (3, [.ref qu, .ref qa, .ref qb, .ref qc, .ref qd, .int (b2i (kn)), .int (nI (lns)), .ref qe, .ref qf, .ref qg, .ref qh])), (qu, .inl (cZ, 20, .inl (fun z9 => b2i (u z9)))), (qa, .inl (cI, 20, .inl (upd aX (fl_R_add_1 u 20 0) x))), (qb, .inl (cI, 20, .inl aY)), (qc, .inl (cI, 20, .inl bX)), (qd, .inl (cI, 20, .inl bY)), (qe, .inl (cI, 40, .inl ln)), (qf, .inl (cI, 820, .inl (fun z9 => nI (ac z9)))), (qg, .inl (cI, 41, .inl (fun z9 => nI (mn z9)))), (qh, .inl (cI, 861, .inl (fun z9 => nI (sm z9))))] := hD
                  refine lv_aload_n hx hb d_R_add_119 rfl (lv_at hl 1 rfl) ?_
                  refine rget S hK hP 0 rfl rfl in_R 2 (by decide) kF_R_17 rfl d_R_add_120 ?_
                  refine lv_iload hx hb d_R_add_123 (lv_at hl 6 rfl) ?_
                  refine lv_iload hx hb d_R_add_125 (lv_at hl 0 rfl) ?_
                  refine lv_if_eq (tgt := 135) hx hb d_R_add_127 (by decide) (fun _ => ?_) (fun h => absurd (by decide) h)
                  refine lv_iload_n hx hb d_R_add_135 rfl (lv_at hl 3 rfl) ?_
                  refine riast (j := fl_R_add_1 u 20 0) (x := y) S hK hP hD hS 3 1 rfl rfl (by omega) (by first | decide | omega) d_R_add_136 (fun H locs hP hD hS => ?_)
                  have hP : va_P D CLS [(q0, .inr (3, [.ref qu, .ref qa, .ref qb, .ref qc, .ref qd, .int (b2i (kn)), .int (nI (lns)), .ref qe, .ref qf, .ref qg, .ref qh])), (qu, .inl (cZ, 20, .inl (fun z9 => b2i (u z9)))), (qa, .inl (cI, 20, .inl (upd aX (fl_R_add_1 u 20 0) x))), (qb, .inl (cI, 20, .inl (upd aY (fl_R_add_1 u 20 0) y))), (qc, .inl (cI, 20, .inl bX)), (qd, .inl (cI, 20, .inl bY)), (qe, .inl (cI, 40, .inl ln)), (qf, .inl (cI, 820, .inl (fun z9 => nI (ac z9)))), (qg, .inl (cI, 41, .inl (fun z9 => nI (mn z9)))), (qh, .inl (cI, 861, .inl (fun z9 => nI (sm z9))))] H := hP
                  have hD : va_D A [(q0, .inr (3, [.ref qu, .ref qa, .ref qb, .ref qc, .ref qd, .int (b2i (kn)), .int (nI (lns)), .ref qe, .ref qf, .ref qg, .ref qh])), (qu, .inl (cZ, 20, .inl (fun z9 => b2i (u z9)))), (qa, .inl (cI, 20, .inl (upd aX (fl_R_add_1 u 20 0) x))), (qb, .inl (cI, 20, .inl (upd aY (fl_R_add_1 u 20 0) y))), (qc, .inl (cI, 20, .inl bX)), (qd, .inl (cI, 20, .inl bY)), (qe, .inl (cI, 40, .inl ln)), (qf, .inl (cI, 820, .inl (fun z9 => nI (ac z9)))), (qg, .inl (cI, 41, .inl (fun z9 => nI (mn z9)))), (qh, .inl (cI, 861, .inl (fun z9 => nI (sm z9))))] := hD
                  refine lv_aload_n hx hb d_R_add_137 rfl (lv_at hl 1 rfl) ?_
                  refine rget S hK hP 0 rfl rfl in_R 3 (by decide) kF_R_20 rfl d_R_add_138 ?_
                  refine lv_iload hx hb d_R_add_141 (lv_at hl 6 rfl) ?_
                  refine lv_iload hx hb d_R_add_143 (lv_at hl 0 rfl) ?_
                  refine lv_if_eq (tgt := 152) hx hb d_R_add_145 (by decide) (fun _ => ?_) (fun h => absurd (by decide) h)
                  refine lv_iload_n hx hb d_R_add_152 rfl (lv_at hl 4 rfl) ?_
                  refine riast (j := fl_R_add_1 u 20 0) (x := z) S hK hP hD hS 4 1 rfl rfl (by omega) (by first | decide | omega) d_R_add_153 (fun H locs hP hD hS => ?_)
                  have hP : va_P D CLS [(q0, .inr (3, [.ref qu, .ref qa, .ref qb, .ref qc, .ref qd, .int (b2i (kn)), .int (nI (lns)), .ref qe, .ref qf, .ref qg, .ref qh])), (qu, .inl (cZ, 20, .inl (fun z9 => b2i (u z9)))), (qa, .inl (cI, 20, .inl (upd aX (fl_R_add_1 u 20 0) x))), (qb, .inl (cI, 20, .inl (upd aY (fl_R_add_1 u 20 0) y))), (qc, .inl (cI, 20, .inl (upd bX (fl_R_add_1 u 20 0) z))), (qd, .inl (cI, 20, .inl bY)), (qe, .inl (cI, 40, .inl ln)), (qf, .inl (cI, 820, .inl (fun z9 => nI (ac z9)))), (qg, .inl (cI, 41, .inl (fun z9 => nI (mn z9)))), (qh, .inl (cI, 861, .inl (fun z9 => nI (sm z9))))] H := hP
                  have hD : va_D A [(q0, .inr (3, [.ref qu, .ref qa, .ref qb, .ref qc, .ref qd, .int (b2i (kn)), .int (nI (lns)), .ref qe, .ref qf, .ref qg, .ref qh])), (qu, .inl (cZ, 20, .inl (fun z9 => b2i (u z9)))), (qa, .inl (cI, 20, .inl (upd aX (fl_R_add_1 u 20 0) x))), (qb, .inl (cI, 20, .inl (upd aY (fl_R_add_1 u 20 0) y))), (qc, .inl (cI, 20, .inl (upd bX (fl_R_add_1 u 20 0) z))), (qd, .inl (cI, 20, .inl bY)), (qe, .inl (cI, 40, .inl ln)), (qf, .inl (cI, 820, .inl (fun z9 => nI (ac z9)))), (qg, .inl (cI, 41, .inl (fun z9 => nI (mn z9)))), (qh, .inl (cI, 861, .inl (fun z9 => nI (sm z9))))] := hD
                  refine lv_aload_n hx hb d_R_add_154 rfl (lv_at hl 1 rfl) ?_
                  refine rget S hK hP 0 rfl rfl in_R 4 (by decide) kF_R_23 rfl d_R_add_155 ?_
                  refine lv_iload hx hb d_R_add_158 (lv_at hl 6 rfl) ?_
                  refine lv_iload hx hb d_R_add_160 (lv_at hl 0 rfl) ?_
                  refine lv_if_eq (tgt := 169) hx hb d_R_add_162 (by decide) (fun _ => ?_) (fun h => absurd (by decide) h)
                  refine lv_iload hx hb d_R_add_169 (lv_at hl 5 rfl) ?_
                  refine riast (j := fl_R_add_1 u 20 0) (x := w) S hK hP hD hS 5 1 rfl rfl (by omega) (by first | decide | omega) d_R_add_171 (fun H locs hP hD hS => ?_)
                  have hP : va_P D CLS [(q0, .inr (3, [.ref qu, .ref qa, .ref qb, .ref qc, .ref qd, .int (b2i (kn)), .int (nI (lns)), .ref qe, .ref qf, .ref qg, .ref qh])), (qu, .inl (cZ, 20, .inl (fun z9 => b2i (u z9)))), (qa, .inl (cI, 20, .inl (upd aX (fl_R_add_1 u 20 0) x))), (qb, .inl (cI, 20, .inl (upd aY (fl_R_add_1 u 20 0) y))), (qc, .inl (cI, 20, .inl (upd bX (fl_R_add_1 u 20 0) z))), (qd, .inl (cI, 20, .inl (upd bY (fl_R_add_1 u 20 0) w))), (qe, .inl (cI, 40, .inl ln)), (qf, .inl (cI, 820, .inl (fun z9 => nI (ac z9)))), (qg, .inl (cI, 41, .inl (fun z9 => nI (mn z9)))), (qh, .inl (cI, 861, .inl (fun z9 => nI (sm z9))))] H := hP
                  have hD : va_D A [(q0, .inr (3, [.ref qu, .ref qa, .ref qb, .ref qc, .ref qd, .int (b2i (kn)), .int (nI (lns)), .ref qe, .ref qf, .ref qg, .ref qh])), (qu, .inl (cZ, 20, .inl (fun z9 => b2i (u z9)))), (qa, .inl (cI, 20, .inl (upd aX (fl_R_add_1 u 20 0) x))), (qb, .inl (cI, 20, .inl (upd aY (fl_R_add_1 u 20 0) y))), (qc, .inl (cI, 20, .inl (upd bX (fl_R_add_1 u 20 0) z))), (qd, .inl (cI, 20, .inl (upd bY (fl_R_add_1 u 20 0) w))), (qe, .inl (cI, 40, .inl ln)), (qf, .inl (cI, 820, .inl (fun z9 => nI (ac z9)))), (qg, .inl (cI, 41, .inl (fun z9 => nI (mn z9)))), (qh, .inl (cI, 861, .inl (fun z9 => nI (sm z9))))] := hD
                  refine lv_iconst (v := 0) hx hb d_R_add_172 (by decide) ?_
                  refine lv_istore (lv' := [(7, .int 0), (6, .int 0), (0, .ref q0), (1, .int x), (2, .int y), (3, .int z), (4, .int w), (5, .int (nI (fl_R_add_1 u 20 0)))]) hx hb d_R_add_173 hl (by decide) rfl (fun ls hl => ?_)
                  exact key2 20 0 (fl_R_add_1 u 20 0) (upd aX (fl_R_add_1 u 20 0) x) (upd aY (fl_R_add_1 u 20 0) y) (upd bX (fl_R_add_1 u 20 0) z) (upd bY (fl_R_add_1 u 20 0) w) (by omega) (by omega) _ _ hP hD hS ls (lv_sub hl [2, 7, 0] rfl) (show f_R_add u aX aY bX bY kn x y z w = (fl_R_add_2 u kn 20 0 (fl_R_add_1 u 20 0) (upd aX (fl_R_add_1 u 20 0) x) (upd aY (fl_R_add_1 u 20 0) y) (upd bX (fl_R_add_1 u 20 0) z) (upd bY (fl_R_add_1 u 20 0) w)) from by unfold f_R_add; rw [if_pos c8a, if_pos c9a, if_pos c10a, if_pos c11a, if_neg c12a, if_neg c13a, if_neg c14a, if_neg c19a])
                · have c19a : z = x := c19
                  refine lv_iload hx hb d_R_add_89 (lv_at hl 4 rfl) ?_
                  refine lv_iload_n hx hb d_R_add_91 rfl (lv_at hl 2 rfl) ?_
                  refine lv_icmp_ge (tgt := 99) hx hb d_R_add_92 (by decide) (fun c24 => ?_) (fun c24 => ?_)
                  · have c24a : y ≤ w := c24
                    refine lv_iconst (v := 0) hx hb d_R_add_99 (by decide) ?_
                    refine lv_istore (lv' := [(6, .int 0), (0, .ref q0), (1, .int x), (2, .int y), (3, .int z), (4, .int w), (5, .int (nI (fl_R_add_1 u 20 0)))]) hx hb d_R_add_100 hl (by decide) rfl (fun ls hl => ?_)
                    refine lv_aload_n hx hb d_R_add_102 rfl (lv_at hl 1 rfl) ?_
                    refine rget S hK hP 0 rfl rfl in_R 1 (by decide) kF_R_13 rfl d_R_add_103 ?_
                    refine lv_iload hx hb d_R_add_106 (lv_at hl 6 rfl) ?_
                    refine lv_iload hx hb d_R_add_108 (lv_at hl 0 rfl) ?_
                    refine lv_if_eq (tgt := 117) hx hb d_R_add_110 (by decide) (fun _ => ?_) (fun h => absurd (by decide) h)
                    refine lv_iload_n hx hb d_R_add_117 rfl (lv_at hl 2 rfl) ?_
                    refine riast (j := fl_R_add_1 u 20 0) (x := x) S hK hP hD hS 2 1 rfl rfl (by omega) (by first | decide | omega) d_R_add_118 (fun H locs hP hD hS => ?_)
                    have hP : va_P D CLS [(q0, .inr (3, [.ref qu, .ref qa, .ref qb, .ref qc, .ref qd, .int (b2i (kn)), .int (nI (lns)), .ref qe, .ref qf, .ref qg, .ref qh])), (qu, .inl (cZ, 20, .inl (fun z9 => b2i (u z9)))), (qa, .inl (cI, 20, .inl (upd aX (fl_R_add_1 u 20 0) x))), (qb, .inl (cI, 20, .inl aY)), (qc, .inl (cI, 20, .inl bX)), (qd, .inl (cI, 20, .inl bY)), (qe, .inl (cI, 40, .inl ln)), (qf, .inl (cI, 820, .inl (fun z9 => nI (ac z9)))), (qg, .inl (cI, 41, .inl (fun z9 => nI (mn z9)))), (qh, .inl (cI, 861, .inl (fun z9 => nI (sm z9))))] H := hP
                    have hD : va_D A [(q0, .inr (3, [.ref qu, .ref qa, .ref qb, .ref qc, .ref qd, .int (b2i (kn)), .int (nI (lns)), .ref qe, .ref qf, .ref qg, .ref qh])), (qu, .inl (cZ, 20, .inl (fun z9 => b2i (u z9)))), (qa, .inl (cI, 20, .inl (upd aX (fl_R_add_1 u 20 0) x))), (qb, .inl (cI, 20, .inl aY)), (qc, .inl (cI, 20, .inl bX)), (qd, .inl (cI, 20, .inl bY)), (qe, .inl (cI, 40, .inl ln)), (qf, .inl (cI, 820, .inl (fun z9 => nI (ac z9)))), (qg, .inl (cI, 41, .inl (fun z9 => nI (mn z9)))), (qh, .inl (cI, 861, .inl (fun z9 => nI (sm z9))))] := hD
                    refine lv_aload_n hx hb d_R_add_119 rfl (lv_at hl 1 rfl) ?_
                    refine rget S hK hP 0 rfl rfl in_R 2 (by decide) kF_R_17 rfl d_R_add_120 ?_
                    refine lv_iload hx hb d_R_add_123 (lv_at hl 6 rfl) ?_
                    refine lv_iload hx hb d_R_add_125 (lv_at hl 0 rfl) ?_
                    refine lv_if_eq (tgt := 135) hx hb d_R_add_127 (by decide) (fun _ => ?_) (fun h => absurd (by decide) h)
                    refine lv_iload_n hx hb d_R_add_135 rfl (lv_at hl 3 rfl) ?_
                    refine riast (j := fl_R_add_1 u 20 0) (x := y) S hK hP hD hS 3 1 rfl rfl (by omega) (by first | decide | omega) d_R_add_136 (fun H locs hP hD hS => ?_)
                    have hP : va_P D CLS [(q0, .inr (3, [.ref qu, .ref qa, .ref qb, .ref qc, .ref qd, .int (b2i (kn)), .int (nI (lns)), .ref qe, .ref qf, .ref qg, .ref qh])), (qu, .inl (cZ, 20, .inl (fun z9 => b2i (u z9)))), (qa, .inl (cI, 20, .inl (upd aX (fl_R_add_1 u 20 0) x))), (qb, .inl (cI, 20, .inl (upd aY (fl_R_add_1 u 20 0) y))), (qc, .inl (cI, 20, .inl bX)), (qd, .inl (cI, 20, .inl bY)), (qe, .inl (cI, 40, .inl ln)), (qf, .inl (cI, 820, .inl (fun z9 => nI (ac z9)))), (qg, .inl (cI, 41, .inl (fun z9 => nI (mn z9)))), (qh, .inl (cI, 861, .inl (fun z9 => nI (sm z9))))] H := hP
                    have hD : va_D A [(q0, .inr (3, [.ref qu, .ref qa, .ref qb, .ref qc, .ref qd, .int (b2i (kn)), .int (nI (lns)), .ref qe, .ref qf, .ref qg, .ref qh])), (qu, .inl (cZ, 20, .inl (fun z9 => b2i (u z9)))), (qa, .inl (cI, 20, .inl (upd aX (fl_R_add_1 u 20 0) x))), (qb, .inl (cI, 20, .inl (upd aY (fl_R_add_1 u 20 0) y))), (qc, .inl (cI, 20, .inl bX)), (qd, .inl (cI, 20, .inl bY)), (qe, .inl (cI, 40, .inl ln)), (qf, .inl (cI, 820, .inl (fun z9 => nI (ac z9)))), (qg, .inl (cI, 41, .inl (fun z9 => nI (mn z9)))), (qh, .inl (cI, 861, .inl (fun z9 => nI (sm z9))))] := hD
                    refine lv_aload_n hx hb d_R_add_137 rfl (lv_at hl 1 rfl) ?_
                    refine rget S hK hP 0 rfl rfl in_R 3 (by decide) kF_R_20 rfl d_R_add_138 ?_
                    refine lv_iload hx hb d_R_add_141 (lv_at hl 6 rfl) ?_
                    refine lv_iload hx hb d_R_add_143 (lv_at hl 0 rfl) ?_
                    refine lv_if_eq (tgt := 152) hx hb d_R_add_145 (by decide) (fun _ => ?_) (fun h => absurd (by decide) h)
                    refine lv_iload_n hx hb d_R_add_152 rfl (lv_at hl 4 rfl) ?_
                    refine riast (j := fl_R_add_1 u 20 0) (x := z) S hK hP hD hS 4 1 rfl rfl (by omega) (by first | decide | omega) d_R_add_153 (fun H locs hP hD hS => ?_)
                    have hP : va_P D CLS [(q0, .inr (3, [.ref qu, .ref qa, .ref qb, .ref qc, .ref qd, .int (b2i (kn)), .int (nI (lns)), .ref qe, .ref qf, .ref qg, .ref qh])), (qu, .inl (cZ, 20, .inl (fun z9 => b2i (u z9)))), (qa, .inl (cI, 20, .inl (upd aX (fl_R_add_1 u 20 0) x))), (qb, .inl (cI, 20, .inl (upd aY (fl_R_add_1 u 20 0) y))), (qc, .inl (cI, 20, .inl (upd bX (fl_R_add_1 u 20 0) z))), (qd, .inl (cI, 20, .inl bY)), (qe, .inl (cI, 40, .inl ln)), (qf, .inl (cI, 820, .inl (fun z9 => nI (ac z9)))), (qg, .inl (cI, 41, .inl (fun z9 => nI (mn z9)))), (qh, .inl (cI, 861, .inl (fun z9 => nI (sm z9))))] H := hP
                    have hD : va_D A [(q0, .inr (3, [.ref qu, .ref qa, .ref qb, .ref qc, .ref qd, .int (b2i (kn)), .int (nI (lns)), .ref qe, .ref qf, .ref qg, .ref qh])), (qu, .inl (cZ, 20, .inl (fun z9 => b2i (u z9)))), (qa, .inl (cI, 20, .inl (upd aX (fl_R_add_1 u 20 0) x))), (qb, .inl (cI, 20, .inl (upd aY (fl_R_add_1 u 20 0) y))), (qc, .inl (cI, 20, .inl (upd bX (fl_R_add_1 u 20 0) z))), (qd, .inl (cI, 20, .inl bY)), (qe, .inl (cI, 40, .inl ln)), (qf, .inl (cI, 820, .inl (fun z9 => nI (ac z9)))), (qg, .inl (cI, 41, .inl (fun z9 => nI (mn z9)))), (qh, .inl (cI, 861, .inl (fun z9 => nI (sm z9))))] := hD
                    refine lv_aload_n hx hb d_R_add_154 rfl (lv_at hl 1 rfl) ?_
                    refine rget S hK hP 0 rfl rfl in_R 4 (by decide) kF_R_23 rfl d_R_add_155 ?_
                    refine lv_iload hx hb d_R_add_158 (lv_at hl 6 rfl) ?_
                    refine lv_iload hx hb d_R_add_160 (lv_at hl 0 rfl) ?_
                    refine lv_if_eq (tgt := 169) hx hb d_R_add_162 (by decide) (fun _ => ?_) (fun h => absurd (by decide) h)
                    refine lv_iload hx hb d_R_add_169 (lv_at hl 5 rfl) ?_
                    refine riast (j := fl_R_add_1 u 20 0) (x := w) S hK hP hD hS 5 1 rfl rfl (by omega) (by first | decide | omega) d_R_add_171 (fun H locs hP hD hS => ?_)
                    have hP : va_P D CLS [(q0, .inr (3, [.ref qu, .ref qa, .ref qb, .ref qc, .ref qd, .int (b2i (kn)), .int (nI (lns)), .ref qe, .ref qf, .ref qg, .ref qh])), (qu, .inl (cZ, 20, .inl (fun z9 => b2i (u z9)))), (qa, .inl (cI, 20, .inl (upd aX (fl_R_add_1 u 20 0) x))), (qb, .inl (cI, 20, .inl (upd aY (fl_R_add_1 u 20 0) y))), (qc, .inl (cI, 20, .inl (upd bX (fl_R_add_1 u 20 0) z))), (qd, .inl (cI, 20, .inl (upd bY (fl_R_add_1 u 20 0) w))), (qe, .inl (cI, 40, .inl ln)), (qf, .inl (cI, 820, .inl (fun z9 => nI (ac z9)))), (qg, .inl (cI, 41, .inl (fun z9 => nI (mn z9)))), (qh, .inl (cI, 861, .inl (fun z9 => nI (sm z9))))] H := hP
                    have hD : va_D A [(q0, .inr (3, [.ref qu, .ref qa, .ref qb, .ref qc, .ref qd, .int (b2i (kn)), .int (nI (lns)), .ref qe, .ref qf, .ref qg, .ref qh])), (qu, .inl (cZ, 20, .inl (fun z9 => b2i (u z9)))), (qa, .inl (cI, 20, .inl (upd aX (fl_R_add_1 u 20 0) x))), (qb, .inl (cI, 20, .inl (upd aY (fl_R_add_1 u 20 0) y))), (qc, .inl (cI, 20, .inl (upd bX (fl_R_add_1 u 20 0) z))), (qd, .inl (cI, 20, .inl (upd bY (fl_R_add_1 u 20 0) w))), (qe, .inl (cI, 40, .inl ln)), (qf, .inl (cI, 820, .inl (fun z9 => nI (ac z9)))), (qg, .inl (cI, 41, .inl (fun z9 => nI (mn z9)))), (qh, .inl (cI, 861, .inl (fun z9 => nI (sm z9))))] := hD
                    refine lv_iconst (v := 0) hx hb d_R_add_172 (by decide) ?_
                    refine lv_istore (lv' := [(7, .int 0), (6, .int 0), (0, .ref q0), (1, .int x), (2, .int y), (3, .int z), (4, .int w), (5, .int (nI (fl_R_add_1 u 20 0)))]) hx hb d_R_add_173 hl (by decide) rfl (fun ls hl => ?_)
                    exact key2 20 0 (fl_R_add_1 u 20 0) (upd aX (fl_R_add_1 u 20 0) x) (upd aY (fl_R_add_1 u 20 0) y) (upd bX (fl_R_add_1 u 20 0) z) (upd bY (fl_R_add_1 u 20 0) w) (by omega) (by omega) _ _ hP hD hS ls (lv_sub hl [2, 7, 0] rfl) (show f_R_add u aX aY bX bY kn x y z w = (fl_R_add_2 u kn 20 0 (fl_R_add_1 u 20 0) (upd aX (fl_R_add_1 u 20 0) x) (upd aY (fl_R_add_1 u 20 0) y) (upd bX (fl_R_add_1 u 20 0) z) (upd bY (fl_R_add_1 u 20 0) w)) from by unfold f_R_add; rw [if_pos c8a, if_pos c9a, if_pos c10a, if_pos c11a, if_neg c12a, if_neg c13a, if_neg c14a, if_pos c19a, if_pos c24a])
                  · have c24a : ¬ (y ≤ w) := c24
                    refine lv_iconst (v := 1) hx hb d_R_add_95 (by decide) ?_
                    refine lv_goto (tgt := 100) hx hb d_R_add_96 (by decide) ?_
                    refine lv_istore (lv' := [(6, .int 1), (0, .ref q0), (1, .int x), (2, .int y), (3, .int z), (4, .int w), (5, .int (nI (fl_R_add_1 u 20 0)))]) hx hb d_R_add_100 hl (by decide) rfl (fun ls hl => ?_)
                    refine lv_aload_n hx hb d_R_add_102 rfl (lv_at hl 1 rfl) ?_
                    refine rget S hK hP 0 rfl rfl in_R 1 (by decide) kF_R_13 rfl d_R_add_103 ?_
                    refine lv_iload hx hb d_R_add_106 (lv_at hl 6 rfl) ?_
                    refine lv_iload hx hb d_R_add_108 (lv_at hl 0 rfl) ?_
                    refine lv_if_eq (tgt := 117) hx hb d_R_add_110 (by decide) (fun h => absurd h (by decide)) (fun _ => ?_)
                    refine lv_iload_n hx hb d_R_add_113 rfl (lv_at hl 4 rfl) ?_
                    refine lv_goto (tgt := 118) hx hb d_R_add_114 (by decide) ?_
                    refine riast (j := fl_R_add_1 u 20 0) (x := z) S hK hP hD hS 2 1 rfl rfl (by omega) (by first | decide | omega) d_R_add_118 (fun H locs hP hD hS => ?_)
                    have hP : va_P D CLS [(q0, .inr (3, [.ref qu, .ref qa, .ref qb, .ref qc, .ref qd, .int (b2i (kn)), .int (nI (lns)), .ref qe, .ref qf, .ref qg, .ref qh])), (qu, .inl (cZ, 20, .inl (fun z9 => b2i (u z9)))), (qa, .inl (cI, 20, .inl (upd aX (fl_R_add_1 u 20 0) z))), (qb, .inl (cI, 20, .inl aY)), (qc, .inl (cI, 20, .inl bX)), (qd, .inl (cI, 20, .inl bY)), (qe, .inl (cI, 40, .inl ln)), (qf, .inl (cI, 820, .inl (fun z9 => nI (ac z9)))), (qg, .inl (cI, 41, .inl (fun z9 => nI (mn z9)))), (qh, .inl (cI, 861, .inl (fun z9 => nI (sm z9))))] H := hP
                    have hD : va_D A [(q0, .inr (3, [.ref qu, .ref qa, .ref qb, .ref qc, .ref qd, .int (b2i (kn)), .int (nI (lns)), .ref qe, .ref qf, .ref qg, .ref qh])), (qu, .inl (cZ, 20, .inl (fun z9 => b2i (u z9)))), (qa, .inl (cI, 20, .inl (upd aX (fl_R_add_1 u 20 0) z))), (qb, .inl (cI, 20, .inl aY)), (qc, .inl (cI, 20, .inl bX)), (qd, .inl (cI, 20, .inl bY)), (qe, .inl (cI, 40, .inl ln)), (qf, .inl (cI, 820, .inl (fun z9 => nI (ac z9)))), (qg, .inl (cI, 41, .inl (fun z9 => nI (mn z9)))), (qh, .inl (cI, 861, .inl (fun z9 => nI (sm z9))))] := hD
                    refine lv_aload_n hx hb d_R_add_119 rfl (lv_at hl 1 rfl) ?_
                    refine rget S hK hP 0 rfl rfl in_R 2 (by decide) kF_R_17 rfl d_R_add_120 ?_
                    refine lv_iload hx hb d_R_add_123 (lv_at hl 6 rfl) ?_
                    refine lv_iload hx hb d_R_add_125 (lv_at hl 0 rfl) ?_
                    refine lv_if_eq (tgt := 135) hx hb d_R_add_127 (by decide) (fun h => absurd h (by decide)) (fun _ => ?_)
                    refine lv_iload hx hb d_R_add_130 (lv_at hl 5 rfl) ?_
                    refine lv_goto (tgt := 136) hx hb d_R_add_132 (by decide) ?_
                    refine riast (j := fl_R_add_1 u 20 0) (x := w) S hK hP hD hS 3 1 rfl rfl (by omega) (by first | decide | omega) d_R_add_136 (fun H locs hP hD hS => ?_)
                    have hP : va_P D CLS [(q0, .inr (3, [.ref qu, .ref qa, .ref qb, .ref qc, .ref qd, .int (b2i (kn)), .int (nI (lns)), .ref qe, .ref qf, .ref qg, .ref qh])), (qu, .inl (cZ, 20, .inl (fun z9 => b2i (u z9)))), (qa, .inl (cI, 20, .inl (upd aX (fl_R_add_1 u 20 0) z))), (qb, .inl (cI, 20, .inl (upd aY (fl_R_add_1 u 20 0) w))), (qc, .inl (cI, 20, .inl bX)), (qd, .inl (cI, 20, .inl bY)), (qe, .inl (cI, 40, .inl ln)), (qf, .inl (cI, 820, .inl (fun z9 => nI (ac z9)))), (qg, .inl (cI, 41, .inl (fun z9 => nI (mn z9)))), (qh, .inl (cI, 861, .inl (fun z9 => nI (sm z9))))] H := hP
                    have hD : va_D A [(q0, .inr (3, [.ref qu, .ref qa, .ref qb, .ref qc, .ref qd, .int (b2i (kn)), .int (nI (lns)), .ref qe, .ref qf, .ref qg, .ref qh])), (qu, .inl (cZ, 20, .inl (fun z9 => b2i (u z9)))), (qa, .inl (cI, 20, .inl (upd aX (fl_R_add_1 u 20 0) z))), (qb, .inl (cI, 20, .inl (upd aY (fl_R_add_1 u 20 0) w))), (qc, .inl (cI, 20, .inl bX)), (qd, .inl (cI, 20, .inl bY)), (qe, .inl (cI, 40, .inl ln)), (qf, .inl (cI, 820, .inl (fun z9 => nI (ac z9)))), (qg, .inl (cI, 41, .inl (fun z9 => nI (mn z9)))), (qh, .inl (cI, 861, .inl (fun z9 => nI (sm z9))))] := hD
                    refine lv_aload_n hx hb d_R_add_137 rfl (lv_at hl 1 rfl) ?_
                    refine rget S hK hP 0 rfl rfl in_R 3 (by decide) kF_R_20 rfl d_R_add_138 ?_
                    refine lv_iload hx hb d_R_add_141 (lv_at hl 6 rfl) ?_
                    refine lv_iload hx hb d_R_add_143 (lv_at hl 0 rfl) ?_
                    refine lv_if_eq (tgt := 152) hx hb d_R_add_145 (by decide) (fun h => absurd h (by decide)) (fun _ => ?_)
                    refine lv_iload_n hx hb d_R_add_148 rfl (lv_at hl 2 rfl) ?_
                    refine lv_goto (tgt := 153) hx hb d_R_add_149 (by decide) ?_
                    refine riast (j := fl_R_add_1 u 20 0) (x := x) S hK hP hD hS 4 1 rfl rfl (by omega) (by first | decide | omega) d_R_add_153 (fun H locs hP hD hS => ?_)
                    have hP : va_P D CLS [(q0, .inr (3, [.ref qu, .ref qa, .ref qb, .ref qc, .ref qd, .int (b2i (kn)), .int (nI (lns)), .ref qe, .ref qf, .ref qg, .ref qh])), (qu, .inl (cZ, 20, .inl (fun z9 => b2i (u z9)))), (qa, .inl (cI, 20, .inl (upd aX (fl_R_add_1 u 20 0) z))), (qb, .inl (cI, 20, .inl (upd aY (fl_R_add_1 u 20 0) w))), (qc, .inl (cI, 20, .inl (upd bX (fl_R_add_1 u 20 0) x))), (qd, .inl (cI, 20, .inl bY)), (qe, .inl (cI, 40, .inl ln)), (qf, .inl (cI, 820, .inl (fun z9 => nI (ac z9)))), (qg, .inl (cI, 41, .inl (fun z9 => nI (mn z9)))), (qh, .inl (cI, 861, .inl (fun z9 => nI (sm z9))))] H := hP
                    have hD : va_D A [(q0, .inr (3, [.ref qu, .ref qa, .ref qb, .ref qc, .ref qd, .int (b2i (kn)), .int (nI (lns)), .ref qe, .ref qf, .ref qg, .ref qh])), (qu, .inl (cZ, 20, .inl (fun z9 => b2i (u z9)))), (qa, .inl (cI, 20, .inl (upd aX (fl_R_add_1 u 20 0) z))), (qb, .inl (cI, 20, .inl (upd aY (fl_R_add_1 u 20 0) w))), (qc, .inl (cI, 20, .inl (upd bX (fl_R_add_1 u 20 0) x))), (qd, .inl (cI, 20, .inl bY)), (qe, .inl (cI, 40, .inl ln)), (qf, .inl (cI, 820, .inl (fun z9 => nI (ac z9)))), (qg, .inl (cI, 41, .inl (fun z9 => nI (mn z9)))), (qh, .inl (cI, 861, .inl (fun z9 => nI (sm z9))))] := hD
                    refine lv_aload_n hx hb d_R_add_154 rfl (lv_at hl 1 rfl) ?_
                    refine rget S hK hP 0 rfl rfl in_R 4 (by decide) kF_R_23 rfl d_R_add_155 ?_
                    refine lv_iload hx hb d_R_add_158 (lv_at hl 6 rfl) ?_
                    refine lv_iload hx hb d_R_add_160 (lv_at hl 0 rfl) ?_
                    refine lv_if_eq (tgt := 169) hx hb d_R_add_162 (by decide) (fun h => absurd h (by decide)) (fun _ => ?_)
                    refine lv_iload_n hx hb d_R_add_165 rfl (lv_at hl 3 rfl) ?_
                    refine lv_goto (tgt := 171) hx hb d_R_add_166 (by decide) ?_
                    refine riast (j := fl_R_add_1 u 20 0) (x := y) S hK hP hD hS 5 1 rfl rfl (by omega) (by first | decide | omega) d_R_add_171 (fun H locs hP hD hS => ?_)
                    have hP : va_P D CLS [(q0, .inr (3, [.ref qu, .ref qa, .ref qb, .ref qc, .ref qd, .int (b2i (kn)), .int (nI (lns)), .ref qe, .ref qf, .ref qg, .ref qh])), (qu, .inl (cZ, 20, .inl (fun z9 => b2i (u z9)))), (qa, .inl (cI, 20, .inl (upd aX (fl_R_add_1 u 20 0) z))), (qb, .inl (cI, 20, .inl (upd aY (fl_R_add_1 u 20 0) w))), (qc, .inl (cI, 20, .inl (upd bX (fl_R_add_1 u 20 0) x))), (qd, .inl (cI, 20, .inl (upd bY (fl_R_add_1 u 20 0) y))), (qe, .inl (cI, 40, .inl ln)), (qf, .inl (cI, 820, .inl (fun z9 => nI (ac z9)))), (qg, .inl (cI, 41, .inl (fun z9 => nI (mn z9)))), (qh, .inl (cI, 861, .inl (fun z9 => nI (sm z9))))] H := hP
                    have hD : va_D A [(q0, .inr (3, [.ref qu, .ref qa, .ref qb, .ref qc, .ref qd, .int (b2i (kn)), .int (nI (lns)), .ref qe, .ref qf, .ref qg, .ref qh])), (qu, .inl (cZ, 20, .inl (fun z9 => b2i (u z9)))), (qa, .inl (cI, 20, .inl (upd aX (fl_R_add_1 u 20 0) z))), (qb, .inl (cI, 20, .inl (upd aY (fl_R_add_1 u 20 0) w))), (qc, .inl (cI, 20, .inl (upd bX (fl_R_add_1 u 20 0) x))), (qd, .inl (cI, 20, .inl (upd bY (fl_R_add_1 u 20 0) y))), (qe, .inl (cI, 40, .inl ln)), (qf, .inl (cI, 820, .inl (fun z9 => nI (ac z9)))), (qg, .inl (cI, 41, .inl (fun z9 => nI (mn z9)))), (qh, .inl (cI, 861, .inl (fun z9 => nI (sm z9))))] := hD
                    refine lv_iconst (v := 0) hx hb d_R_add_172 (by decide) ?_
                    refine lv_istore (lv' := [(7, .int 0), (6, .int 1), (0, .ref q0), (1, .int x), (2, .int y), (3, .int z), (4, .int w), (5, .int (nI (fl_R_add_1 u 20 0)))]) hx hb d_R_add_173 hl (by decide) rfl (fun ls hl => ?_)
                    exact key2 20 0 (fl_R_add_1 u 20 0) (upd aX (fl_R_add_1 u 20 0) z) (upd aY (fl_R_add_1 u 20 0) w) (upd bX (fl_R_add_1 u 20 0) x) (upd bY (fl_R_add_1 u 20 0) y) (by omega) (by omega) _ _ hP hD hS ls (lv_sub hl [2, 7, 0] rfl) (show f_R_add u aX aY bX bY kn x y z w = (fl_R_add_2 u kn 20 0 (fl_R_add_1 u 20 0) (upd aX (fl_R_add_1 u 20 0) z) (upd aY (fl_R_add_1 u 20 0) w) (upd bX (fl_R_add_1 u 20 0) x) (upd bY (fl_R_add_1 u 20 0) y)) from by unfold f_R_add; rw [if_pos c8a, if_pos c9a, if_pos c10a, if_pos c11a, if_neg c12a, if_neg c13a, if_neg c14a, if_pos c19a, if_neg c24a])
            · have c13a : (fl_R_add_1 u 20 0) = 20 := (nI_eq (a := fl_R_add_1 u 20 0) (b := 20) (by omega) (by decide)).mp c13
              refine lv_bipush (v := (-3)) hx hb d_R_add_76 (by decide) ?_
              have eqf := (show f_R_add u aX aY bX bY kn x y z w = ((-3), u, aX, aY, bX, bY, kn) from by unfold f_R_add; rw [if_pos c8a, if_pos c9a, if_pos c10a, if_pos c11a, if_neg c12a, if_pos c13a])
              exact rretI S hr hlk (v := (-3)) (by rw [eqf]) (by rw [eqf]) hP hK hD hS d_R_add_78
          · have c12a : x = z := c12
            refine lv_iload_n hx hb d_R_add_34 rfl (lv_at hl 2 rfl) ?_
            refine lv_iload hx hb d_R_add_35 (lv_at hl 4 rfl) ?_
            refine lv_icmp_ne (tgt := 43) hx hb d_R_add_37 (by decide) (fun c33 => ?_) (fun c33 => ?_)
            · have c33a : ¬ (y = w) := c33
              refine lv_iconst (v := 0) hx hb d_R_add_43 (by decide) ?_
              refine lv_istore (lv' := [(5, .int 0), (0, .ref q0), (1, .int x), (2, .int y), (3, .int z), (4, .int w)]) hx hb d_R_add_44 hl (by decide) rfl (fun ls hl => ?_)
              refine key1 20 0 (by omega) _ _ hP hD hS ls (lv_sub hl [1, 2, 3, 4, 5, 0] rfl) (fun res hres hk1p H locs hP hD hS ls hl => ?_)
              subst hres
              have hP : va_P D CLS [(q0, .inr (3, [.ref qu, .ref qa, .ref qb, .ref qc, .ref qd, .int (b2i (kn)), .int (nI (lns)), .ref qe, .ref qf, .ref qg, .ref qh])), (qu, .inl (cZ, 20, .inl (fun z9 => b2i (u z9)))), (qa, .inl (cI, 20, .inl aX)), (qb, .inl (cI, 20, .inl aY)), (qc, .inl (cI, 20, .inl bX)), (qd, .inl (cI, 20, .inl bY)), (qe, .inl (cI, 40, .inl ln)), (qf, .inl (cI, 820, .inl (fun z9 => nI (ac z9)))), (qg, .inl (cI, 41, .inl (fun z9 => nI (mn z9)))), (qh, .inl (cI, 861, .inl (fun z9 => nI (sm z9))))] H := hP
              have hD : va_D A [(q0, .inr (3, [.ref qu, .ref qa, .ref qb, .ref qc, .ref qd, .int (b2i (kn)), .int (nI (lns)), .ref qe, .ref qf, .ref qg, .ref qh])), (qu, .inl (cZ, 20, .inl (fun z9 => b2i (u z9)))), (qa, .inl (cI, 20, .inl aX)), (qb, .inl (cI, 20, .inl aY)), (qc, .inl (cI, 20, .inl bX)), (qd, .inl (cI, 20, .inl bY)), (qe, .inl (cI, 40, .inl ln)), (qf, .inl (cI, 820, .inl (fun z9 => nI (ac z9)))), (qg, .inl (cI, 41, .inl (fun z9 => nI (mn z9)))), (qh, .inl (cI, 861, .inl (fun z9 => nI (sm z9))))] := hD
              have hl : lv_has ls 8 [(0, .ref q0), (1, .int x), (2, .int y), (3, .int z), (4, .int w), (5, .int (nI (fl_R_add_1 u 20 0)))] := hl
              refine lv_iload hx hb d_R_add_69 (lv_at hl 5 rfl) ?_
              refine lv_bipush (v := 20) hx hb d_R_add_71 (by decide) ?_
              refine lv_icmp_ne (tgt := 79) hx hb d_R_add_73 (by decide) (fun c34 => ?_) (fun c34 => ?_)
              · have c34a : ¬ ((fl_R_add_1 u 20 0) = 20) := fun h => c34 ((nI_eq (a := fl_R_add_1 u 20 0) (b := 20) (by omega) (by decide)).mpr h)
                refine lv_iload_n hx hb d_R_add_79 rfl (lv_at hl 3 rfl) ?_
                refine lv_iload_n hx hb d_R_add_80 rfl (lv_at hl 1 rfl) ?_
                refine lv_icmp_lt (tgt := 95) hx hb d_R_add_81 (by decide) (fun c35 => ?_) (fun c35 => ?_)
                · have c35a : z < x := c35
                  refine lv_iconst (v := 1) hx hb d_R_add_95 (by decide) ?_
                  refine lv_goto (tgt := 100) hx hb d_R_add_96 (by decide) ?_
                  refine lv_istore (lv' := [(6, .int 1), (0, .ref q0), (1, .int x), (2, .int y), (3, .int z), (4, .int w), (5, .int (nI (fl_R_add_1 u 20 0)))]) hx hb d_R_add_100 hl (by decide) rfl (fun ls hl => ?_)
                  refine lv_aload_n hx hb d_R_add_102 rfl (lv_at hl 1 rfl) ?_
                  refine rget S hK hP 0 rfl rfl in_R 1 (by decide) kF_R_13 rfl d_R_add_103 ?_
                  refine lv_iload hx hb d_R_add_106 (lv_at hl 6 rfl) ?_
                  refine lv_iload hx hb d_R_add_108 (lv_at hl 0 rfl) ?_
                  refine lv_if_eq (tgt := 117) hx hb d_R_add_110 (by decide) (fun h => absurd h (by decide)) (fun _ => ?_)
                  refine lv_iload_n hx hb d_R_add_113 rfl (lv_at hl 4 rfl) ?_
                  refine lv_goto (tgt := 118) hx hb d_R_add_114 (by decide) ?_
                  refine riast (j := fl_R_add_1 u 20 0) (x := z) S hK hP hD hS 2 1 rfl rfl (by omega) (by first | decide | omega) d_R_add_118 (fun H locs hP hD hS => ?_)
                  have hP : va_P D CLS [(q0, .inr (3, [.ref qu, .ref qa, .ref qb, .ref qc, .ref qd, .int (b2i (kn)), .int (nI (lns)), .ref qe, .ref qf, .ref qg, .ref qh])), (qu, .inl (cZ, 20, .inl (fun z9 => b2i (u z9)))), (qa, .inl (cI, 20, .inl (upd aX (fl_R_add_1 u 20 0) z))), (qb, .inl (cI, 20, .inl aY)), (qc, .inl (cI, 20, .inl bX)), (qd, .inl (cI, 20, .inl bY)), (qe, .inl (cI, 40, .inl ln)), (qf, .inl (cI, 820, .inl (fun z9 => nI (ac z9)))), (qg, .inl (cI, 41, .inl (fun z9 => nI (mn z9)))), (qh, .inl (cI, 861, .inl (fun z9 => nI (sm z9))))] H := hP
                  have hD : va_D A [(q0, .inr (3, [.ref qu, .ref qa, .ref qb, .ref qc, .ref qd, .int (b2i (kn)), .int (nI (lns)), .ref qe, .ref qf, .ref qg, .ref qh])), (qu, .inl (cZ, 20, .inl (fun z9 => b2i (u z9)))), (qa, .inl (cI, 20, .inl (upd aX (fl_R_add_1 u 20 0) z))), (qb, .inl (cI, 20, .inl aY)), (qc, .inl (cI, 20, .inl bX)), (qd, .inl (cI, 20, .inl bY)), (qe, .inl (cI, 40, .inl ln)), (qf, .inl (cI, 820, .inl (fun z9 => nI (ac z9)))), (qg, .inl (cI, 41, .inl (fun z9 => nI (mn z9)))), (qh, .inl (cI, 861, .inl (fun z9 => nI (sm z9))))] := hD
                  refine lv_aload_n hx hb d_R_add_119 rfl (lv_at hl 1 rfl) ?_
                  refine rget S hK hP 0 rfl rfl in_R 2 (by decide) kF_R_17 rfl d_R_add_120 ?_
                  refine lv_iload hx hb d_R_add_123 (lv_at hl 6 rfl) ?_
                  refine lv_iload hx hb d_R_add_125 (lv_at hl 0 rfl) ?_
                  refine lv_if_eq (tgt := 135) hx hb d_R_add_127 (by decide) (fun h => absurd h (by decide)) (fun _ => ?_)
                  refine lv_iload hx hb d_R_add_130 (lv_at hl 5 rfl) ?_
                  refine lv_goto (tgt := 136) hx hb d_R_add_132 (by decide) ?_
                  refine riast (j := fl_R_add_1 u 20 0) (x := w) S hK hP hD hS 3 1 rfl rfl (by omega) (by first | decide | omega) d_R_add_136 (fun H locs hP hD hS => ?_)
                  have hP : va_P D CLS [(q0, .inr (3, [.ref qu, .ref qa, .ref qb, .ref qc, .ref qd, .int (b2i (kn)), .int (nI (lns)), .ref qe, .ref qf, .ref qg, .ref qh])), (qu, .inl (cZ, 20, .inl (fun z9 => b2i (u z9)))), (qa, .inl (cI, 20, .inl (upd aX (fl_R_add_1 u 20 0) z))), (qb, .inl (cI, 20, .inl (upd aY (fl_R_add_1 u 20 0) w))), (qc, .inl (cI, 20, .inl bX)), (qd, .inl (cI, 20, .inl bY)), (qe, .inl (cI, 40, .inl ln)), (qf, .inl (cI, 820, .inl (fun z9 => nI (ac z9)))), (qg, .inl (cI, 41, .inl (fun z9 => nI (mn z9)))), (qh, .inl (cI, 861, .inl (fun z9 => nI (sm z9))))] H := hP
                  have hD : va_D A [(q0, .inr (3, [.ref qu, .ref qa, .ref qb, .ref qc, .ref qd, .int (b2i (kn)), .int (nI (lns)), .ref qe, .ref qf, .ref qg, .ref qh])), (qu, .inl (cZ, 20, .inl (fun z9 => b2i (u z9)))), (qa, .inl (cI, 20, .inl (upd aX (fl_R_add_1 u 20 0) z))), (qb, .inl (cI, 20, .inl (upd aY (fl_R_add_1 u 20 0) w))), (qc, .inl (cI, 20, .inl bX)), (qd, .inl (cI, 20, .inl bY)), (qe, .inl (cI, 40, .inl ln)), (qf, .inl (cI, 820, .inl (fun z9 => nI (ac z9)))), (qg, .inl (cI, 41, .inl (fun z9 => nI (mn z9)))), (qh, .inl (cI, 861, .inl (fun z9 => nI (sm z9))))] := hD
                  refine lv_aload_n hx hb d_R_add_137 rfl (lv_at hl 1 rfl) ?_
                  refine rget S hK hP 0 rfl rfl in_R 3 (by decide) kF_R_20 rfl d_R_add_138 ?_
                  refine lv_iload hx hb d_R_add_141 (lv_at hl 6 rfl) ?_
                  refine lv_iload hx hb d_R_add_143 (lv_at hl 0 rfl) ?_
                  refine lv_if_eq (tgt := 152) hx hb d_R_add_145 (by decide) (fun h => absurd h (by decide)) (fun _ => ?_)
                  refine lv_iload_n hx hb d_R_add_148 rfl (lv_at hl 2 rfl) ?_
                  refine lv_goto (tgt := 153) hx hb d_R_add_149 (by decide) ?_
                  refine riast (j := fl_R_add_1 u 20 0) (x := x) S hK hP hD hS 4 1 rfl rfl (by omega) (by first | decide | omega) d_R_add_153 (fun H locs hP hD hS => ?_)
                  have hP : va_P D CLS [(q0, .inr (3, [.ref qu, .ref qa, .ref qb, .ref qc, .ref qd, .int (b2i (kn)), .int (nI (lns)), .ref qe, .ref qf, .ref qg, .ref qh])), (qu, .inl (cZ, 20, .inl (fun z9 => b2i (u z9)))), (qa, .inl (cI, 20, .inl (upd aX (fl_R_add_1 u 20 0) z))), (qb, .inl (cI, 20, .inl (upd aY (fl_R_add_1 u 20 0) w))), (qc, .inl (cI, 20, .inl (upd bX (fl_R_add_1 u 20 0) x))), (qd, .inl (cI, 20, .inl bY)), (qe, .inl (cI, 40, .inl ln)), (qf, .inl (cI, 820, .inl (fun z9 => nI (ac z9)))), (qg, .inl (cI, 41, .inl (fun z9 => nI (mn z9)))), (qh, .inl (cI, 861, .inl (fun z9 => nI (sm z9))))] H := hP
                  have hD : va_D A [(q0, .inr (3, [.ref qu, .ref qa, .ref qb, .ref qc, .ref qd, .int (b2i (kn)), .int (nI (lns)), .ref qe, .ref qf, .ref qg, .ref qh])), (qu, .inl (cZ, 20, .inl (fun z9 => b2i (u z9)))), (qa, .inl (cI, 20, .inl (upd aX (fl_R_add_1 u 20 0) z))), (qb, .inl (cI, 20, .inl (upd aY (fl_R_add_1 u 20 0) w))), (qc, .inl (cI, 20, .inl (upd bX (fl_R_add_1 u 20 0) x))), (qd, .inl (cI, 20, .inl bY)), (qe, .inl (cI, 40, .inl ln)), (qf, .inl (cI, 820, .inl (fun z9 => nI (ac z9)))), (qg, .inl (cI, 41, .inl (fun z9 => nI (mn z9)))), (qh, .inl (cI, 861, .inl (fun z9 => nI (sm z9))))] := hD
                  refine lv_aload_n hx hb d_R_add_154 rfl (lv_at hl 1 rfl) ?_
                  refine rget S hK hP 0 rfl rfl in_R 4 (by decide) kF_R_23 rfl d_R_add_155 ?_
                  refine lv_iload hx hb d_R_add_158 (lv_at hl 6 rfl) ?_
                  refine lv_iload hx hb d_R_add_160 (lv_at hl 0 rfl) ?_
                  refine lv_if_eq (tgt := 169) hx hb d_R_add_162 (by decide) (fun h => absurd h (by decide)) (fun _ => ?_)
                  refine lv_iload_n hx hb d_R_add_165 rfl (lv_at hl 3 rfl) ?_
                  refine lv_goto (tgt := 171) hx hb d_R_add_166 (by decide) ?_
                  refine riast (j := fl_R_add_1 u 20 0) (x := y) S hK hP hD hS 5 1 rfl rfl (by omega) (by first | decide | omega) d_R_add_171 (fun H locs hP hD hS => ?_)
                  have hP : va_P D CLS [(q0, .inr (3, [.ref qu, .ref qa, .ref qb, .ref qc, .ref qd, .int (b2i (kn)), .int (nI (lns)), .ref qe, .ref qf, .ref qg, .ref qh])), (qu, .inl (cZ, 20, .inl (fun z9 => b2i (u z9)))), (qa, .inl (cI, 20, .inl (upd aX (fl_R_add_1 u 20 0) z))), (qb, .inl (cI, 20, .inl (upd aY (fl_R_add_1 u 20 0) w))), (qc, .inl (cI, 20, .inl (upd bX (fl_R_add_1 u 20 0) x))), (qd, .inl (cI, 20, .inl (upd bY (fl_R_add_1 u 20 0) y))), (qe, .inl (cI, 40, .inl ln)), (qf, .inl (cI, 820, .inl (fun z9 => nI (ac z9)))), (qg, .inl (cI, 41, .inl (fun z9 => nI (mn z9)))), (qh, .inl (cI, 861, .inl (fun z9 => nI (sm z9))))] H := hP
                  have hD : va_D A [(q0, .inr (3, [.ref qu, .ref qa, .ref qb, .ref qc, .ref qd, .int (b2i (kn)), .int (nI (lns)), .ref qe, .ref qf, .ref qg, .ref qh])), (qu, .inl (cZ, 20, .inl (fun z9 => b2i (u z9)))), (qa, .inl (cI, 20, .inl (upd aX (fl_R_add_1 u 20 0) z))), (qb, .inl (cI, 20, .inl (upd aY (fl_R_add_1 u 20 0) w))), (qc, .inl (cI, 20, .inl (upd bX (fl_R_add_1 u 20 0) x))), (qd, .inl (cI, 20, .inl (upd bY (fl_R_add_1 u 20 0) y))), (qe, .inl (cI, 40, .inl ln)), (qf, .inl (cI, 820, .inl (fun z9 => nI (ac z9)))), (qg, .inl (cI, 41, .inl (fun z9 => nI (mn z9)))), (qh, .inl (cI, 861, .inl (fun z9 => nI (sm z9))))] := hD
                  refine lv_iconst (v := 0) hx hb d_R_add_172 (by decide) ?_
                  refine lv_istore (lv' := [(7, .int 0), (6, .int 1), (0, .ref q0), (1, .int x), (2, .int y), (3, .int z), (4, .int w), (5, .int (nI (fl_R_add_1 u 20 0)))]) hx hb d_R_add_173 hl (by decide) rfl (fun ls hl => ?_)
                  exact key2 20 0 (fl_R_add_1 u 20 0) (upd aX (fl_R_add_1 u 20 0) z) (upd aY (fl_R_add_1 u 20 0) w) (upd bX (fl_R_add_1 u 20 0) x) (upd bY (fl_R_add_1 u 20 0) y) (by omega) (by omega) _ _ hP hD hS ls (lv_sub hl [2, 7, 0] rfl) (show f_R_add u aX aY bX bY kn x y z w = (fl_R_add_2 u kn 20 0 (fl_R_add_1 u 20 0) (upd aX (fl_R_add_1 u 20 0) z) (upd aY (fl_R_add_1 u 20 0) w) (upd bX (fl_R_add_1 u 20 0) x) (upd bY (fl_R_add_1 u 20 0) y)) from by unfold f_R_add; rw [if_pos c8a, if_pos c9a, if_pos c10a, if_pos c11a, if_pos c12a, if_neg c33a, if_neg c34a, if_pos c35a])
                · have c35a : ¬ (z < x) := c35
                  refine lv_iload_n hx hb d_R_add_84 rfl (lv_at hl 3 rfl) ?_
                  refine lv_iload_n hx hb d_R_add_85 rfl (lv_at hl 1 rfl) ?_
                  refine lv_icmp_ne (tgt := 99) hx hb d_R_add_86 (by decide) (fun c40 => ?_) (fun c40 => ?_)
                  · have c40a : ¬ (z = x) := c40
                    refine lv_iconst (v := 0) hx hb d_R_add_99 (by decide) ?_
                    refine lv_istore (lv' := [(6, .int 0), (0, .ref q0), (1, .int x), (2, .int y), (3, .int z), (4, .int w), (5, .int (nI (fl_R_add_1 u 20 0)))]) hx hb d_R_add_100 hl (by decide) rfl (fun ls hl => ?_)
                    refine lv_aload_n hx hb d_R_add_102 rfl (lv_at hl 1 rfl) ?_
                    refine rget S hK hP 0 rfl rfl in_R 1 (by decide) kF_R_13 rfl d_R_add_103 ?_
                    refine lv_iload hx hb d_R_add_106 (lv_at hl 6 rfl) ?_
                    refine lv_iload hx hb d_R_add_108 (lv_at hl 0 rfl) ?_
                    refine lv_if_eq (tgt := 117) hx hb d_R_add_110 (by decide) (fun _ => ?_) (fun h => absurd (by decide) h)
                    refine lv_iload_n hx hb d_R_add_117 rfl (lv_at hl 2 rfl) ?_
                    refine riast (j := fl_R_add_1 u 20 0) (x := x) S hK hP hD hS 2 1 rfl rfl (by omega) (by first | decide | omega) d_R_add_118 (fun H locs hP hD hS => ?_)
                    have hP : va_P D CLS [(q0, .inr (3, [.ref qu, .ref qa, .ref qb, .ref qc, .ref qd, .int (b2i (kn)), .int (nI (lns)), .ref qe, .ref qf, .ref qg, .ref qh])), (qu, .inl (cZ, 20, .inl (fun z9 => b2i (u z9)))), (qa, .inl (cI, 20, .inl (upd aX (fl_R_add_1 u 20 0) x))), (qb, .inl (cI, 20, .inl aY)), (qc, .inl (cI, 20, .inl bX)), (qd, .inl (cI, 20, .inl bY)), (qe, .inl (cI, 40, .inl ln)), (qf, .inl (cI, 820, .inl (fun z9 => nI (ac z9)))), (qg, .inl (cI, 41, .inl (fun z9 => nI (mn z9)))), (qh, .inl (cI, 861, .inl (fun z9 => nI (sm z9))))] H := hP
                    have hD : va_D A [(q0, .inr (3, [.ref qu, .ref qa, .ref qb, .ref qc, .ref qd, .int (b2i (kn)), .int (nI (lns)), .ref qe, .ref qf, .ref qg, .ref qh])), (qu, .inl (cZ, 20, .inl (fun z9 => b2i (u z9)))), (qa, .inl (cI, 20, .inl (upd aX (fl_R_add_1 u 20 0) x))), (qb, .inl (cI, 20, .inl aY)), (qc, .inl (cI, 20, .inl bX)), (qd, .inl (cI, 20, .inl bY)), (qe, .inl (cI, 40, .inl ln)), (qf, .inl (cI, 820, .inl (fun z9 => nI (ac z9)))), (qg, .inl (cI, 41, .inl (fun z9 => nI (mn z9)))), (qh, .inl (cI, 861, .inl (fun z9 => nI (sm z9))))] := hD
                    refine lv_aload_n hx hb d_R_add_119 rfl (lv_at hl 1 rfl) ?_
                    refine rget S hK hP 0 rfl rfl in_R 2 (by decide) kF_R_17 rfl d_R_add_120 ?_
                    refine lv_iload hx hb d_R_add_123 (lv_at hl 6 rfl) ?_
                    refine lv_iload hx hb d_R_add_125 (lv_at hl 0 rfl) ?_
                    refine lv_if_eq (tgt := 135) hx hb d_R_add_127 (by decide) (fun _ => ?_) (fun h => absurd (by decide) h)
                    refine lv_iload_n hx hb d_R_add_135 rfl (lv_at hl 3 rfl) ?_
                    refine riast (j := fl_R_add_1 u 20 0) (x := y) S hK hP hD hS 3 1 rfl rfl (by omega) (by first | decide | omega) d_R_add_136 (fun H locs hP hD hS => ?_)
                    have hP : va_P D CLS [(q0, .inr (3, [.ref qu, .ref qa, .ref qb, .ref qc, .ref qd, .int (b2i (kn)), .int (nI (lns)), .ref qe, .ref qf, .ref qg, .ref qh])), (qu, .inl (cZ, 20, .inl (fun z9 => b2i (u z9)))), (qa, .inl (cI, 20, .inl (upd aX (fl_R_add_1 u 20 0) x))), (qb, .inl (cI, 20, .inl (upd aY (fl_R_add_1 u 20 0) y))), (qc, .inl (cI, 20, .inl bX)), (qd, .inl (cI, 20, .inl bY)), (qe, .inl (cI, 40, .inl ln)), (qf, .inl (cI, 820, .inl (fun z9 => nI (ac z9)))), (qg, .inl (cI, 41, .inl (fun z9 => nI (mn z9)))), (qh, .inl (cI, 861, .inl (fun z9 => nI (sm z9))))] H := hP
                    have hD : va_D A [(q0, .inr (3, [.ref qu, .ref qa, .ref qb, .ref qc, .ref qd, .int (b2i (kn)), .int (nI (lns)), .ref qe, .ref qf, .ref qg, .ref qh])), (qu, .inl (cZ, 20, .inl (fun z9 => b2i (u z9)))), (qa, .inl (cI, 20, .inl (upd aX (fl_R_add_1 u 20 0) x))), (qb, .inl (cI, 20, .inl (upd aY (fl_R_add_1 u 20 0) y))), (qc, .inl (cI, 20, .inl bX)), (qd, .inl (cI, 20, .inl bY)), (qe, .inl (cI, 40, .inl ln)), (qf, .inl (cI, 820, .inl (fun z9 => nI (ac z9)))), (qg, .inl (cI, 41, .inl (fun z9 => nI (mn z9)))), (qh, .inl (cI, 861, .inl (fun z9 => nI (sm z9))))] := hD
                    refine lv_aload_n hx hb d_R_add_137 rfl (lv_at hl 1 rfl) ?_
                    refine rget S hK hP 0 rfl rfl in_R 3 (by decide) kF_R_20 rfl d_R_add_138 ?_
                    refine lv_iload hx hb d_R_add_141 (lv_at hl 6 rfl) ?_
                    refine lv_iload hx hb d_R_add_143 (lv_at hl 0 rfl) ?_
                    refine lv_if_eq (tgt := 152) hx hb d_R_add_145 (by decide) (fun _ => ?_) (fun h => absurd (by decide) h)
                    refine lv_iload_n hx hb d_R_add_152 rfl (lv_at hl 4 rfl) ?_
                    refine riast (j := fl_R_add_1 u 20 0) (x := z) S hK hP hD hS 4 1 rfl rfl (by omega) (by first | decide | omega) d_R_add_153 (fun H locs hP hD hS => ?_)
                    have hP : va_P D CLS [(q0, .inr (3, [.ref qu, .ref qa, .ref qb, .ref qc, .ref qd, .int (b2i (kn)), .int (nI (lns)), .ref qe, .ref qf, .ref qg, .ref qh])), (qu, .inl (cZ, 20, .inl (fun z9 => b2i (u z9)))), (qa, .inl (cI, 20, .inl (upd aX (fl_R_add_1 u 20 0) x))), (qb, .inl (cI, 20, .inl (upd aY (fl_R_add_1 u 20 0) y))), (qc, .inl (cI, 20, .inl (upd bX (fl_R_add_1 u 20 0) z))), (qd, .inl (cI, 20, .inl bY)), (qe, .inl (cI, 40, .inl ln)), (qf, .inl (cI, 820, .inl (fun z9 => nI (ac z9)))), (qg, .inl (cI, 41, .inl (fun z9 => nI (mn z9)))), (qh, .inl (cI, 861, .inl (fun z9 => nI (sm z9))))] H := hP
                    have hD : va_D A [(q0, .inr (3, [.ref qu, .ref qa, .ref qb, .ref qc, .ref qd, .int (b2i (kn)), .int (nI (lns)), .ref qe, .ref qf, .ref qg, .ref qh])), (qu, .inl (cZ, 20, .inl (fun z9 => b2i (u z9)))), (qa, .inl (cI, 20, .inl (upd aX (fl_R_add_1 u 20 0) x))), (qb, .inl (cI, 20, .inl (upd aY (fl_R_add_1 u 20 0) y))), (qc, .inl (cI, 20, .inl (upd bX (fl_R_add_1 u 20 0) z))), (qd, .inl (cI, 20, .inl bY)), (qe, .inl (cI, 40, .inl ln)), (qf, .inl (cI, 820, .inl (fun z9 => nI (ac z9)))), (qg, .inl (cI, 41, .inl (fun z9 => nI (mn z9)))), (qh, .inl (cI, 861, .inl (fun z9 => nI (sm z9))))] := hD
                    refine lv_aload_n hx hb d_R_add_154 rfl (lv_at hl 1 rfl) ?_
                    refine rget S hK hP 0 rfl rfl in_R 4 (by decide) kF_R_23 rfl d_R_add_155 ?_
                    refine lv_iload hx hb d_R_add_158 (lv_at hl 6 rfl) ?_
                    refine lv_iload hx hb d_R_add_160 (lv_at hl 0 rfl) ?_
                    refine lv_if_eq (tgt := 169) hx hb d_R_add_162 (by decide) (fun _ => ?_) (fun h => absurd (by decide) h)
                    refine lv_iload hx hb d_R_add_169 (lv_at hl 5 rfl) ?_
                    refine riast (j := fl_R_add_1 u 20 0) (x := w) S hK hP hD hS 5 1 rfl rfl (by omega) (by first | decide | omega) d_R_add_171 (fun H locs hP hD hS => ?_)
                    have hP : va_P D CLS [(q0, .inr (3, [.ref qu, .ref qa, .ref qb, .ref qc, .ref qd, .int (b2i (kn)), .int (nI (lns)), .ref qe, .ref qf, .ref qg, .ref qh])), (qu, .inl (cZ, 20, .inl (fun z9 => b2i (u z9)))), (qa, .inl (cI, 20, .inl (upd aX (fl_R_add_1 u 20 0) x))), (qb, .inl (cI, 20, .inl (upd aY (fl_R_add_1 u 20 0) y))), (qc, .inl (cI, 20, .inl (upd bX (fl_R_add_1 u 20 0) z))), (qd, .inl (cI, 20, .inl (upd bY (fl_R_add_1 u 20 0) w))), (qe, .inl (cI, 40, .inl ln)), (qf, .inl (cI, 820, .inl (fun z9 => nI (ac z9)))), (qg, .inl (cI, 41, .inl (fun z9 => nI (mn z9)))), (qh, .inl (cI, 861, .inl (fun z9 => nI (sm z9))))] H := hP
                    have hD : va_D A [(q0, .inr (3, [.ref qu, .ref qa, .ref qb, .ref qc, .ref qd, .int (b2i (kn)), .int (nI (lns)), .ref qe, .ref qf, .ref qg, .ref qh])), (qu, .inl (cZ, 20, .inl (fun z9 => b2i (u z9)))), (qa, .inl (cI, 20, .inl (upd aX (fl_R_add_1 u 20 0) x))), (qb, .inl (cI, 20, .inl (upd aY (fl_R_add_1 u 20 0) y))), (qc, .inl (cI, 20, .inl (upd bX (fl_R_add_1 u 20 0) z))), (qd, .inl (cI, 20, .inl (upd bY (fl_R_add_1 u 20 0) w))), (qe, .inl (cI, 40, .inl ln)), (qf, .inl (cI, 820, .inl (fun z9 => nI (ac z9)))), (qg, .inl (cI, 41, .inl (fun z9 => nI (mn z9)))), (qh, .inl (cI, 861, .inl (fun z9 => nI (sm z9))))] := hD
                    refine lv_iconst (v := 0) hx hb d_R_add_172 (by decide) ?_
                    refine lv_istore (lv' := [(7, .int 0), (6, .int 0), (0, .ref q0), (1, .int x), (2, .int y), (3, .int z), (4, .int w), (5, .int (nI (fl_R_add_1 u 20 0)))]) hx hb d_R_add_173 hl (by decide) rfl (fun ls hl => ?_)
                    exact key2 20 0 (fl_R_add_1 u 20 0) (upd aX (fl_R_add_1 u 20 0) x) (upd aY (fl_R_add_1 u 20 0) y) (upd bX (fl_R_add_1 u 20 0) z) (upd bY (fl_R_add_1 u 20 0) w) (by omega) (by omega) _ _ hP hD hS ls (lv_sub hl [2, 7, 0] rfl) (show f_R_add u aX aY bX bY kn x y z w = (fl_R_add_2 u kn 20 0 (fl_R_add_1 u 20 0) (upd aX (fl_R_add_1 u 20 0) x) (upd aY (fl_R_add_1 u 20 0) y) (upd bX (fl_R_add_1 u 20 0) z) (upd bY (fl_R_add_1 u 20 0) w)) from by unfold f_R_add; rw [if_pos c8a, if_pos c9a, if_pos c10a, if_pos c11a, if_pos c12a, if_neg c33a, if_neg c34a, if_neg c35a, if_neg c40a])
                  · have c40a : z = x := c40
                    refine lv_iload hx hb d_R_add_89 (lv_at hl 4 rfl) ?_
                    refine lv_iload_n hx hb d_R_add_91 rfl (lv_at hl 2 rfl) ?_
                    refine lv_icmp_ge (tgt := 99) hx hb d_R_add_92 (by decide) (fun c45 => ?_) (fun c45 => ?_)
                    · have c45a : y ≤ w := c45
                      refine lv_iconst (v := 0) hx hb d_R_add_99 (by decide) ?_
                      refine lv_istore (lv' := [(6, .int 0), (0, .ref q0), (1, .int x), (2, .int y), (3, .int z), (4, .int w), (5, .int (nI (fl_R_add_1 u 20 0)))]) hx hb d_R_add_100 hl (by decide) rfl (fun ls hl => ?_)
                      refine lv_aload_n hx hb d_R_add_102 rfl (lv_at hl 1 rfl) ?_
                      refine rget S hK hP 0 rfl rfl in_R 1 (by decide) kF_R_13 rfl d_R_add_103 ?_
                      refine lv_iload hx hb d_R_add_106 (lv_at hl 6 rfl) ?_
                      refine lv_iload hx hb d_R_add_108 (lv_at hl 0 rfl) ?_
                      refine lv_if_eq (tgt := 117) hx hb d_R_add_110 (by decide) (fun _ => ?_) (fun h => absurd (by decide) h)
                      refine lv_iload_n hx hb d_R_add_117 rfl (lv_at hl 2 rfl) ?_
                      refine riast (j := fl_R_add_1 u 20 0) (x := x) S hK hP hD hS 2 1 rfl rfl (by omega) (by first | decide | omega) d_R_add_118 (fun H locs hP hD hS => ?_)
                      have hP : va_P D CLS [(q0, .inr (3, [.ref qu, .ref qa, .ref qb, .ref qc, .ref qd, .int (b2i (kn)), .int (nI (lns)), .ref qe, .ref qf, .ref qg, .ref qh])), (qu, .inl (cZ, 20, .inl (fun z9 => b2i (u z9)))), (qa, .inl (cI, 20, .inl (upd aX (fl_R_add_1 u 20 0) x))), (qb, .inl (cI, 20, .inl aY)), (qc, .inl (cI, 20, .inl bX)), (qd, .inl (cI, 20, .inl bY)), (qe, .inl (cI, 40, .inl ln)), (qf, .inl (cI, 820, .inl (fun z9 => nI (ac z9)))), (qg, .inl (cI, 41, .inl (fun z9 => nI (mn z9)))), (qh, .inl (cI, 861, .inl (fun z9 => nI (sm z9))))] H := hP
                      have hD : va_D A [(q0, .inr (3, [.ref qu, .ref qa, .ref qb, .ref qc, .ref qd, .int (b2i (kn)), .int (nI (lns)), .ref qe, .ref qf, .ref qg, .ref qh])), (qu, .inl (cZ, 20, .inl (fun z9 => b2i (u z9)))), (qa, .inl (cI, 20, .inl (upd aX (fl_R_add_1 u 20 0) x))), (qb, .inl (cI, 20, .inl aY)), (qc, .inl (cI, 20, .inl bX)), (qd, .inl (cI, 20, .inl bY)), (qe, .inl (cI, 40, .inl ln)), (qf, .inl (cI, 820, .inl (fun z9 => nI (ac z9)))), (qg, .inl (cI, 41, .inl (fun z9 => nI (mn z9)))), (qh, .inl (cI, 861, .inl (fun z9 => nI (sm z9))))] := hD
                      refine lv_aload_n hx hb d_R_add_119 rfl (lv_at hl 1 rfl) ?_
                      refine rget S hK hP 0 rfl rfl in_R 2 (by decide) kF_R_17 rfl d_R_add_120 ?_
                      refine lv_iload hx hb d_R_add_123 (lv_at hl 6 rfl) ?_
                      refine lv_iload hx hb d_R_add_125 (lv_at hl 0 rfl) ?_
                      refine lv_if_eq (tgt := 135) hx hb d_R_add_127 (by decide) (fun _ => ?_) (fun h => absurd (by decide) h)
                      refine lv_iload_n hx hb d_R_add_135 rfl (lv_at hl 3 rfl) ?_
                      refine riast (j := fl_R_add_1 u 20 0) (x := y) S hK hP hD hS 3 1 rfl rfl (by omega) (by first | decide | omega) d_R_add_136 (fun H locs hP hD hS => ?_)
                      have hP : va_P D CLS [(q0, .inr (3, [.ref qu, .ref qa, .ref qb, .ref qc, .ref qd, .int (b2i (kn)), .int (nI (lns)), .ref qe, .ref qf, .ref qg, .ref qh])), (qu, .inl (cZ, 20, .inl (fun z9 => b2i (u z9)))), (qa, .inl (cI, 20, .inl (upd aX (fl_R_add_1 u 20 0) x))), (qb, .inl (cI, 20, .inl (upd aY (fl_R_add_1 u 20 0) y))), (qc, .inl (cI, 20, .inl bX)), (qd, .inl (cI, 20, .inl bY)), (qe, .inl (cI, 40, .inl ln)), (qf, .inl (cI, 820, .inl (fun z9 => nI (ac z9)))), (qg, .inl (cI, 41, .inl (fun z9 => nI (mn z9)))), (qh, .inl (cI, 861, .inl (fun z9 => nI (sm z9))))] H := hP
                      have hD : va_D A [(q0, .inr (3, [.ref qu, .ref qa, .ref qb, .ref qc, .ref qd, .int (b2i (kn)), .int (nI (lns)), .ref qe, .ref qf, .ref qg, .ref qh])), (qu, .inl (cZ, 20, .inl (fun z9 => b2i (u z9)))), (qa, .inl (cI, 20, .inl (upd aX (fl_R_add_1 u 20 0) x))), (qb, .inl (cI, 20, .inl (upd aY (fl_R_add_1 u 20 0) y))), (qc, .inl (cI, 20, .inl bX)), (qd, .inl (cI, 20, .inl bY)), (qe, .inl (cI, 40, .inl ln)), (qf, .inl (cI, 820, .inl (fun z9 => nI (ac z9)))), (qg, .inl (cI, 41, .inl (fun z9 => nI (mn z9)))), (qh, .inl (cI, 861, .inl (fun z9 => nI (sm z9))))] := hD
                      refine lv_aload_n hx hb d_R_add_137 rfl (lv_at hl 1 rfl) ?_
                      refine rget S hK hP 0 rfl rfl in_R 3 (by decide) kF_R_20 rfl d_R_add_138 ?_
                      refine lv_iload hx hb d_R_add_141 (lv_at hl 6 rfl) ?_
                      refine lv_iload hx hb d_R_add_143 (lv_at hl 0 rfl) ?_
                      refine lv_if_eq (tgt := 152) hx hb d_R_add_145 (by decide) (fun _ => ?_) (fun h => absurd (by decide) h)
                      refine lv_iload_n hx hb d_R_add_152 rfl (lv_at hl 4 rfl) ?_
                      refine riast (j := fl_R_add_1 u 20 0) (x := z) S hK hP hD hS 4 1 rfl rfl (by omega) (by first | decide | omega) d_R_add_153 (fun H locs hP hD hS => ?_)
                      have hP : va_P D CLS [(q0, .inr (3, [.ref qu, .ref qa, .ref qb, .ref qc, .ref qd, .int (b2i (kn)), .int (nI (lns)), .ref qe, .ref qf, .ref qg, .ref qh])), (qu, .inl (cZ, 20, .inl (fun z9 => b2i (u z9)))), (qa, .inl (cI, 20, .inl (upd aX (fl_R_add_1 u 20 0) x))), (qb, .inl (cI, 20, .inl (upd aY (fl_R_add_1 u 20 0) y))), (qc, .inl (cI, 20, .inl (upd bX (fl_R_add_1 u 20 0) z))), (qd, .inl (cI, 20, .inl bY)), (qe, .inl (cI, 40, .inl ln)), (qf, .inl (cI, 820, .inl (fun z9 => nI (ac z9)))), (qg, .inl (cI, 41, .inl (fun z9 => nI (mn z9)))), (qh, .inl (cI, 861, .inl (fun z9 => nI (sm z9))))] H := hP
                      have hD : va_D A [(q0, .inr (3, [.ref qu, .ref qa, .ref qb, .ref qc, .ref qd, .int (b2i (kn)), .int (nI (lns)), .ref qe, .ref qf, .ref qg, .ref qh])), (qu, .inl (cZ, 20, .inl (fun z9 => b2i (u z9)))), (qa, .inl (cI, 20, .inl (upd aX (fl_R_add_1 u 20 0) x))), (qb, .inl (cI, 20, .inl (upd aY (fl_R_add_1 u 20 0) y))), (qc, .inl (cI, 20, .inl (upd bX (fl_R_add_1 u 20 0) z))), (qd, .inl (cI, 20, .inl bY)), (qe, .inl (cI, 40, .inl ln)), (qf, .inl (cI, 820, .inl (fun z9 => nI (ac z9)))), (qg, .inl (cI, 41, .inl (fun z9 => nI (mn z9)))), (qh, .inl (cI, 861, .inl (fun z9 => nI (sm z9))))] := hD
                      refine lv_aload_n hx hb d_R_add_154 rfl (lv_at hl 1 rfl) ?_
                      refine rget S hK hP 0 rfl rfl in_R 4 (by decide) kF_R_23 rfl d_R_add_155 ?_
                      refine lv_iload hx hb d_R_add_158 (lv_at hl 6 rfl) ?_
                      refine lv_iload hx hb d_R_add_160 (lv_at hl 0 rfl) ?_
                      refine lv_if_eq (tgt := 169) hx hb d_R_add_162 (by decide) (fun _ => ?_) (fun h => absurd (by decide) h)
                      refine lv_iload hx hb d_R_add_169 (lv_at hl 5 rfl) ?_
                      refine riast (j := fl_R_add_1 u 20 0) (x := w) S hK hP hD hS 5 1 rfl rfl (by omega) (by first | decide | omega) d_R_add_171 (fun H locs hP hD hS => ?_)
                      have hP : va_P D CLS [(q0, .inr (3, [.ref qu, .ref qa, .ref qb, .ref qc, .ref qd, .int (b2i (kn)), .int (nI (lns)), .ref qe, .ref qf, .ref qg, .ref qh])), (qu, .inl (cZ, 20, .inl (fun z9 => b2i (u z9)))), (qa, .inl (cI, 20, .inl (upd aX (fl_R_add_1 u 20 0) x))), (qb, .inl (cI, 20, .inl (upd aY (fl_R_add_1 u 20 0) y))), (qc, .inl (cI, 20, .inl (upd bX (fl_R_add_1 u 20 0) z))), (qd, .inl (cI, 20, .inl (upd bY (fl_R_add_1 u 20 0) w))), (qe, .inl (cI, 40, .inl ln)), (qf, .inl (cI, 820, .inl (fun z9 => nI (ac z9)))), (qg, .inl (cI, 41, .inl (fun z9 => nI (mn z9)))), (qh, .inl (cI, 861, .inl (fun z9 => nI (sm z9))))] H := hP
                      have hD : va_D A [(q0, .inr (3, [.ref qu, .ref qa, .ref qb, .ref qc, .ref qd, .int (b2i (kn)), .int (nI (lns)), .ref qe, .ref qf, .ref qg, .ref qh])), (qu, .inl (cZ, 20, .inl (fun z9 => b2i (u z9)))), (qa, .inl (cI, 20, .inl (upd aX (fl_R_add_1 u 20 0) x))), (qb, .inl (cI, 20, .inl (upd aY (fl_R_add_1 u 20 0) y))), (qc, .inl (cI, 20, .inl (upd bX (fl_R_add_1 u 20 0) z))), (qd, .inl (cI, 20, .inl (upd bY (fl_R_add_1 u 20 0) w))), (qe, .inl (cI, 40, .inl ln)), (qf, .inl (cI, 820, .inl (fun z9 => nI (ac z9)))), (qg, .inl (cI, 41, .inl (fun z9 => nI (mn z9)))), (qh, .inl (cI, 861, .inl (fun z9 => nI (sm z9))))] := hD
                      refine lv_iconst (v := 0) hx hb d_R_add_172 (by decide) ?_
                      refine lv_istore (lv' := [(7, .int 0), (6, .int 0), (0, .ref q0), (1, .int x), (2, .int y), (3, .int z), (4, .int w), (5, .int (nI (fl_R_add_1 u 20 0)))]) hx hb d_R_add_173 hl (by decide) rfl (fun ls hl => ?_)
                      exact key2 20 0 (fl_R_add_1 u 20 0) (upd aX (fl_R_add_1 u 20 0) x) (upd aY (fl_R_add_1 u 20 0) y) (upd bX (fl_R_add_1 u 20 0) z) (upd bY (fl_R_add_1 u 20 0) w) (by omega) (by omega) _ _ hP hD hS ls (lv_sub hl [2, 7, 0] rfl) (show f_R_add u aX aY bX bY kn x y z w = (fl_R_add_2 u kn 20 0 (fl_R_add_1 u 20 0) (upd aX (fl_R_add_1 u 20 0) x) (upd aY (fl_R_add_1 u 20 0) y) (upd bX (fl_R_add_1 u 20 0) z) (upd bY (fl_R_add_1 u 20 0) w)) from by unfold f_R_add; rw [if_pos c8a, if_pos c9a, if_pos c10a, if_pos c11a, if_pos c12a, if_neg c33a, if_neg c34a, if_neg c35a, if_pos c40a, if_pos c45a])
                    · have c45a : ¬ (y ≤ w) := c45
                      refine lv_iconst (v := 1) hx hb d_R_add_95 (by decide) ?_
                      refine lv_goto (tgt := 100) hx hb d_R_add_96 (by decide) ?_
                      refine lv_istore (lv' := [(6, .int 1), (0, .ref q0), (1, .int x), (2, .int y), (3, .int z), (4, .int w), (5, .int (nI (fl_R_add_1 u 20 0)))]) hx hb d_R_add_100 hl (by decide) rfl (fun ls hl => ?_)
                      refine lv_aload_n hx hb d_R_add_102 rfl (lv_at hl 1 rfl) ?_
                      refine rget S hK hP 0 rfl rfl in_R 1 (by decide) kF_R_13 rfl d_R_add_103 ?_
                      refine lv_iload hx hb d_R_add_106 (lv_at hl 6 rfl) ?_
                      refine lv_iload hx hb d_R_add_108 (lv_at hl 0 rfl) ?_
                      refine lv_if_eq (tgt := 117) hx hb d_R_add_110 (by decide) (fun h => absurd h (by decide)) (fun _ => ?_)
                      refine lv_iload_n hx hb d_R_add_113 rfl (lv_at hl 4 rfl) ?_
                      refine lv_goto (tgt := 118) hx hb d_R_add_114 (by decide) ?_
                      refine riast (j := fl_R_add_1 u 20 0) (x := z) S hK hP hD hS 2 1 rfl rfl (by omega) (by first | decide | omega) d_R_add_118 (fun H locs hP hD hS => ?_)
                      have hP : va_P D CLS [(q0, .inr (3, [.ref qu, .ref qa, .ref qb, .ref qc, .ref qd, .int (b2i (kn)), .int (nI (lns)), .ref qe, .ref qf, .ref qg, .ref qh])), (qu, .inl (cZ, 20, .inl (fun z9 => b2i (u z9)))), (qa, .inl (cI, 20, .inl (upd aX (fl_R_add_1 u 20 0) z))), (qb, .inl (cI, 20, .inl aY)), (qc, .inl (cI, 20, .inl bX)), (qd, .inl (cI, 20, .inl bY)), (qe, .inl (cI, 40, .inl ln)), (qf, .inl (cI, 820, .inl (fun z9 => nI (ac z9)))), (qg, .inl (cI, 41, .inl (fun z9 => nI (mn z9)))), (qh, .inl (cI, 861, .inl (fun z9 => nI (sm z9))))] H := hP
                      have hD : va_D A [(q0, .inr (3, [.ref qu, .ref qa, .ref qb, .ref qc, .ref qd, .int (b2i (kn)), .int (nI (lns)), .ref qe, .ref qf, .ref qg, .ref qh])), (qu, .inl (cZ, 20, .inl (fun z9 => b2i (u z9)))), (qa, .inl (cI, 20, .inl (upd aX (fl_R_add_1 u 20 0) z))), (qb, .inl (cI, 20, .inl aY)), (qc, .inl (cI, 20, .inl bX)), (qd, .inl (cI, 20, .inl bY)), (qe, .inl (cI, 40, .inl ln)), (qf, .inl (cI, 820, .inl (fun z9 => nI (ac z9)))), (qg, .inl (cI, 41, .inl (fun z9 => nI (mn z9)))), (qh, .inl (cI, 861, .inl (fun z9 => nI (sm z9))))] := hD
                      refine lv_aload_n hx hb d_R_add_119 rfl (lv_at hl 1 rfl) ?_
                      refine rget S hK hP 0 rfl rfl in_R 2 (by decide) kF_R_17 rfl d_R_add_120 ?_
                      refine lv_iload hx hb d_R_add_123 (lv_at hl 6 rfl) ?_
                      refine lv_iload hx hb d_R_add_125 (lv_at hl 0 rfl) ?_
                      refine lv_if_eq (tgt := 135) hx hb d_R_add_127 (by decide) (fun h => absurd h (by decide)) (fun _ => ?_)
                      refine lv_iload hx hb d_R_add_130 (lv_at hl 5 rfl) ?_
                      refine lv_goto (tgt := 136) hx hb d_R_add_132 (by decide) ?_
                      refine riast (j := fl_R_add_1 u 20 0) (x := w) S hK hP hD hS 3 1 rfl rfl (by omega) (by first | decide | omega) d_R_add_136 (fun H locs hP hD hS => ?_)
                      have hP : va_P D CLS [(q0, .inr (3, [.ref qu, .ref qa, .ref qb, .ref qc, .ref qd, .int (b2i (kn)), .int (nI (lns)), .ref qe, .ref qf, .ref qg, .ref qh])), (qu, .inl (cZ, 20, .inl (fun z9 => b2i (u z9)))), (qa, .inl (cI, 20, .inl (upd aX (fl_R_add_1 u 20 0) z))), (qb, .inl (cI, 20, .inl (upd aY (fl_R_add_1 u 20 0) w))), (qc, .inl (cI, 20, .inl bX)), (qd, .inl (cI, 20, .inl bY)), (qe, .inl (cI, 40, .inl ln)), (qf, .inl (cI, 820, .inl (fun z9 => nI (ac z9)))), (qg, .inl (cI, 41, .inl (fun z9 => nI (mn z9)))), (qh, .inl (cI, 861, .inl (fun z9 => nI (sm z9))))] H := hP
                      have hD : va_D A [(q0, .inr (3, [.ref qu, .ref qa, .ref qb, .ref qc, .ref qd, .int (b2i (kn)), .int (nI (lns)), .ref qe, .ref qf, .ref qg, .ref qh])), (qu, .inl (cZ, 20, .inl (fun z9 => b2i (u z9)))), (qa, .inl (cI, 20, .inl (upd aX (fl_R_add_1 u 20 0) z))), (qb, .inl (cI, 20, .inl (upd aY (fl_R_add_1 u 20 0) w))), (qc, .inl (cI, 20, .inl bX)), (qd, .inl (cI, 20, .inl bY)), (qe, .inl (cI, 40, .inl ln)), (qf, .inl (cI, 820, .inl (fun z9 => nI (ac z9)))), (qg, .inl (cI, 41, .inl (fun z9 => nI (mn z9)))), (qh, .inl (cI, 861, .inl (fun z9 => nI (sm z9))))] := hD
                      refine lv_aload_n hx hb d_R_add_137 rfl (lv_at hl 1 rfl) ?_
                      refine rget S hK hP 0 rfl rfl in_R 3 (by decide) kF_R_20 rfl d_R_add_138 ?_
                      refine lv_iload hx hb d_R_add_141 (lv_at hl 6 rfl) ?_
                      refine lv_iload hx hb d_R_add_143 (lv_at hl 0 rfl) ?_
                      refine lv_if_eq (tgt := 152) hx hb d_R_add_145 (by decide) (fun h => absurd h (by decide)) (fun _ => ?_)
                      refine lv_iload_n hx hb d_R_add_148 rfl (lv_at hl 2 rfl) ?_
                      refine lv_goto (tgt := 153) hx hb d_R_add_149 (by decide) ?_
                      refine riast (j := fl_R_add_1 u 20 0) (x := x) S hK hP hD hS 4 1 rfl rfl (by omega) (by first | decide | omega) d_R_add_153 (fun H locs hP hD hS => ?_)
                      have hP : va_P D CLS [(q0, .inr (3, [.ref qu, .ref qa, .ref qb, .ref qc, .ref qd, .int (b2i (kn)), .int (nI (lns)), .ref qe, .ref qf, .ref qg, .ref qh])), (qu, .inl (cZ, 20, .inl (fun z9 => b2i (u z9)))), (qa, .inl (cI, 20, .inl (upd aX (fl_R_add_1 u 20 0) z))), (qb, .inl (cI, 20, .inl (upd aY (fl_R_add_1 u 20 0) w))), (qc, .inl (cI, 20, .inl (upd bX (fl_R_add_1 u 20 0) x))), (qd, .inl (cI, 20, .inl bY)), (qe, .inl (cI, 40, .inl ln)), (qf, .inl (cI, 820, .inl (fun z9 => nI (ac z9)))), (qg, .inl (cI, 41, .inl (fun z9 => nI (mn z9)))), (qh, .inl (cI, 861, .inl (fun z9 => nI (sm z9))))] H := hP
                      have hD : va_D A [(q0, .inr (3, [.ref qu, .ref qa, .ref qb, .ref qc, .ref qd, .int (b2i (kn)), .int (nI (lns)), .ref qe, .ref qf, .ref qg, .ref qh])), (qu, .inl (cZ, 20, .inl (fun z9 => b2i (u z9)))), (qa, .inl (cI, 20, .inl (upd aX (fl_R_add_1 u 20 0) z))), (qb, .inl (cI, 20, .inl (upd aY (fl_R_add_1 u 20 0) w))), (qc, .inl (cI, 20, .inl (upd bX (fl_R_add_1 u 20 0) x))), (qd, .inl (cI, 20, .inl bY)), (qe, .inl (cI, 40, .inl ln)), (qf, .inl (cI, 820, .inl (fun z9 => nI (ac z9)))), (qg, .inl (cI, 41, .inl (fun z9 => nI (mn z9)))), (qh, .inl (cI, 861, .inl (fun z9 => nI (sm z9))))] := hD
                      refine lv_aload_n hx hb d_R_add_154 rfl (lv_at hl 1 rfl) ?_
                      refine rget S hK hP 0 rfl rfl in_R 4 (by decide) kF_R_23 rfl d_R_add_155 ?_
                      refine lv_iload hx hb d_R_add_158 (lv_at hl 6 rfl) ?_
                      refine lv_iload hx hb d_R_add_160 (lv_at hl 0 rfl) ?_
                      refine lv_if_eq (tgt := 169) hx hb d_R_add_162 (by decide) (fun h => absurd h (by decide)) (fun _ => ?_)
                      refine lv_iload_n hx hb d_R_add_165 rfl (lv_at hl 3 rfl) ?_
                      refine lv_goto (tgt := 171) hx hb d_R_add_166 (by decide) ?_
                      refine riast (j := fl_R_add_1 u 20 0) (x := y) S hK hP hD hS 5 1 rfl rfl (by omega) (by first | decide | omega) d_R_add_171 (fun H locs hP hD hS => ?_)
                      have hP : va_P D CLS [(q0, .inr (3, [.ref qu, .ref qa, .ref qb, .ref qc, .ref qd, .int (b2i (kn)), .int (nI (lns)), .ref qe, .ref qf, .ref qg, .ref qh])), (qu, .inl (cZ, 20, .inl (fun z9 => b2i (u z9)))), (qa, .inl (cI, 20, .inl (upd aX (fl_R_add_1 u 20 0) z))), (qb, .inl (cI, 20, .inl (upd aY (fl_R_add_1 u 20 0) w))), (qc, .inl (cI, 20, .inl (upd bX (fl_R_add_1 u 20 0) x))), (qd, .inl (cI, 20, .inl (upd bY (fl_R_add_1 u 20 0) y))), (qe, .inl (cI, 40, .inl ln)), (qf, .inl (cI, 820, .inl (fun z9 => nI (ac z9)))), (qg, .inl (cI, 41, .inl (fun z9 => nI (mn z9)))), (qh, .inl (cI, 861, .inl (fun z9 => nI (sm z9))))] H := hP
                      have hD : va_D A [(q0, .inr (3, [.ref qu, .ref qa, .ref qb, .ref qc, .ref qd, .int (b2i (kn)), .int (nI (lns)), .ref qe, .ref qf, .ref qg, .ref qh])), (qu, .inl (cZ, 20, .inl (fun z9 => b2i (u z9)))), (qa, .inl (cI, 20, .inl (upd aX (fl_R_add_1 u 20 0) z))), (qb, .inl (cI, 20, .inl (upd aY (fl_R_add_1 u 20 0) w))), (qc, .inl (cI, 20, .inl (upd bX (fl_R_add_1 u 20 0) x))), (qd, .inl (cI, 20, .inl (upd bY (fl_R_add_1 u 20 0) y))), (qe, .inl (cI, 40, .inl ln)), (qf, .inl (cI, 820, .inl (fun z9 => nI (ac z9)))), (qg, .inl (cI, 41, .inl (fun z9 => nI (mn z9)))), (qh, .inl (cI, 861, .inl (fun z9 => nI (sm z9))))] := hD
                      refine lv_iconst (v := 0) hx hb d_R_add_172 (by decide) ?_
                      refine lv_istore (lv' := [(7, .int 0), (6, .int 1), (0, .ref q0), (1, .int x), (2, .int y), (3, .int z), (4, .int w), (5, .int (nI (fl_R_add_1 u 20 0)))]) hx hb d_R_add_173 hl (by decide) rfl (fun ls hl => ?_)
                      exact key2 20 0 (fl_R_add_1 u 20 0) (upd aX (fl_R_add_1 u 20 0) z) (upd aY (fl_R_add_1 u 20 0) w) (upd bX (fl_R_add_1 u 20 0) x) (upd bY (fl_R_add_1 u 20 0) y) (by omega) (by omega) _ _ hP hD hS ls (lv_sub hl [2, 7, 0] rfl) (show f_R_add u aX aY bX bY kn x y z w = (fl_R_add_2 u kn 20 0 (fl_R_add_1 u 20 0) (upd aX (fl_R_add_1 u 20 0) z) (upd aY (fl_R_add_1 u 20 0) w) (upd bX (fl_R_add_1 u 20 0) x) (upd bY (fl_R_add_1 u 20 0) y)) from by unfold f_R_add; rw [if_pos c8a, if_pos c9a, if_pos c10a, if_pos c11a, if_pos c12a, if_neg c33a, if_neg c34a, if_neg c35a, if_pos c40a, if_neg c45a])
              · have c34a : (fl_R_add_1 u 20 0) = 20 := (nI_eq (a := fl_R_add_1 u 20 0) (b := 20) (by omega) (by decide)).mp c34
                refine lv_bipush (v := (-3)) hx hb d_R_add_76 (by decide) ?_
                have eqf := (show f_R_add u aX aY bX bY kn x y z w = ((-3), u, aX, aY, bX, bY, kn) from by unfold f_R_add; rw [if_pos c8a, if_pos c9a, if_pos c10a, if_pos c11a, if_pos c12a, if_neg c33a, if_pos c34a])
                exact rretI S hr hlk (v := (-3)) (by rw [eqf]) (by rw [eqf]) hP hK hD hS d_R_add_78
            · have c33a : y = w := c33
              refine lv_bipush (v := (-2)) hx hb d_R_add_40 (by decide) ?_
              have eqf := (show f_R_add u aX aY bX bY kn x y z w = ((-2), u, aX, aY, bX, bY, kn) from by unfold f_R_add; rw [if_pos c8a, if_pos c9a, if_pos c10a, if_pos c11a, if_pos c12a, if_pos c33a])
              exact rretI S hr hlk (v := (-2)) (by rw [eqf]) (by rw [eqf]) hP hK hD hS d_R_add_42
